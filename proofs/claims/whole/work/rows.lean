section
-- ===== PART A: goes FIRST, ahead of the names: the tables' words, and 'selects' of the private methods out of them =====
/-- a private method of a class that the tables say can be made, by its rows of tables_1 -/
def lw_okq (q : MethodName × Nat) : Prop := (q.1.cls ≠ "java/lang/invoke/MethodHandle" ∧ q.1.cls ≠ "java/lang/invoke/VarHandle") ∧ Cond.instantiable q.1.cls q.2 ∈ tables_1 ∧ Cond.privateMethod q.1 ∈ tables_1 ∧ Cond.instanceMethod q.1 ∈ tables_1
theorem lw_p0 : lw_okq (⟨"KeyDrift", "found", "(I)I"⟩, 9) := ⟨⟨by decide +kernel, by decide +kernel⟩, List.mem_of_getElem? (i := 14) (by decide +kernel), List.mem_of_getElem? (i := 252) (by decide +kernel), List.mem_of_getElem? (i := 253) (by decide +kernel)⟩
theorem lw_p1 : lw_okq (⟨"KeyDrift", "fine", "(I)I"⟩, 9) := ⟨⟨by decide +kernel, by decide +kernel⟩, List.mem_of_getElem? (i := 14) (by decide +kernel), List.mem_of_getElem? (i := 264) (by decide +kernel), List.mem_of_getElem? (i := 265) (by decide +kernel)⟩
theorem lw_p2 : lw_okq (⟨"KeyDrift$Row", "lowestBits", "(I)I"⟩, 3) := ⟨⟨by decide +kernel, by decide +kernel⟩, List.mem_of_getElem? (i := 23) (by decide +kernel), List.mem_of_getElem? (i := 284) (by decide +kernel), List.mem_of_getElem? (i := 285) (by decide +kernel)⟩
theorem lw_p3 : lw_okq (⟨"KeyDrift$Tape", "readLaw", "(LKeyDrift$Hall;)V"⟩, 6) := ⟨⟨by decide +kernel, by decide +kernel⟩, List.mem_of_getElem? (i := 116) (by decide +kernel), List.mem_of_getElem? (i := 324) (by decide +kernel), List.mem_of_getElem? (i := 325) (by decide +kernel)⟩
theorem lw_p4 : lw_okq (⟨"KeyDrift$Tape", "takeByte", "(I)V"⟩, 6) := ⟨⟨by decide +kernel, by decide +kernel⟩, List.mem_of_getElem? (i := 116) (by decide +kernel), List.mem_of_getElem? (i := 328) (by decide +kernel), List.mem_of_getElem? (i := 329) (by decide +kernel)⟩
theorem lw_p5 : lw_okq (⟨"KeyDrift$Tape", "sees", "(I)Z"⟩, 6) := ⟨⟨by decide +kernel, by decide +kernel⟩, List.mem_of_getElem? (i := 116) (by decide +kernel), List.mem_of_getElem? (i := 332) (by decide +kernel), List.mem_of_getElem? (i := 333) (by decide +kernel)⟩
theorem lw_p6 : lw_okq (⟨"KeyDrift$Tape", "byteHere", "()I"⟩, 6) := ⟨⟨by decide +kernel, by decide +kernel⟩, List.mem_of_getElem? (i := 116) (by decide +kernel), List.mem_of_getElem? (i := 336) (by decide +kernel), List.mem_of_getElem? (i := 337) (by decide +kernel)⟩
theorem lw_p7 : lw_okq (⟨"KeyDrift$Tape", "byteAt", "(I)I"⟩, 6) := ⟨⟨by decide +kernel, by decide +kernel⟩, List.mem_of_getElem? (i := 116) (by decide +kernel), List.mem_of_getElem? (i := 340) (by decide +kernel), List.mem_of_getElem? (i := 341) (by decide +kernel)⟩
theorem lw_p8 : lw_okq (⟨"KeyDrift$Tape", "refuse", "(I)V"⟩, 6) := ⟨⟨by decide +kernel, by decide +kernel⟩, List.mem_of_getElem? (i := 116) (by decide +kernel), List.mem_of_getElem? (i := 344) (by decide +kernel), List.mem_of_getElem? (i := 345) (by decide +kernel)⟩
theorem lw_p9 : lw_okq (⟨"KeyDrift$Tape", "takeNumber", "(II)I"⟩, 6) := ⟨⟨by decide +kernel, by decide +kernel⟩, List.mem_of_getElem? (i := 116) (by decide +kernel), List.mem_of_getElem? (i := 348) (by decide +kernel), List.mem_of_getElem? (i := 349) (by decide +kernel)⟩
theorem lw_p10 : lw_okq (⟨"KeyDrift$Tape", "figuresHere", "()I"⟩, 6) := ⟨⟨by decide +kernel, by decide +kernel⟩, List.mem_of_getElem? (i := 116) (by decide +kernel), List.mem_of_getElem? (i := 352) (by decide +kernel), List.mem_of_getElem? (i := 353) (by decide +kernel)⟩
theorem lw_p11 : lw_okq (⟨"KeyDrift$Tape", "readPieces", "(LKeyDrift$Hall;)V"⟩, 6) := ⟨⟨by decide +kernel, by decide +kernel⟩, List.mem_of_getElem? (i := 116) (by decide +kernel), List.mem_of_getElem? (i := 359) (by decide +kernel), List.mem_of_getElem? (i := 360) (by decide +kernel)⟩
theorem lw_p12 : lw_okq (⟨"KeyDrift$Tape", "readStrings", "(LKeyDrift$Hall;I)V"⟩, 6) := ⟨⟨by decide +kernel, by decide +kernel⟩, List.mem_of_getElem? (i := 116) (by decide +kernel), List.mem_of_getElem? (i := 363) (by decide +kernel), List.mem_of_getElem? (i := 364) (by decide +kernel)⟩
theorem lw_p13 : lw_okq (⟨"KeyDrift$Tape", "seesString", "(I)Z"⟩, 6) := ⟨⟨by decide +kernel, by decide +kernel⟩, List.mem_of_getElem? (i := 116) (by decide +kernel), List.mem_of_getElem? (i := 367) (by decide +kernel), List.mem_of_getElem? (i := 368) (by decide +kernel)⟩
theorem lw_p14 : lw_okq (⟨"KeyDrift$Tape", "readPupils", "(LKeyDrift$Hall;)V"⟩, 6) := ⟨⟨by decide +kernel, by decide +kernel⟩, List.mem_of_getElem? (i := 116) (by decide +kernel), List.mem_of_getElem? (i := 371) (by decide +kernel), List.mem_of_getElem? (i := 372) (by decide +kernel)⟩
theorem lw_p15 : lw_okq (⟨"KeyDrift$Tape", "seesSort", "()Z"⟩, 6) := ⟨⟨by decide +kernel, by decide +kernel⟩, List.mem_of_getElem? (i := 116) (by decide +kernel), List.mem_of_getElem? (i := 375) (by decide +kernel), List.mem_of_getElem? (i := 376) (by decide +kernel)⟩
def lw_privs_1 : List (MethodName × Nat) := [(⟨"KeyDrift", "found", "(I)I"⟩, 9), (⟨"KeyDrift", "fine", "(I)I"⟩, 9), (⟨"KeyDrift$Row", "lowestBits", "(I)I"⟩, 3), (⟨"KeyDrift$Tape", "readLaw", "(LKeyDrift$Hall;)V"⟩, 6), (⟨"KeyDrift$Tape", "takeByte", "(I)V"⟩, 6), (⟨"KeyDrift$Tape", "sees", "(I)Z"⟩, 6), (⟨"KeyDrift$Tape", "byteHere", "()I"⟩, 6), (⟨"KeyDrift$Tape", "byteAt", "(I)I"⟩, 6), (⟨"KeyDrift$Tape", "refuse", "(I)V"⟩, 6), (⟨"KeyDrift$Tape", "takeNumber", "(II)I"⟩, 6), (⟨"KeyDrift$Tape", "figuresHere", "()I"⟩, 6), (⟨"KeyDrift$Tape", "readPieces", "(LKeyDrift$Hall;)V"⟩, 6), (⟨"KeyDrift$Tape", "readStrings", "(LKeyDrift$Hall;I)V"⟩, 6), (⟨"KeyDrift$Tape", "seesString", "(I)Z"⟩, 6), (⟨"KeyDrift$Tape", "readPupils", "(LKeyDrift$Hall;)V"⟩, 6), (⟨"KeyDrift$Tape", "seesSort", "()Z"⟩, 6)]
theorem lw_r1 : ∀ q ∈ lw_privs_1, lw_okq q := List.forall_mem_cons.mpr ⟨lw_p0, List.forall_mem_cons.mpr ⟨lw_p1, List.forall_mem_cons.mpr ⟨lw_p2, List.forall_mem_cons.mpr ⟨lw_p3, List.forall_mem_cons.mpr ⟨lw_p4, List.forall_mem_cons.mpr ⟨lw_p5, List.forall_mem_cons.mpr ⟨lw_p6, List.forall_mem_cons.mpr ⟨lw_p7, List.forall_mem_cons.mpr ⟨lw_p8, List.forall_mem_cons.mpr ⟨lw_p9, List.forall_mem_cons.mpr ⟨lw_p10, List.forall_mem_cons.mpr ⟨lw_p11, List.forall_mem_cons.mpr ⟨lw_p12, List.forall_mem_cons.mpr ⟨lw_p13, List.forall_mem_cons.mpr ⟨lw_p14, List.forall_mem_cons.mpr ⟨lw_p15, fun _ h => absurd h List.not_mem_nil⟩⟩⟩⟩⟩⟩⟩⟩⟩⟩⟩⟩⟩⟩⟩⟩
theorem lw_p16 : lw_okq (⟨"KeyDrift$Foretold", "wrongsBy", "(I[III)I"⟩, 4) := ⟨⟨by decide +kernel, by decide +kernel⟩, List.mem_of_getElem? (i := 167) (by decide +kernel), List.mem_of_getElem? (i := 544) (by decide +kernel), List.mem_of_getElem? (i := 545) (by decide +kernel)⟩
theorem lw_p17 : lw_okq (⟨"KeyDrift$Foretold", "nightsIfTaught", "(I)I"⟩, 4) := ⟨⟨by decide +kernel, by decide +kernel⟩, List.mem_of_getElem? (i := 167) (by decide +kernel), List.mem_of_getElem? (i := 561) (by decide +kernel), List.mem_of_getElem? (i := 562) (by decide +kernel)⟩
theorem lw_p18 : lw_okq (⟨"KeyDrift$Foretold", "findPieceNights", "(I)V"⟩, 4) := ⟨⟨by decide +kernel, by decide +kernel⟩, List.mem_of_getElem? (i := 167) (by decide +kernel), List.mem_of_getElem? (i := 580) (by decide +kernel), List.mem_of_getElem? (i := 581) (by decide +kernel)⟩
theorem lw_p19 : lw_okq (⟨"KeyDrift$Foretold", "waysFrom", "(II)I"⟩, 4) := ⟨⟨by decide +kernel, by decide +kernel⟩, List.mem_of_getElem? (i := 167) (by decide +kernel), List.mem_of_getElem? (i := 585) (by decide +kernel), List.mem_of_getElem? (i := 586) (by decide +kernel)⟩
theorem lw_p20 : lw_okq (⟨"KeyDrift$Foretold", "firstNightFor", "(II)I"⟩, 4) := ⟨⟨by decide +kernel, by decide +kernel⟩, List.mem_of_getElem? (i := 167) (by decide +kernel), List.mem_of_getElem? (i := 593) (by decide +kernel), List.mem_of_getElem? (i := 594) (by decide +kernel)⟩
theorem lw_p21 : lw_okq (⟨"KeyDrift$Foretold", "ownStrings", "()I"⟩, 4) := ⟨⟨by decide +kernel, by decide +kernel⟩, List.mem_of_getElem? (i := 167) (by decide +kernel), List.mem_of_getElem? (i := 605) (by decide +kernel), List.mem_of_getElem? (i := 606) (by decide +kernel)⟩
theorem lw_p22 : lw_okq (⟨"KeyDrift$Foretold", "soundsAs", "(II[II)Z"⟩, 4) := ⟨⟨by decide +kernel, by decide +kernel⟩, List.mem_of_getElem? (i := 167) (by decide +kernel), List.mem_of_getElem? (i := 625) (by decide +kernel), List.mem_of_getElem? (i := 626) (by decide +kernel)⟩
theorem lw_p23 : lw_okq (⟨"KeyDrift$Foretold", "biasesOfAll", "()I"⟩, 4) := ⟨⟨by decide +kernel, by decide +kernel⟩, List.mem_of_getElem? (i := 167) (by decide +kernel), List.mem_of_getElem? (i := 673) (by decide +kernel), List.mem_of_getElem? (i := 674) (by decide +kernel)⟩
theorem lw_p24 : lw_okq (⟨"KeyDrift$Asked", "leave", "(I)V"⟩, 6) := ⟨⟨by decide +kernel, by decide +kernel⟩, List.mem_of_getElem? (i := 186) (by decide +kernel), List.mem_of_getElem? (i := 716) (by decide +kernel), List.mem_of_getElem? (i := 717) (by decide +kernel)⟩
theorem lw_p25 : lw_okq (⟨"KeyDrift$Asked", "body11", "()I"⟩, 6) := ⟨⟨by decide +kernel, by decide +kernel⟩, List.mem_of_getElem? (i := 186) (by decide +kernel), List.mem_of_getElem? (i := 720) (by decide +kernel), List.mem_of_getElem? (i := 721) (by decide +kernel)⟩
theorem lw_p26 : lw_okq (⟨"KeyDrift$Asked", "body10", "()I"⟩, 6) := ⟨⟨by decide +kernel, by decide +kernel⟩, List.mem_of_getElem? (i := 186) (by decide +kernel), List.mem_of_getElem? (i := 724) (by decide +kernel), List.mem_of_getElem? (i := 725) (by decide +kernel)⟩
theorem lw_p27 : lw_okq (⟨"KeyDrift$Asked", "markOfPlayer", "()I"⟩, 6) := ⟨⟨by decide +kernel, by decide +kernel⟩, List.mem_of_getElem? (i := 186) (by decide +kernel), List.mem_of_getElem? (i := 728) (by decide +kernel), List.mem_of_getElem? (i := 729) (by decide +kernel)⟩
theorem lw_p28 : lw_okq (⟨"KeyDrift$Asked", "body21", "()I"⟩, 6) := ⟨⟨by decide +kernel, by decide +kernel⟩, List.mem_of_getElem? (i := 186) (by decide +kernel), List.mem_of_getElem? (i := 732) (by decide +kernel), List.mem_of_getElem? (i := 733) (by decide +kernel)⟩
theorem lw_p29 : lw_okq (⟨"KeyDrift$Asked", "body20", "()I"⟩, 6) := ⟨⟨by decide +kernel, by decide +kernel⟩, List.mem_of_getElem? (i := 186) (by decide +kernel), List.mem_of_getElem? (i := 736) (by decide +kernel), List.mem_of_getElem? (i := 737) (by decide +kernel)⟩
theorem lw_p30 : lw_okq (⟨"KeyDrift$Asked", "sizeOfCarrier", "()I"⟩, 6) := ⟨⟨by decide +kernel, by decide +kernel⟩, List.mem_of_getElem? (i := 186) (by decide +kernel), List.mem_of_getElem? (i := 740) (by decide +kernel), List.mem_of_getElem? (i := 741) (by decide +kernel)⟩
theorem lw_p31 : lw_okq (⟨"KeyDrift$Asked", "body13", "()I"⟩, 6) := ⟨⟨by decide +kernel, by decide +kernel⟩, List.mem_of_getElem? (i := 186) (by decide +kernel), List.mem_of_getElem? (i := 744) (by decide +kernel), List.mem_of_getElem? (i := 745) (by decide +kernel)⟩
def lw_privs_2 : List (MethodName × Nat) := [(⟨"KeyDrift$Foretold", "wrongsBy", "(I[III)I"⟩, 4), (⟨"KeyDrift$Foretold", "nightsIfTaught", "(I)I"⟩, 4), (⟨"KeyDrift$Foretold", "findPieceNights", "(I)V"⟩, 4), (⟨"KeyDrift$Foretold", "waysFrom", "(II)I"⟩, 4), (⟨"KeyDrift$Foretold", "firstNightFor", "(II)I"⟩, 4), (⟨"KeyDrift$Foretold", "ownStrings", "()I"⟩, 4), (⟨"KeyDrift$Foretold", "soundsAs", "(II[II)Z"⟩, 4), (⟨"KeyDrift$Foretold", "biasesOfAll", "()I"⟩, 4), (⟨"KeyDrift$Asked", "leave", "(I)V"⟩, 6), (⟨"KeyDrift$Asked", "body11", "()I"⟩, 6), (⟨"KeyDrift$Asked", "body10", "()I"⟩, 6), (⟨"KeyDrift$Asked", "markOfPlayer", "()I"⟩, 6), (⟨"KeyDrift$Asked", "body21", "()I"⟩, 6), (⟨"KeyDrift$Asked", "body20", "()I"⟩, 6), (⟨"KeyDrift$Asked", "sizeOfCarrier", "()I"⟩, 6), (⟨"KeyDrift$Asked", "body13", "()I"⟩, 6)]
theorem lw_r2 : ∀ q ∈ lw_privs_2, lw_okq q := List.forall_mem_cons.mpr ⟨lw_p16, List.forall_mem_cons.mpr ⟨lw_p17, List.forall_mem_cons.mpr ⟨lw_p18, List.forall_mem_cons.mpr ⟨lw_p19, List.forall_mem_cons.mpr ⟨lw_p20, List.forall_mem_cons.mpr ⟨lw_p21, List.forall_mem_cons.mpr ⟨lw_p22, List.forall_mem_cons.mpr ⟨lw_p23, List.forall_mem_cons.mpr ⟨lw_p24, List.forall_mem_cons.mpr ⟨lw_p25, List.forall_mem_cons.mpr ⟨lw_p26, List.forall_mem_cons.mpr ⟨lw_p27, List.forall_mem_cons.mpr ⟨lw_p28, List.forall_mem_cons.mpr ⟨lw_p29, List.forall_mem_cons.mpr ⟨lw_p30, List.forall_mem_cons.mpr ⟨lw_p31, fun _ h => absurd h List.not_mem_nil⟩⟩⟩⟩⟩⟩⟩⟩⟩⟩⟩⟩⟩⟩⟩⟩
theorem lw_p32 : lw_okq (⟨"KeyDrift$Asked", "body23", "()I"⟩, 6) := ⟨⟨by decide +kernel, by decide +kernel⟩, List.mem_of_getElem? (i := 186) (by decide +kernel), List.mem_of_getElem? (i := 753) (by decide +kernel), List.mem_of_getElem? (i := 754) (by decide +kernel)⟩
theorem lw_p33 : lw_okq (⟨"KeyDrift", "rowsThere", "()I"⟩, 9) := ⟨⟨by decide +kernel, by decide +kernel⟩, List.mem_of_getElem? (i := 14) (by decide +kernel), List.mem_of_getElem? (i := 765) (by decide +kernel), List.mem_of_getElem? (i := 766) (by decide +kernel)⟩
theorem lw_p34 : lw_okq (⟨"KeyDriftModel", "find", "(I)I"⟩, 26) := ⟨⟨by decide +kernel, by decide +kernel⟩, List.mem_of_getElem? (i := 773) (by decide +kernel), List.mem_of_getElem? (i := 872) (by decide +kernel), List.mem_of_getElem? (i := 873) (by decide +kernel)⟩
theorem lw_p35 : lw_okq (⟨"KeyDriftModel", "well", "(I)I"⟩, 26) := ⟨⟨by decide +kernel, by decide +kernel⟩, List.mem_of_getElem? (i := 773) (by decide +kernel), List.mem_of_getElem? (i := 877) (by decide +kernel), List.mem_of_getElem? (i := 878) (by decide +kernel)⟩
theorem lw_p36 : lw_okq (⟨"KeyDriftModel", "readHall", "()Z"⟩, 26) := ⟨⟨by decide +kernel, by decide +kernel⟩, List.mem_of_getElem? (i := 773) (by decide +kernel), List.mem_of_getElem? (i := 906) (by decide +kernel), List.mem_of_getElem? (i := 907) (by decide +kernel)⟩
theorem lw_p37 : lw_okq (⟨"KeyDriftModel", "nextToken", "()V"⟩, 26) := ⟨⟨by decide +kernel, by decide +kernel⟩, List.mem_of_getElem? (i := 773) (by decide +kernel), List.mem_of_getElem? (i := 910) (by decide +kernel), List.mem_of_getElem? (i := 911) (by decide +kernel)⟩
theorem lw_p38 : lw_okq (⟨"KeyDriftModel", "takes", "(I)Z"⟩, 26) := ⟨⟨by decide +kernel, by decide +kernel⟩, List.mem_of_getElem? (i := 773) (by decide +kernel), List.mem_of_getElem? (i := 918) (by decide +kernel), List.mem_of_getElem? (i := 919) (by decide +kernel)⟩
theorem lw_p39 : lw_okq (⟨"KeyDriftModel", "isLetter", "(I)Z"⟩, 26) := ⟨⟨by decide +kernel, by decide +kernel⟩, List.mem_of_getElem? (i := 773) (by decide +kernel), List.mem_of_getElem? (i := 922) (by decide +kernel), List.mem_of_getElem? (i := 923) (by decide +kernel)⟩
theorem lw_p40 : lw_okq (⟨"KeyDriftModel", "faults", "(I)Z"⟩, 26) := ⟨⟨by decide +kernel, by decide +kernel⟩, List.mem_of_getElem? (i := 773) (by decide +kernel), List.mem_of_getElem? (i := 926) (by decide +kernel), List.mem_of_getElem? (i := 927) (by decide +kernel)⟩
theorem lw_p41 : lw_okq (⟨"KeyDriftModel", "takesNumber", "(IIII)Z"⟩, 26) := ⟨⟨by decide +kernel, by decide +kernel⟩, List.mem_of_getElem? (i := 773) (by decide +kernel), List.mem_of_getElem? (i := 930) (by decide +kernel), List.mem_of_getElem? (i := 931) (by decide +kernel)⟩
theorem lw_p42 : lw_okq (⟨"KeyDriftModel", "readPupil", "(I)Z"⟩, 26) := ⟨⟨by decide +kernel, by decide +kernel⟩, List.mem_of_getElem? (i := 773) (by decide +kernel), List.mem_of_getElem? (i := 934) (by decide +kernel), List.mem_of_getElem? (i := 935) (by decide +kernel)⟩
theorem lw_p43 : lw_okq (⟨"KeyDriftModel", "readPiece", "()Z"⟩, 26) := ⟨⟨by decide +kernel, by decide +kernel⟩, List.mem_of_getElem? (i := 773) (by decide +kernel), List.mem_of_getElem? (i := 938) (by decide +kernel), List.mem_of_getElem? (i := 939) (by decide +kernel)⟩
theorem lw_p44 : lw_okq (⟨"KeyDriftModel", "note", "()V"⟩, 26) := ⟨⟨by decide +kernel, by decide +kernel⟩, List.mem_of_getElem? (i := 773) (by decide +kernel), List.mem_of_getElem? (i := 957) (by decide +kernel), List.mem_of_getElem? (i := 958) (by decide +kernel)⟩
theorem lw_p45 : lw_okq (⟨"KeyDriftModel", "shiftIn", "(I)I"⟩, 26) := ⟨⟨by decide +kernel, by decide +kernel⟩, List.mem_of_getElem? (i := 773) (by decide +kernel), List.mem_of_getElem? (i := 961) (by decide +kernel), List.mem_of_getElem? (i := 962) (by decide +kernel)⟩
theorem lw_p46 : lw_okq (⟨"KeyDriftModel", "over", "(I)I"⟩, 26) := ⟨⟨by decide +kernel, by decide +kernel⟩, List.mem_of_getElem? (i := 773) (by decide +kernel), List.mem_of_getElem? (i := 965) (by decide +kernel), List.mem_of_getElem? (i := 966) (by decide +kernel)⟩
theorem lw_p47 : lw_okq (⟨"KeyDriftModel", "isPupil", "(I)Z"⟩, 26) := ⟨⟨by decide +kernel, by decide +kernel⟩, List.mem_of_getElem? (i := 773) (by decide +kernel), List.mem_of_getElem? (i := 982) (by decide +kernel), List.mem_of_getElem? (i := 983) (by decide +kernel)⟩
def lw_privs_3 : List (MethodName × Nat) := [(⟨"KeyDrift$Asked", "body23", "()I"⟩, 6), (⟨"KeyDrift", "rowsThere", "()I"⟩, 9), (⟨"KeyDriftModel", "find", "(I)I"⟩, 26), (⟨"KeyDriftModel", "well", "(I)I"⟩, 26), (⟨"KeyDriftModel", "readHall", "()Z"⟩, 26), (⟨"KeyDriftModel", "nextToken", "()V"⟩, 26), (⟨"KeyDriftModel", "takes", "(I)Z"⟩, 26), (⟨"KeyDriftModel", "isLetter", "(I)Z"⟩, 26), (⟨"KeyDriftModel", "faults", "(I)Z"⟩, 26), (⟨"KeyDriftModel", "takesNumber", "(IIII)Z"⟩, 26), (⟨"KeyDriftModel", "readPupil", "(I)Z"⟩, 26), (⟨"KeyDriftModel", "readPiece", "()Z"⟩, 26), (⟨"KeyDriftModel", "note", "()V"⟩, 26), (⟨"KeyDriftModel", "shiftIn", "(I)I"⟩, 26), (⟨"KeyDriftModel", "over", "(I)I"⟩, 26), (⟨"KeyDriftModel", "isPupil", "(I)Z"⟩, 26)]
theorem lw_r3 : ∀ q ∈ lw_privs_3, lw_okq q := List.forall_mem_cons.mpr ⟨lw_p32, List.forall_mem_cons.mpr ⟨lw_p33, List.forall_mem_cons.mpr ⟨lw_p34, List.forall_mem_cons.mpr ⟨lw_p35, List.forall_mem_cons.mpr ⟨lw_p36, List.forall_mem_cons.mpr ⟨lw_p37, List.forall_mem_cons.mpr ⟨lw_p38, List.forall_mem_cons.mpr ⟨lw_p39, List.forall_mem_cons.mpr ⟨lw_p40, List.forall_mem_cons.mpr ⟨lw_p41, List.forall_mem_cons.mpr ⟨lw_p42, List.forall_mem_cons.mpr ⟨lw_p43, List.forall_mem_cons.mpr ⟨lw_p44, List.forall_mem_cons.mpr ⟨lw_p45, List.forall_mem_cons.mpr ⟨lw_p46, List.forall_mem_cons.mpr ⟨lw_p47, fun _ h => absurd h List.not_mem_nil⟩⟩⟩⟩⟩⟩⟩⟩⟩⟩⟩⟩⟩⟩⟩⟩
theorem lw_p48 : lw_okq (⟨"KeyDriftModel", "isPiece", "(I)Z"⟩, 26) := ⟨⟨by decide +kernel, by decide +kernel⟩, List.mem_of_getElem? (i := 773) (by decide +kernel), List.mem_of_getElem? (i := 990) (by decide +kernel), List.mem_of_getElem? (i := 991) (by decide +kernel)⟩
theorem lw_p49 : lw_okq (⟨"KeyDriftModel", "biasOf", "(I)I"⟩, 26) := ⟨⟨by decide +kernel, by decide +kernel⟩, List.mem_of_getElem? (i := 773) (by decide +kernel), List.mem_of_getElem? (i := 999) (by decide +kernel), List.mem_of_getElem? (i := 1000) (by decide +kernel)⟩
theorem lw_p50 : lw_okq (⟨"KeyDriftModel", "biasBy", "(II)I"⟩, 26) := ⟨⟨by decide +kernel, by decide +kernel⟩, List.mem_of_getElem? (i := 773) (by decide +kernel), List.mem_of_getElem? (i := 1003) (by decide +kernel), List.mem_of_getElem? (i := 1004) (by decide +kernel)⟩
theorem lw_p51 : lw_okq (⟨"KeyDriftModel", "reaches", "(II)Z"⟩, 26) := ⟨⟨by decide +kernel, by decide +kernel⟩, List.mem_of_getElem? (i := 773) (by decide +kernel), List.mem_of_getElem? (i := 1011) (by decide +kernel), List.mem_of_getElem? (i := 1012) (by decide +kernel)⟩
theorem lw_p52 : lw_okq (⟨"KeyDriftModel", "heardBy", "(III)I"⟩, 26) := ⟨⟨by decide +kernel, by decide +kernel⟩, List.mem_of_getElem? (i := 773) (by decide +kernel), List.mem_of_getElem? (i := 1019) (by decide +kernel), List.mem_of_getElem? (i := 1020) (by decide +kernel)⟩
theorem lw_p53 : lw_okq (⟨"KeyDriftModel", "soonBy", "(II)I"⟩, 26) := ⟨⟨by decide +kernel, by decide +kernel⟩, List.mem_of_getElem? (i := 773) (by decide +kernel), List.mem_of_getElem? (i := 1031) (by decide +kernel), List.mem_of_getElem? (i := 1032) (by decide +kernel)⟩
theorem lw_p54 : lw_okq (⟨"KeyDriftModel", "lacks", "(III)I"⟩, 26) := ⟨⟨by decide +kernel, by decide +kernel⟩, List.mem_of_getElem? (i := 773) (by decide +kernel), List.mem_of_getElem? (i := 1052) (by decide +kernel), List.mem_of_getElem? (i := 1053) (by decide +kernel)⟩
theorem lw_p55 : lw_okq (⟨"KeyDriftModel", "isLesson", "(II)Z"⟩, 26) := ⟨⟨by decide +kernel, by decide +kernel⟩, List.mem_of_getElem? (i := 773) (by decide +kernel), List.mem_of_getElem? (i := 1064) (by decide +kernel), List.mem_of_getElem? (i := 1065) (by decide +kernel)⟩
theorem lw_p56 : lw_okq (⟨"KeyDriftModel", "isNight", "(II)Z"⟩, 26) := ⟨⟨by decide +kernel, by decide +kernel⟩, List.mem_of_getElem? (i := 773) (by decide +kernel), List.mem_of_getElem? (i := 1078) (by decide +kernel), List.mem_of_getElem? (i := 1079) (by decide +kernel)⟩
theorem lw_p57 : lw_okq (⟨"KeyDriftModel", "sizeOf", "(I)I"⟩, 26) := ⟨⟨by decide +kernel, by decide +kernel⟩, List.mem_of_getElem? (i := 773) (by decide +kernel), List.mem_of_getElem? (i := 1136) (by decide +kernel), List.mem_of_getElem? (i := 1137) (by decide +kernel)⟩
theorem lw_p58 : lw_okq (⟨"KeyDriftModel", "begin", "(I)V"⟩, 26) := ⟨⟨by decide +kernel, by decide +kernel⟩, List.mem_of_getElem? (i := 773) (by decide +kernel), List.mem_of_getElem? (i := 1140) (by decide +kernel), List.mem_of_getElem? (i := 1141) (by decide +kernel)⟩
theorem lw_p59 : lw_okq (⟨"KeyDriftModel", "playerSize", "(I)I"⟩, 26) := ⟨⟨by decide +kernel, by decide +kernel⟩, List.mem_of_getElem? (i := 773) (by decide +kernel), List.mem_of_getElem? (i := 1144) (by decide +kernel), List.mem_of_getElem? (i := 1145) (by decide +kernel)⟩
theorem lw_p60 : lw_okq (⟨"KeyDriftModel", "lent", "(II)I"⟩, 26) := ⟨⟨by decide +kernel, by decide +kernel⟩, List.mem_of_getElem? (i := 773) (by decide +kernel), List.mem_of_getElem? (i := 1148) (by decide +kernel), List.mem_of_getElem? (i := 1149) (by decide +kernel)⟩
theorem lw_p61 : lw_okq (⟨"KeyDriftModel", "markOf", "(I)I"⟩, 26) := ⟨⟨by decide +kernel, by decide +kernel⟩, List.mem_of_getElem? (i := 773) (by decide +kernel), List.mem_of_getElem? (i := 1152) (by decide +kernel), List.mem_of_getElem? (i := 1153) (by decide +kernel)⟩
theorem lw_p62 : lw_okq (⟨"KeyDriftModel", "playerMark", "(I)I"⟩, 26) := ⟨⟨by decide +kernel, by decide +kernel⟩, List.mem_of_getElem? (i := 773) (by decide +kernel), List.mem_of_getElem? (i := 1156) (by decide +kernel), List.mem_of_getElem? (i := 1157) (by decide +kernel)⟩
theorem lw_p63 : lw_okq (⟨"KeyDriftModel", "sizeOfCarrier", "(I)I"⟩, 26) := ⟨⟨by decide +kernel, by decide +kernel⟩, List.mem_of_getElem? (i := 773) (by decide +kernel), List.mem_of_getElem? (i := 1160) (by decide +kernel), List.mem_of_getElem? (i := 1161) (by decide +kernel)⟩
def lw_privs_4 : List (MethodName × Nat) := [(⟨"KeyDriftModel", "isPiece", "(I)Z"⟩, 26), (⟨"KeyDriftModel", "biasOf", "(I)I"⟩, 26), (⟨"KeyDriftModel", "biasBy", "(II)I"⟩, 26), (⟨"KeyDriftModel", "reaches", "(II)Z"⟩, 26), (⟨"KeyDriftModel", "heardBy", "(III)I"⟩, 26), (⟨"KeyDriftModel", "soonBy", "(II)I"⟩, 26), (⟨"KeyDriftModel", "lacks", "(III)I"⟩, 26), (⟨"KeyDriftModel", "isLesson", "(II)Z"⟩, 26), (⟨"KeyDriftModel", "isNight", "(II)Z"⟩, 26), (⟨"KeyDriftModel", "sizeOf", "(I)I"⟩, 26), (⟨"KeyDriftModel", "begin", "(I)V"⟩, 26), (⟨"KeyDriftModel", "playerSize", "(I)I"⟩, 26), (⟨"KeyDriftModel", "lent", "(II)I"⟩, 26), (⟨"KeyDriftModel", "markOf", "(I)I"⟩, 26), (⟨"KeyDriftModel", "playerMark", "(I)I"⟩, 26), (⟨"KeyDriftModel", "sizeOfCarrier", "(I)I"⟩, 26)]
theorem lw_r4 : ∀ q ∈ lw_privs_4, lw_okq q := List.forall_mem_cons.mpr ⟨lw_p48, List.forall_mem_cons.mpr ⟨lw_p49, List.forall_mem_cons.mpr ⟨lw_p50, List.forall_mem_cons.mpr ⟨lw_p51, List.forall_mem_cons.mpr ⟨lw_p52, List.forall_mem_cons.mpr ⟨lw_p53, List.forall_mem_cons.mpr ⟨lw_p54, List.forall_mem_cons.mpr ⟨lw_p55, List.forall_mem_cons.mpr ⟨lw_p56, List.forall_mem_cons.mpr ⟨lw_p57, List.forall_mem_cons.mpr ⟨lw_p58, List.forall_mem_cons.mpr ⟨lw_p59, List.forall_mem_cons.mpr ⟨lw_p60, List.forall_mem_cons.mpr ⟨lw_p61, List.forall_mem_cons.mpr ⟨lw_p62, List.forall_mem_cons.mpr ⟨lw_p63, fun _ h => absurd h List.not_mem_nil⟩⟩⟩⟩⟩⟩⟩⟩⟩⟩⟩⟩⟩⟩⟩⟩
theorem lw_p64 : lw_okq (⟨"KeyDriftModel", "carrierSize", "(I)I"⟩, 26) := ⟨⟨by decide +kernel, by decide +kernel⟩, List.mem_of_getElem? (i := 773) (by decide +kernel), List.mem_of_getElem? (i := 1164) (by decide +kernel), List.mem_of_getElem? (i := 1165) (by decide +kernel)⟩
def lw_privs_5 : List (MethodName × Nat) := [(⟨"KeyDriftModel", "carrierSize", "(I)I"⟩, 26)]
theorem lw_r5 : ∀ q ∈ lw_privs_5, lw_okq q := List.forall_mem_cons.mpr ⟨lw_p64, fun _ h => absurd h List.not_mem_nil⟩
def lw_privs : List (MethodName × Nat) := lw_privs_1 ++ (lw_privs_2 ++ (lw_privs_3 ++ (lw_privs_4 ++ (lw_privs_5))))
def lw_tbl : List Cond := k2_sels lw_privs ++ tables_1
theorem lw_privs_ok : ∀ q ∈ lw_privs, lw_okq q := by
  show ∀ q ∈ lw_privs_1 ++ (lw_privs_2 ++ (lw_privs_3 ++ (lw_privs_4 ++ (lw_privs_5)))), lw_okq q
  exact List.forall_mem_append.mpr ⟨lw_r1, List.forall_mem_append.mpr ⟨lw_r2, List.forall_mem_append.mpr ⟨lw_r3, List.forall_mem_append.mpr ⟨lw_r4, lw_r5⟩⟩⟩⟩
end
section
def RX0 : String := "KeyDrift$Acts"
def TX0 : u_T := fun k => match k with
  | 0 => ("KeyDrift$Acts", "sorts", "[I", true)
  | 1 => ("KeyDrift$Acts", "pupils", "[I", true)
  | 2 => ("KeyDrift$Acts", "before", "[I", true)
  | 3 => ("KeyDrift$Acts", "next", "I", false)
  | _ => ("KeyDrift$Acts", "kept", "I", false)
def tyX0 : Nat → FieldType := fun k => match k with
  | 0 => .array .int
  | 1 => .array .int
  | 2 => .array .int
  | 3 => .int
  | _ => .int
abbrev wsX00 : List Cond := u_ws RX0 TX0 5
theorem nmX0 : ∀ a, a < 5 → ∀ b, b < 5 → a ≠ b → (TX0 a).2.1 ≠ (TX0 b).2.1 := by decide +kernel
theorem tyX0_ok : ∀ k, k < 5 → parseFieldDescriptor (TX0 k).2.2.1 = some (tyX0 k) := by decide +kernel
abbrev cX0_init : ByteArray := prog_2_method_1_code
def yX0_init : MethodName := ⟨RX0, "<init>", "()V"⟩
abbrev cX0_clear : ByteArray := prog_2_method_2_code
def yX0_clear : MethodName := ⟨RX0, "clear", "()V"⟩
abbrev cX0_keep : ByteArray := prog_2_method_3_code
def yX0_keep : MethodName := ⟨RX0, "keep", "(III)V"⟩
abbrev cX0_takeBack : ByteArray := prog_2_method_4_code
def yX0_takeBack : MethodName := ⟨RX0, "takeBack", "(LKeyDrift$Hall;)V"⟩
def RX1 : String := "KeyDrift$Asked"
def TX1 : u_T := fun k => match k with
  | 0 => ("KeyDrift$Asked", "bodies", "[I", true)
  | 1 => ("KeyDrift$Asked", "left", "I", false)
  | 2 => ("KeyDrift$Asked", "number", "I", false)
  | 3 => ("KeyDrift$Asked", "sort", "I", false)
  | 4 => ("KeyDrift$Asked", "learnt", "I", false)
  | _ => ("KeyDrift$Asked", "span", "I", false)
def tyX1 : Nat → FieldType := fun k => match k with
  | 0 => .array .int
  | 1 => .int
  | 2 => .int
  | 3 => .int
  | 4 => .int
  | _ => .int
abbrev wsX10 : List Cond := u_ws RX1 TX1 6
theorem nmX1 : ∀ a, a < 6 → ∀ b, b < 6 → a ≠ b → (TX1 a).2.1 ≠ (TX1 b).2.1 := by decide +kernel
theorem tyX1_ok : ∀ k, k < 6 → parseFieldDescriptor (TX1 k).2.2.1 = some (tyX1 k) := by decide +kernel
abbrev cX1_init : ByteArray := prog_3_method_1_code
def yX1_init : MethodName := ⟨RX1, "<init>", "()V"⟩
abbrev cX1_isOfKind : ByteArray := prog_3_method_2_code
def yX1_isOfKind : MethodName := ⟨RX1, "isOfKind", "(II)Z"⟩
abbrev cX1_begin : ByteArray := prog_3_method_3_code
def yX1_begin : MethodName := ⟨RX1, "begin", "(IIII)V"⟩
abbrev cX1_sizeOfOne : ByteArray := prog_3_method_4_code
def yX1_sizeOfOne : MethodName := ⟨RX1, "sizeOfOne", "()I"⟩
abbrev cX1_markOfOne : ByteArray := prog_3_method_5_code
def yX1_markOfOne : MethodName := ⟨RX1, "markOfOne", "()I"⟩
abbrev cX1_sizeOfCarrier : ByteArray := prog_3_method_6_code
def yX1_sizeOfCarrier : MethodName := ⟨RX1, "sizeOfCarrier", "()I"⟩
abbrev cX1_markOfPlayer : ByteArray := prog_3_method_7_code
def yX1_markOfPlayer : MethodName := ⟨RX1, "markOfPlayer", "()I"⟩
abbrev cX1_body10 : ByteArray := prog_3_method_8_code
def yX1_body10 : MethodName := ⟨RX1, "body10", "()I"⟩
abbrev cX1_body11 : ByteArray := prog_3_method_9_code
def yX1_body11 : MethodName := ⟨RX1, "body11", "()I"⟩
abbrev cX1_body13 : ByteArray := prog_3_method_10_code
def yX1_body13 : MethodName := ⟨RX1, "body13", "()I"⟩
abbrev cX1_body20 : ByteArray := prog_3_method_11_code
def yX1_body20 : MethodName := ⟨RX1, "body20", "()I"⟩
abbrev cX1_body21 : ByteArray := prog_3_method_12_code
def yX1_body21 : MethodName := ⟨RX1, "body21", "()I"⟩
abbrev cX1_body23 : ByteArray := prog_3_method_13_code
def yX1_body23 : MethodName := ⟨RX1, "body23", "()I"⟩
abbrev cX1_leave : ByteArray := prog_3_method_14_code
def yX1_leave : MethodName := ⟨RX1, "leave", "(I)V"⟩
def RX2 : String := "KeyDrift$Foretold"
def TX2 : u_T := fun k => match k with
  | 0 => ("KeyDrift$Foretold", "hall", "LKeyDrift$Hall;", true)
  | 1 => ("KeyDrift$Foretold", "untaughtNights", "[I", true)
  | 2 => ("KeyDrift$Foretold", "taughtNights", "[I", true)
  | _ => ("KeyDrift$Foretold", "pieceNights", "[I", true)
def tyX2 : Nat → FieldType := fun k => match k with
  | 0 => .object "KeyDrift$Hall"
  | 1 => .array .int
  | 2 => .array .int
  | _ => .array .int
abbrev wsX20 : List Cond := u_ws RX2 TX2 4
theorem nmX2 : ∀ a, a < 4 → ∀ b, b < 4 → a ≠ b → (TX2 a).2.1 ≠ (TX2 b).2.1 := by decide +kernel
theorem tyX2_ok : ∀ k, k < 4 → parseFieldDescriptor (TX2 k).2.2.1 = some (tyX2 k) := by decide +kernel
abbrev cX2_init : ByteArray := prog_4_method_1_code
def yX2_init : MethodName := ⟨RX2, "<init>", "(LKeyDrift$Hall;)V"⟩
abbrev cX2_firstNightAt : ByteArray := prog_4_method_2_code
def yX2_firstNightAt : MethodName := ⟨RX2, "firstNightAt", "(I)I"⟩
abbrev cX2_nightsAt : ByteArray := prog_4_method_3_code
def yX2_nightsAt : MethodName := ⟨RX2, "nightsAt", "(II)I"⟩
abbrev cX2_shiftsBy : ByteArray := prog_4_method_4_code
def yX2_shiftsBy : MethodName := ⟨RX2, "shiftsBy", "([IIII)I"⟩
abbrev cX2_wrongsBy : ByteArray := prog_4_method_5_code
def yX2_wrongsBy : MethodName := ⟨RX2, "wrongsBy", "(I[III)I"⟩
abbrev cX2_fewestTaught : ByteArray := prog_4_method_6_code
def yX2_fewestTaught : MethodName := ⟨RX2, "fewestTaught", "(I)I"⟩
abbrev cX2_nightsIfTaught : ByteArray := prog_4_method_7_code
def yX2_nightsIfTaught : MethodName := ⟨RX2, "nightsIfTaught", "(I)I"⟩
abbrev cX2_programmes : ByteArray := prog_4_method_8_code
def yX2_programmes : MethodName := ⟨RX2, "programmes", "(I)I"⟩
abbrev cX2_nightOfPiece : ByteArray := prog_4_method_9_code
def yX2_nightOfPiece : MethodName := ⟨RX2, "nightOfPiece", "(II)I"⟩
abbrev cX2_firstNightFor : ByteArray := prog_4_method_10_code
def yX2_firstNightFor : MethodName := ⟨RX2, "firstNightFor", "(II)I"⟩
abbrev cX2_findPieceNights : ByteArray := prog_4_method_11_code
def yX2_findPieceNights : MethodName := ⟨RX2, "findPieceNights", "(I)V"⟩
abbrev cX2_waysFrom : ByteArray := prog_4_method_12_code
def yX2_waysFrom : MethodName := ⟨RX2, "waysFrom", "(II)I"⟩
abbrev cX2_chordCount : ByteArray := prog_4_method_13_code
def yX2_chordCount : MethodName := ⟨RX2, "chordCount", "()I"⟩
abbrev cX2_chordNumber : ByteArray := prog_4_method_14_code
def yX2_chordNumber : MethodName := ⟨RX2, "chordNumber", "(I)I"⟩
abbrev cX2_ownStrings : ByteArray := prog_4_method_15_code
def yX2_ownStrings : MethodName := ⟨RX2, "ownStrings", "()I"⟩
abbrev cX2_kindsHeard : ByteArray := prog_4_method_16_code
def yX2_kindsHeard : MethodName := ⟨RX2, "kindsHeard", "(II[II)I"⟩
abbrev cX2_soundsAs : ByteArray := prog_4_method_17_code
def yX2_soundsAs : MethodName := ⟨RX2, "soundsAs", "(II[II)Z"⟩
abbrev cX2_fewestTunings : ByteArray := prog_4_method_18_code
def yX2_fewestTunings : MethodName := ⟨RX2, "fewestTunings", "(II)I"⟩
abbrev cX2_firstNightAlike : ByteArray := prog_4_method_19_code
def yX2_firstNightAlike : MethodName := ⟨RX2, "firstNightAlike", "(II)I"⟩
abbrev cX2_tenthsRight : ByteArray := prog_4_method_20_code
def yX2_tenthsRight : MethodName := ⟨RX2, "tenthsRight", "(III)J"⟩
abbrev cX2_choices : ByteArray := prog_4_method_21_code
def yX2_choices : MethodName := ⟨RX2, "choices", "(II)J"⟩
abbrev cX2_power : ByteArray := prog_4_method_22_code
def yX2_power : MethodName := ⟨RX2, "power", "(II)J"⟩
abbrev cX2_divisorOfBoth : ByteArray := prog_4_method_23_code
def yX2_divisorOfBoth : MethodName := ⟨RX2, "divisorOfBoth", "(JJ)J"⟩
abbrev cX2_nightsByDraws : ByteArray := prog_4_method_24_code
def yX2_nightsByDraws : MethodName := ⟨RX2, "nightsByDraws", "(IIZ)I"⟩
abbrev cX2_biasesOfAll : ByteArray := prog_4_method_25_code
def yX2_biasesOfAll : MethodName := ⟨RX2, "biasesOfAll", "()I"⟩
def RX3 : String := "KeyDrift$Hall"
def TX3 : u_T := fun k => match k with
  | 0 => ("KeyDrift$Hall", "lengths", "[I", true)
  | 1 => ("KeyDrift$Hall", "strings", "[I", true)
  | 2 => ("KeyDrift$Hall", "kinds", "[I", true)
  | 3 => ("KeyDrift$Hall", "learnt", "[I", true)
  | 4 => ("KeyDrift$Hall", "spans", "[I", true)
  | 5 => ("KeyDrift$Hall", "keys", "I", false)
  | 6 => ("KeyDrift$Hall", "drift", "I", false)
  | 7 => ("KeyDrift$Hall", "shift", "I", false)
  | 8 => ("KeyDrift$Hall", "night", "I", false)
  | 9 => ("KeyDrift$Hall", "pieces", "I", false)
  | _ => ("KeyDrift$Hall", "pupils", "I", false)
def tyX3 : Nat → FieldType := fun k => match k with
  | 0 => .array .int
  | 1 => .array .int
  | 2 => .array .int
  | 3 => .array .int
  | 4 => .array .int
  | 5 => .int
  | 6 => .int
  | 7 => .int
  | 8 => .int
  | 9 => .int
  | _ => .int
abbrev wsX30 : List Cond := u_ws RX3 TX3 11
theorem nmX3 : ∀ a, a < 11 → ∀ b, b < 11 → a ≠ b → (TX3 a).2.1 ≠ (TX3 b).2.1 := by decide +kernel
theorem tyX3_ok : ∀ k, k < 11 → parseFieldDescriptor (TX3 k).2.2.1 = some (tyX3 k) := by decide +kernel
abbrev cX3_init : ByteArray := prog_5_method_1_code
def yX3_init : MethodName := ⟨RX3, "<init>", "()V"⟩
abbrev cX3_isTold : ByteArray := prog_5_method_2_code
def yX3_isTold : MethodName := ⟨RX3, "isTold", "()Z"⟩
abbrev cX3_hasPiece : ByteArray := prog_5_method_3_code
def yX3_hasPiece : MethodName := ⟨RX3, "hasPiece", "(I)Z"⟩
abbrev cX3_hasPupil : ByteArray := prog_5_method_4_code
def yX3_hasPupil : MethodName := ⟨RX3, "hasPupil", "(I)Z"⟩
abbrev cX3_become : ByteArray := prog_5_method_5_code
def yX3_become : MethodName := ⟨RX3, "become", "(LKeyDrift$Hall;)V"⟩
abbrev cX3_around : ByteArray := prog_5_method_6_code
def yX3_around : MethodName := ⟨RX3, "around", "(I)I"⟩
abbrev cX3_shiftBehind : ByteArray := prog_5_method_7_code
def yX3_shiftBehind : MethodName := ⟨RX3, "shiftBehind", "(I)I"⟩
abbrev cX3_stringOf : ByteArray := prog_5_method_8_code
def yX3_stringOf : MethodName := ⟨RX3, "stringOf", "(II)I"⟩
abbrev cX3_biasOf : ByteArray := prog_5_method_9_code
def yX3_biasOf : MethodName := ⟨RX3, "biasOf", "(I)I"⟩
abbrev cX3_biasAs : ByteArray := prog_5_method_10_code
def yX3_biasAs : MethodName := ⟨RX3, "biasAs", "(II)I"⟩
abbrev cX3_stringHeard : ByteArray := prog_5_method_11_code
def yX3_stringHeard : MethodName := ⟨RX3, "stringHeard", "(II)I"⟩
abbrev cX3_reaches : ByteArray := prog_5_method_12_code
def yX3_reaches : MethodName := ⟨RX3, "reaches", "(II)Z"⟩
abbrev cX3_leastKey : ByteArray := prog_5_method_13_code
def yX3_leastKey : MethodName := ⟨RX3, "leastKey", "(II)I"⟩
abbrev cX3_greatestKey : ByteArray := prog_5_method_14_code
def yX3_greatestKey : MethodName := ⟨RX3, "greatestKey", "(II)I"⟩
def RX4 : String := "KeyDrift$Row"
def TX4 : u_T := fun k => match k with
  | 0 => ("KeyDrift$Row", "items", "[I", true)
  | 1 => ("KeyDrift$Row", "lane", "I", false)
  | _ => ("KeyDrift$Row", "length", "I", false)
def tyX4 : Nat → FieldType := fun k => match k with
  | 0 => .array .int
  | 1 => .int
  | _ => .int
abbrev wsX40 : List Cond := u_ws RX4 TX4 3
theorem nmX4 : ∀ a, a < 3 → ∀ b, b < 3 → a ≠ b → (TX4 a).2.1 ≠ (TX4 b).2.1 := by decide +kernel
theorem tyX4_ok : ∀ k, k < 3 → parseFieldDescriptor (TX4 k).2.2.1 = some (tyX4 k) := by decide +kernel
abbrev cX4_init : ByteArray := prog_6_method_1_code
def yX4_init : MethodName := ⟨RX4, "<init>", "()V"⟩
abbrev cX4_isLane : ByteArray := prog_6_method_2_code
def yX4_isLane : MethodName := ⟨RX4, "isLane", "(I)Z"⟩
abbrev cX4_isMissing : ByteArray := prog_6_method_3_code
def yX4_isMissing : MethodName := ⟨RX4, "isMissing", "()Z"⟩
abbrev cX4_begin : ByteArray := prog_6_method_4_code
def yX4_begin : MethodName := ⟨RX4, "begin", "(II)V"⟩
abbrev cX4_lose : ByteArray := prog_6_method_5_code
def yX4_lose : MethodName := ⟨RX4, "lose", "()V"⟩
abbrev cX4_hasPlaces : ByteArray := prog_6_method_6_code
def yX4_hasPlaces : MethodName := ⟨RX4, "hasPlaces", "(II)Z"⟩
abbrev cX4_put : ByteArray := prog_6_method_7_code
def yX4_put : MethodName := ⟨RX4, "put", "(II)I"⟩
abbrev cX4_lowestBits : ByteArray := prog_6_method_8_code
def yX4_lowestBits : MethodName := ⟨RX4, "lowestBits", "(I)I"⟩
def RX5 : String := "KeyDrift$Tape"
def TX5 : u_T := fun k => match k with
  | 0 => ("KeyDrift$Tape", "bytes", "[I", true)
  | 1 => ("KeyDrift$Tape", "place", "I", false)
  | 2 => ("KeyDrift$Tape", "foundFault", "I", false)
  | 3 => ("KeyDrift$Tape", "size", "I", false)
  | 4 => ("KeyDrift$Tape", "foundAt", "I", false)
  | _ => ("KeyDrift$Tape", "latestFault", "I", false)
def tyX5 : Nat → FieldType := fun k => match k with
  | 0 => .array .int
  | 1 => .int
  | 2 => .int
  | 3 => .int
  | 4 => .int
  | _ => .int
abbrev wsX50 : List Cond := u_ws RX5 TX5 6
theorem nmX5 : ∀ a, a < 6 → ∀ b, b < 6 → a ≠ b → (TX5 a).2.1 ≠ (TX5 b).2.1 := by decide +kernel
theorem tyX5_ok : ∀ k, k < 6 → parseFieldDescriptor (TX5 k).2.2.1 = some (tyX5 k) := by decide +kernel
abbrev cX5_init : ByteArray := prog_7_method_1_code
def yX5_init : MethodName := ⟨RX5, "<init>", "()V"⟩
abbrev cX5_isFull : ByteArray := prog_7_method_2_code
def yX5_isFull : MethodName := ⟨RX5, "isFull", "()Z"⟩
abbrev cX5_append : ByteArray := prog_7_method_3_code
def yX5_append : MethodName := ⟨RX5, "append", "(I)I"⟩
abbrev cX5_clear : ByteArray := prog_7_method_4_code
def yX5_clear : MethodName := ⟨RX5, "clear", "()V"⟩
abbrev cX5_readInto : ByteArray := prog_7_method_5_code
def yX5_readInto : MethodName := ⟨RX5, "readInto", "(LKeyDrift$Hall;)Z"⟩
abbrev cX5_readLaw : ByteArray := prog_7_method_6_code
def yX5_readLaw : MethodName := ⟨RX5, "readLaw", "(LKeyDrift$Hall;)V"⟩
abbrev cX5_readPieces : ByteArray := prog_7_method_7_code
def yX5_readPieces : MethodName := ⟨RX5, "readPieces", "(LKeyDrift$Hall;)V"⟩
abbrev cX5_readStrings : ByteArray := prog_7_method_8_code
def yX5_readStrings : MethodName := ⟨RX5, "readStrings", "(LKeyDrift$Hall;I)V"⟩
abbrev cX5_readPupils : ByteArray := prog_7_method_9_code
def yX5_readPupils : MethodName := ⟨RX5, "readPupils", "(LKeyDrift$Hall;)V"⟩
abbrev cX5_takeByte : ByteArray := prog_7_method_10_code
def yX5_takeByte : MethodName := ⟨RX5, "takeByte", "(I)V"⟩
abbrev cX5_takeNumber : ByteArray := prog_7_method_11_code
def yX5_takeNumber : MethodName := ⟨RX5, "takeNumber", "(II)I"⟩
abbrev cX5_sees : ByteArray := prog_7_method_12_code
def yX5_sees : MethodName := ⟨RX5, "sees", "(I)Z"⟩
abbrev cX5_seesString : ByteArray := prog_7_method_13_code
def yX5_seesString : MethodName := ⟨RX5, "seesString", "(I)Z"⟩
abbrev cX5_seesSort : ByteArray := prog_7_method_14_code
def yX5_seesSort : MethodName := ⟨RX5, "seesSort", "()Z"⟩
abbrev cX5_kindOfSort : ByteArray := prog_7_method_15_code
def yX5_kindOfSort : MethodName := ⟨RX5, "kindOfSort", "(I)I"⟩
abbrev cX5_figuresHere : ByteArray := prog_7_method_16_code
def yX5_figuresHere : MethodName := ⟨RX5, "figuresHere", "()I"⟩
abbrev cX5_isFigure : ByteArray := prog_7_method_17_code
def yX5_isFigure : MethodName := ⟨RX5, "isFigure", "(I)Z"⟩
abbrev cX5_byteHere : ByteArray := prog_7_method_18_code
def yX5_byteHere : MethodName := ⟨RX5, "byteHere", "()I"⟩
abbrev cX5_byteAt : ByteArray := prog_7_method_19_code
def yX5_byteAt : MethodName := ⟨RX5, "byteAt", "(I)I"⟩
abbrev cX5_refuse : ByteArray := prog_7_method_20_code
def yX5_refuse : MethodName := ⟨RX5, "refuse", "(I)V"⟩
def RX6 : String := "KeyDrift"
def TX6 : u_T := fun k => match k with
  | 0 => ("KeyDrift", "rows", "[LKeyDrift$Row;", true)
  | 1 => ("KeyDrift", "tape", "LKeyDrift$Tape;", true)
  | 2 => ("KeyDrift", "now", "LKeyDrift$Hall;", true)
  | 3 => ("KeyDrift", "spare", "LKeyDrift$Hall;", true)
  | 4 => ("KeyDrift", "images", "[LKeyDrift$Hall;", true)
  | 5 => ("KeyDrift", "acts", "LKeyDrift$Acts;", true)
  | 6 => ("KeyDrift", "foretold", "LKeyDrift$Foretold;", true)
  | 7 => ("KeyDrift", "asked", "LKeyDrift$Asked;", true)
  | _ => ("KeyDrift", "latestFinding", "I", false)
def tyX6 : Nat → FieldType := fun k => match k with
  | 0 => .array (.object "KeyDrift$Row")
  | 1 => .object "KeyDrift$Tape"
  | 2 => .object "KeyDrift$Hall"
  | 3 => .object "KeyDrift$Hall"
  | 4 => .array (.object "KeyDrift$Hall")
  | 5 => .object "KeyDrift$Acts"
  | 6 => .object "KeyDrift$Foretold"
  | 7 => .object "KeyDrift$Asked"
  | _ => .int
abbrev wsX60 : List Cond := u_ws RX6 TX6 9
theorem nmX6 : ∀ a, a < 9 → ∀ b, b < 9 → a ≠ b → (TX6 a).2.1 ≠ (TX6 b).2.1 := by decide +kernel
theorem tyX6_ok : ∀ k, k < 9 → parseFieldDescriptor (TX6 k).2.2.1 = some (tyX6 k) := by decide +kernel
abbrev cX6_init : ByteArray := prog_1_method_1_code
def yX6_init : MethodName := ⟨RX6, "<init>", "()V"⟩
abbrev cX6_row : ByteArray := prog_1_method_2_code
def yX6_row : MethodName := ⟨RX6, "row", "(III)I"⟩
abbrev cX6_set : ByteArray := prog_1_method_3_code
def yX6_set : MethodName := ⟨RX6, "set", "(III)I"⟩
abbrev cX6_copy : ByteArray := prog_1_method_4_code
def yX6_copy : MethodName := ⟨RX6, "copy", "(IIIII)I"⟩
abbrev cX6_drop : ByteArray := prog_1_method_5_code
def yX6_drop : MethodName := ⟨RX6, "drop", "(I)I"⟩
abbrev cX6_feed : ByteArray := prog_1_method_6_code
def yX6_feed : MethodName := ⟨RX6, "feed", "(I)I"⟩
abbrev cX6_hall : ByteArray := prog_1_method_7_code
def yX6_hall : MethodName := ⟨RX6, "hall", "()I"⟩
abbrev cX6_fault : ByteArray := prog_1_method_8_code
def yX6_fault : MethodName := ⟨RX6, "fault", "()I"⟩
abbrev cX6_undo : ByteArray := prog_1_method_9_code
def yX6_undo : MethodName := ⟨RX6, "undo", "()I"⟩
abbrev cX6_nights : ByteArray := prog_1_method_10_code
def yX6_nights : MethodName := ⟨RX6, "nights", "(I)I"⟩
abbrev cX6_thunder : ByteArray := prog_1_method_11_code
def yX6_thunder : MethodName := ⟨RX6, "thunder", "(I)I"⟩
abbrev cX6_tune : ByteArray := prog_1_method_12_code
def yX6_tune : MethodName := ⟨RX6, "tune", "()I"⟩
abbrev cX6_learn : ByteArray := prog_1_method_13_code
def yX6_learn : MethodName := ⟨RX6, "learn", "(I)I"⟩
abbrev cX6_piece : ByteArray := prog_1_method_14_code
def yX6_piece : MethodName := ⟨RX6, "piece", "(II)I"⟩
abbrev cX6_pupil : ByteArray := prog_1_method_15_code
def yX6_pupil : MethodName := ⟨RX6, "pupil", "(II)I"⟩
abbrev cX6_plays : ByteArray := prog_1_method_16_code
def yX6_plays : MethodName := ⟨RX6, "plays", "(III)I"⟩
abbrev cX6_heard : ByteArray := prog_1_method_17_code
def yX6_heard : MethodName := ⟨RX6, "heard", "(III)I"⟩
abbrev cX6_strike : ByteArray := prog_1_method_18_code
def yX6_strike : MethodName := ⟨RX6, "strike", "(I)I"⟩
abbrev cX6_soon : ByteArray := prog_1_method_19_code
def yX6_soon : MethodName := ⟨RX6, "soon", "(I)I"⟩
abbrev cX6_together : ByteArray := prog_1_method_20_code
def yX6_together : MethodName := ⟨RX6, "together", "(II)I"⟩
abbrev cX6_itself : ByteArray := prog_1_method_21_code
def yX6_itself : MethodName := ⟨RX6, "itself", "()I"⟩
abbrev cX6_nightsOf : ByteArray := prog_1_method_22_code
def yX6_nightsOf : MethodName := ⟨RX6, "nightsOf", "(II)I"⟩
abbrev cX6_struck : ByteArray := prog_1_method_23_code
def yX6_struck : MethodName := ⟨RX6, "struck", "(IIII)I"⟩
abbrev cX6_lessons : ByteArray := prog_1_method_24_code
def yX6_lessons : MethodName := ⟨RX6, "lessons", "(II)I"⟩
abbrev cX6_programme : ByteArray := prog_1_method_25_code
def yX6_programme : MethodName := ⟨RX6, "programme", "(II)I"⟩
abbrev cX6_chords : ByteArray := prog_1_method_26_code
def yX6_chords : MethodName := ⟨RX6, "chords", "(I)I"⟩
abbrev cX6_who : ByteArray := prog_1_method_27_code
def yX6_who : MethodName := ⟨RX6, "who", "(IIII)I"⟩
abbrev cX6_tunings : ByteArray := prog_1_method_28_code
def yX6_tunings : MethodName := ⟨RX6, "tunings", "(II)I"⟩
abbrev cX6_other : ByteArray := prog_1_method_29_code
def yX6_other : MethodName := ⟨RX6, "other", "(II)I"⟩
abbrev cX6_thunderOdds : ByteArray := prog_1_method_30_code
def yX6_thunderOdds : MethodName := ⟨RX6, "thunderOdds", "(IIII)J"⟩
abbrev cX6_drawn : ByteArray := prog_1_method_31_code
def yX6_drawn : MethodName := ⟨RX6, "drawn", "(III)I"⟩
abbrev cX6_image : ByteArray := prog_1_method_32_code
def yX6_image : MethodName := ⟨RX6, "image", "(I)I"⟩
abbrev cX6_restore : ByteArray := prog_1_method_33_code
def yX6_restore : MethodName := ⟨RX6, "restore", "(I)I"⟩
abbrev cX6_kind : ByteArray := prog_1_method_34_code
def yX6_kind : MethodName := ⟨RX6, "kind", "(I)I"⟩
abbrev cX6_as : ByteArray := prog_1_method_35_code
def yX6_as : MethodName := ⟨RX6, "as", "(II)I"⟩
abbrev cX6_ask : ByteArray := prog_1_method_36_code
def yX6_ask : MethodName := ⟨RX6, "ask", "(II)I"⟩
abbrev cX6_trace : ByteArray := prog_1_method_37_code
def yX6_trace : MethodName := ⟨RX6, "trace", "(I)I"⟩
abbrev cX6_count : ByteArray := prog_1_method_38_code
def yX6_count : MethodName := ⟨RX6, "count", "(I)I"⟩
abbrev cX6_status : ByteArray := prog_1_method_39_code
def yX6_status : MethodName := ⟨RX6, "status", "()I"⟩
abbrev cX6_found : ByteArray := prog_1_method_40_code
def yX6_found : MethodName := ⟨RX6, "found", "(I)I"⟩
abbrev cX6_fine : ByteArray := prog_1_method_41_code
def yX6_fine : MethodName := ⟨RX6, "fine", "(I)I"⟩
abbrev cX6_isRow : ByteArray := prog_1_method_42_code
def yX6_isRow : MethodName := ⟨RX6, "isRow", "(I)Z"⟩
abbrev cX6_isImage : ByteArray := prog_1_method_43_code
def yX6_isImage : MethodName := ⟨RX6, "isImage", "(I)Z"⟩
abbrev cX6_rowsThere : ByteArray := prog_1_method_44_code
def yX6_rowsThere : MethodName := ⟨RX6, "rowsThere", "()I"⟩
def RX7 : String := "KeyDriftModel"
def TX7 : u_T := fun k => match k with
  | 0 => ("KeyDriftModel", "lanes", "[I", true)
  | 1 => ("KeyDriftModel", "sizes", "[I", true)
  | 2 => ("KeyDriftModel", "items", "[I", true)
  | 3 => ("KeyDriftModel", "status", "I", false)
  | 4 => ("KeyDriftModel", "isThere", "Z", false)
  | 5 => ("KeyDriftModel", "st", "[I", true)
  | 6 => ("KeyDriftModel", "moved", "[I", true)
  | 7 => ("KeyDriftModel", "tape", "[I", true)
  | 8 => ("KeyDriftModel", "bytes", "I", false)
  | 9 => ("KeyDriftModel", "latest", "I", false)
  | 10 => ("KeyDriftModel", "place", "I", false)
  | 11 => ("KeyDriftModel", "token", "I", false)
  | 12 => ("KeyDriftModel", "value", "I", false)
  | 13 => ("KeyDriftModel", "begins", "I", false)
  | 14 => ("KeyDriftModel", "wrong", "I", false)
  | 15 => ("KeyDriftModel", "read", "[I", true)
  | 16 => ("KeyDriftModel", "acts", "[I", true)
  | 17 => ("KeyDriftModel", "actMany", "I", false)
  | 18 => ("KeyDriftModel", "leastKey", "I", false)
  | 19 => ("KeyDriftModel", "mostKey", "I", false)
  | 20 => ("KeyDriftModel", "fewest", "[I", true)
  | 21 => ("KeyDriftModel", "then", "[I", true)
  | 22 => ("KeyDriftModel", "isKept", "[Z", true)
  | 23 => ("KeyDriftModel", "kept", "[I", true)
  | 24 => ("KeyDriftModel", "trace", "[I", true)
  | _ => ("KeyDriftModel", "traced", "I", false)
def tyX7 : Nat → FieldType := fun k => match k with
  | 0 => .array .int
  | 1 => .array .int
  | 2 => .array .int
  | 3 => .int
  | 4 => .boolean
  | 5 => .array .int
  | 6 => .array .int
  | 7 => .array .int
  | 8 => .int
  | 9 => .int
  | 10 => .int
  | 11 => .int
  | 12 => .int
  | 13 => .int
  | 14 => .int
  | 15 => .array .int
  | 16 => .array .int
  | 17 => .int
  | 18 => .int
  | 19 => .int
  | 20 => .array .int
  | 21 => .array .int
  | 22 => .array .boolean
  | 23 => .array .int
  | 24 => .array .int
  | _ => .int
abbrev wsX70 : List Cond := u_ws RX7 TX7 26
theorem nmX7 : ∀ a, a < 26 → ∀ b, b < 26 → a ≠ b → (TX7 a).2.1 ≠ (TX7 b).2.1 := by decide +kernel
theorem tyX7_ok : ∀ k, k < 26 → parseFieldDescriptor (TX7 k).2.2.1 = some (tyX7 k) := by decide +kernel
abbrev cX7_init : ByteArray := prog_9_method_1_code
def yX7_init : MethodName := ⟨RX7, "<init>", "()V"⟩
abbrev cX7_in : ByteArray := prog_9_method_2_code
def yX7_in : MethodName := ⟨RX7, "in", "(JJJ)Z"⟩
abbrev cX7_has : ByteArray := prog_9_method_3_code
def yX7_has : MethodName := ⟨RX7, "has", "(II)Z"⟩
abbrev cX7_ones : ByteArray := prog_9_method_4_code
def yX7_ones : MethodName := ⟨RX7, "ones", "(I)I"⟩
abbrev cX7_find : ByteArray := prog_9_method_5_code
def yX7_find : MethodName := ⟨RX7, "find", "(I)I"⟩
abbrev cX7_well : ByteArray := prog_9_method_6_code
def yX7_well : MethodName := ⟨RX7, "well", "(I)I"⟩
abbrev cX7_isRow : ByteArray := prog_9_method_7_code
def yX7_isRow : MethodName := ⟨RX7, "isRow", "(I)Z"⟩
abbrev cX7_row : ByteArray := prog_9_method_8_code
def yX7_row : MethodName := ⟨RX7, "row", "(III)I"⟩
abbrev cX7_asLane : ByteArray := prog_9_method_9_code
def yX7_asLane : MethodName := ⟨RX7, "asLane", "(II)I"⟩
abbrev cX7_set : ByteArray := prog_9_method_10_code
def yX7_set : MethodName := ⟨RX7, "set", "(III)I"⟩
abbrev cX7_copy : ByteArray := prog_9_method_11_code
def yX7_copy : MethodName := ⟨RX7, "copy", "(IIIII)I"⟩
abbrev cX7_drop : ByteArray := prog_9_method_12_code
def yX7_drop : MethodName := ⟨RX7, "drop", "(I)I"⟩
abbrev cX7_feed : ByteArray := prog_9_method_13_code
def yX7_feed : MethodName := ⟨RX7, "feed", "(I)I"⟩
abbrev cX7_nextToken : ByteArray := prog_9_method_14_code
def yX7_nextToken : MethodName := ⟨RX7, "nextToken", "()V"⟩
abbrev cX7_faults : ByteArray := prog_9_method_15_code
def yX7_faults : MethodName := ⟨RX7, "faults", "(I)Z"⟩
abbrev cX7_isLetter : ByteArray := prog_9_method_16_code
def yX7_isLetter : MethodName := ⟨RX7, "isLetter", "(I)Z"⟩
abbrev cX7_takes : ByteArray := prog_9_method_17_code
def yX7_takes : MethodName := ⟨RX7, "takes", "(I)Z"⟩
abbrev cX7_takesNumber : ByteArray := prog_9_method_18_code
def yX7_takesNumber : MethodName := ⟨RX7, "takesNumber", "(IIII)Z"⟩
abbrev cX7_readPiece : ByteArray := prog_9_method_19_code
def yX7_readPiece : MethodName := ⟨RX7, "readPiece", "()Z"⟩
abbrev cX7_readPupil : ByteArray := prog_9_method_20_code
def yX7_readPupil : MethodName := ⟨RX7, "readPupil", "(I)Z"⟩
abbrev cX7_readHall : ByteArray := prog_9_method_21_code
def yX7_readHall : MethodName := ⟨RX7, "readHall", "()Z"⟩
abbrev cX7_hall : ByteArray := prog_9_method_22_code
def yX7_hall : MethodName := ⟨RX7, "hall", "()I"⟩
abbrev cX7_fault : ByteArray := prog_9_method_23_code
def yX7_fault : MethodName := ⟨RX7, "fault", "()I"⟩
abbrev cX7_note : ByteArray := prog_9_method_24_code
def yX7_note : MethodName := ⟨RX7, "note", "()V"⟩
abbrev cX7_undo : ByteArray := prog_9_method_25_code
def yX7_undo : MethodName := ⟨RX7, "undo", "()I"⟩
abbrev cX7_over : ByteArray := prog_9_method_26_code
def yX7_over : MethodName := ⟨RX7, "over", "(I)I"⟩
abbrev cX7_shiftIn : ByteArray := prog_9_method_27_code
def yX7_shiftIn : MethodName := ⟨RX7, "shiftIn", "(I)I"⟩
abbrev cX7_nights : ByteArray := prog_9_method_28_code
def yX7_nights : MethodName := ⟨RX7, "nights", "(I)I"⟩
abbrev cX7_thunder : ByteArray := prog_9_method_29_code
def yX7_thunder : MethodName := ⟨RX7, "thunder", "(I)I"⟩
abbrev cX7_tune : ByteArray := prog_9_method_30_code
def yX7_tune : MethodName := ⟨RX7, "tune", "()I"⟩
abbrev cX7_isPupil : ByteArray := prog_9_method_31_code
def yX7_isPupil : MethodName := ⟨RX7, "isPupil", "(I)Z"⟩
abbrev cX7_isPiece : ByteArray := prog_9_method_32_code
def yX7_isPiece : MethodName := ⟨RX7, "isPiece", "(I)Z"⟩
abbrev cX7_learn : ByteArray := prog_9_method_33_code
def yX7_learn : MethodName := ⟨RX7, "learn", "(I)I"⟩
abbrev cX7_piece : ByteArray := prog_9_method_34_code
def yX7_piece : MethodName := ⟨RX7, "piece", "(II)I"⟩
abbrev cX7_biasBy : ByteArray := prog_9_method_35_code
def yX7_biasBy : MethodName := ⟨RX7, "biasBy", "(II)I"⟩
abbrev cX7_biasOf : ByteArray := prog_9_method_36_code
def yX7_biasOf : MethodName := ⟨RX7, "biasOf", "(I)I"⟩
abbrev cX7_pupil : ByteArray := prog_9_method_37_code
def yX7_pupil : MethodName := ⟨RX7, "pupil", "(II)I"⟩
abbrev cX7_reaches : ByteArray := prog_9_method_38_code
def yX7_reaches : MethodName := ⟨RX7, "reaches", "(II)Z"⟩
abbrev cX7_plays : ByteArray := prog_9_method_39_code
def yX7_plays : MethodName := ⟨RX7, "plays", "(III)I"⟩
abbrev cX7_heardBy : ByteArray := prog_9_method_40_code
def yX7_heardBy : MethodName := ⟨RX7, "heardBy", "(III)I"⟩
abbrev cX7_heard : ByteArray := prog_9_method_41_code
def yX7_heard : MethodName := ⟨RX7, "heard", "(III)I"⟩
abbrev cX7_strike : ByteArray := prog_9_method_42_code
def yX7_strike : MethodName := ⟨RX7, "strike", "(I)I"⟩
abbrev cX7_soonBy : ByteArray := prog_9_method_43_code
def yX7_soonBy : MethodName := ⟨RX7, "soonBy", "(II)I"⟩
abbrev cX7_soon : ByteArray := prog_9_method_44_code
def yX7_soon : MethodName := ⟨RX7, "soon", "(I)I"⟩
abbrev cX7_together : ByteArray := prog_9_method_45_code
def yX7_together : MethodName := ⟨RX7, "together", "(II)I"⟩
abbrev cX7_itself : ByteArray := prog_9_method_46_code
def yX7_itself : MethodName := ⟨RX7, "itself", "()I"⟩
abbrev cX7_nightsOf : ByteArray := prog_9_method_47_code
def yX7_nightsOf : MethodName := ⟨RX7, "nightsOf", "(II)I"⟩
abbrev cX7_lacks : ByteArray := prog_9_method_48_code
def yX7_lacks : MethodName := ⟨RX7, "lacks", "(III)I"⟩
abbrev cX7_struck : ByteArray := prog_9_method_49_code
def yX7_struck : MethodName := ⟨RX7, "struck", "(IIII)I"⟩
abbrev cX7_isLesson : ByteArray := prog_9_method_50_code
def yX7_isLesson : MethodName := ⟨RX7, "isLesson", "(II)Z"⟩
abbrev cX7_lessons : ByteArray := prog_9_method_51_code
def yX7_lessons : MethodName := ⟨RX7, "lessons", "(II)I"⟩
abbrev cX7_isNight : ByteArray := prog_9_method_52_code
def yX7_isNight : MethodName := ⟨RX7, "isNight", "(II)Z"⟩
abbrev cX7_programme : ByteArray := prog_9_method_53_code
def yX7_programme : MethodName := ⟨RX7, "programme", "(II)I"⟩
abbrev cX7_chords : ByteArray := prog_9_method_54_code
def yX7_chords : MethodName := ⟨RX7, "chords", "(I)I"⟩
abbrev cX7_who : ByteArray := prog_9_method_55_code
def yX7_who : MethodName := ⟨RX7, "who", "(IIII)I"⟩
abbrev cX7_tunings : ByteArray := prog_9_method_56_code
def yX7_tunings : MethodName := ⟨RX7, "tunings", "(II)I"⟩
abbrev cX7_other : ByteArray := prog_9_method_57_code
def yX7_other : MethodName := ⟨RX7, "other", "(II)I"⟩
abbrev cX7_thunderOdds : ByteArray := prog_9_method_58_code
def yX7_thunderOdds : MethodName := ⟨RX7, "thunderOdds", "(IIII)J"⟩
abbrev cX7_drawn : ByteArray := prog_9_method_59_code
def yX7_drawn : MethodName := ⟨RX7, "drawn", "(III)I"⟩
abbrev cX7_image : ByteArray := prog_9_method_60_code
def yX7_image : MethodName := ⟨RX7, "image", "(I)I"⟩
abbrev cX7_restore : ByteArray := prog_9_method_61_code
def yX7_restore : MethodName := ⟨RX7, "restore", "(I)I"⟩
abbrev cX7_kind : ByteArray := prog_9_method_62_code
def yX7_kind : MethodName := ⟨RX7, "kind", "(I)I"⟩
abbrev cX7_isKind : ByteArray := prog_9_method_63_code
def yX7_isKind : MethodName := ⟨RX7, "isKind", "(II)Z"⟩
abbrev cX7_as : ByteArray := prog_9_method_64_code
def yX7_as : MethodName := ⟨RX7, "as", "(II)I"⟩
abbrev cX7_begin : ByteArray := prog_9_method_65_code
def yX7_begin : MethodName := ⟨RX7, "begin", "(I)V"⟩
abbrev cX7_lent : ByteArray := prog_9_method_66_code
def yX7_lent : MethodName := ⟨RX7, "lent", "(II)I"⟩
abbrev cX7_playerMark : ByteArray := prog_9_method_67_code
def yX7_playerMark : MethodName := ⟨RX7, "playerMark", "(I)I"⟩
abbrev cX7_carrierSize : ByteArray := prog_9_method_68_code
def yX7_carrierSize : MethodName := ⟨RX7, "carrierSize", "(I)I"⟩
abbrev cX7_sizeOfCarrier : ByteArray := prog_9_method_69_code
def yX7_sizeOfCarrier : MethodName := ⟨RX7, "sizeOfCarrier", "(I)I"⟩
abbrev cX7_markOf : ByteArray := prog_9_method_70_code
def yX7_markOf : MethodName := ⟨RX7, "markOf", "(I)I"⟩
abbrev cX7_playerSize : ByteArray := prog_9_method_71_code
def yX7_playerSize : MethodName := ⟨RX7, "playerSize", "(I)I"⟩
abbrev cX7_sizeOf : ByteArray := prog_9_method_72_code
def yX7_sizeOf : MethodName := ⟨RX7, "sizeOf", "(I)I"⟩
abbrev cX7_ask : ByteArray := prog_9_method_73_code
def yX7_ask : MethodName := ⟨RX7, "ask", "(II)I"⟩
abbrev cX7_trace : ByteArray := prog_9_method_74_code
def yX7_trace : MethodName := ⟨RX7, "trace", "(I)I"⟩
abbrev cX7_count : ByteArray := prog_9_method_75_code
def yX7_count : MethodName := ⟨RX7, "count", "(I)I"⟩
abbrev cX7_status : ByteArray := prog_9_method_76_code
def yX7_status : MethodName := ⟨RX7, "status", "()I"⟩
def RJ6 : String := "java/lang/Integer"
def TJ6 : u_T := fun k => match k with
  | _ => ("", "", "", false)
def tyJ6 : Nat → FieldType := fun k => match k with
  | _ => .int
abbrev wsJ60 : List Cond := u_ws RJ6 TJ6 0
theorem nmJ6 : ∀ a, a < 0 → ∀ b, b < 0 → a ≠ b → (TJ6 a).2.1 ≠ (TJ6 b).2.1 := by decide +kernel
theorem tyJ6_ok : ∀ k, k < 0 → parseFieldDescriptor (TJ6 k).2.2.1 = some (tyJ6 k) := by decide +kernel
abbrev cJ6_bitCount_0f7a4 : ByteArray := prog_10_method_49_code
def yJ6_bitCount_0f7a4 : MethodName := ⟨RJ6, "bitCount", "(I)I"⟩
def RJ9 : String := "java/lang/Math"
def TJ9 : u_T := fun k => match k with
  | _ => ("", "", "", false)
def tyJ9 : Nat → FieldType := fun k => match k with
  | _ => .int
abbrev wsJ90 : List Cond := u_ws RJ9 TJ9 0
theorem nmJ9 : ∀ a, a < 0 → ∀ b, b < 0 → a ≠ b → (TJ9 a).2.1 ≠ (TJ9 b).2.1 := by decide +kernel
theorem tyJ9_ok : ∀ k, k < 0 → parseFieldDescriptor (TJ9 k).2.2.1 = some (tyJ9 k) := by decide +kernel
abbrev cJ9_max_7cf53 : ByteArray := prog_11_method_65_code
def yJ9_max_7cf53 : MethodName := ⟨RJ9, "max", "(II)I"⟩
abbrev cJ9_min_7cf53 : ByteArray := prog_11_method_69_code
def yJ9_min_7cf53 : MethodName := ⟨RJ9, "min", "(II)I"⟩
def RJ10 : String := "java/lang/System"
def TJ10 : u_T := fun k => match k with
  | _ => ("", "", "", false)
def tyJ10 : Nat → FieldType := fun k => match k with
  | _ => .int
abbrev wsJ100 : List Cond := u_ws RJ10 TJ10 0
theorem nmJ10 : ∀ a, a < 0 → ∀ b, b < 0 → a ≠ b → (TJ10 a).2.1 ≠ (TJ10 b).2.1 := by decide +kernel
theorem tyJ10_ok : ∀ k, k < 0 → parseFieldDescriptor (TJ10 k).2.2.1 = some (tyJ10 k) := by decide +kernel
def RJ7 : String := "java/util/Arrays"
def TJ7 : u_T := fun k => match k with
  | _ => ("", "", "", false)
def tyJ7 : Nat → FieldType := fun k => match k with
  | _ => .int
abbrev wsJ70 : List Cond := u_ws RJ7 TJ7 0
theorem nmJ7 : ∀ a, a < 0 → ∀ b, b < 0 → a ≠ b → (TJ7 a).2.1 ≠ (TJ7 b).2.1 := by decide +kernel
theorem tyJ7_ok : ∀ k, k < 0 → parseFieldDescriptor (TJ7 k).2.2.1 = some (tyJ7 k) := by decide +kernel
abbrev cJ7_fill_53178 : ByteArray := prog_13_method_103_code
def yJ7_fill_53178 : MethodName := ⟨RJ7, "fill", "([II)V"⟩
def RL : String := "KeyDriftLaw"
abbrev cL_law : ByteArray := code
def yL_law : MethodName := ⟨RL, "law", "([I)Z"⟩
abbrev vwCl : List vw_C := [(RX0, TX0, 5), (RX1, TX1, 6), (RX2, TX2, 4), (RX3, TX3, 11), (RX4, TX4, 3), (RX5, TX5, 6), (RX6, TX6, 9), (RX7, TX7, 26)]
end
section
theorem dX0_init_0 : decode cX0_init 0 = .ok (.aload_n 0, 1) := by decide +kernel
theorem dX0_init_1 : decode cX0_init 1 = .ok (.invokespecial 1, 3) := by decide +kernel
theorem dX0_init_4 : decode cX0_init 4 = .ok (.aload_n 0, 1) := by decide +kernel
theorem dX0_init_5 : decode cX0_init 5 = .ok (.bipush 24, 2) := by decide +kernel
theorem dX0_init_7 : decode cX0_init 7 = .ok (.newarray .int, 2) := by decide +kernel
theorem dX0_init_9 : decode cX0_init 9 = .ok (.putfield 9, 3) := by decide +kernel
theorem dX0_init_12 : decode cX0_init 12 = .ok (.aload_n 0, 1) := by decide +kernel
theorem dX0_init_13 : decode cX0_init 13 = .ok (.bipush 24, 2) := by decide +kernel
theorem dX0_init_15 : decode cX0_init 15 = .ok (.newarray .int, 2) := by decide +kernel
theorem dX0_init_17 : decode cX0_init 17 = .ok (.putfield 13, 3) := by decide +kernel
theorem dX0_init_20 : decode cX0_init 20 = .ok (.aload_n 0, 1) := by decide +kernel
theorem dX0_init_21 : decode cX0_init 21 = .ok (.bipush 24, 2) := by decide +kernel
theorem dX0_init_23 : decode cX0_init 23 = .ok (.newarray .int, 2) := by decide +kernel
theorem dX0_init_25 : decode cX0_init 25 = .ok (.putfield 16, 3) := by decide +kernel
theorem dX0_init_28 : decode cX0_init 28 = .ok (.return_, 1) := by decide +kernel
theorem dX0_clear_0 : decode cX0_clear 0 = .ok (.aload_n 0, 1) := by decide +kernel
theorem dX0_clear_1 : decode cX0_clear 1 = .ok (.iconst 0, 1) := by decide +kernel
theorem dX0_clear_2 : decode cX0_clear 2 = .ok (.putfield 19, 3) := by decide +kernel
theorem dX0_clear_5 : decode cX0_clear 5 = .ok (.return_, 1) := by decide +kernel
theorem dX0_keep_0 : decode cX0_keep 0 = .ok (.aload_n 0, 1) := by decide +kernel
theorem dX0_keep_1 : decode cX0_keep 1 = .ok (.getfield 9, 3) := by decide +kernel
theorem dX0_keep_4 : decode cX0_keep 4 = .ok (.aload_n 0, 1) := by decide +kernel
theorem dX0_keep_5 : decode cX0_keep 5 = .ok (.getfield 23, 3) := by decide +kernel
theorem dX0_keep_8 : decode cX0_keep 8 = .ok (.iload_n 1, 1) := by decide +kernel
theorem dX0_keep_9 : decode cX0_keep 9 = .ok (.iastore, 1) := by decide +kernel
theorem dX0_keep_10 : decode cX0_keep 10 = .ok (.aload_n 0, 1) := by decide +kernel
theorem dX0_keep_11 : decode cX0_keep 11 = .ok (.getfield 13, 3) := by decide +kernel
theorem dX0_keep_14 : decode cX0_keep 14 = .ok (.aload_n 0, 1) := by decide +kernel
theorem dX0_keep_15 : decode cX0_keep 15 = .ok (.getfield 23, 3) := by decide +kernel
theorem dX0_keep_18 : decode cX0_keep 18 = .ok (.iload_n 2, 1) := by decide +kernel
theorem dX0_keep_19 : decode cX0_keep 19 = .ok (.iastore, 1) := by decide +kernel
theorem dX0_keep_20 : decode cX0_keep 20 = .ok (.aload_n 0, 1) := by decide +kernel
theorem dX0_keep_21 : decode cX0_keep 21 = .ok (.getfield 16, 3) := by decide +kernel
theorem dX0_keep_24 : decode cX0_keep 24 = .ok (.aload_n 0, 1) := by decide +kernel
theorem dX0_keep_25 : decode cX0_keep 25 = .ok (.getfield 23, 3) := by decide +kernel
theorem dX0_keep_28 : decode cX0_keep 28 = .ok (.iload_n 3, 1) := by decide +kernel
theorem dX0_keep_29 : decode cX0_keep 29 = .ok (.iastore, 1) := by decide +kernel
theorem dX0_keep_30 : decode cX0_keep 30 = .ok (.aload_n 0, 1) := by decide +kernel
theorem dX0_keep_31 : decode cX0_keep 31 = .ok (.aload_n 0, 1) := by decide +kernel
theorem dX0_keep_32 : decode cX0_keep 32 = .ok (.getfield 23, 3) := by decide +kernel
theorem dX0_keep_35 : decode cX0_keep 35 = .ok (.iconst 1, 1) := by decide +kernel
theorem dX0_keep_36 : decode cX0_keep 36 = .ok (.iadd, 1) := by decide +kernel
theorem dX0_keep_37 : decode cX0_keep 37 = .ok (.bipush 24, 2) := by decide +kernel
theorem dX0_keep_39 : decode cX0_keep 39 = .ok (.irem, 1) := by decide +kernel
theorem dX0_keep_40 : decode cX0_keep 40 = .ok (.putfield 23, 3) := by decide +kernel
theorem dX0_keep_43 : decode cX0_keep 43 = .ok (.aload_n 0, 1) := by decide +kernel
theorem dX0_keep_44 : decode cX0_keep 44 = .ok (.aload_n 0, 1) := by decide +kernel
theorem dX0_keep_45 : decode cX0_keep 45 = .ok (.getfield 19, 3) := by decide +kernel
theorem dX0_keep_48 : decode cX0_keep 48 = .ok (.iconst 1, 1) := by decide +kernel
theorem dX0_keep_49 : decode cX0_keep 49 = .ok (.iadd, 1) := by decide +kernel
theorem dX0_keep_50 : decode cX0_keep 50 = .ok (.bipush 24, 2) := by decide +kernel
theorem dX0_keep_52 : decode cX0_keep 52 = .ok (.invokestatic 26, 3) := by decide +kernel
theorem dX0_keep_55 : decode cX0_keep 55 = .ok (.putfield 19, 3) := by decide +kernel
theorem dX0_keep_58 : decode cX0_keep 58 = .ok (.return_, 1) := by decide +kernel
theorem dX0_takeBack_0 : decode cX0_takeBack 0 = .ok (.aload_n 0, 1) := by decide +kernel
theorem dX0_takeBack_1 : decode cX0_takeBack 1 = .ok (.aload_n 0, 1) := by decide +kernel
theorem dX0_takeBack_2 : decode cX0_takeBack 2 = .ok (.getfield 23, 3) := by decide +kernel
theorem dX0_takeBack_5 : decode cX0_takeBack 5 = .ok (.bipush 24, 2) := by decide +kernel
theorem dX0_takeBack_7 : decode cX0_takeBack 7 = .ok (.iadd, 1) := by decide +kernel
theorem dX0_takeBack_8 : decode cX0_takeBack 8 = .ok (.iconst 1, 1) := by decide +kernel
theorem dX0_takeBack_9 : decode cX0_takeBack 9 = .ok (.isub, 1) := by decide +kernel
theorem dX0_takeBack_10 : decode cX0_takeBack 10 = .ok (.bipush 24, 2) := by decide +kernel
theorem dX0_takeBack_12 : decode cX0_takeBack 12 = .ok (.irem, 1) := by decide +kernel
theorem dX0_takeBack_13 : decode cX0_takeBack 13 = .ok (.putfield 23, 3) := by decide +kernel
theorem dX0_takeBack_16 : decode cX0_takeBack 16 = .ok (.aload_n 0, 1) := by decide +kernel
theorem dX0_takeBack_17 : decode cX0_takeBack 17 = .ok (.dup, 1) := by decide +kernel
theorem dX0_takeBack_18 : decode cX0_takeBack 18 = .ok (.getfield 19, 3) := by decide +kernel
theorem dX0_takeBack_21 : decode cX0_takeBack 21 = .ok (.iconst 1, 1) := by decide +kernel
theorem dX0_takeBack_22 : decode cX0_takeBack 22 = .ok (.isub, 1) := by decide +kernel
theorem dX0_takeBack_23 : decode cX0_takeBack 23 = .ok (.putfield 19, 3) := by decide +kernel
theorem dX0_takeBack_26 : decode cX0_takeBack 26 = .ok (.aload_n 0, 1) := by decide +kernel
theorem dX0_takeBack_27 : decode cX0_takeBack 27 = .ok (.getfield 9, 3) := by decide +kernel
theorem dX0_takeBack_30 : decode cX0_takeBack 30 = .ok (.aload_n 0, 1) := by decide +kernel
theorem dX0_takeBack_31 : decode cX0_takeBack 31 = .ok (.getfield 23, 3) := by decide +kernel
theorem dX0_takeBack_34 : decode cX0_takeBack 34 = .ok (.iaload, 1) := by decide +kernel
theorem dX0_takeBack_35 : decode cX0_takeBack 35 = .ok (.iconst 2, 1) := by decide +kernel
theorem dX0_takeBack_36 : decode cX0_takeBack 36 = .ok (.if_icmp .ne 27, 3) := by decide +kernel
theorem dX0_takeBack_39 : decode cX0_takeBack 39 = .ok (.aload_n 1, 1) := by decide +kernel
theorem dX0_takeBack_40 : decode cX0_takeBack 40 = .ok (.getfield 32, 3) := by decide +kernel
theorem dX0_takeBack_43 : decode cX0_takeBack 43 = .ok (.aload_n 0, 1) := by decide +kernel
theorem dX0_takeBack_44 : decode cX0_takeBack 44 = .ok (.getfield 13, 3) := by decide +kernel
theorem dX0_takeBack_47 : decode cX0_takeBack 47 = .ok (.aload_n 0, 1) := by decide +kernel
theorem dX0_takeBack_48 : decode cX0_takeBack 48 = .ok (.getfield 23, 3) := by decide +kernel
theorem dX0_takeBack_51 : decode cX0_takeBack 51 = .ok (.iaload, 1) := by decide +kernel
theorem dX0_takeBack_52 : decode cX0_takeBack 52 = .ok (.aload_n 0, 1) := by decide +kernel
theorem dX0_takeBack_53 : decode cX0_takeBack 53 = .ok (.getfield 16, 3) := by decide +kernel
theorem dX0_takeBack_56 : decode cX0_takeBack 56 = .ok (.aload_n 0, 1) := by decide +kernel
theorem dX0_takeBack_57 : decode cX0_takeBack 57 = .ok (.getfield 23, 3) := by decide +kernel
theorem dX0_takeBack_60 : decode cX0_takeBack 60 = .ok (.iaload, 1) := by decide +kernel
theorem dX0_takeBack_61 : decode cX0_takeBack 61 = .ok (.iastore, 1) := by decide +kernel
theorem dX0_takeBack_62 : decode cX0_takeBack 62 = .ok (.return_, 1) := by decide +kernel
theorem dX0_takeBack_63 : decode cX0_takeBack 63 = .ok (.aload_n 1, 1) := by decide +kernel
theorem dX0_takeBack_64 : decode cX0_takeBack 64 = .ok (.aload_n 0, 1) := by decide +kernel
theorem dX0_takeBack_65 : decode cX0_takeBack 65 = .ok (.getfield 16, 3) := by decide +kernel
theorem dX0_takeBack_68 : decode cX0_takeBack 68 = .ok (.aload_n 0, 1) := by decide +kernel
theorem dX0_takeBack_69 : decode cX0_takeBack 69 = .ok (.getfield 23, 3) := by decide +kernel
theorem dX0_takeBack_72 : decode cX0_takeBack 72 = .ok (.iaload, 1) := by decide +kernel
theorem dX0_takeBack_73 : decode cX0_takeBack 73 = .ok (.putfield 37, 3) := by decide +kernel
theorem dX0_takeBack_76 : decode cX0_takeBack 76 = .ok (.aload_n 0, 1) := by decide +kernel
theorem dX0_takeBack_77 : decode cX0_takeBack 77 = .ok (.getfield 9, 3) := by decide +kernel
theorem dX0_takeBack_80 : decode cX0_takeBack 80 = .ok (.aload_n 0, 1) := by decide +kernel
theorem dX0_takeBack_81 : decode cX0_takeBack 81 = .ok (.getfield 23, 3) := by decide +kernel
theorem dX0_takeBack_84 : decode cX0_takeBack 84 = .ok (.iaload, 1) := by decide +kernel
theorem dX0_takeBack_85 : decode cX0_takeBack 85 = .ok (.ifCond .ne 13, 3) := by decide +kernel
theorem dX0_takeBack_88 : decode cX0_takeBack 88 = .ok (.aload_n 1, 1) := by decide +kernel
theorem dX0_takeBack_89 : decode cX0_takeBack 89 = .ok (.dup, 1) := by decide +kernel
theorem dX0_takeBack_90 : decode cX0_takeBack 90 = .ok (.getfield 40, 3) := by decide +kernel
theorem dX0_takeBack_93 : decode cX0_takeBack 93 = .ok (.iconst 1, 1) := by decide +kernel
theorem dX0_takeBack_94 : decode cX0_takeBack 94 = .ok (.isub, 1) := by decide +kernel
theorem dX0_takeBack_95 : decode cX0_takeBack 95 = .ok (.putfield 40, 3) := by decide +kernel
theorem dX0_takeBack_98 : decode cX0_takeBack 98 = .ok (.return_, 1) := by decide +kernel
theorem dX1_init_0 : decode cX1_init 0 = .ok (.aload_n 0, 1) := by decide +kernel
theorem dX1_init_1 : decode cX1_init 1 = .ok (.invokespecial 3, 3) := by decide +kernel
theorem dX1_init_4 : decode cX1_init 4 = .ok (.aload_n 0, 1) := by decide +kernel
theorem dX1_init_5 : decode cX1_init 5 = .ok (.bipush 16, 2) := by decide +kernel
theorem dX1_init_7 : decode cX1_init 7 = .ok (.newarray .int, 2) := by decide +kernel
theorem dX1_init_9 : decode cX1_init 9 = .ok (.putfield 11, 3) := by decide +kernel
theorem dX1_init_12 : decode cX1_init 12 = .ok (.return_, 1) := by decide +kernel
theorem dX1_isOfKind_0 : decode cX1_isOfKind 0 = .ok (.iload_n 1, 1) := by decide +kernel
theorem dX1_isOfKind_1 : decode cX1_isOfKind 1 = .ok (.ifCond .eq 8, 3) := by decide +kernel
theorem dX1_isOfKind_4 : decode cX1_isOfKind 4 = .ok (.iload_n 0, 1) := by decide +kernel
theorem dX1_isOfKind_5 : decode cX1_isOfKind 5 = .ok (.iload_n 1, 1) := by decide +kernel
theorem dX1_isOfKind_6 : decode cX1_isOfKind 6 = .ok (.if_icmp .ne 5, 3) := by decide +kernel
theorem dX1_isOfKind_9 : decode cX1_isOfKind 9 = .ok (.iconst 1, 1) := by decide +kernel
theorem dX1_isOfKind_10 : decode cX1_isOfKind 10 = .ok (.ireturn, 1) := by decide +kernel
theorem dX1_isOfKind_11 : decode cX1_isOfKind 11 = .ok (.iload_n 0, 1) := by decide +kernel
theorem dX1_isOfKind_12 : decode cX1_isOfKind 12 = .ok (.ifCond .lt 21, 3) := by decide +kernel
theorem dX1_isOfKind_15 : decode cX1_isOfKind 15 = .ok (.iload_n 0, 1) := by decide +kernel
theorem dX1_isOfKind_16 : decode cX1_isOfKind 16 = .ok (.iconst 5, 1) := by decide +kernel
theorem dX1_isOfKind_17 : decode cX1_isOfKind 17 = .ok (.if_icmp .gt 16, 3) := by decide +kernel
theorem dX1_isOfKind_20 : decode cX1_isOfKind 20 = .ok (.getstatic 15, 3) := by decide +kernel
theorem dX1_isOfKind_23 : decode cX1_isOfKind 23 = .ok (.iload_n 0, 1) := by decide +kernel
theorem dX1_isOfKind_24 : decode cX1_isOfKind 24 = .ok (.iaload, 1) := by decide +kernel
theorem dX1_isOfKind_25 : decode cX1_isOfKind 25 = .ok (.iload_n 1, 1) := by decide +kernel
theorem dX1_isOfKind_26 : decode cX1_isOfKind 26 = .ok (.if_icmp .ne 7, 3) := by decide +kernel
theorem dX1_isOfKind_29 : decode cX1_isOfKind 29 = .ok (.iconst 1, 1) := by decide +kernel
theorem dX1_isOfKind_30 : decode cX1_isOfKind 30 = .ok (.goto 4, 3) := by decide +kernel
theorem dX1_isOfKind_33 : decode cX1_isOfKind 33 = .ok (.iconst 0, 1) := by decide +kernel
theorem dX1_isOfKind_34 : decode cX1_isOfKind 34 = .ok (.ireturn, 1) := by decide +kernel
theorem dX1_begin_0 : decode cX1_begin 0 = .ok (.aload_n 0, 1) := by decide +kernel
theorem dX1_begin_1 : decode cX1_begin 1 = .ok (.iload_n 1, 1) := by decide +kernel
theorem dX1_begin_2 : decode cX1_begin 2 = .ok (.putfield 18, 3) := by decide +kernel
theorem dX1_begin_5 : decode cX1_begin 5 = .ok (.aload_n 0, 1) := by decide +kernel
theorem dX1_begin_6 : decode cX1_begin 6 = .ok (.iload_n 2, 1) := by decide +kernel
theorem dX1_begin_7 : decode cX1_begin 7 = .ok (.putfield 22, 3) := by decide +kernel
theorem dX1_begin_10 : decode cX1_begin 10 = .ok (.aload_n 0, 1) := by decide +kernel
theorem dX1_begin_11 : decode cX1_begin 11 = .ok (.iload_n 3, 1) := by decide +kernel
theorem dX1_begin_12 : decode cX1_begin 12 = .ok (.putfield 25, 3) := by decide +kernel
theorem dX1_begin_15 : decode cX1_begin 15 = .ok (.aload_n 0, 1) := by decide +kernel
theorem dX1_begin_16 : decode cX1_begin 16 = .ok (.iload 4, 2) := by decide +kernel
theorem dX1_begin_18 : decode cX1_begin 18 = .ok (.putfield 28, 3) := by decide +kernel
theorem dX1_begin_21 : decode cX1_begin 21 = .ok (.aload_n 0, 1) := by decide +kernel
theorem dX1_begin_22 : decode cX1_begin 22 = .ok (.iconst 0, 1) := by decide +kernel
theorem dX1_begin_23 : decode cX1_begin 23 = .ok (.putfield 31, 3) := by decide +kernel
theorem dX1_begin_26 : decode cX1_begin 26 = .ok (.return_, 1) := by decide +kernel
theorem dX1_sizeOfOne_0 : decode cX1_sizeOfOne 0 = .ok (.aload_n 0, 1) := by decide +kernel
theorem dX1_sizeOfOne_1 : decode cX1_sizeOfOne 1 = .ok (.getfield 22, 3) := by decide +kernel
theorem dX1_sizeOfOne_4 : decode cX1_sizeOfOne 4 = .ok (.tableswitch 49 2 5 #[32, 49, 44, 44], 32) := by decide +kernel
theorem dX1_sizeOfOne_36 : decode cX1_sizeOfOne 36 = .ok (.aload_n 0, 1) := by decide +kernel
theorem dX1_sizeOfOne_37 : decode cX1_sizeOfOne 37 = .ok (.bipush 12, 2) := by decide +kernel
theorem dX1_sizeOfOne_39 : decode cX1_sizeOfOne 39 = .ok (.invokevirtual 34, 3) := by decide +kernel
theorem dX1_sizeOfOne_42 : decode cX1_sizeOfOne 42 = .ok (.aload_n 0, 1) := by decide +kernel
theorem dX1_sizeOfOne_43 : decode cX1_sizeOfOne 43 = .ok (.invokevirtual 38, 3) := by decide +kernel
theorem dX1_sizeOfOne_46 : decode cX1_sizeOfOne 46 = .ok (.ineg, 1) := by decide +kernel
theorem dX1_sizeOfOne_47 : decode cX1_sizeOfOne 47 = .ok (.ireturn, 1) := by decide +kernel
theorem dX1_sizeOfOne_48 : decode cX1_sizeOfOne 48 = .ok (.aload_n 0, 1) := by decide +kernel
theorem dX1_sizeOfOne_49 : decode cX1_sizeOfOne 49 = .ok (.invokevirtual 42, 3) := by decide +kernel
theorem dX1_sizeOfOne_52 : decode cX1_sizeOfOne 52 = .ok (.ireturn, 1) := by decide +kernel
theorem dX1_sizeOfOne_53 : decode cX1_sizeOfOne 53 = .ok (.aload_n 0, 1) := by decide +kernel
theorem dX1_sizeOfOne_54 : decode cX1_sizeOfOne 54 = .ok (.invokevirtual 38, 3) := by decide +kernel
theorem dX1_sizeOfOne_57 : decode cX1_sizeOfOne 57 = .ok (.ireturn, 1) := by decide +kernel
theorem dX1_markOfOne_0 : decode cX1_markOfOne 0 = .ok (.aload_n 0, 1) := by decide +kernel
theorem dX1_markOfOne_1 : decode cX1_markOfOne 1 = .ok (.getfield 22, 3) := by decide +kernel
theorem dX1_markOfOne_4 : decode cX1_markOfOne 4 = .ok (.iconst 4, 1) := by decide +kernel
theorem dX1_markOfOne_5 : decode cX1_markOfOne 5 = .ok (.invokestatic 45, 3) := by decide +kernel
theorem dX1_markOfOne_8 : decode cX1_markOfOne 8 = .ok (.ifCond .eq 10, 3) := by decide +kernel
theorem dX1_markOfOne_11 : decode cX1_markOfOne 11 = .ok (.aload_n 0, 1) := by decide +kernel
theorem dX1_markOfOne_12 : decode cX1_markOfOne 12 = .ok (.invokevirtual 49, 3) := by decide +kernel
theorem dX1_markOfOne_15 : decode cX1_markOfOne 15 = .ok (.goto 7, 3) := by decide +kernel
theorem dX1_markOfOne_18 : decode cX1_markOfOne 18 = .ok (.aload_n 0, 1) := by decide +kernel
theorem dX1_markOfOne_19 : decode cX1_markOfOne 19 = .ok (.invokevirtual 52, 3) := by decide +kernel
theorem dX1_markOfOne_22 : decode cX1_markOfOne 22 = .ok (.ireturn, 1) := by decide +kernel
theorem dX1_sizeOfCarrier_0 : decode cX1_sizeOfCarrier 0 = .ok (.aload_n 0, 1) := by decide +kernel
theorem dX1_sizeOfCarrier_1 : decode cX1_sizeOfCarrier 1 = .ok (.getfield 22, 3) := by decide +kernel
theorem dX1_sizeOfCarrier_4 : decode cX1_sizeOfCarrier 4 = .ok (.iconst 5, 1) := by decide +kernel
theorem dX1_sizeOfCarrier_5 : decode cX1_sizeOfCarrier 5 = .ok (.if_icmp .ne 16, 3) := by decide +kernel
theorem dX1_sizeOfCarrier_8 : decode cX1_sizeOfCarrier 8 = .ok (.aload_n 0, 1) := by decide +kernel
theorem dX1_sizeOfCarrier_9 : decode cX1_sizeOfCarrier 9 = .ok (.bipush 14, 2) := by decide +kernel
theorem dX1_sizeOfCarrier_11 : decode cX1_sizeOfCarrier 11 = .ok (.invokevirtual 34, 3) := by decide +kernel
theorem dX1_sizeOfCarrier_14 : decode cX1_sizeOfCarrier 14 = .ok (.iconst 2, 1) := by decide +kernel
theorem dX1_sizeOfCarrier_15 : decode cX1_sizeOfCarrier 15 = .ok (.aload_n 0, 1) := by decide +kernel
theorem dX1_sizeOfCarrier_16 : decode cX1_sizeOfCarrier 16 = .ok (.invokevirtual 55, 3) := by decide +kernel
theorem dX1_sizeOfCarrier_19 : decode cX1_sizeOfCarrier 19 = .ok (.imul, 1) := by decide +kernel
theorem dX1_sizeOfCarrier_20 : decode cX1_sizeOfCarrier 20 = .ok (.ireturn, 1) := by decide +kernel
theorem dX1_sizeOfCarrier_21 : decode cX1_sizeOfCarrier 21 = .ok (.aload_n 0, 1) := by decide +kernel
theorem dX1_sizeOfCarrier_22 : decode cX1_sizeOfCarrier 22 = .ok (.invokevirtual 55, 3) := by decide +kernel
theorem dX1_sizeOfCarrier_25 : decode cX1_sizeOfCarrier 25 = .ok (.ireturn, 1) := by decide +kernel
theorem dX1_markOfPlayer_0 : decode cX1_markOfPlayer 0 = .ok (.aload_n 0, 1) := by decide +kernel
theorem dX1_markOfPlayer_1 : decode cX1_markOfPlayer 1 = .ok (.getfield 22, 3) := by decide +kernel
theorem dX1_markOfPlayer_4 : decode cX1_markOfPlayer 4 = .ok (.lookupswitch 56 #[(2, 28), (3, 41)], 28) := by decide +kernel
theorem dX1_markOfPlayer_32 : decode cX1_markOfPlayer 32 = .ok (.aload_n 0, 1) := by decide +kernel
theorem dX1_markOfPlayer_33 : decode cX1_markOfPlayer 33 = .ok (.bipush 24, 2) := by decide +kernel
theorem dX1_markOfPlayer_35 : decode cX1_markOfPlayer 35 = .ok (.invokevirtual 34, 3) := by decide +kernel
theorem dX1_markOfPlayer_38 : decode cX1_markOfPlayer 38 = .ok (.iconst 2, 1) := by decide +kernel
theorem dX1_markOfPlayer_39 : decode cX1_markOfPlayer 39 = .ok (.aload_n 0, 1) := by decide +kernel
theorem dX1_markOfPlayer_40 : decode cX1_markOfPlayer 40 = .ok (.invokevirtual 58, 3) := by decide +kernel
theorem dX1_markOfPlayer_43 : decode cX1_markOfPlayer 43 = .ok (.imul, 1) := by decide +kernel
theorem dX1_markOfPlayer_44 : decode cX1_markOfPlayer 44 = .ok (.ireturn, 1) := by decide +kernel
theorem dX1_markOfPlayer_45 : decode cX1_markOfPlayer 45 = .ok (.aload_n 0, 1) := by decide +kernel
theorem dX1_markOfPlayer_46 : decode cX1_markOfPlayer 46 = .ok (.bipush 22, 2) := by decide +kernel
theorem dX1_markOfPlayer_48 : decode cX1_markOfPlayer 48 = .ok (.invokevirtual 34, 3) := by decide +kernel
theorem dX1_markOfPlayer_51 : decode cX1_markOfPlayer 51 = .ok (.aload_n 0, 1) := by decide +kernel
theorem dX1_markOfPlayer_52 : decode cX1_markOfPlayer 52 = .ok (.invokevirtual 58, 3) := by decide +kernel
theorem dX1_markOfPlayer_55 : decode cX1_markOfPlayer 55 = .ok (.sipush 1000, 3) := by decide +kernel
theorem dX1_markOfPlayer_58 : decode cX1_markOfPlayer 58 = .ok (.isub, 1) := by decide +kernel
theorem dX1_markOfPlayer_59 : decode cX1_markOfPlayer 59 = .ok (.ireturn, 1) := by decide +kernel
theorem dX1_markOfPlayer_60 : decode cX1_markOfPlayer 60 = .ok (.aload_n 0, 1) := by decide +kernel
theorem dX1_markOfPlayer_61 : decode cX1_markOfPlayer 61 = .ok (.invokevirtual 58, 3) := by decide +kernel
theorem dX1_markOfPlayer_64 : decode cX1_markOfPlayer 64 = .ok (.ireturn, 1) := by decide +kernel
theorem dX1_body10_0 : decode cX1_body10 0 = .ok (.aload_n 0, 1) := by decide +kernel
theorem dX1_body10_1 : decode cX1_body10 1 = .ok (.bipush 10, 2) := by decide +kernel
theorem dX1_body10_3 : decode cX1_body10 3 = .ok (.invokevirtual 34, 3) := by decide +kernel
theorem dX1_body10_6 : decode cX1_body10 6 = .ok (.aload_n 0, 1) := by decide +kernel
theorem dX1_body10_7 : decode cX1_body10 7 = .ok (.getfield 28, 3) := by decide +kernel
theorem dX1_body10_10 : decode cX1_body10 10 = .ok (.ireturn, 1) := by decide +kernel
theorem dX1_body11_0 : decode cX1_body11 0 = .ok (.aload_n 0, 1) := by decide +kernel
theorem dX1_body11_1 : decode cX1_body11 1 = .ok (.bipush 11, 2) := by decide +kernel
theorem dX1_body11_3 : decode cX1_body11 3 = .ok (.invokevirtual 34, 3) := by decide +kernel
theorem dX1_body11_6 : decode cX1_body11 6 = .ok (.aload_n 0, 1) := by decide +kernel
theorem dX1_body11_7 : decode cX1_body11 7 = .ok (.invokevirtual 61, 3) := by decide +kernel
theorem dX1_body11_10 : decode cX1_body11 10 = .ok (.istore_n 1, 1) := by decide +kernel
theorem dX1_body11_11 : decode cX1_body11 11 = .ok (.iload_n 1, 1) := by decide +kernel
theorem dX1_body11_12 : decode cX1_body11 12 = .ok (.aload_n 0, 1) := by decide +kernel
theorem dX1_body11_13 : decode cX1_body11 13 = .ok (.invokevirtual 52, 3) := by decide +kernel
theorem dX1_body11_16 : decode cX1_body11 16 = .ok (.iadd, 1) := by decide +kernel
theorem dX1_body11_17 : decode cX1_body11 17 = .ok (.ireturn, 1) := by decide +kernel
theorem dX1_body13_0 : decode cX1_body13 0 = .ok (.aload_n 0, 1) := by decide +kernel
theorem dX1_body13_1 : decode cX1_body13 1 = .ok (.bipush 13, 2) := by decide +kernel
theorem dX1_body13_3 : decode cX1_body13 3 = .ok (.invokevirtual 34, 3) := by decide +kernel
theorem dX1_body13_6 : decode cX1_body13 6 = .ok (.aload_n 0, 1) := by decide +kernel
theorem dX1_body13_7 : decode cX1_body13 7 = .ok (.invokevirtual 61, 3) := by decide +kernel
theorem dX1_body13_10 : decode cX1_body13 10 = .ok (.bipush 100, 2) := by decide +kernel
theorem dX1_body13_12 : decode cX1_body13 12 = .ok (.isub, 1) := by decide +kernel
theorem dX1_body13_13 : decode cX1_body13 13 = .ok (.ireturn, 1) := by decide +kernel
theorem dX1_body20_0 : decode cX1_body20 0 = .ok (.aload_n 0, 1) := by decide +kernel
theorem dX1_body20_1 : decode cX1_body20 1 = .ok (.bipush 20, 2) := by decide +kernel
theorem dX1_body20_3 : decode cX1_body20 3 = .ok (.invokevirtual 34, 3) := by decide +kernel
theorem dX1_body20_6 : decode cX1_body20 6 = .ok (.aload_n 0, 1) := by decide +kernel
theorem dX1_body20_7 : decode cX1_body20 7 = .ok (.getfield 18, 3) := by decide +kernel
theorem dX1_body20_10 : decode cX1_body20 10 = .ok (.ireturn, 1) := by decide +kernel
theorem dX1_body21_0 : decode cX1_body21 0 = .ok (.aload_n 0, 1) := by decide +kernel
theorem dX1_body21_1 : decode cX1_body21 1 = .ok (.bipush 21, 2) := by decide +kernel
theorem dX1_body21_3 : decode cX1_body21 3 = .ok (.invokevirtual 34, 3) := by decide +kernel
theorem dX1_body21_6 : decode cX1_body21 6 = .ok (.aload_n 0, 1) := by decide +kernel
theorem dX1_body21_7 : decode cX1_body21 7 = .ok (.invokevirtual 64, 3) := by decide +kernel
theorem dX1_body21_10 : decode cX1_body21 10 = .ok (.aload_n 0, 1) := by decide +kernel
theorem dX1_body21_11 : decode cX1_body21 11 = .ok (.getfield 25, 3) := by decide +kernel
theorem dX1_body21_14 : decode cX1_body21 14 = .ok (.iadd, 1) := by decide +kernel
theorem dX1_body21_15 : decode cX1_body21 15 = .ok (.ireturn, 1) := by decide +kernel
theorem dX1_body23_0 : decode cX1_body23 0 = .ok (.aload_n 0, 1) := by decide +kernel
theorem dX1_body23_1 : decode cX1_body23 1 = .ok (.bipush 23, 2) := by decide +kernel
theorem dX1_body23_3 : decode cX1_body23 3 = .ok (.invokevirtual 34, 3) := by decide +kernel
theorem dX1_body23_6 : decode cX1_body23 6 = .ok (.aload_n 0, 1) := by decide +kernel
theorem dX1_body23_7 : decode cX1_body23 7 = .ok (.invokevirtual 64, 3) := by decide +kernel
theorem dX1_body23_10 : decode cX1_body23 10 = .ok (.istore_n 1, 1) := by decide +kernel
theorem dX1_body23_11 : decode cX1_body23 11 = .ok (.iload_n 1, 1) := by decide +kernel
theorem dX1_body23_12 : decode cX1_body23 12 = .ok (.aload_n 0, 1) := by decide +kernel
theorem dX1_body23_13 : decode cX1_body23 13 = .ok (.invokevirtual 42, 3) := by decide +kernel
theorem dX1_body23_16 : decode cX1_body23 16 = .ok (.isub, 1) := by decide +kernel
theorem dX1_body23_17 : decode cX1_body23 17 = .ok (.ireturn, 1) := by decide +kernel
theorem dX1_leave_0 : decode cX1_leave 0 = .ok (.aload_n 0, 1) := by decide +kernel
theorem dX1_leave_1 : decode cX1_leave 1 = .ok (.getfield 31, 3) := by decide +kernel
theorem dX1_leave_4 : decode cX1_leave 4 = .ok (.bipush 16, 2) := by decide +kernel
theorem dX1_leave_6 : decode cX1_leave 6 = .ok (.if_icmp .ge 23, 3) := by decide +kernel
theorem dX1_leave_9 : decode cX1_leave 9 = .ok (.aload_n 0, 1) := by decide +kernel
theorem dX1_leave_10 : decode cX1_leave 10 = .ok (.getfield 11, 3) := by decide +kernel
theorem dX1_leave_13 : decode cX1_leave 13 = .ok (.aload_n 0, 1) := by decide +kernel
theorem dX1_leave_14 : decode cX1_leave 14 = .ok (.getfield 31, 3) := by decide +kernel
theorem dX1_leave_17 : decode cX1_leave 17 = .ok (.iload_n 1, 1) := by decide +kernel
theorem dX1_leave_18 : decode cX1_leave 18 = .ok (.iastore, 1) := by decide +kernel
theorem dX1_leave_19 : decode cX1_leave 19 = .ok (.aload_n 0, 1) := by decide +kernel
theorem dX1_leave_20 : decode cX1_leave 20 = .ok (.dup, 1) := by decide +kernel
theorem dX1_leave_21 : decode cX1_leave 21 = .ok (.getfield 31, 3) := by decide +kernel
theorem dX1_leave_24 : decode cX1_leave 24 = .ok (.iconst 1, 1) := by decide +kernel
theorem dX1_leave_25 : decode cX1_leave 25 = .ok (.iadd, 1) := by decide +kernel
theorem dX1_leave_26 : decode cX1_leave 26 = .ok (.putfield 31, 3) := by decide +kernel
theorem dX1_leave_29 : decode cX1_leave 29 = .ok (.return_, 1) := by decide +kernel
theorem dX2_init_0 : decode cX2_init 0 = .ok (.aload_n 0, 1) := by decide +kernel
theorem dX2_init_1 : decode cX2_init 1 = .ok (.invokespecial 3, 3) := by decide +kernel
theorem dX2_init_4 : decode cX2_init 4 = .ok (.aload_n 0, 1) := by decide +kernel
theorem dX2_init_5 : decode cX2_init 5 = .ok (.iconst 5, 1) := by decide +kernel
theorem dX2_init_6 : decode cX2_init 6 = .ok (.newarray .int, 2) := by decide +kernel
theorem dX2_init_8 : decode cX2_init 8 = .ok (.putfield 11, 3) := by decide +kernel
theorem dX2_init_11 : decode cX2_init 11 = .ok (.aload_n 0, 1) := by decide +kernel
theorem dX2_init_12 : decode cX2_init 12 = .ok (.iconst 5, 1) := by decide +kernel
theorem dX2_init_13 : decode cX2_init 13 = .ok (.newarray .int, 2) := by decide +kernel
theorem dX2_init_15 : decode cX2_init 15 = .ok (.putfield 17, 3) := by decide +kernel
theorem dX2_init_18 : decode cX2_init 18 = .ok (.aload_n 0, 1) := by decide +kernel
theorem dX2_init_19 : decode cX2_init 19 = .ok (.iconst 4, 1) := by decide +kernel
theorem dX2_init_20 : decode cX2_init 20 = .ok (.newarray .int, 2) := by decide +kernel
theorem dX2_init_22 : decode cX2_init 22 = .ok (.putfield 20, 3) := by decide +kernel
theorem dX2_init_25 : decode cX2_init 25 = .ok (.aload_n 0, 1) := by decide +kernel
theorem dX2_init_26 : decode cX2_init 26 = .ok (.aload_n 1, 1) := by decide +kernel
theorem dX2_init_27 : decode cX2_init 27 = .ok (.putfield 23, 3) := by decide +kernel
theorem dX2_init_30 : decode cX2_init 30 = .ok (.return_, 1) := by decide +kernel
theorem dX2_firstNightAt_0 : decode cX2_firstNightAt 0 = .ok (.iconst 0, 1) := by decide +kernel
theorem dX2_firstNightAt_1 : decode cX2_firstNightAt 1 = .ok (.istore_n 2, 1) := by decide +kernel
theorem dX2_firstNightAt_2 : decode cX2_firstNightAt 2 = .ok (.iload_n 2, 1) := by decide +kernel
theorem dX2_firstNightAt_3 : decode cX2_firstNightAt 3 = .ok (.bipush 60, 2) := by decide +kernel
theorem dX2_firstNightAt_5 : decode cX2_firstNightAt 5 = .ok (.if_icmp .gt 23, 3) := by decide +kernel
theorem dX2_firstNightAt_8 : decode cX2_firstNightAt 8 = .ok (.aload_n 0, 1) := by decide +kernel
theorem dX2_firstNightAt_9 : decode cX2_firstNightAt 9 = .ok (.getfield 23, 3) := by decide +kernel
theorem dX2_firstNightAt_12 : decode cX2_firstNightAt 12 = .ok (.iload_n 2, 1) := by decide +kernel
theorem dX2_firstNightAt_13 : decode cX2_firstNightAt 13 = .ok (.invokevirtual 27, 3) := by decide +kernel
theorem dX2_firstNightAt_16 : decode cX2_firstNightAt 16 = .ok (.iload_n 1, 1) := by decide +kernel
theorem dX2_firstNightAt_17 : decode cX2_firstNightAt 17 = .ok (.if_icmp .ne 5, 3) := by decide +kernel
theorem dX2_firstNightAt_20 : decode cX2_firstNightAt 20 = .ok (.iload_n 2, 1) := by decide +kernel
theorem dX2_firstNightAt_21 : decode cX2_firstNightAt 21 = .ok (.ireturn, 1) := by decide +kernel
theorem dX2_firstNightAt_22 : decode cX2_firstNightAt 22 = .ok (.iinc 2 1, 3) := by decide +kernel
theorem dX2_firstNightAt_25 : decode cX2_firstNightAt 25 = .ok (.goto (-23), 3) := by decide +kernel
theorem dX2_firstNightAt_28 : decode cX2_firstNightAt 28 = .ok (.ldc 31, 2) := by decide +kernel
theorem dX2_firstNightAt_30 : decode cX2_firstNightAt 30 = .ok (.ireturn, 1) := by decide +kernel
theorem dX2_nightsAt_0 : decode cX2_nightsAt 0 = .ok (.iconst 0, 1) := by decide +kernel
theorem dX2_nightsAt_1 : decode cX2_nightsAt 1 = .ok (.istore_n 3, 1) := by decide +kernel
theorem dX2_nightsAt_2 : decode cX2_nightsAt 2 = .ok (.iconst 0, 1) := by decide +kernel
theorem dX2_nightsAt_3 : decode cX2_nightsAt 3 = .ok (.istore 4, 2) := by decide +kernel
theorem dX2_nightsAt_5 : decode cX2_nightsAt 5 = .ok (.iload 4, 2) := by decide +kernel
theorem dX2_nightsAt_7 : decode cX2_nightsAt 7 = .ok (.iload_n 2, 1) := by decide +kernel
theorem dX2_nightsAt_8 : decode cX2_nightsAt 8 = .ok (.if_icmp .ge 29, 3) := by decide +kernel
theorem dX2_nightsAt_11 : decode cX2_nightsAt 11 = .ok (.aload_n 0, 1) := by decide +kernel
theorem dX2_nightsAt_12 : decode cX2_nightsAt 12 = .ok (.getfield 23, 3) := by decide +kernel
theorem dX2_nightsAt_15 : decode cX2_nightsAt 15 = .ok (.iload 4, 2) := by decide +kernel
theorem dX2_nightsAt_17 : decode cX2_nightsAt 17 = .ok (.invokevirtual 27, 3) := by decide +kernel
theorem dX2_nightsAt_20 : decode cX2_nightsAt 20 = .ok (.iload_n 1, 1) := by decide +kernel
theorem dX2_nightsAt_21 : decode cX2_nightsAt 21 = .ok (.if_icmp .ne 10, 3) := by decide +kernel
theorem dX2_nightsAt_24 : decode cX2_nightsAt 24 = .ok (.iload_n 3, 1) := by decide +kernel
theorem dX2_nightsAt_25 : decode cX2_nightsAt 25 = .ok (.iconst 1, 1) := by decide +kernel
theorem dX2_nightsAt_26 : decode cX2_nightsAt 26 = .ok (.iload 4, 2) := by decide +kernel
theorem dX2_nightsAt_28 : decode cX2_nightsAt 28 = .ok (.ishl, 1) := by decide +kernel
theorem dX2_nightsAt_29 : decode cX2_nightsAt 29 = .ok (.ior, 1) := by decide +kernel
theorem dX2_nightsAt_30 : decode cX2_nightsAt 30 = .ok (.istore_n 3, 1) := by decide +kernel
theorem dX2_nightsAt_31 : decode cX2_nightsAt 31 = .ok (.iinc 4 1, 3) := by decide +kernel
theorem dX2_nightsAt_34 : decode cX2_nightsAt 34 = .ok (.goto (-29), 3) := by decide +kernel
theorem dX2_nightsAt_37 : decode cX2_nightsAt 37 = .ok (.iload_n 3, 1) := by decide +kernel
theorem dX2_nightsAt_38 : decode cX2_nightsAt 38 = .ok (.ireturn, 1) := by decide +kernel
theorem dX2_shiftsBy_0 : decode cX2_shiftsBy 0 = .ok (.iconst 0, 1) := by decide +kernel
theorem dX2_shiftsBy_1 : decode cX2_shiftsBy 1 = .ok (.istore 5, 2) := by decide +kernel
theorem dX2_shiftsBy_3 : decode cX2_shiftsBy 3 = .ok (.iconst 0, 1) := by decide +kernel
theorem dX2_shiftsBy_4 : decode cX2_shiftsBy 4 = .ok (.istore 6, 2) := by decide +kernel
theorem dX2_shiftsBy_6 : decode cX2_shiftsBy 6 = .ok (.iload 6, 2) := by decide +kernel
theorem dX2_shiftsBy_8 : decode cX2_shiftsBy 8 = .ok (.aload_n 0, 1) := by decide +kernel
theorem dX2_shiftsBy_9 : decode cX2_shiftsBy 9 = .ok (.getfield 23, 3) := by decide +kernel
theorem dX2_shiftsBy_12 : decode cX2_shiftsBy 12 = .ok (.getfield 32, 3) := by decide +kernel
theorem dX2_shiftsBy_15 : decode cX2_shiftsBy 15 = .ok (.if_icmp .ge 32, 3) := by decide +kernel
theorem dX2_shiftsBy_18 : decode cX2_shiftsBy 18 = .ok (.aload_n 0, 1) := by decide +kernel
theorem dX2_shiftsBy_19 : decode cX2_shiftsBy 19 = .ok (.iload 6, 2) := by decide +kernel
theorem dX2_shiftsBy_21 : decode cX2_shiftsBy 21 = .ok (.aload_n 1, 1) := by decide +kernel
theorem dX2_shiftsBy_22 : decode cX2_shiftsBy 22 = .ok (.iload_n 2, 1) := by decide +kernel
theorem dX2_shiftsBy_23 : decode cX2_shiftsBy 23 = .ok (.iload_n 3, 1) := by decide +kernel
theorem dX2_shiftsBy_24 : decode cX2_shiftsBy 24 = .ok (.invokevirtual 36, 3) := by decide +kernel
theorem dX2_shiftsBy_27 : decode cX2_shiftsBy 27 = .ok (.iload 4, 2) := by decide +kernel
theorem dX2_shiftsBy_29 : decode cX2_shiftsBy 29 = .ok (.if_icmp .gt 12, 3) := by decide +kernel
theorem dX2_shiftsBy_32 : decode cX2_shiftsBy 32 = .ok (.iload 5, 2) := by decide +kernel
theorem dX2_shiftsBy_34 : decode cX2_shiftsBy 34 = .ok (.iconst 1, 1) := by decide +kernel
theorem dX2_shiftsBy_35 : decode cX2_shiftsBy 35 = .ok (.iload 6, 2) := by decide +kernel
theorem dX2_shiftsBy_37 : decode cX2_shiftsBy 37 = .ok (.ishl, 1) := by decide +kernel
theorem dX2_shiftsBy_38 : decode cX2_shiftsBy 38 = .ok (.ior, 1) := by decide +kernel
theorem dX2_shiftsBy_39 : decode cX2_shiftsBy 39 = .ok (.istore 5, 2) := by decide +kernel
theorem dX2_shiftsBy_41 : decode cX2_shiftsBy 41 = .ok (.iinc 6 1, 3) := by decide +kernel
theorem dX2_shiftsBy_44 : decode cX2_shiftsBy 44 = .ok (.goto (-38), 3) := by decide +kernel
theorem dX2_shiftsBy_47 : decode cX2_shiftsBy 47 = .ok (.iload 5, 2) := by decide +kernel
theorem dX2_shiftsBy_49 : decode cX2_shiftsBy 49 = .ok (.ireturn, 1) := by decide +kernel
theorem dX2_wrongsBy_0 : decode cX2_wrongsBy 0 = .ok (.iconst 0, 1) := by decide +kernel
theorem dX2_wrongsBy_1 : decode cX2_wrongsBy 1 = .ok (.istore 5, 2) := by decide +kernel
theorem dX2_wrongsBy_3 : decode cX2_wrongsBy 3 = .ok (.iconst 0, 1) := by decide +kernel
theorem dX2_wrongsBy_4 : decode cX2_wrongsBy 4 = .ok (.istore 6, 2) := by decide +kernel
theorem dX2_wrongsBy_6 : decode cX2_wrongsBy 6 = .ok (.iload 6, 2) := by decide +kernel
theorem dX2_wrongsBy_8 : decode cX2_wrongsBy 8 = .ok (.iload 4, 2) := by decide +kernel
theorem dX2_wrongsBy_10 : decode cX2_wrongsBy 10 = .ok (.if_icmp .ge 79, 3) := by decide +kernel
theorem dX2_wrongsBy_13 : decode cX2_wrongsBy 13 = .ok (.aload_n 2, 1) := by decide +kernel
theorem dX2_wrongsBy_14 : decode cX2_wrongsBy 14 = .ok (.iload_n 3, 1) := by decide +kernel
theorem dX2_wrongsBy_15 : decode cX2_wrongsBy 15 = .ok (.iconst 2, 1) := by decide +kernel
theorem dX2_wrongsBy_16 : decode cX2_wrongsBy 16 = .ok (.iload 6, 2) := by decide +kernel
theorem dX2_wrongsBy_18 : decode cX2_wrongsBy 18 = .ok (.imul, 1) := by decide +kernel
theorem dX2_wrongsBy_19 : decode cX2_wrongsBy 19 = .ok (.iadd, 1) := by decide +kernel
theorem dX2_wrongsBy_20 : decode cX2_wrongsBy 20 = .ok (.iaload, 1) := by decide +kernel
theorem dX2_wrongsBy_21 : decode cX2_wrongsBy 21 = .ok (.istore 7, 2) := by decide +kernel
theorem dX2_wrongsBy_23 : decode cX2_wrongsBy 23 = .ok (.aload_n 2, 1) := by decide +kernel
theorem dX2_wrongsBy_24 : decode cX2_wrongsBy 24 = .ok (.iload_n 3, 1) := by decide +kernel
theorem dX2_wrongsBy_25 : decode cX2_wrongsBy 25 = .ok (.iconst 2, 1) := by decide +kernel
theorem dX2_wrongsBy_26 : decode cX2_wrongsBy 26 = .ok (.iload 6, 2) := by decide +kernel
theorem dX2_wrongsBy_28 : decode cX2_wrongsBy 28 = .ok (.imul, 1) := by decide +kernel
theorem dX2_wrongsBy_29 : decode cX2_wrongsBy 29 = .ok (.iadd, 1) := by decide +kernel
theorem dX2_wrongsBy_30 : decode cX2_wrongsBy 30 = .ok (.iconst 1, 1) := by decide +kernel
theorem dX2_wrongsBy_31 : decode cX2_wrongsBy 31 = .ok (.iadd, 1) := by decide +kernel
theorem dX2_wrongsBy_32 : decode cX2_wrongsBy 32 = .ok (.iaload, 1) := by decide +kernel
theorem dX2_wrongsBy_33 : decode cX2_wrongsBy 33 = .ok (.istore 8, 2) := by decide +kernel
theorem dX2_wrongsBy_35 : decode cX2_wrongsBy 35 = .ok (.iload 7, 2) := by decide +kernel
theorem dX2_wrongsBy_37 : decode cX2_wrongsBy 37 = .ok (.ifCond .lt 19, 3) := by decide +kernel
theorem dX2_wrongsBy_40 : decode cX2_wrongsBy 40 = .ok (.iload 7, 2) := by decide +kernel
theorem dX2_wrongsBy_42 : decode cX2_wrongsBy 42 = .ok (.aload_n 0, 1) := by decide +kernel
theorem dX2_wrongsBy_43 : decode cX2_wrongsBy 43 = .ok (.getfield 23, 3) := by decide +kernel
theorem dX2_wrongsBy_46 : decode cX2_wrongsBy 46 = .ok (.getfield 32, 3) := by decide +kernel
theorem dX2_wrongsBy_49 : decode cX2_wrongsBy 49 = .ok (.if_icmp .ge 7, 3) := by decide +kernel
theorem dX2_wrongsBy_52 : decode cX2_wrongsBy 52 = .ok (.iconst 1, 1) := by decide +kernel
theorem dX2_wrongsBy_53 : decode cX2_wrongsBy 53 = .ok (.goto 4, 3) := by decide +kernel
theorem dX2_wrongsBy_56 : decode cX2_wrongsBy 56 = .ok (.iconst 0, 1) := by decide +kernel
theorem dX2_wrongsBy_57 : decode cX2_wrongsBy 57 = .ok (.istore 9, 2) := by decide +kernel
theorem dX2_wrongsBy_59 : decode cX2_wrongsBy 59 = .ok (.iload 9, 2) := by decide +kernel
theorem dX2_wrongsBy_61 : decode cX2_wrongsBy 61 = .ok (.ifCond .eq 19, 3) := by decide +kernel
theorem dX2_wrongsBy_64 : decode cX2_wrongsBy 64 = .ok (.aload_n 0, 1) := by decide +kernel
theorem dX2_wrongsBy_65 : decode cX2_wrongsBy 65 = .ok (.getfield 23, 3) := by decide +kernel
theorem dX2_wrongsBy_68 : decode cX2_wrongsBy 68 = .ok (.iload 7, 2) := by decide +kernel
theorem dX2_wrongsBy_70 : decode cX2_wrongsBy 70 = .ok (.iload_n 1, 1) := by decide +kernel
theorem dX2_wrongsBy_71 : decode cX2_wrongsBy 71 = .ok (.iadd, 1) := by decide +kernel
theorem dX2_wrongsBy_72 : decode cX2_wrongsBy 72 = .ok (.invokevirtual 40, 3) := by decide +kernel
theorem dX2_wrongsBy_75 : decode cX2_wrongsBy 75 = .ok (.iload 8, 2) := by decide +kernel
theorem dX2_wrongsBy_77 : decode cX2_wrongsBy 77 = .ok (.if_icmp .eq 6, 3) := by decide +kernel
theorem dX2_wrongsBy_80 : decode cX2_wrongsBy 80 = .ok (.iinc 5 1, 3) := by decide +kernel
theorem dX2_wrongsBy_83 : decode cX2_wrongsBy 83 = .ok (.iinc 6 1, 3) := by decide +kernel
theorem dX2_wrongsBy_86 : decode cX2_wrongsBy 86 = .ok (.goto (-80), 3) := by decide +kernel
theorem dX2_wrongsBy_89 : decode cX2_wrongsBy 89 = .ok (.iload 5, 2) := by decide +kernel
theorem dX2_wrongsBy_91 : decode cX2_wrongsBy 91 = .ok (.ireturn, 1) := by decide +kernel
theorem dX2_fewestTaught_0 : decode cX2_fewestTaught 0 = .ok (.iconst 0, 1) := by decide +kernel
theorem dX2_fewestTaught_1 : decode cX2_fewestTaught 1 = .ok (.istore_n 2, 1) := by decide +kernel
theorem dX2_fewestTaught_2 : decode cX2_fewestTaught 2 = .ok (.iload_n 2, 1) := by decide +kernel
theorem dX2_fewestTaught_3 : decode cX2_fewestTaught 3 = .ok (.aload_n 0, 1) := by decide +kernel
theorem dX2_fewestTaught_4 : decode cX2_fewestTaught 4 = .ok (.getfield 23, 3) := by decide +kernel
theorem dX2_fewestTaught_7 : decode cX2_fewestTaught 7 = .ok (.getfield 43, 3) := by decide +kernel
theorem dX2_fewestTaught_10 : decode cX2_fewestTaught 10 = .ok (.if_icmp .ge 66, 3) := by decide +kernel
theorem dX2_fewestTaught_13 : decode cX2_fewestTaught 13 = .ok (.aload_n 0, 1) := by decide +kernel
theorem dX2_fewestTaught_14 : decode cX2_fewestTaught 14 = .ok (.getfield 23, 3) := by decide +kernel
theorem dX2_fewestTaught_17 : decode cX2_fewestTaught 17 = .ok (.aload_n 0, 1) := by decide +kernel
theorem dX2_fewestTaught_18 : decode cX2_fewestTaught 18 = .ok (.getfield 23, 3) := by decide +kernel
theorem dX2_fewestTaught_21 : decode cX2_fewestTaught 21 = .ok (.getfield 46, 3) := by decide +kernel
theorem dX2_fewestTaught_24 : decode cX2_fewestTaught 24 = .ok (.iload_n 2, 1) := by decide +kernel
theorem dX2_fewestTaught_25 : decode cX2_fewestTaught 25 = .ok (.iaload, 1) := by decide +kernel
theorem dX2_fewestTaught_26 : decode cX2_fewestTaught 26 = .ok (.aload_n 0, 1) := by decide +kernel
theorem dX2_fewestTaught_27 : decode cX2_fewestTaught 27 = .ok (.getfield 23, 3) := by decide +kernel
theorem dX2_fewestTaught_30 : decode cX2_fewestTaught 30 = .ok (.getfield 49, 3) := by decide +kernel
theorem dX2_fewestTaught_33 : decode cX2_fewestTaught 33 = .ok (.invokevirtual 52, 3) := by decide +kernel
theorem dX2_fewestTaught_36 : decode cX2_fewestTaught 36 = .ok (.istore_n 3, 1) := by decide +kernel
theorem dX2_fewestTaught_37 : decode cX2_fewestTaught 37 = .ok (.aload_n 0, 1) := by decide +kernel
theorem dX2_fewestTaught_38 : decode cX2_fewestTaught 38 = .ok (.getfield 11, 3) := by decide +kernel
theorem dX2_fewestTaught_41 : decode cX2_fewestTaught 41 = .ok (.iload_n 2, 1) := by decide +kernel
theorem dX2_fewestTaught_42 : decode cX2_fewestTaught 42 = .ok (.aload_n 0, 1) := by decide +kernel
theorem dX2_fewestTaught_43 : decode cX2_fewestTaught 43 = .ok (.aload_n 0, 1) := by decide +kernel
theorem dX2_fewestTaught_44 : decode cX2_fewestTaught 44 = .ok (.getfield 23, 3) := by decide +kernel
theorem dX2_fewestTaught_47 : decode cX2_fewestTaught 47 = .ok (.iload_n 2, 1) := by decide +kernel
theorem dX2_fewestTaught_48 : decode cX2_fewestTaught 48 = .ok (.invokevirtual 56, 3) := by decide +kernel
theorem dX2_fewestTaught_51 : decode cX2_fewestTaught 51 = .ok (.bipush 24, 2) := by decide +kernel
theorem dX2_fewestTaught_53 : decode cX2_fewestTaught 53 = .ok (.invokevirtual 59, 3) := by decide +kernel
theorem dX2_fewestTaught_56 : decode cX2_fewestTaught 56 = .ok (.iastore, 1) := by decide +kernel
theorem dX2_fewestTaught_57 : decode cX2_fewestTaught 57 = .ok (.aload_n 0, 1) := by decide +kernel
theorem dX2_fewestTaught_58 : decode cX2_fewestTaught 58 = .ok (.getfield 17, 3) := by decide +kernel
theorem dX2_fewestTaught_61 : decode cX2_fewestTaught 61 = .ok (.iload_n 2, 1) := by decide +kernel
theorem dX2_fewestTaught_62 : decode cX2_fewestTaught 62 = .ok (.aload_n 0, 1) := by decide +kernel
theorem dX2_fewestTaught_63 : decode cX2_fewestTaught 63 = .ok (.iload_n 3, 1) := by decide +kernel
theorem dX2_fewestTaught_64 : decode cX2_fewestTaught 64 = .ok (.bipush 24, 2) := by decide +kernel
theorem dX2_fewestTaught_66 : decode cX2_fewestTaught 66 = .ok (.invokevirtual 59, 3) := by decide +kernel
theorem dX2_fewestTaught_69 : decode cX2_fewestTaught 69 = .ok (.iastore, 1) := by decide +kernel
theorem dX2_fewestTaught_70 : decode cX2_fewestTaught 70 = .ok (.iinc 2 1, 3) := by decide +kernel
theorem dX2_fewestTaught_73 : decode cX2_fewestTaught 73 = .ok (.goto (-71), 3) := by decide +kernel
theorem dX2_fewestTaught_76 : decode cX2_fewestTaught 76 = .ok (.ldc 31, 2) := by decide +kernel
theorem dX2_fewestTaught_78 : decode cX2_fewestTaught 78 = .ok (.istore_n 2, 1) := by decide +kernel
theorem dX2_fewestTaught_79 : decode cX2_fewestTaught 79 = .ok (.aload_n 0, 1) := by decide +kernel
theorem dX2_fewestTaught_80 : decode cX2_fewestTaught 80 = .ok (.getfield 23, 3) := by decide +kernel
theorem dX2_fewestTaught_83 : decode cX2_fewestTaught 83 = .ok (.getfield 43, 3) := by decide +kernel
theorem dX2_fewestTaught_86 : decode cX2_fewestTaught 86 = .ok (.iconst 1, 1) := by decide +kernel
theorem dX2_fewestTaught_87 : decode cX2_fewestTaught 87 = .ok (.iadd, 1) := by decide +kernel
theorem dX2_fewestTaught_88 : decode cX2_fewestTaught 88 = .ok (.istore_n 3, 1) := by decide +kernel
theorem dX2_fewestTaught_89 : decode cX2_fewestTaught 89 = .ok (.iconst 0, 1) := by decide +kernel
theorem dX2_fewestTaught_90 : decode cX2_fewestTaught 90 = .ok (.istore 4, 2) := by decide +kernel
theorem dX2_fewestTaught_92 : decode cX2_fewestTaught 92 = .ok (.iload 4, 2) := by decide +kernel
theorem dX2_fewestTaught_94 : decode cX2_fewestTaught 94 = .ok (.iconst 1, 1) := by decide +kernel
theorem dX2_fewestTaught_95 : decode cX2_fewestTaught 95 = .ok (.aload_n 0, 1) := by decide +kernel
theorem dX2_fewestTaught_96 : decode cX2_fewestTaught 96 = .ok (.getfield 23, 3) := by decide +kernel
theorem dX2_fewestTaught_99 : decode cX2_fewestTaught 99 = .ok (.getfield 43, 3) := by decide +kernel
theorem dX2_fewestTaught_102 : decode cX2_fewestTaught 102 = .ok (.ishl, 1) := by decide +kernel
theorem dX2_fewestTaught_103 : decode cX2_fewestTaught 103 = .ok (.if_icmp .ge 52, 3) := by decide +kernel
theorem dX2_fewestTaught_106 : decode cX2_fewestTaught 106 = .ok (.iload_n 1, 1) := by decide +kernel
theorem dX2_fewestTaught_107 : decode cX2_fewestTaught 107 = .ok (.aload_n 0, 1) := by decide +kernel
theorem dX2_fewestTaught_108 : decode cX2_fewestTaught 108 = .ok (.iload 4, 2) := by decide +kernel
theorem dX2_fewestTaught_110 : decode cX2_fewestTaught 110 = .ok (.invokevirtual 62, 3) := by decide +kernel
theorem dX2_fewestTaught_113 : decode cX2_fewestTaught 113 = .ok (.iconst (-1), 1) := by decide +kernel
theorem dX2_fewestTaught_114 : decode cX2_fewestTaught 114 = .ok (.ixor, 1) := by decide +kernel
theorem dX2_fewestTaught_115 : decode cX2_fewestTaught 115 = .ok (.iand, 1) := by decide +kernel
theorem dX2_fewestTaught_116 : decode cX2_fewestTaught 116 = .ok (.ifCond .ne 7, 3) := by decide +kernel
theorem dX2_fewestTaught_119 : decode cX2_fewestTaught 119 = .ok (.iconst 1, 1) := by decide +kernel
theorem dX2_fewestTaught_120 : decode cX2_fewestTaught 120 = .ok (.goto 4, 3) := by decide +kernel
theorem dX2_fewestTaught_123 : decode cX2_fewestTaught 123 = .ok (.iconst 0, 1) := by decide +kernel
theorem dX2_fewestTaught_124 : decode cX2_fewestTaught 124 = .ok (.istore 5, 2) := by decide +kernel
theorem dX2_fewestTaught_126 : decode cX2_fewestTaught 126 = .ok (.iload 5, 2) := by decide +kernel
theorem dX2_fewestTaught_128 : decode cX2_fewestTaught 128 = .ok (.ifCond .eq 21, 3) := by decide +kernel
theorem dX2_fewestTaught_131 : decode cX2_fewestTaught 131 = .ok (.iload 4, 2) := by decide +kernel
theorem dX2_fewestTaught_133 : decode cX2_fewestTaught 133 = .ok (.invokestatic 65, 3) := by decide +kernel
theorem dX2_fewestTaught_136 : decode cX2_fewestTaught 136 = .ok (.iload_n 3, 1) := by decide +kernel
theorem dX2_fewestTaught_137 : decode cX2_fewestTaught 137 = .ok (.if_icmp .ge 12, 3) := by decide +kernel
theorem dX2_fewestTaught_140 : decode cX2_fewestTaught 140 = .ok (.iload 4, 2) := by decide +kernel
theorem dX2_fewestTaught_142 : decode cX2_fewestTaught 142 = .ok (.istore_n 2, 1) := by decide +kernel
theorem dX2_fewestTaught_143 : decode cX2_fewestTaught 143 = .ok (.iload 4, 2) := by decide +kernel
theorem dX2_fewestTaught_145 : decode cX2_fewestTaught 145 = .ok (.invokestatic 65, 3) := by decide +kernel
theorem dX2_fewestTaught_148 : decode cX2_fewestTaught 148 = .ok (.istore_n 3, 1) := by decide +kernel
theorem dX2_fewestTaught_149 : decode cX2_fewestTaught 149 = .ok (.iinc 4 1, 3) := by decide +kernel
theorem dX2_fewestTaught_152 : decode cX2_fewestTaught 152 = .ok (.goto (-60), 3) := by decide +kernel
theorem dX2_fewestTaught_155 : decode cX2_fewestTaught 155 = .ok (.iload_n 2, 1) := by decide +kernel
theorem dX2_fewestTaught_156 : decode cX2_fewestTaught 156 = .ok (.ireturn, 1) := by decide +kernel
theorem dX2_nightsIfTaught_0 : decode cX2_nightsIfTaught 0 = .ok (.iconst 0, 1) := by decide +kernel
theorem dX2_nightsIfTaught_1 : decode cX2_nightsIfTaught 1 = .ok (.istore_n 2, 1) := by decide +kernel
theorem dX2_nightsIfTaught_2 : decode cX2_nightsIfTaught 2 = .ok (.iconst 0, 1) := by decide +kernel
theorem dX2_nightsIfTaught_3 : decode cX2_nightsIfTaught 3 = .ok (.istore_n 3, 1) := by decide +kernel
theorem dX2_nightsIfTaught_4 : decode cX2_nightsIfTaught 4 = .ok (.iload_n 3, 1) := by decide +kernel
theorem dX2_nightsIfTaught_5 : decode cX2_nightsIfTaught 5 = .ok (.aload_n 0, 1) := by decide +kernel
theorem dX2_nightsIfTaught_6 : decode cX2_nightsIfTaught 6 = .ok (.getfield 23, 3) := by decide +kernel
theorem dX2_nightsIfTaught_9 : decode cX2_nightsIfTaught 9 = .ok (.getfield 43, 3) := by decide +kernel
theorem dX2_nightsIfTaught_12 : decode cX2_nightsIfTaught 12 = .ok (.if_icmp .ge 48, 3) := by decide +kernel
theorem dX2_nightsIfTaught_15 : decode cX2_nightsIfTaught 15 = .ok (.iload_n 1, 1) := by decide +kernel
theorem dX2_nightsIfTaught_16 : decode cX2_nightsIfTaught 16 = .ok (.iload_n 3, 1) := by decide +kernel
theorem dX2_nightsIfTaught_17 : decode cX2_nightsIfTaught 17 = .ok (.ishr, 1) := by decide +kernel
theorem dX2_nightsIfTaught_18 : decode cX2_nightsIfTaught 18 = .ok (.iconst 1, 1) := by decide +kernel
theorem dX2_nightsIfTaught_19 : decode cX2_nightsIfTaught 19 = .ok (.iand, 1) := by decide +kernel
theorem dX2_nightsIfTaught_20 : decode cX2_nightsIfTaught 20 = .ok (.iconst 1, 1) := by decide +kernel
theorem dX2_nightsIfTaught_21 : decode cX2_nightsIfTaught 21 = .ok (.if_icmp .ne 7, 3) := by decide +kernel
theorem dX2_nightsIfTaught_24 : decode cX2_nightsIfTaught 24 = .ok (.iconst 1, 1) := by decide +kernel
theorem dX2_nightsIfTaught_25 : decode cX2_nightsIfTaught 25 = .ok (.goto 4, 3) := by decide +kernel
theorem dX2_nightsIfTaught_28 : decode cX2_nightsIfTaught 28 = .ok (.iconst 0, 1) := by decide +kernel
theorem dX2_nightsIfTaught_29 : decode cX2_nightsIfTaught 29 = .ok (.istore 4, 2) := by decide +kernel
theorem dX2_nightsIfTaught_31 : decode cX2_nightsIfTaught 31 = .ok (.iload_n 2, 1) := by decide +kernel
theorem dX2_nightsIfTaught_32 : decode cX2_nightsIfTaught 32 = .ok (.iload 4, 2) := by decide +kernel
theorem dX2_nightsIfTaught_34 : decode cX2_nightsIfTaught 34 = .ok (.ifCond .eq 12, 3) := by decide +kernel
theorem dX2_nightsIfTaught_37 : decode cX2_nightsIfTaught 37 = .ok (.aload_n 0, 1) := by decide +kernel
theorem dX2_nightsIfTaught_38 : decode cX2_nightsIfTaught 38 = .ok (.getfield 17, 3) := by decide +kernel
theorem dX2_nightsIfTaught_41 : decode cX2_nightsIfTaught 41 = .ok (.iload_n 3, 1) := by decide +kernel
theorem dX2_nightsIfTaught_42 : decode cX2_nightsIfTaught 42 = .ok (.iaload, 1) := by decide +kernel
theorem dX2_nightsIfTaught_43 : decode cX2_nightsIfTaught 43 = .ok (.goto 9, 3) := by decide +kernel
theorem dX2_nightsIfTaught_46 : decode cX2_nightsIfTaught 46 = .ok (.aload_n 0, 1) := by decide +kernel
theorem dX2_nightsIfTaught_47 : decode cX2_nightsIfTaught 47 = .ok (.getfield 11, 3) := by decide +kernel
theorem dX2_nightsIfTaught_50 : decode cX2_nightsIfTaught 50 = .ok (.iload_n 3, 1) := by decide +kernel
theorem dX2_nightsIfTaught_51 : decode cX2_nightsIfTaught 51 = .ok (.iaload, 1) := by decide +kernel
theorem dX2_nightsIfTaught_52 : decode cX2_nightsIfTaught 52 = .ok (.ior, 1) := by decide +kernel
theorem dX2_nightsIfTaught_53 : decode cX2_nightsIfTaught 53 = .ok (.istore_n 2, 1) := by decide +kernel
theorem dX2_nightsIfTaught_54 : decode cX2_nightsIfTaught 54 = .ok (.iinc 3 1, 3) := by decide +kernel
theorem dX2_nightsIfTaught_57 : decode cX2_nightsIfTaught 57 = .ok (.goto (-53), 3) := by decide +kernel
theorem dX2_nightsIfTaught_60 : decode cX2_nightsIfTaught 60 = .ok (.iload_n 2, 1) := by decide +kernel
theorem dX2_nightsIfTaught_61 : decode cX2_nightsIfTaught 61 = .ok (.ireturn, 1) := by decide +kernel
theorem dX2_programmes_0 : decode cX2_programmes 0 = .ok (.aload_n 0, 1) := by decide +kernel
theorem dX2_programmes_1 : decode cX2_programmes 1 = .ok (.iload_n 1, 1) := by decide +kernel
theorem dX2_programmes_2 : decode cX2_programmes 2 = .ok (.invokevirtual 70, 3) := by decide +kernel
theorem dX2_programmes_5 : decode cX2_programmes 5 = .ok (.aload_n 0, 1) := by decide +kernel
theorem dX2_programmes_6 : decode cX2_programmes 6 = .ok (.iconst 0, 1) := by decide +kernel
theorem dX2_programmes_7 : decode cX2_programmes 7 = .ok (.iconst 1, 1) := by decide +kernel
theorem dX2_programmes_8 : decode cX2_programmes 8 = .ok (.iload_n 1, 1) := by decide +kernel
theorem dX2_programmes_9 : decode cX2_programmes 9 = .ok (.ishl, 1) := by decide +kernel
theorem dX2_programmes_10 : decode cX2_programmes 10 = .ok (.iconst 1, 1) := by decide +kernel
theorem dX2_programmes_11 : decode cX2_programmes 11 = .ok (.isub, 1) := by decide +kernel
theorem dX2_programmes_12 : decode cX2_programmes 12 = .ok (.invokevirtual 74, 3) := by decide +kernel
theorem dX2_programmes_15 : decode cX2_programmes 15 = .ok (.ireturn, 1) := by decide +kernel
theorem dX2_nightOfPiece_0 : decode cX2_nightOfPiece 0 = .ok (.iload_n 2, 1) := by decide +kernel
theorem dX2_nightOfPiece_1 : decode cX2_nightOfPiece 1 = .ok (.aload_n 0, 1) := by decide +kernel
theorem dX2_nightOfPiece_2 : decode cX2_nightOfPiece 2 = .ok (.getfield 23, 3) := by decide +kernel
theorem dX2_nightOfPiece_5 : decode cX2_nightOfPiece 5 = .ok (.getfield 77, 3) := by decide +kernel
theorem dX2_nightOfPiece_8 : decode cX2_nightOfPiece 8 = .ok (.if_icmp .lt 6, 3) := by decide +kernel
theorem dX2_nightOfPiece_11 : decode cX2_nightOfPiece 11 = .ok (.ldc 31, 2) := by decide +kernel
theorem dX2_nightOfPiece_13 : decode cX2_nightOfPiece 13 = .ok (.ireturn, 1) := by decide +kernel
theorem dX2_nightOfPiece_14 : decode cX2_nightOfPiece 14 = .ok (.aload_n 0, 1) := by decide +kernel
theorem dX2_nightOfPiece_15 : decode cX2_nightOfPiece 15 = .ok (.iload_n 1, 1) := by decide +kernel
theorem dX2_nightOfPiece_16 : decode cX2_nightOfPiece 16 = .ok (.invokevirtual 70, 3) := by decide +kernel
theorem dX2_nightOfPiece_19 : decode cX2_nightOfPiece 19 = .ok (.iconst 1, 1) := by decide +kernel
theorem dX2_nightOfPiece_20 : decode cX2_nightOfPiece 20 = .ok (.iload_n 1, 1) := by decide +kernel
theorem dX2_nightOfPiece_21 : decode cX2_nightOfPiece 21 = .ok (.ishl, 1) := by decide +kernel
theorem dX2_nightOfPiece_22 : decode cX2_nightOfPiece 22 = .ok (.iconst 1, 1) := by decide +kernel
theorem dX2_nightOfPiece_23 : decode cX2_nightOfPiece 23 = .ok (.isub, 1) := by decide +kernel
theorem dX2_nightOfPiece_24 : decode cX2_nightOfPiece 24 = .ok (.istore_n 3, 1) := by decide +kernel
theorem dX2_nightOfPiece_25 : decode cX2_nightOfPiece 25 = .ok (.ldc 31, 2) := by decide +kernel
theorem dX2_nightOfPiece_27 : decode cX2_nightOfPiece 27 = .ok (.istore 4, 2) := by decide +kernel
theorem dX2_nightOfPiece_29 : decode cX2_nightOfPiece 29 = .ok (.iconst 0, 1) := by decide +kernel
theorem dX2_nightOfPiece_30 : decode cX2_nightOfPiece 30 = .ok (.istore 5, 2) := by decide +kernel
theorem dX2_nightOfPiece_32 : decode cX2_nightOfPiece 32 = .ok (.iload 5, 2) := by decide +kernel
theorem dX2_nightOfPiece_34 : decode cX2_nightOfPiece 34 = .ok (.iload_n 2, 1) := by decide +kernel
theorem dX2_nightOfPiece_35 : decode cX2_nightOfPiece 35 = .ok (.if_icmp .gt 37, 3) := by decide +kernel
theorem dX2_nightOfPiece_38 : decode cX2_nightOfPiece 38 = .ok (.aload_n 0, 1) := by decide +kernel
theorem dX2_nightOfPiece_39 : decode cX2_nightOfPiece 39 = .ok (.iload 5, 2) := by decide +kernel
theorem dX2_nightOfPiece_41 : decode cX2_nightOfPiece 41 = .ok (.iload_n 3, 1) := by decide +kernel
theorem dX2_nightOfPiece_42 : decode cX2_nightOfPiece 42 = .ok (.invokevirtual 80, 3) := by decide +kernel
theorem dX2_nightOfPiece_45 : decode cX2_nightOfPiece 45 = .ok (.istore 4, 2) := by decide +kernel
theorem dX2_nightOfPiece_47 : decode cX2_nightOfPiece 47 = .ok (.iload 4, 2) := by decide +kernel
theorem dX2_nightOfPiece_49 : decode cX2_nightOfPiece 49 = .ok (.ldc 31, 2) := by decide +kernel
theorem dX2_nightOfPiece_51 : decode cX2_nightOfPiece 51 = .ok (.if_icmp .ne 6, 3) := by decide +kernel
theorem dX2_nightOfPiece_54 : decode cX2_nightOfPiece 54 = .ok (.ldc 31, 2) := by decide +kernel
theorem dX2_nightOfPiece_56 : decode cX2_nightOfPiece 56 = .ok (.ireturn, 1) := by decide +kernel
theorem dX2_nightOfPiece_57 : decode cX2_nightOfPiece 57 = .ok (.iload_n 3, 1) := by decide +kernel
theorem dX2_nightOfPiece_58 : decode cX2_nightOfPiece 58 = .ok (.iconst 1, 1) := by decide +kernel
theorem dX2_nightOfPiece_59 : decode cX2_nightOfPiece 59 = .ok (.iload 4, 2) := by decide +kernel
theorem dX2_nightOfPiece_61 : decode cX2_nightOfPiece 61 = .ok (.ishl, 1) := by decide +kernel
theorem dX2_nightOfPiece_62 : decode cX2_nightOfPiece 62 = .ok (.iconst (-1), 1) := by decide +kernel
theorem dX2_nightOfPiece_63 : decode cX2_nightOfPiece 63 = .ok (.ixor, 1) := by decide +kernel
theorem dX2_nightOfPiece_64 : decode cX2_nightOfPiece 64 = .ok (.iand, 1) := by decide +kernel
theorem dX2_nightOfPiece_65 : decode cX2_nightOfPiece 65 = .ok (.istore_n 3, 1) := by decide +kernel
theorem dX2_nightOfPiece_66 : decode cX2_nightOfPiece 66 = .ok (.iinc 5 1, 3) := by decide +kernel
theorem dX2_nightOfPiece_69 : decode cX2_nightOfPiece 69 = .ok (.goto (-37), 3) := by decide +kernel
theorem dX2_nightOfPiece_72 : decode cX2_nightOfPiece 72 = .ok (.iload 4, 2) := by decide +kernel
theorem dX2_nightOfPiece_74 : decode cX2_nightOfPiece 74 = .ok (.ireturn, 1) := by decide +kernel
theorem dX2_firstNightFor_0 : decode cX2_firstNightFor 0 = .ok (.aload_n 0, 1) := by decide +kernel
theorem dX2_firstNightFor_1 : decode cX2_firstNightFor 1 = .ok (.getfield 20, 3) := by decide +kernel
theorem dX2_firstNightFor_4 : decode cX2_firstNightFor 4 = .ok (.iload_n 1, 1) := by decide +kernel
theorem dX2_firstNightFor_5 : decode cX2_firstNightFor 5 = .ok (.iaload, 1) := by decide +kernel
theorem dX2_firstNightFor_6 : decode cX2_firstNightFor 6 = .ok (.iload_n 2, 1) := by decide +kernel
theorem dX2_firstNightFor_7 : decode cX2_firstNightFor 7 = .ok (.iand, 1) := by decide +kernel
theorem dX2_firstNightFor_8 : decode cX2_firstNightFor 8 = .ok (.istore_n 3, 1) := by decide +kernel
theorem dX2_firstNightFor_9 : decode cX2_firstNightFor 9 = .ok (.iconst 0, 1) := by decide +kernel
theorem dX2_firstNightFor_10 : decode cX2_firstNightFor 10 = .ok (.istore 4, 2) := by decide +kernel
theorem dX2_firstNightFor_12 : decode cX2_firstNightFor 12 = .ok (.iload 4, 2) := by decide +kernel
theorem dX2_firstNightFor_14 : decode cX2_firstNightFor 14 = .ok (.bipush 6, 2) := by decide +kernel
theorem dX2_firstNightFor_16 : decode cX2_firstNightFor 16 = .ok (.if_icmp .ge 41, 3) := by decide +kernel
theorem dX2_firstNightFor_19 : decode cX2_firstNightFor 19 = .ok (.iconst 1, 1) := by decide +kernel
theorem dX2_firstNightFor_20 : decode cX2_firstNightFor 20 = .ok (.iload 4, 2) := by decide +kernel
theorem dX2_firstNightFor_22 : decode cX2_firstNightFor 22 = .ok (.ishl, 1) := by decide +kernel
theorem dX2_firstNightFor_23 : decode cX2_firstNightFor 23 = .ok (.istore 5, 2) := by decide +kernel
theorem dX2_firstNightFor_25 : decode cX2_firstNightFor 25 = .ok (.iload_n 3, 1) := by decide +kernel
theorem dX2_firstNightFor_26 : decode cX2_firstNightFor 26 = .ok (.iload 5, 2) := by decide +kernel
theorem dX2_firstNightFor_28 : decode cX2_firstNightFor 28 = .ok (.iand, 1) := by decide +kernel
theorem dX2_firstNightFor_29 : decode cX2_firstNightFor 29 = .ok (.ifCond .eq 22, 3) := by decide +kernel
theorem dX2_firstNightFor_32 : decode cX2_firstNightFor 32 = .ok (.aload_n 0, 1) := by decide +kernel
theorem dX2_firstNightFor_33 : decode cX2_firstNightFor 33 = .ok (.iload_n 1, 1) := by decide +kernel
theorem dX2_firstNightFor_34 : decode cX2_firstNightFor 34 = .ok (.iconst 1, 1) := by decide +kernel
theorem dX2_firstNightFor_35 : decode cX2_firstNightFor 35 = .ok (.iadd, 1) := by decide +kernel
theorem dX2_firstNightFor_36 : decode cX2_firstNightFor 36 = .ok (.iload_n 2, 1) := by decide +kernel
theorem dX2_firstNightFor_37 : decode cX2_firstNightFor 37 = .ok (.iload 5, 2) := by decide +kernel
theorem dX2_firstNightFor_39 : decode cX2_firstNightFor 39 = .ok (.iconst (-1), 1) := by decide +kernel
theorem dX2_firstNightFor_40 : decode cX2_firstNightFor 40 = .ok (.ixor, 1) := by decide +kernel
theorem dX2_firstNightFor_41 : decode cX2_firstNightFor 41 = .ok (.iand, 1) := by decide +kernel
theorem dX2_firstNightFor_42 : decode cX2_firstNightFor 42 = .ok (.invokevirtual 74, 3) := by decide +kernel
theorem dX2_firstNightFor_45 : decode cX2_firstNightFor 45 = .ok (.ifCond .le 6, 3) := by decide +kernel
theorem dX2_firstNightFor_48 : decode cX2_firstNightFor 48 = .ok (.iload 4, 2) := by decide +kernel
theorem dX2_firstNightFor_50 : decode cX2_firstNightFor 50 = .ok (.ireturn, 1) := by decide +kernel
theorem dX2_firstNightFor_51 : decode cX2_firstNightFor 51 = .ok (.iinc 4 1, 3) := by decide +kernel
theorem dX2_firstNightFor_54 : decode cX2_firstNightFor 54 = .ok (.goto (-42), 3) := by decide +kernel
theorem dX2_firstNightFor_57 : decode cX2_firstNightFor 57 = .ok (.ldc 31, 2) := by decide +kernel
theorem dX2_firstNightFor_59 : decode cX2_firstNightFor 59 = .ok (.ireturn, 1) := by decide +kernel
theorem dX2_findPieceNights_0 : decode cX2_findPieceNights 0 = .ok (.iconst 0, 1) := by decide +kernel
theorem dX2_findPieceNights_1 : decode cX2_findPieceNights 1 = .ok (.istore_n 2, 1) := by decide +kernel
theorem dX2_findPieceNights_2 : decode cX2_findPieceNights 2 = .ok (.iload_n 2, 1) := by decide +kernel
theorem dX2_findPieceNights_3 : decode cX2_findPieceNights 3 = .ok (.aload_n 0, 1) := by decide +kernel
theorem dX2_findPieceNights_4 : decode cX2_findPieceNights 4 = .ok (.getfield 23, 3) := by decide +kernel
theorem dX2_findPieceNights_7 : decode cX2_findPieceNights 7 = .ok (.getfield 77, 3) := by decide +kernel
theorem dX2_findPieceNights_10 : decode cX2_findPieceNights 10 = .ok (.if_icmp .ge 69, 3) := by decide +kernel
theorem dX2_findPieceNights_13 : decode cX2_findPieceNights 13 = .ok (.aload_n 0, 1) := by decide +kernel
theorem dX2_findPieceNights_14 : decode cX2_findPieceNights 14 = .ok (.getfield 20, 3) := by decide +kernel
theorem dX2_findPieceNights_17 : decode cX2_findPieceNights 17 = .ok (.iload_n 2, 1) := by decide +kernel
theorem dX2_findPieceNights_18 : decode cX2_findPieceNights 18 = .ok (.iconst 0, 1) := by decide +kernel
theorem dX2_findPieceNights_19 : decode cX2_findPieceNights 19 = .ok (.iastore, 1) := by decide +kernel
theorem dX2_findPieceNights_20 : decode cX2_findPieceNights 20 = .ok (.iconst 0, 1) := by decide +kernel
theorem dX2_findPieceNights_21 : decode cX2_findPieceNights 21 = .ok (.istore_n 3, 1) := by decide +kernel
theorem dX2_findPieceNights_22 : decode cX2_findPieceNights 22 = .ok (.iload_n 3, 1) := by decide +kernel
theorem dX2_findPieceNights_23 : decode cX2_findPieceNights 23 = .ok (.aload_n 0, 1) := by decide +kernel
theorem dX2_findPieceNights_24 : decode cX2_findPieceNights 24 = .ok (.getfield 23, 3) := by decide +kernel
theorem dX2_findPieceNights_27 : decode cX2_findPieceNights 27 = .ok (.getfield 43, 3) := by decide +kernel
theorem dX2_findPieceNights_30 : decode cX2_findPieceNights 30 = .ok (.if_icmp .ge 43, 3) := by decide +kernel
theorem dX2_findPieceNights_33 : decode cX2_findPieceNights 33 = .ok (.aload_n 0, 1) := by decide +kernel
theorem dX2_findPieceNights_34 : decode cX2_findPieceNights 34 = .ok (.getfield 23, 3) := by decide +kernel
theorem dX2_findPieceNights_37 : decode cX2_findPieceNights 37 = .ok (.iload_n 3, 1) := by decide +kernel
theorem dX2_findPieceNights_38 : decode cX2_findPieceNights 38 = .ok (.iload_n 2, 1) := by decide +kernel
theorem dX2_findPieceNights_39 : decode cX2_findPieceNights 39 = .ok (.invokevirtual 83, 3) := by decide +kernel
theorem dX2_findPieceNights_42 : decode cX2_findPieceNights 42 = .ok (.ifCond .eq 25, 3) := by decide +kernel
theorem dX2_findPieceNights_45 : decode cX2_findPieceNights 45 = .ok (.aload_n 0, 1) := by decide +kernel
theorem dX2_findPieceNights_46 : decode cX2_findPieceNights 46 = .ok (.getfield 20, 3) := by decide +kernel
theorem dX2_findPieceNights_49 : decode cX2_findPieceNights 49 = .ok (.iload_n 2, 1) := by decide +kernel
theorem dX2_findPieceNights_50 : decode cX2_findPieceNights 50 = .ok (.dup2, 1) := by decide +kernel
theorem dX2_findPieceNights_51 : decode cX2_findPieceNights 51 = .ok (.iaload, 1) := by decide +kernel
theorem dX2_findPieceNights_52 : decode cX2_findPieceNights 52 = .ok (.aload_n 0, 1) := by decide +kernel
theorem dX2_findPieceNights_53 : decode cX2_findPieceNights 53 = .ok (.aload_n 0, 1) := by decide +kernel
theorem dX2_findPieceNights_54 : decode cX2_findPieceNights 54 = .ok (.getfield 23, 3) := by decide +kernel
theorem dX2_findPieceNights_57 : decode cX2_findPieceNights 57 = .ok (.iload_n 3, 1) := by decide +kernel
theorem dX2_findPieceNights_58 : decode cX2_findPieceNights 58 = .ok (.invokevirtual 56, 3) := by decide +kernel
theorem dX2_findPieceNights_61 : decode cX2_findPieceNights 61 = .ok (.iload_n 1, 1) := by decide +kernel
theorem dX2_findPieceNights_62 : decode cX2_findPieceNights 62 = .ok (.invokevirtual 59, 3) := by decide +kernel
theorem dX2_findPieceNights_65 : decode cX2_findPieceNights 65 = .ok (.ior, 1) := by decide +kernel
theorem dX2_findPieceNights_66 : decode cX2_findPieceNights 66 = .ok (.iastore, 1) := by decide +kernel
theorem dX2_findPieceNights_67 : decode cX2_findPieceNights 67 = .ok (.iinc 3 1, 3) := by decide +kernel
theorem dX2_findPieceNights_70 : decode cX2_findPieceNights 70 = .ok (.goto (-48), 3) := by decide +kernel
theorem dX2_findPieceNights_73 : decode cX2_findPieceNights 73 = .ok (.iinc 2 1, 3) := by decide +kernel
theorem dX2_findPieceNights_76 : decode cX2_findPieceNights 76 = .ok (.goto (-74), 3) := by decide +kernel
theorem dX2_findPieceNights_79 : decode cX2_findPieceNights 79 = .ok (.return_, 1) := by decide +kernel
theorem dX2_waysFrom_0 : decode cX2_waysFrom 0 = .ok (.iload_n 1, 1) := by decide +kernel
theorem dX2_waysFrom_1 : decode cX2_waysFrom 1 = .ok (.aload_n 0, 1) := by decide +kernel
theorem dX2_waysFrom_2 : decode cX2_waysFrom 2 = .ok (.getfield 23, 3) := by decide +kernel
theorem dX2_waysFrom_5 : decode cX2_waysFrom 5 = .ok (.getfield 77, 3) := by decide +kernel
theorem dX2_waysFrom_8 : decode cX2_waysFrom 8 = .ok (.if_icmp .lt 5, 3) := by decide +kernel
theorem dX2_waysFrom_11 : decode cX2_waysFrom 11 = .ok (.iconst 1, 1) := by decide +kernel
theorem dX2_waysFrom_12 : decode cX2_waysFrom 12 = .ok (.ireturn, 1) := by decide +kernel
theorem dX2_waysFrom_13 : decode cX2_waysFrom 13 = .ok (.aload_n 0, 1) := by decide +kernel
theorem dX2_waysFrom_14 : decode cX2_waysFrom 14 = .ok (.getfield 20, 3) := by decide +kernel
theorem dX2_waysFrom_17 : decode cX2_waysFrom 17 = .ok (.iload_n 1, 1) := by decide +kernel
theorem dX2_waysFrom_18 : decode cX2_waysFrom 18 = .ok (.iaload, 1) := by decide +kernel
theorem dX2_waysFrom_19 : decode cX2_waysFrom 19 = .ok (.iload_n 2, 1) := by decide +kernel
theorem dX2_waysFrom_20 : decode cX2_waysFrom 20 = .ok (.iand, 1) := by decide +kernel
theorem dX2_waysFrom_21 : decode cX2_waysFrom 21 = .ok (.istore_n 3, 1) := by decide +kernel
theorem dX2_waysFrom_22 : decode cX2_waysFrom 22 = .ok (.iconst 0, 1) := by decide +kernel
theorem dX2_waysFrom_23 : decode cX2_waysFrom 23 = .ok (.istore 4, 2) := by decide +kernel
theorem dX2_waysFrom_25 : decode cX2_waysFrom 25 = .ok (.iconst 0, 1) := by decide +kernel
theorem dX2_waysFrom_26 : decode cX2_waysFrom 26 = .ok (.istore 5, 2) := by decide +kernel
theorem dX2_waysFrom_28 : decode cX2_waysFrom 28 = .ok (.iload 5, 2) := by decide +kernel
theorem dX2_waysFrom_30 : decode cX2_waysFrom 30 = .ok (.bipush 6, 2) := by decide +kernel
theorem dX2_waysFrom_32 : decode cX2_waysFrom 32 = .ok (.if_icmp .ge 40, 3) := by decide +kernel
theorem dX2_waysFrom_35 : decode cX2_waysFrom 35 = .ok (.iconst 1, 1) := by decide +kernel
theorem dX2_waysFrom_36 : decode cX2_waysFrom 36 = .ok (.iload 5, 2) := by decide +kernel
theorem dX2_waysFrom_38 : decode cX2_waysFrom 38 = .ok (.ishl, 1) := by decide +kernel
theorem dX2_waysFrom_39 : decode cX2_waysFrom 39 = .ok (.istore 6, 2) := by decide +kernel
theorem dX2_waysFrom_41 : decode cX2_waysFrom 41 = .ok (.iload_n 3, 1) := by decide +kernel
theorem dX2_waysFrom_42 : decode cX2_waysFrom 42 = .ok (.iload 6, 2) := by decide +kernel
theorem dX2_waysFrom_44 : decode cX2_waysFrom 44 = .ok (.iand, 1) := by decide +kernel
theorem dX2_waysFrom_45 : decode cX2_waysFrom 45 = .ok (.ifCond .eq 21, 3) := by decide +kernel
theorem dX2_waysFrom_48 : decode cX2_waysFrom 48 = .ok (.iload 4, 2) := by decide +kernel
theorem dX2_waysFrom_50 : decode cX2_waysFrom 50 = .ok (.aload_n 0, 1) := by decide +kernel
theorem dX2_waysFrom_51 : decode cX2_waysFrom 51 = .ok (.iload_n 1, 1) := by decide +kernel
theorem dX2_waysFrom_52 : decode cX2_waysFrom 52 = .ok (.iconst 1, 1) := by decide +kernel
theorem dX2_waysFrom_53 : decode cX2_waysFrom 53 = .ok (.iadd, 1) := by decide +kernel
theorem dX2_waysFrom_54 : decode cX2_waysFrom 54 = .ok (.iload_n 2, 1) := by decide +kernel
theorem dX2_waysFrom_55 : decode cX2_waysFrom 55 = .ok (.iload 6, 2) := by decide +kernel
theorem dX2_waysFrom_57 : decode cX2_waysFrom 57 = .ok (.iconst (-1), 1) := by decide +kernel
theorem dX2_waysFrom_58 : decode cX2_waysFrom 58 = .ok (.ixor, 1) := by decide +kernel
theorem dX2_waysFrom_59 : decode cX2_waysFrom 59 = .ok (.iand, 1) := by decide +kernel
theorem dX2_waysFrom_60 : decode cX2_waysFrom 60 = .ok (.invokevirtual 74, 3) := by decide +kernel
theorem dX2_waysFrom_63 : decode cX2_waysFrom 63 = .ok (.iadd, 1) := by decide +kernel
theorem dX2_waysFrom_64 : decode cX2_waysFrom 64 = .ok (.istore 4, 2) := by decide +kernel
theorem dX2_waysFrom_66 : decode cX2_waysFrom 66 = .ok (.iinc 5 1, 3) := by decide +kernel
theorem dX2_waysFrom_69 : decode cX2_waysFrom 69 = .ok (.goto (-41), 3) := by decide +kernel
theorem dX2_waysFrom_72 : decode cX2_waysFrom 72 = .ok (.iload 4, 2) := by decide +kernel
theorem dX2_waysFrom_74 : decode cX2_waysFrom 74 = .ok (.ireturn, 1) := by decide +kernel
theorem dX2_chordCount_0 : decode cX2_chordCount 0 = .ok (.iconst 1, 1) := by decide +kernel
theorem dX2_chordCount_1 : decode cX2_chordCount 1 = .ok (.aload_n 0, 1) := by decide +kernel
theorem dX2_chordCount_2 : decode cX2_chordCount 2 = .ok (.invokevirtual 87, 3) := by decide +kernel
theorem dX2_chordCount_5 : decode cX2_chordCount 5 = .ok (.ishl, 1) := by decide +kernel
theorem dX2_chordCount_6 : decode cX2_chordCount 6 = .ok (.ireturn, 1) := by decide +kernel
theorem dX2_chordNumber_0 : decode cX2_chordNumber 0 = .ok (.iconst 1, 1) := by decide +kernel
theorem dX2_chordNumber_1 : decode cX2_chordNumber 1 = .ok (.aload_n 0, 1) := by decide +kernel
theorem dX2_chordNumber_2 : decode cX2_chordNumber 2 = .ok (.invokevirtual 87, 3) := by decide +kernel
theorem dX2_chordNumber_5 : decode cX2_chordNumber 5 = .ok (.invokestatic 91, 3) := by decide +kernel
theorem dX2_chordNumber_8 : decode cX2_chordNumber 8 = .ok (.istore_n 2, 1) := by decide +kernel
theorem dX2_chordNumber_9 : decode cX2_chordNumber 9 = .ok (.iconst 0, 1) := by decide +kernel
theorem dX2_chordNumber_10 : decode cX2_chordNumber 10 = .ok (.istore_n 3, 1) := by decide +kernel
theorem dX2_chordNumber_11 : decode cX2_chordNumber 11 = .ok (.iconst 0, 1) := by decide +kernel
theorem dX2_chordNumber_12 : decode cX2_chordNumber 12 = .ok (.istore 4, 2) := by decide +kernel
theorem dX2_chordNumber_14 : decode cX2_chordNumber 14 = .ok (.iload 4, 2) := by decide +kernel
theorem dX2_chordNumber_16 : decode cX2_chordNumber 16 = .ok (.aload_n 0, 1) := by decide +kernel
theorem dX2_chordNumber_17 : decode cX2_chordNumber 17 = .ok (.getfield 23, 3) := by decide +kernel
theorem dX2_chordNumber_20 : decode cX2_chordNumber 20 = .ok (.getfield 32, 3) := by decide +kernel
theorem dX2_chordNumber_23 : decode cX2_chordNumber 23 = .ok (.if_icmp .ge 19, 3) := by decide +kernel
theorem dX2_chordNumber_26 : decode cX2_chordNumber 26 = .ok (.iload_n 3, 1) := by decide +kernel
theorem dX2_chordNumber_27 : decode cX2_chordNumber 27 = .ok (.iload_n 1, 1) := by decide +kernel
theorem dX2_chordNumber_28 : decode cX2_chordNumber 28 = .ok (.iload 4, 2) := by decide +kernel
theorem dX2_chordNumber_30 : decode cX2_chordNumber 30 = .ok (.ishl, 1) := by decide +kernel
theorem dX2_chordNumber_31 : decode cX2_chordNumber 31 = .ok (.ior, 1) := by decide +kernel
theorem dX2_chordNumber_32 : decode cX2_chordNumber 32 = .ok (.istore_n 3, 1) := by decide +kernel
theorem dX2_chordNumber_33 : decode cX2_chordNumber 33 = .ok (.iload 4, 2) := by decide +kernel
theorem dX2_chordNumber_35 : decode cX2_chordNumber 35 = .ok (.iload_n 2, 1) := by decide +kernel
theorem dX2_chordNumber_36 : decode cX2_chordNumber 36 = .ok (.iadd, 1) := by decide +kernel
theorem dX2_chordNumber_37 : decode cX2_chordNumber 37 = .ok (.istore 4, 2) := by decide +kernel
theorem dX2_chordNumber_39 : decode cX2_chordNumber 39 = .ok (.goto (-25), 3) := by decide +kernel
theorem dX2_chordNumber_42 : decode cX2_chordNumber 42 = .ok (.iload_n 3, 1) := by decide +kernel
theorem dX2_chordNumber_43 : decode cX2_chordNumber 43 = .ok (.ireturn, 1) := by decide +kernel
theorem dX2_ownStrings_0 : decode cX2_ownStrings 0 = .ok (.aload_n 0, 1) := by decide +kernel
theorem dX2_ownStrings_1 : decode cX2_ownStrings 1 = .ok (.getfield 23, 3) := by decide +kernel
theorem dX2_ownStrings_4 : decode cX2_ownStrings 4 = .ok (.getfield 96, 3) := by decide +kernel
theorem dX2_ownStrings_7 : decode cX2_ownStrings 7 = .ok (.i2l, 1) := by decide +kernel
theorem dX2_ownStrings_8 : decode cX2_ownStrings 8 = .ok (.aload_n 0, 1) := by decide +kernel
theorem dX2_ownStrings_9 : decode cX2_ownStrings 9 = .ok (.getfield 23, 3) := by decide +kernel
theorem dX2_ownStrings_12 : decode cX2_ownStrings 12 = .ok (.getfield 32, 3) := by decide +kernel
theorem dX2_ownStrings_15 : decode cX2_ownStrings 15 = .ok (.i2l, 1) := by decide +kernel
theorem dX2_ownStrings_16 : decode cX2_ownStrings 16 = .ok (.invokestatic 99, 3) := by decide +kernel
theorem dX2_ownStrings_19 : decode cX2_ownStrings 19 = .ok (.l2i, 1) := by decide +kernel
theorem dX2_ownStrings_20 : decode cX2_ownStrings 20 = .ok (.ireturn, 1) := by decide +kernel
theorem dX2_kindsHeard_0 : decode cX2_kindsHeard 0 = .ok (.iconst 0, 1) := by decide +kernel
theorem dX2_kindsHeard_1 : decode cX2_kindsHeard 1 = .ok (.istore 5, 2) := by decide +kernel
theorem dX2_kindsHeard_3 : decode cX2_kindsHeard 3 = .ok (.iconst 1, 1) := by decide +kernel
theorem dX2_kindsHeard_4 : decode cX2_kindsHeard 4 = .ok (.istore 6, 2) := by decide +kernel
theorem dX2_kindsHeard_6 : decode cX2_kindsHeard 6 = .ok (.iload 6, 2) := by decide +kernel
theorem dX2_kindsHeard_8 : decode cX2_kindsHeard 8 = .ok (.iconst 5, 1) := by decide +kernel
theorem dX2_kindsHeard_9 : decode cX2_kindsHeard 9 = .ok (.if_icmp .gt 51, 3) := by decide +kernel
theorem dX2_kindsHeard_12 : decode cX2_kindsHeard 12 = .ok (.aload_n 0, 1) := by decide +kernel
theorem dX2_kindsHeard_13 : decode cX2_kindsHeard 13 = .ok (.getfield 23, 3) := by decide +kernel
theorem dX2_kindsHeard_16 : decode cX2_kindsHeard 16 = .ok (.iload 6, 2) := by decide +kernel
theorem dX2_kindsHeard_18 : decode cX2_kindsHeard 18 = .ok (.aload_n 0, 1) := by decide +kernel
theorem dX2_kindsHeard_19 : decode cX2_kindsHeard 19 = .ok (.getfield 23, 3) := by decide +kernel
theorem dX2_kindsHeard_22 : decode cX2_kindsHeard 22 = .ok (.getfield 103, 3) := by decide +kernel
theorem dX2_kindsHeard_25 : decode cX2_kindsHeard 25 = .ok (.iload_n 1, 1) := by decide +kernel
theorem dX2_kindsHeard_26 : decode cX2_kindsHeard 26 = .ok (.iaload, 1) := by decide +kernel
theorem dX2_kindsHeard_27 : decode cX2_kindsHeard 27 = .ok (.invokevirtual 52, 3) := by decide +kernel
theorem dX2_kindsHeard_30 : decode cX2_kindsHeard 30 = .ok (.istore 7, 2) := by decide +kernel
theorem dX2_kindsHeard_32 : decode cX2_kindsHeard 32 = .ok (.aload_n 0, 1) := by decide +kernel
theorem dX2_kindsHeard_33 : decode cX2_kindsHeard 33 = .ok (.iload 7, 2) := by decide +kernel
theorem dX2_kindsHeard_35 : decode cX2_kindsHeard 35 = .ok (.iload_n 2, 1) := by decide +kernel
theorem dX2_kindsHeard_36 : decode cX2_kindsHeard 36 = .ok (.aload_n 3, 1) := by decide +kernel
theorem dX2_kindsHeard_37 : decode cX2_kindsHeard 37 = .ok (.iload 4, 2) := by decide +kernel
theorem dX2_kindsHeard_39 : decode cX2_kindsHeard 39 = .ok (.invokevirtual 106, 3) := by decide +kernel
theorem dX2_kindsHeard_42 : decode cX2_kindsHeard 42 = .ok (.ifCond .eq 12, 3) := by decide +kernel
theorem dX2_kindsHeard_45 : decode cX2_kindsHeard 45 = .ok (.iload 5, 2) := by decide +kernel
theorem dX2_kindsHeard_47 : decode cX2_kindsHeard 47 = .ok (.iconst 1, 1) := by decide +kernel
theorem dX2_kindsHeard_48 : decode cX2_kindsHeard 48 = .ok (.iload 6, 2) := by decide +kernel
theorem dX2_kindsHeard_50 : decode cX2_kindsHeard 50 = .ok (.ishl, 1) := by decide +kernel
theorem dX2_kindsHeard_51 : decode cX2_kindsHeard 51 = .ok (.ior, 1) := by decide +kernel
theorem dX2_kindsHeard_52 : decode cX2_kindsHeard 52 = .ok (.istore 5, 2) := by decide +kernel
theorem dX2_kindsHeard_54 : decode cX2_kindsHeard 54 = .ok (.iinc 6 1, 3) := by decide +kernel
theorem dX2_kindsHeard_57 : decode cX2_kindsHeard 57 = .ok (.goto (-51), 3) := by decide +kernel
theorem dX2_kindsHeard_60 : decode cX2_kindsHeard 60 = .ok (.iload 5, 2) := by decide +kernel
theorem dX2_kindsHeard_62 : decode cX2_kindsHeard 62 = .ok (.ireturn, 1) := by decide +kernel
theorem dX2_soundsAs_0 : decode cX2_soundsAs 0 = .ok (.iconst 0, 1) := by decide +kernel
theorem dX2_soundsAs_1 : decode cX2_soundsAs 1 = .ok (.istore 5, 2) := by decide +kernel
theorem dX2_soundsAs_3 : decode cX2_soundsAs 3 = .ok (.iload 5, 2) := by decide +kernel
theorem dX2_soundsAs_5 : decode cX2_soundsAs 5 = .ok (.aload_n 0, 1) := by decide +kernel
theorem dX2_soundsAs_6 : decode cX2_soundsAs 6 = .ok (.getfield 23, 3) := by decide +kernel
theorem dX2_soundsAs_9 : decode cX2_soundsAs 9 = .ok (.getfield 110, 3) := by decide +kernel
theorem dX2_soundsAs_12 : decode cX2_soundsAs 12 = .ok (.iload_n 2, 1) := by decide +kernel
theorem dX2_soundsAs_13 : decode cX2_soundsAs 13 = .ok (.iaload, 1) := by decide +kernel
theorem dX2_soundsAs_14 : decode cX2_soundsAs 14 = .ok (.if_icmp .ge 39, 3) := by decide +kernel
theorem dX2_soundsAs_17 : decode cX2_soundsAs 17 = .ok (.aload_n 3, 1) := by decide +kernel
theorem dX2_soundsAs_18 : decode cX2_soundsAs 18 = .ok (.iload 4, 2) := by decide +kernel
theorem dX2_soundsAs_20 : decode cX2_soundsAs 20 = .ok (.iload 5, 2) := by decide +kernel
theorem dX2_soundsAs_22 : decode cX2_soundsAs 22 = .ok (.iadd, 1) := by decide +kernel
theorem dX2_soundsAs_23 : decode cX2_soundsAs 23 = .ok (.iaload, 1) := by decide +kernel
theorem dX2_soundsAs_24 : decode cX2_soundsAs 24 = .ok (.aload_n 0, 1) := by decide +kernel
theorem dX2_soundsAs_25 : decode cX2_soundsAs 25 = .ok (.getfield 23, 3) := by decide +kernel
theorem dX2_soundsAs_28 : decode cX2_soundsAs 28 = .ok (.aload_n 0, 1) := by decide +kernel
theorem dX2_soundsAs_29 : decode cX2_soundsAs 29 = .ok (.getfield 23, 3) := by decide +kernel
theorem dX2_soundsAs_32 : decode cX2_soundsAs 32 = .ok (.iload_n 2, 1) := by decide +kernel
theorem dX2_soundsAs_33 : decode cX2_soundsAs 33 = .ok (.iload 5, 2) := by decide +kernel
theorem dX2_soundsAs_35 : decode cX2_soundsAs 35 = .ok (.invokevirtual 113, 3) := by decide +kernel
theorem dX2_soundsAs_38 : decode cX2_soundsAs 38 = .ok (.iload_n 1, 1) := by decide +kernel
theorem dX2_soundsAs_39 : decode cX2_soundsAs 39 = .ok (.invokevirtual 116, 3) := by decide +kernel
theorem dX2_soundsAs_42 : decode cX2_soundsAs 42 = .ok (.if_icmp .eq 5, 3) := by decide +kernel
theorem dX2_soundsAs_45 : decode cX2_soundsAs 45 = .ok (.iconst 0, 1) := by decide +kernel
theorem dX2_soundsAs_46 : decode cX2_soundsAs 46 = .ok (.ireturn, 1) := by decide +kernel
theorem dX2_soundsAs_47 : decode cX2_soundsAs 47 = .ok (.iinc 5 1, 3) := by decide +kernel
theorem dX2_soundsAs_50 : decode cX2_soundsAs 50 = .ok (.goto (-47), 3) := by decide +kernel
theorem dX2_soundsAs_53 : decode cX2_soundsAs 53 = .ok (.iconst 1, 1) := by decide +kernel
theorem dX2_soundsAs_54 : decode cX2_soundsAs 54 = .ok (.ireturn, 1) := by decide +kernel
theorem dX2_fewestTunings_0 : decode cX2_fewestTunings 0 = .ok (.iconst 0, 1) := by decide +kernel
theorem dX2_fewestTunings_1 : decode cX2_fewestTunings 1 = .ok (.istore_n 3, 1) := by decide +kernel
theorem dX2_fewestTunings_2 : decode cX2_fewestTunings 2 = .ok (.aload_n 0, 1) := by decide +kernel
theorem dX2_fewestTunings_3 : decode cX2_fewestTunings 3 = .ok (.getfield 23, 3) := by decide +kernel
theorem dX2_fewestTunings_6 : decode cX2_fewestTunings 6 = .ok (.getfield 49, 3) := by decide +kernel
theorem dX2_fewestTunings_9 : decode cX2_fewestTunings 9 = .ok (.istore 4, 2) := by decide +kernel
theorem dX2_fewestTunings_11 : decode cX2_fewestTunings 11 = .ok (.iconst 0, 1) := by decide +kernel
theorem dX2_fewestTunings_12 : decode cX2_fewestTunings 12 = .ok (.istore 5, 2) := by decide +kernel
theorem dX2_fewestTunings_14 : decode cX2_fewestTunings 14 = .ok (.iload 5, 2) := by decide +kernel
theorem dX2_fewestTunings_16 : decode cX2_fewestTunings 16 = .ok (.iload_n 1, 1) := by decide +kernel
theorem dX2_fewestTunings_17 : decode cX2_fewestTunings 17 = .ok (.if_icmp .ge 40, 3) := by decide +kernel
theorem dX2_fewestTunings_20 : decode cX2_fewestTunings 20 = .ok (.aload_n 0, 1) := by decide +kernel
theorem dX2_fewestTunings_21 : decode cX2_fewestTunings 21 = .ok (.getfield 23, 3) := by decide +kernel
theorem dX2_fewestTunings_24 : decode cX2_fewestTunings 24 = .ok (.iload 4, 2) := by decide +kernel
theorem dX2_fewestTunings_26 : decode cX2_fewestTunings 26 = .ok (.aload_n 0, 1) := by decide +kernel
theorem dX2_fewestTunings_27 : decode cX2_fewestTunings 27 = .ok (.getfield 23, 3) := by decide +kernel
theorem dX2_fewestTunings_30 : decode cX2_fewestTunings 30 = .ok (.getfield 96, 3) := by decide +kernel
theorem dX2_fewestTunings_33 : decode cX2_fewestTunings 33 = .ok (.iadd, 1) := by decide +kernel
theorem dX2_fewestTunings_34 : decode cX2_fewestTunings 34 = .ok (.invokevirtual 40, 3) := by decide +kernel
theorem dX2_fewestTunings_37 : decode cX2_fewestTunings 37 = .ok (.istore 4, 2) := by decide +kernel
theorem dX2_fewestTunings_39 : decode cX2_fewestTunings 39 = .ok (.iload 4, 2) := by decide +kernel
theorem dX2_fewestTunings_41 : decode cX2_fewestTunings 41 = .ok (.iload_n 2, 1) := by decide +kernel
theorem dX2_fewestTunings_42 : decode cX2_fewestTunings 42 = .ok (.if_icmp .le 9, 3) := by decide +kernel
theorem dX2_fewestTunings_45 : decode cX2_fewestTunings 45 = .ok (.iconst 0, 1) := by decide +kernel
theorem dX2_fewestTunings_46 : decode cX2_fewestTunings 46 = .ok (.istore 4, 2) := by decide +kernel
theorem dX2_fewestTunings_48 : decode cX2_fewestTunings 48 = .ok (.iinc 3 1, 3) := by decide +kernel
theorem dX2_fewestTunings_51 : decode cX2_fewestTunings 51 = .ok (.iinc 5 1, 3) := by decide +kernel
theorem dX2_fewestTunings_54 : decode cX2_fewestTunings 54 = .ok (.goto (-40), 3) := by decide +kernel
theorem dX2_fewestTunings_57 : decode cX2_fewestTunings 57 = .ok (.iload_n 3, 1) := by decide +kernel
theorem dX2_fewestTunings_58 : decode cX2_fewestTunings 58 = .ok (.ireturn, 1) := by decide +kernel
theorem dX2_firstNightAlike_0 : decode cX2_firstNightAlike 0 = .ok (.iconst 0, 1) := by decide +kernel
theorem dX2_firstNightAlike_1 : decode cX2_firstNightAlike 1 = .ok (.istore_n 3, 1) := by decide +kernel
theorem dX2_firstNightAlike_2 : decode cX2_firstNightAlike 2 = .ok (.iload_n 3, 1) := by decide +kernel
theorem dX2_firstNightAlike_3 : decode cX2_firstNightAlike 3 = .ok (.bipush 100, 2) := by decide +kernel
theorem dX2_firstNightAlike_5 : decode cX2_firstNightAlike 5 = .ok (.if_icmp .gt 34, 3) := by decide +kernel
theorem dX2_firstNightAlike_8 : decode cX2_firstNightAlike 8 = .ok (.aload_n 0, 1) := by decide +kernel
theorem dX2_firstNightAlike_9 : decode cX2_firstNightAlike 9 = .ok (.getfield 23, 3) := by decide +kernel
theorem dX2_firstNightAlike_12 : decode cX2_firstNightAlike 12 = .ok (.iload_n 3, 1) := by decide +kernel
theorem dX2_firstNightAlike_13 : decode cX2_firstNightAlike 13 = .ok (.invokevirtual 27, 3) := by decide +kernel
theorem dX2_firstNightAlike_16 : decode cX2_firstNightAlike 16 = .ok (.aload_n 0, 1) := by decide +kernel
theorem dX2_firstNightAlike_17 : decode cX2_firstNightAlike 17 = .ok (.getfield 23, 3) := by decide +kernel
theorem dX2_firstNightAlike_20 : decode cX2_firstNightAlike 20 = .ok (.iload_n 2, 1) := by decide +kernel
theorem dX2_firstNightAlike_21 : decode cX2_firstNightAlike 21 = .ok (.iload_n 3, 1) := by decide +kernel
theorem dX2_firstNightAlike_22 : decode cX2_firstNightAlike 22 = .ok (.iload_n 1, 1) := by decide +kernel
theorem dX2_firstNightAlike_23 : decode cX2_firstNightAlike 23 = .ok (.imul, 1) := by decide +kernel
theorem dX2_firstNightAlike_24 : decode cX2_firstNightAlike 24 = .ok (.iadd, 1) := by decide +kernel
theorem dX2_firstNightAlike_25 : decode cX2_firstNightAlike 25 = .ok (.invokevirtual 40, 3) := by decide +kernel
theorem dX2_firstNightAlike_28 : decode cX2_firstNightAlike 28 = .ok (.if_icmp .ne 5, 3) := by decide +kernel
theorem dX2_firstNightAlike_31 : decode cX2_firstNightAlike 31 = .ok (.iload_n 3, 1) := by decide +kernel
theorem dX2_firstNightAlike_32 : decode cX2_firstNightAlike 32 = .ok (.ireturn, 1) := by decide +kernel
theorem dX2_firstNightAlike_33 : decode cX2_firstNightAlike 33 = .ok (.iinc 3 1, 3) := by decide +kernel
theorem dX2_firstNightAlike_36 : decode cX2_firstNightAlike 36 = .ok (.goto (-34), 3) := by decide +kernel
theorem dX2_firstNightAlike_39 : decode cX2_firstNightAlike 39 = .ok (.ldc 31, 2) := by decide +kernel
theorem dX2_firstNightAlike_41 : decode cX2_firstNightAlike 41 = .ok (.ireturn, 1) := by decide +kernel
theorem dX2_tenthsRight_0 : decode cX2_tenthsRight 0 = .ok (.lconst 0, 1) := by decide +kernel
theorem dX2_tenthsRight_1 : decode cX2_tenthsRight 1 = .ok (.lstore 4, 2) := by decide +kernel
theorem dX2_tenthsRight_3 : decode cX2_tenthsRight 3 = .ok (.iconst 0, 1) := by decide +kernel
theorem dX2_tenthsRight_4 : decode cX2_tenthsRight 4 = .ok (.istore 6, 2) := by decide +kernel
theorem dX2_tenthsRight_6 : decode cX2_tenthsRight 6 = .ok (.iload 6, 2) := by decide +kernel
theorem dX2_tenthsRight_8 : decode cX2_tenthsRight 8 = .ok (.iload_n 3, 1) := by decide +kernel
theorem dX2_tenthsRight_9 : decode cX2_tenthsRight 9 = .ok (.if_icmp .gt 61, 3) := by decide +kernel
theorem dX2_tenthsRight_12 : decode cX2_tenthsRight 12 = .ok (.aload_n 0, 1) := by decide +kernel
theorem dX2_tenthsRight_13 : decode cX2_tenthsRight 13 = .ok (.getfield 23, 3) := by decide +kernel
theorem dX2_tenthsRight_16 : decode cX2_tenthsRight 16 = .ok (.aload_n 0, 1) := by decide +kernel
theorem dX2_tenthsRight_17 : decode cX2_tenthsRight 17 = .ok (.getfield 23, 3) := by decide +kernel
theorem dX2_tenthsRight_20 : decode cX2_tenthsRight 20 = .ok (.iload_n 3, 1) := by decide +kernel
theorem dX2_tenthsRight_21 : decode cX2_tenthsRight 21 = .ok (.invokevirtual 27, 3) := by decide +kernel
theorem dX2_tenthsRight_24 : decode cX2_tenthsRight 24 = .ok (.iload 6, 2) := by decide +kernel
theorem dX2_tenthsRight_26 : decode cX2_tenthsRight 26 = .ok (.iadd, 1) := by decide +kernel
theorem dX2_tenthsRight_27 : decode cX2_tenthsRight 27 = .ok (.invokevirtual 40, 3) := by decide +kernel
theorem dX2_tenthsRight_30 : decode cX2_tenthsRight 30 = .ok (.iload_n 1, 1) := by decide +kernel
theorem dX2_tenthsRight_31 : decode cX2_tenthsRight 31 = .ok (.if_icmp .ne 33, 3) := by decide +kernel
theorem dX2_tenthsRight_34 : decode cX2_tenthsRight 34 = .ok (.lload 4, 2) := by decide +kernel
theorem dX2_tenthsRight_36 : decode cX2_tenthsRight 36 = .ok (.iload_n 3, 1) := by decide +kernel
theorem dX2_tenthsRight_37 : decode cX2_tenthsRight 37 = .ok (.iload 6, 2) := by decide +kernel
theorem dX2_tenthsRight_39 : decode cX2_tenthsRight 39 = .ok (.invokestatic 119, 3) := by decide +kernel
theorem dX2_tenthsRight_42 : decode cX2_tenthsRight 42 = .ok (.iload_n 2, 1) := by decide +kernel
theorem dX2_tenthsRight_43 : decode cX2_tenthsRight 43 = .ok (.iload 6, 2) := by decide +kernel
theorem dX2_tenthsRight_45 : decode cX2_tenthsRight 45 = .ok (.invokestatic 123, 3) := by decide +kernel
theorem dX2_tenthsRight_48 : decode cX2_tenthsRight 48 = .ok (.lmul, 1) := by decide +kernel
theorem dX2_tenthsRight_49 : decode cX2_tenthsRight 49 = .ok (.bipush 10, 2) := by decide +kernel
theorem dX2_tenthsRight_51 : decode cX2_tenthsRight 51 = .ok (.iload_n 2, 1) := by decide +kernel
theorem dX2_tenthsRight_52 : decode cX2_tenthsRight 52 = .ok (.isub, 1) := by decide +kernel
theorem dX2_tenthsRight_53 : decode cX2_tenthsRight 53 = .ok (.iload_n 3, 1) := by decide +kernel
theorem dX2_tenthsRight_54 : decode cX2_tenthsRight 54 = .ok (.iload 6, 2) := by decide +kernel
theorem dX2_tenthsRight_56 : decode cX2_tenthsRight 56 = .ok (.isub, 1) := by decide +kernel
theorem dX2_tenthsRight_57 : decode cX2_tenthsRight 57 = .ok (.invokestatic 123, 3) := by decide +kernel
theorem dX2_tenthsRight_60 : decode cX2_tenthsRight 60 = .ok (.lmul, 1) := by decide +kernel
theorem dX2_tenthsRight_61 : decode cX2_tenthsRight 61 = .ok (.ladd, 1) := by decide +kernel
theorem dX2_tenthsRight_62 : decode cX2_tenthsRight 62 = .ok (.lstore 4, 2) := by decide +kernel
theorem dX2_tenthsRight_64 : decode cX2_tenthsRight 64 = .ok (.iinc 6 1, 3) := by decide +kernel
theorem dX2_tenthsRight_67 : decode cX2_tenthsRight 67 = .ok (.goto (-61), 3) := by decide +kernel
theorem dX2_tenthsRight_70 : decode cX2_tenthsRight 70 = .ok (.lload 4, 2) := by decide +kernel
theorem dX2_tenthsRight_72 : decode cX2_tenthsRight 72 = .ok (.lreturn, 1) := by decide +kernel
theorem dX2_choices_0 : decode cX2_choices 0 = .ok (.lconst 1, 1) := by decide +kernel
theorem dX2_choices_1 : decode cX2_choices 1 = .ok (.lstore_n 2, 1) := by decide +kernel
theorem dX2_choices_2 : decode cX2_choices 2 = .ok (.iconst 1, 1) := by decide +kernel
theorem dX2_choices_3 : decode cX2_choices 3 = .ok (.istore 4, 2) := by decide +kernel
theorem dX2_choices_5 : decode cX2_choices 5 = .ok (.iload 4, 2) := by decide +kernel
theorem dX2_choices_7 : decode cX2_choices 7 = .ok (.iload_n 1, 1) := by decide +kernel
theorem dX2_choices_8 : decode cX2_choices 8 = .ok (.if_icmp .gt 23, 3) := by decide +kernel
theorem dX2_choices_11 : decode cX2_choices 11 = .ok (.lload_n 2, 1) := by decide +kernel
theorem dX2_choices_12 : decode cX2_choices 12 = .ok (.iload_n 0, 1) := by decide +kernel
theorem dX2_choices_13 : decode cX2_choices 13 = .ok (.iload_n 1, 1) := by decide +kernel
theorem dX2_choices_14 : decode cX2_choices 14 = .ok (.isub, 1) := by decide +kernel
theorem dX2_choices_15 : decode cX2_choices 15 = .ok (.iload 4, 2) := by decide +kernel
theorem dX2_choices_17 : decode cX2_choices 17 = .ok (.iadd, 1) := by decide +kernel
theorem dX2_choices_18 : decode cX2_choices 18 = .ok (.i2l, 1) := by decide +kernel
theorem dX2_choices_19 : decode cX2_choices 19 = .ok (.lmul, 1) := by decide +kernel
theorem dX2_choices_20 : decode cX2_choices 20 = .ok (.iload 4, 2) := by decide +kernel
theorem dX2_choices_22 : decode cX2_choices 22 = .ok (.i2l, 1) := by decide +kernel
theorem dX2_choices_23 : decode cX2_choices 23 = .ok (.ldiv, 1) := by decide +kernel
theorem dX2_choices_24 : decode cX2_choices 24 = .ok (.lstore_n 2, 1) := by decide +kernel
theorem dX2_choices_25 : decode cX2_choices 25 = .ok (.iinc 4 1, 3) := by decide +kernel
theorem dX2_choices_28 : decode cX2_choices 28 = .ok (.goto (-23), 3) := by decide +kernel
theorem dX2_choices_31 : decode cX2_choices 31 = .ok (.lload_n 2, 1) := by decide +kernel
theorem dX2_choices_32 : decode cX2_choices 32 = .ok (.lreturn, 1) := by decide +kernel
theorem dX2_power_0 : decode cX2_power 0 = .ok (.lconst 1, 1) := by decide +kernel
theorem dX2_power_1 : decode cX2_power 1 = .ok (.lstore_n 2, 1) := by decide +kernel
theorem dX2_power_2 : decode cX2_power 2 = .ok (.iconst 0, 1) := by decide +kernel
theorem dX2_power_3 : decode cX2_power 3 = .ok (.istore 4, 2) := by decide +kernel
theorem dX2_power_5 : decode cX2_power 5 = .ok (.iload 4, 2) := by decide +kernel
theorem dX2_power_7 : decode cX2_power 7 = .ok (.iload_n 1, 1) := by decide +kernel
theorem dX2_power_8 : decode cX2_power 8 = .ok (.if_icmp .ge 14, 3) := by decide +kernel
theorem dX2_power_11 : decode cX2_power 11 = .ok (.lload_n 2, 1) := by decide +kernel
theorem dX2_power_12 : decode cX2_power 12 = .ok (.iload_n 0, 1) := by decide +kernel
theorem dX2_power_13 : decode cX2_power 13 = .ok (.i2l, 1) := by decide +kernel
theorem dX2_power_14 : decode cX2_power 14 = .ok (.lmul, 1) := by decide +kernel
theorem dX2_power_15 : decode cX2_power 15 = .ok (.lstore_n 2, 1) := by decide +kernel
theorem dX2_power_16 : decode cX2_power 16 = .ok (.iinc 4 1, 3) := by decide +kernel
theorem dX2_power_19 : decode cX2_power 19 = .ok (.goto (-14), 3) := by decide +kernel
theorem dX2_power_22 : decode cX2_power 22 = .ok (.lload_n 2, 1) := by decide +kernel
theorem dX2_power_23 : decode cX2_power 23 = .ok (.lreturn, 1) := by decide +kernel
theorem dX2_divisorOfBoth_0 : decode cX2_divisorOfBoth 0 = .ok (.lload_n 0, 1) := by decide +kernel
theorem dX2_divisorOfBoth_1 : decode cX2_divisorOfBoth 1 = .ok (.lstore 4, 2) := by decide +kernel
theorem dX2_divisorOfBoth_3 : decode cX2_divisorOfBoth 3 = .ok (.lload_n 2, 1) := by decide +kernel
theorem dX2_divisorOfBoth_4 : decode cX2_divisorOfBoth 4 = .ok (.lstore 6, 2) := by decide +kernel
theorem dX2_divisorOfBoth_6 : decode cX2_divisorOfBoth 6 = .ok (.iconst 0, 1) := by decide +kernel
theorem dX2_divisorOfBoth_7 : decode cX2_divisorOfBoth 7 = .ok (.istore 8, 2) := by decide +kernel
theorem dX2_divisorOfBoth_9 : decode cX2_divisorOfBoth 9 = .ok (.iload 8, 2) := by decide +kernel
theorem dX2_divisorOfBoth_11 : decode cX2_divisorOfBoth 11 = .ok (.sipush 128, 3) := by decide +kernel
theorem dX2_divisorOfBoth_14 : decode cX2_divisorOfBoth 14 = .ok (.if_icmp .ge 31, 3) := by decide +kernel
theorem dX2_divisorOfBoth_17 : decode cX2_divisorOfBoth 17 = .ok (.lload 6, 2) := by decide +kernel
theorem dX2_divisorOfBoth_19 : decode cX2_divisorOfBoth 19 = .ok (.lconst 0, 1) := by decide +kernel
theorem dX2_divisorOfBoth_20 : decode cX2_divisorOfBoth 20 = .ok (.lcmp, 1) := by decide +kernel
theorem dX2_divisorOfBoth_21 : decode cX2_divisorOfBoth 21 = .ok (.ifCond .eq 24, 3) := by decide +kernel
theorem dX2_divisorOfBoth_24 : decode cX2_divisorOfBoth 24 = .ok (.lload 4, 2) := by decide +kernel
theorem dX2_divisorOfBoth_26 : decode cX2_divisorOfBoth 26 = .ok (.lload 6, 2) := by decide +kernel
theorem dX2_divisorOfBoth_28 : decode cX2_divisorOfBoth 28 = .ok (.lrem, 1) := by decide +kernel
theorem dX2_divisorOfBoth_29 : decode cX2_divisorOfBoth 29 = .ok (.lstore 9, 2) := by decide +kernel
theorem dX2_divisorOfBoth_31 : decode cX2_divisorOfBoth 31 = .ok (.lload 6, 2) := by decide +kernel
theorem dX2_divisorOfBoth_33 : decode cX2_divisorOfBoth 33 = .ok (.lstore 4, 2) := by decide +kernel
theorem dX2_divisorOfBoth_35 : decode cX2_divisorOfBoth 35 = .ok (.lload 9, 2) := by decide +kernel
theorem dX2_divisorOfBoth_37 : decode cX2_divisorOfBoth 37 = .ok (.lstore 6, 2) := by decide +kernel
theorem dX2_divisorOfBoth_39 : decode cX2_divisorOfBoth 39 = .ok (.iinc 8 1, 3) := by decide +kernel
theorem dX2_divisorOfBoth_42 : decode cX2_divisorOfBoth 42 = .ok (.goto (-33), 3) := by decide +kernel
theorem dX2_divisorOfBoth_45 : decode cX2_divisorOfBoth 45 = .ok (.lload 4, 2) := by decide +kernel
theorem dX2_divisorOfBoth_47 : decode cX2_divisorOfBoth 47 = .ok (.lreturn, 1) := by decide +kernel
theorem dX2_nightsByDraws_0 : decode cX2_nightsByDraws 0 = .ok (.iload_n 2, 1) := by decide +kernel
theorem dX2_nightsByDraws_1 : decode cX2_nightsByDraws 1 = .ok (.i2l, 1) := by decide +kernel
theorem dX2_nightsByDraws_2 : decode cX2_nightsByDraws 2 = .ok (.lstore 4, 2) := by decide +kernel
theorem dX2_nightsByDraws_4 : decode cX2_nightsByDraws 4 = .ok (.aload_n 0, 1) := by decide +kernel
theorem dX2_nightsByDraws_5 : decode cX2_nightsByDraws 5 = .ok (.getfield 23, 3) := by decide +kernel
theorem dX2_nightsByDraws_8 : decode cX2_nightsByDraws 8 = .ok (.getfield 49, 3) := by decide +kernel
theorem dX2_nightsByDraws_11 : decode cX2_nightsByDraws 11 = .ok (.istore 6, 2) := by decide +kernel
theorem dX2_nightsByDraws_13 : decode cX2_nightsByDraws 13 = .ok (.aload_n 0, 1) := by decide +kernel
theorem dX2_nightsByDraws_14 : decode cX2_nightsByDraws 14 = .ok (.invokevirtual 126, 3) := by decide +kernel
theorem dX2_nightsByDraws_17 : decode cX2_nightsByDraws 17 = .ok (.istore 7, 2) := by decide +kernel
theorem dX2_nightsByDraws_19 : decode cX2_nightsByDraws 19 = .ok (.iconst 0, 1) := by decide +kernel
theorem dX2_nightsByDraws_20 : decode cX2_nightsByDraws 20 = .ok (.istore 8, 2) := by decide +kernel
theorem dX2_nightsByDraws_22 : decode cX2_nightsByDraws 22 = .ok (.iconst 0, 1) := by decide +kernel
theorem dX2_nightsByDraws_23 : decode cX2_nightsByDraws 23 = .ok (.istore 9, 2) := by decide +kernel
theorem dX2_nightsByDraws_25 : decode cX2_nightsByDraws 25 = .ok (.iload 9, 2) := by decide +kernel
theorem dX2_nightsByDraws_27 : decode cX2_nightsByDraws 27 = .ok (.iload_n 1, 1) := by decide +kernel
theorem dX2_nightsByDraws_28 : decode cX2_nightsByDraws 28 = .ok (.if_icmp .ge 85, 3) := by decide +kernel
theorem dX2_nightsByDraws_31 : decode cX2_nightsByDraws 31 = .ok (.lload 4, 2) := by decide +kernel
theorem dX2_nightsByDraws_33 : decode cX2_nightsByDraws 33 = .ok (.ldc2_w 129, 3) := by decide +kernel
theorem dX2_nightsByDraws_36 : decode cX2_nightsByDraws 36 = .ok (.lmul, 1) := by decide +kernel
theorem dX2_nightsByDraws_37 : decode cX2_nightsByDraws 37 = .ok (.ldc2_w 131, 3) := by decide +kernel
theorem dX2_nightsByDraws_40 : decode cX2_nightsByDraws 40 = .ok (.lrem, 1) := by decide +kernel
theorem dX2_nightsByDraws_41 : decode cX2_nightsByDraws 41 = .ok (.lstore 4, 2) := by decide +kernel
theorem dX2_nightsByDraws_43 : decode cX2_nightsByDraws 43 = .ok (.lload 4, 2) := by decide +kernel
theorem dX2_nightsByDraws_45 : decode cX2_nightsByDraws 45 = .ok (.ldc2_w 133, 3) := by decide +kernel
theorem dX2_nightsByDraws_48 : decode cX2_nightsByDraws 48 = .ok (.lrem, 1) := by decide +kernel
theorem dX2_nightsByDraws_49 : decode cX2_nightsByDraws 49 = .ok (.lconst 0, 1) := by decide +kernel
theorem dX2_nightsByDraws_50 : decode cX2_nightsByDraws 50 = .ok (.lcmp, 1) := by decide +kernel
theorem dX2_nightsByDraws_51 : decode cX2_nightsByDraws 51 = .ok (.ifCond .ne 25, 3) := by decide +kernel
theorem dX2_nightsByDraws_54 : decode cX2_nightsByDraws 54 = .ok (.aload_n 0, 1) := by decide +kernel
theorem dX2_nightsByDraws_55 : decode cX2_nightsByDraws 55 = .ok (.getfield 23, 3) := by decide +kernel
theorem dX2_nightsByDraws_58 : decode cX2_nightsByDraws 58 = .ok (.iload 6, 2) := by decide +kernel
theorem dX2_nightsByDraws_60 : decode cX2_nightsByDraws 60 = .ok (.aload_n 0, 1) := by decide +kernel
theorem dX2_nightsByDraws_61 : decode cX2_nightsByDraws 61 = .ok (.getfield 23, 3) := by decide +kernel
theorem dX2_nightsByDraws_64 : decode cX2_nightsByDraws 64 = .ok (.lload 4, 2) := by decide +kernel
theorem dX2_nightsByDraws_66 : decode cX2_nightsByDraws 66 = .ok (.l2i, 1) := by decide +kernel
theorem dX2_nightsByDraws_67 : decode cX2_nightsByDraws 67 = .ok (.invokevirtual 40, 3) := by decide +kernel
theorem dX2_nightsByDraws_70 : decode cX2_nightsByDraws 70 = .ok (.iadd, 1) := by decide +kernel
theorem dX2_nightsByDraws_71 : decode cX2_nightsByDraws 71 = .ok (.invokevirtual 40, 3) := by decide +kernel
theorem dX2_nightsByDraws_74 : decode cX2_nightsByDraws 74 = .ok (.istore 6, 2) := by decide +kernel
theorem dX2_nightsByDraws_76 : decode cX2_nightsByDraws 76 = .ok (.aload_n 0, 1) := by decide +kernel
theorem dX2_nightsByDraws_77 : decode cX2_nightsByDraws 77 = .ok (.getfield 23, 3) := by decide +kernel
theorem dX2_nightsByDraws_80 : decode cX2_nightsByDraws 80 = .ok (.iload 6, 2) := by decide +kernel
theorem dX2_nightsByDraws_82 : decode cX2_nightsByDraws 82 = .ok (.aload_n 0, 1) := by decide +kernel
theorem dX2_nightsByDraws_83 : decode cX2_nightsByDraws 83 = .ok (.getfield 23, 3) := by decide +kernel
theorem dX2_nightsByDraws_86 : decode cX2_nightsByDraws 86 = .ok (.getfield 96, 3) := by decide +kernel
theorem dX2_nightsByDraws_89 : decode cX2_nightsByDraws 89 = .ok (.iadd, 1) := by decide +kernel
theorem dX2_nightsByDraws_90 : decode cX2_nightsByDraws 90 = .ok (.invokevirtual 40, 3) := by decide +kernel
theorem dX2_nightsByDraws_93 : decode cX2_nightsByDraws 93 = .ok (.istore 6, 2) := by decide +kernel
theorem dX2_nightsByDraws_95 : decode cX2_nightsByDraws 95 = .ok (.iload 8, 2) := by decide +kernel
theorem dX2_nightsByDraws_97 : decode cX2_nightsByDraws 97 = .ok (.iload 7, 2) := by decide +kernel
theorem dX2_nightsByDraws_99 : decode cX2_nightsByDraws 99 = .ok (.iload 6, 2) := by decide +kernel
theorem dX2_nightsByDraws_101 : decode cX2_nightsByDraws 101 = .ok (.ishr, 1) := by decide +kernel
theorem dX2_nightsByDraws_102 : decode cX2_nightsByDraws 102 = .ok (.iconst 1, 1) := by decide +kernel
theorem dX2_nightsByDraws_103 : decode cX2_nightsByDraws 103 = .ok (.iand, 1) := by decide +kernel
theorem dX2_nightsByDraws_104 : decode cX2_nightsByDraws 104 = .ok (.iadd, 1) := by decide +kernel
theorem dX2_nightsByDraws_105 : decode cX2_nightsByDraws 105 = .ok (.istore 8, 2) := by decide +kernel
theorem dX2_nightsByDraws_107 : decode cX2_nightsByDraws 107 = .ok (.iinc 9 1, 3) := by decide +kernel
theorem dX2_nightsByDraws_110 : decode cX2_nightsByDraws 110 = .ok (.goto (-85), 3) := by decide +kernel
theorem dX2_nightsByDraws_113 : decode cX2_nightsByDraws 113 = .ok (.iload_n 3, 1) := by decide +kernel
theorem dX2_nightsByDraws_114 : decode cX2_nightsByDraws 114 = .ok (.ifCond .eq 8, 3) := by decide +kernel
theorem dX2_nightsByDraws_117 : decode cX2_nightsByDraws 117 = .ok (.iload 8, 2) := by decide +kernel
theorem dX2_nightsByDraws_119 : decode cX2_nightsByDraws 119 = .ok (.goto 5, 3) := by decide +kernel
theorem dX2_nightsByDraws_122 : decode cX2_nightsByDraws 122 = .ok (.iload 6, 2) := by decide +kernel
theorem dX2_nightsByDraws_124 : decode cX2_nightsByDraws 124 = .ok (.ireturn, 1) := by decide +kernel
theorem dX2_biasesOfAll_0 : decode cX2_biasesOfAll 0 = .ok (.iconst 0, 1) := by decide +kernel
theorem dX2_biasesOfAll_1 : decode cX2_biasesOfAll 1 = .ok (.istore_n 1, 1) := by decide +kernel
theorem dX2_biasesOfAll_2 : decode cX2_biasesOfAll 2 = .ok (.iconst 0, 1) := by decide +kernel
theorem dX2_biasesOfAll_3 : decode cX2_biasesOfAll 3 = .ok (.istore_n 2, 1) := by decide +kernel
theorem dX2_biasesOfAll_4 : decode cX2_biasesOfAll 4 = .ok (.iload_n 2, 1) := by decide +kernel
theorem dX2_biasesOfAll_5 : decode cX2_biasesOfAll 5 = .ok (.aload_n 0, 1) := by decide +kernel
theorem dX2_biasesOfAll_6 : decode cX2_biasesOfAll 6 = .ok (.getfield 23, 3) := by decide +kernel
theorem dX2_biasesOfAll_9 : decode cX2_biasesOfAll 9 = .ok (.getfield 43, 3) := by decide +kernel
theorem dX2_biasesOfAll_12 : decode cX2_biasesOfAll 12 = .ok (.if_icmp .ge 22, 3) := by decide +kernel
theorem dX2_biasesOfAll_15 : decode cX2_biasesOfAll 15 = .ok (.iload_n 1, 1) := by decide +kernel
theorem dX2_biasesOfAll_16 : decode cX2_biasesOfAll 16 = .ok (.iconst 1, 1) := by decide +kernel
theorem dX2_biasesOfAll_17 : decode cX2_biasesOfAll 17 = .ok (.aload_n 0, 1) := by decide +kernel
theorem dX2_biasesOfAll_18 : decode cX2_biasesOfAll 18 = .ok (.getfield 23, 3) := by decide +kernel
theorem dX2_biasesOfAll_21 : decode cX2_biasesOfAll 21 = .ok (.iload_n 2, 1) := by decide +kernel
theorem dX2_biasesOfAll_22 : decode cX2_biasesOfAll 22 = .ok (.invokevirtual 56, 3) := by decide +kernel
theorem dX2_biasesOfAll_25 : decode cX2_biasesOfAll 25 = .ok (.ishl, 1) := by decide +kernel
theorem dX2_biasesOfAll_26 : decode cX2_biasesOfAll 26 = .ok (.ior, 1) := by decide +kernel
theorem dX2_biasesOfAll_27 : decode cX2_biasesOfAll 27 = .ok (.istore_n 1, 1) := by decide +kernel
theorem dX2_biasesOfAll_28 : decode cX2_biasesOfAll 28 = .ok (.iinc 2 1, 3) := by decide +kernel
theorem dX2_biasesOfAll_31 : decode cX2_biasesOfAll 31 = .ok (.goto (-27), 3) := by decide +kernel
theorem dX2_biasesOfAll_34 : decode cX2_biasesOfAll 34 = .ok (.iload_n 1, 1) := by decide +kernel
theorem dX2_biasesOfAll_35 : decode cX2_biasesOfAll 35 = .ok (.ireturn, 1) := by decide +kernel
theorem dX3_init_0 : decode cX3_init 0 = .ok (.aload_n 0, 1) := by decide +kernel
theorem dX3_init_1 : decode cX3_init 1 = .ok (.invokespecial 3, 3) := by decide +kernel
theorem dX3_init_4 : decode cX3_init 4 = .ok (.aload_n 0, 1) := by decide +kernel
theorem dX3_init_5 : decode cX3_init 5 = .ok (.iconst 4, 1) := by decide +kernel
theorem dX3_init_6 : decode cX3_init 6 = .ok (.newarray .int, 2) := by decide +kernel
theorem dX3_init_8 : decode cX3_init 8 = .ok (.putfield 11, 3) := by decide +kernel
theorem dX3_init_11 : decode cX3_init 11 = .ok (.aload_n 0, 1) := by decide +kernel
theorem dX3_init_12 : decode cX3_init 12 = .ok (.bipush 32, 2) := by decide +kernel
theorem dX3_init_14 : decode cX3_init 14 = .ok (.newarray .int, 2) := by decide +kernel
theorem dX3_init_16 : decode cX3_init 16 = .ok (.putfield 15, 3) := by decide +kernel
theorem dX3_init_19 : decode cX3_init 19 = .ok (.aload_n 0, 1) := by decide +kernel
theorem dX3_init_20 : decode cX3_init 20 = .ok (.iconst 5, 1) := by decide +kernel
theorem dX3_init_21 : decode cX3_init 21 = .ok (.newarray .int, 2) := by decide +kernel
theorem dX3_init_23 : decode cX3_init 23 = .ok (.putfield 18, 3) := by decide +kernel
theorem dX3_init_26 : decode cX3_init 26 = .ok (.aload_n 0, 1) := by decide +kernel
theorem dX3_init_27 : decode cX3_init 27 = .ok (.iconst 5, 1) := by decide +kernel
theorem dX3_init_28 : decode cX3_init 28 = .ok (.newarray .int, 2) := by decide +kernel
theorem dX3_init_30 : decode cX3_init 30 = .ok (.putfield 21, 3) := by decide +kernel
theorem dX3_init_33 : decode cX3_init 33 = .ok (.aload_n 0, 1) := by decide +kernel
theorem dX3_init_34 : decode cX3_init 34 = .ok (.iconst 5, 1) := by decide +kernel
theorem dX3_init_35 : decode cX3_init 35 = .ok (.newarray .int, 2) := by decide +kernel
theorem dX3_init_37 : decode cX3_init 37 = .ok (.putfield 24, 3) := by decide +kernel
theorem dX3_init_40 : decode cX3_init 40 = .ok (.return_, 1) := by decide +kernel
theorem dX3_isTold_0 : decode cX3_isTold 0 = .ok (.aload_n 0, 1) := by decide +kernel
theorem dX3_isTold_1 : decode cX3_isTold 1 = .ok (.getfield 27, 3) := by decide +kernel
theorem dX3_isTold_4 : decode cX3_isTold 4 = .ok (.ifCond .le 7, 3) := by decide +kernel
theorem dX3_isTold_7 : decode cX3_isTold 7 = .ok (.iconst 1, 1) := by decide +kernel
theorem dX3_isTold_8 : decode cX3_isTold 8 = .ok (.goto 4, 3) := by decide +kernel
theorem dX3_isTold_11 : decode cX3_isTold 11 = .ok (.iconst 0, 1) := by decide +kernel
theorem dX3_isTold_12 : decode cX3_isTold 12 = .ok (.ireturn, 1) := by decide +kernel
theorem dX3_hasPiece_0 : decode cX3_hasPiece 0 = .ok (.iload_n 1, 1) := by decide +kernel
theorem dX3_hasPiece_1 : decode cX3_hasPiece 1 = .ok (.ifCond .lt 15, 3) := by decide +kernel
theorem dX3_hasPiece_4 : decode cX3_hasPiece 4 = .ok (.iload_n 1, 1) := by decide +kernel
theorem dX3_hasPiece_5 : decode cX3_hasPiece 5 = .ok (.aload_n 0, 1) := by decide +kernel
theorem dX3_hasPiece_6 : decode cX3_hasPiece 6 = .ok (.getfield 31, 3) := by decide +kernel
theorem dX3_hasPiece_9 : decode cX3_hasPiece 9 = .ok (.if_icmp .ge 7, 3) := by decide +kernel
theorem dX3_hasPiece_12 : decode cX3_hasPiece 12 = .ok (.iconst 1, 1) := by decide +kernel
theorem dX3_hasPiece_13 : decode cX3_hasPiece 13 = .ok (.goto 4, 3) := by decide +kernel
theorem dX3_hasPiece_16 : decode cX3_hasPiece 16 = .ok (.iconst 0, 1) := by decide +kernel
theorem dX3_hasPiece_17 : decode cX3_hasPiece 17 = .ok (.ireturn, 1) := by decide +kernel
theorem dX3_hasPupil_0 : decode cX3_hasPupil 0 = .ok (.iload_n 1, 1) := by decide +kernel
theorem dX3_hasPupil_1 : decode cX3_hasPupil 1 = .ok (.ifCond .lt 15, 3) := by decide +kernel
theorem dX3_hasPupil_4 : decode cX3_hasPupil 4 = .ok (.iload_n 1, 1) := by decide +kernel
theorem dX3_hasPupil_5 : decode cX3_hasPupil 5 = .ok (.aload_n 0, 1) := by decide +kernel
theorem dX3_hasPupil_6 : decode cX3_hasPupil 6 = .ok (.getfield 34, 3) := by decide +kernel
theorem dX3_hasPupil_9 : decode cX3_hasPupil 9 = .ok (.if_icmp .ge 7, 3) := by decide +kernel
theorem dX3_hasPupil_12 : decode cX3_hasPupil 12 = .ok (.iconst 1, 1) := by decide +kernel
theorem dX3_hasPupil_13 : decode cX3_hasPupil 13 = .ok (.goto 4, 3) := by decide +kernel
theorem dX3_hasPupil_16 : decode cX3_hasPupil 16 = .ok (.iconst 0, 1) := by decide +kernel
theorem dX3_hasPupil_17 : decode cX3_hasPupil 17 = .ok (.ireturn, 1) := by decide +kernel
theorem dX3_become_0 : decode cX3_become 0 = .ok (.aload_n 0, 1) := by decide +kernel
theorem dX3_become_1 : decode cX3_become 1 = .ok (.aload_n 1, 1) := by decide +kernel
theorem dX3_become_2 : decode cX3_become 2 = .ok (.getfield 27, 3) := by decide +kernel
theorem dX3_become_5 : decode cX3_become 5 = .ok (.putfield 27, 3) := by decide +kernel
theorem dX3_become_8 : decode cX3_become 8 = .ok (.aload_n 0, 1) := by decide +kernel
theorem dX3_become_9 : decode cX3_become 9 = .ok (.aload_n 1, 1) := by decide +kernel
theorem dX3_become_10 : decode cX3_become 10 = .ok (.getfield 37, 3) := by decide +kernel
theorem dX3_become_13 : decode cX3_become 13 = .ok (.putfield 37, 3) := by decide +kernel
theorem dX3_become_16 : decode cX3_become 16 = .ok (.aload_n 0, 1) := by decide +kernel
theorem dX3_become_17 : decode cX3_become 17 = .ok (.aload_n 1, 1) := by decide +kernel
theorem dX3_become_18 : decode cX3_become 18 = .ok (.getfield 40, 3) := by decide +kernel
theorem dX3_become_21 : decode cX3_become 21 = .ok (.putfield 40, 3) := by decide +kernel
theorem dX3_become_24 : decode cX3_become 24 = .ok (.aload_n 0, 1) := by decide +kernel
theorem dX3_become_25 : decode cX3_become 25 = .ok (.aload_n 1, 1) := by decide +kernel
theorem dX3_become_26 : decode cX3_become 26 = .ok (.getfield 43, 3) := by decide +kernel
theorem dX3_become_29 : decode cX3_become 29 = .ok (.putfield 43, 3) := by decide +kernel
theorem dX3_become_32 : decode cX3_become 32 = .ok (.aload_n 0, 1) := by decide +kernel
theorem dX3_become_33 : decode cX3_become 33 = .ok (.aload_n 1, 1) := by decide +kernel
theorem dX3_become_34 : decode cX3_become 34 = .ok (.getfield 31, 3) := by decide +kernel
theorem dX3_become_37 : decode cX3_become 37 = .ok (.putfield 31, 3) := by decide +kernel
theorem dX3_become_40 : decode cX3_become 40 = .ok (.aload_n 0, 1) := by decide +kernel
theorem dX3_become_41 : decode cX3_become 41 = .ok (.aload_n 1, 1) := by decide +kernel
theorem dX3_become_42 : decode cX3_become 42 = .ok (.getfield 34, 3) := by decide +kernel
theorem dX3_become_45 : decode cX3_become 45 = .ok (.putfield 34, 3) := by decide +kernel
theorem dX3_become_48 : decode cX3_become 48 = .ok (.aload_n 1, 1) := by decide +kernel
theorem dX3_become_49 : decode cX3_become 49 = .ok (.getfield 11, 3) := by decide +kernel
theorem dX3_become_52 : decode cX3_become 52 = .ok (.iconst 0, 1) := by decide +kernel
theorem dX3_become_53 : decode cX3_become 53 = .ok (.aload_n 0, 1) := by decide +kernel
theorem dX3_become_54 : decode cX3_become 54 = .ok (.getfield 11, 3) := by decide +kernel
theorem dX3_become_57 : decode cX3_become 57 = .ok (.iconst 0, 1) := by decide +kernel
theorem dX3_become_58 : decode cX3_become 58 = .ok (.iconst 4, 1) := by decide +kernel
theorem dX3_become_59 : decode cX3_become 59 = .ok (.invokestatic 46, 3) := by decide +kernel
theorem dX3_become_62 : decode cX3_become 62 = .ok (.aload_n 1, 1) := by decide +kernel
theorem dX3_become_63 : decode cX3_become 63 = .ok (.getfield 15, 3) := by decide +kernel
theorem dX3_become_66 : decode cX3_become 66 = .ok (.iconst 0, 1) := by decide +kernel
theorem dX3_become_67 : decode cX3_become 67 = .ok (.aload_n 0, 1) := by decide +kernel
theorem dX3_become_68 : decode cX3_become 68 = .ok (.getfield 15, 3) := by decide +kernel
theorem dX3_become_71 : decode cX3_become 71 = .ok (.iconst 0, 1) := by decide +kernel
theorem dX3_become_72 : decode cX3_become 72 = .ok (.bipush 32, 2) := by decide +kernel
theorem dX3_become_74 : decode cX3_become 74 = .ok (.invokestatic 46, 3) := by decide +kernel
theorem dX3_become_77 : decode cX3_become 77 = .ok (.aload_n 1, 1) := by decide +kernel
theorem dX3_become_78 : decode cX3_become 78 = .ok (.getfield 18, 3) := by decide +kernel
theorem dX3_become_81 : decode cX3_become 81 = .ok (.iconst 0, 1) := by decide +kernel
theorem dX3_become_82 : decode cX3_become 82 = .ok (.aload_n 0, 1) := by decide +kernel
theorem dX3_become_83 : decode cX3_become 83 = .ok (.getfield 18, 3) := by decide +kernel
theorem dX3_become_86 : decode cX3_become 86 = .ok (.iconst 0, 1) := by decide +kernel
theorem dX3_become_87 : decode cX3_become 87 = .ok (.iconst 5, 1) := by decide +kernel
theorem dX3_become_88 : decode cX3_become 88 = .ok (.invokestatic 46, 3) := by decide +kernel
theorem dX3_become_91 : decode cX3_become 91 = .ok (.aload_n 1, 1) := by decide +kernel
theorem dX3_become_92 : decode cX3_become 92 = .ok (.getfield 21, 3) := by decide +kernel
theorem dX3_become_95 : decode cX3_become 95 = .ok (.iconst 0, 1) := by decide +kernel
theorem dX3_become_96 : decode cX3_become 96 = .ok (.aload_n 0, 1) := by decide +kernel
theorem dX3_become_97 : decode cX3_become 97 = .ok (.getfield 21, 3) := by decide +kernel
theorem dX3_become_100 : decode cX3_become 100 = .ok (.iconst 0, 1) := by decide +kernel
theorem dX3_become_101 : decode cX3_become 101 = .ok (.iconst 5, 1) := by decide +kernel
theorem dX3_become_102 : decode cX3_become 102 = .ok (.invokestatic 46, 3) := by decide +kernel
theorem dX3_become_105 : decode cX3_become 105 = .ok (.aload_n 1, 1) := by decide +kernel
theorem dX3_become_106 : decode cX3_become 106 = .ok (.getfield 24, 3) := by decide +kernel
theorem dX3_become_109 : decode cX3_become 109 = .ok (.iconst 0, 1) := by decide +kernel
theorem dX3_become_110 : decode cX3_become 110 = .ok (.aload_n 0, 1) := by decide +kernel
theorem dX3_become_111 : decode cX3_become 111 = .ok (.getfield 24, 3) := by decide +kernel
theorem dX3_become_114 : decode cX3_become 114 = .ok (.iconst 0, 1) := by decide +kernel
theorem dX3_become_115 : decode cX3_become 115 = .ok (.iconst 5, 1) := by decide +kernel
theorem dX3_become_116 : decode cX3_become 116 = .ok (.invokestatic 46, 3) := by decide +kernel
theorem dX3_become_119 : decode cX3_become 119 = .ok (.return_, 1) := by decide +kernel
theorem dX3_around_0 : decode cX3_around 0 = .ok (.aload_n 0, 1) := by decide +kernel
theorem dX3_around_1 : decode cX3_around 1 = .ok (.getfield 27, 3) := by decide +kernel
theorem dX3_around_4 : decode cX3_around 4 = .ok (.ifCond .gt 5, 3) := by decide +kernel
theorem dX3_around_7 : decode cX3_around 7 = .ok (.iconst 0, 1) := by decide +kernel
end
section
theorem dX3_around_8 : decode cX3_around 8 = .ok (.ireturn, 1) := by decide +kernel
theorem dX3_around_9 : decode cX3_around 9 = .ok (.iload_n 1, 1) := by decide +kernel
theorem dX3_around_10 : decode cX3_around 10 = .ok (.aload_n 0, 1) := by decide +kernel
theorem dX3_around_11 : decode cX3_around 11 = .ok (.getfield 27, 3) := by decide +kernel
theorem dX3_around_14 : decode cX3_around 14 = .ok (.irem, 1) := by decide +kernel
theorem dX3_around_15 : decode cX3_around 15 = .ok (.istore_n 2, 1) := by decide +kernel
theorem dX3_around_16 : decode cX3_around 16 = .ok (.iload_n 2, 1) := by decide +kernel
theorem dX3_around_17 : decode cX3_around 17 = .ok (.ifCond .ge 12, 3) := by decide +kernel
theorem dX3_around_20 : decode cX3_around 20 = .ok (.iload_n 2, 1) := by decide +kernel
theorem dX3_around_21 : decode cX3_around 21 = .ok (.aload_n 0, 1) := by decide +kernel
theorem dX3_around_22 : decode cX3_around 22 = .ok (.getfield 27, 3) := by decide +kernel
theorem dX3_around_25 : decode cX3_around 25 = .ok (.iadd, 1) := by decide +kernel
theorem dX3_around_26 : decode cX3_around 26 = .ok (.goto 4, 3) := by decide +kernel
theorem dX3_around_29 : decode cX3_around 29 = .ok (.iload_n 2, 1) := by decide +kernel
theorem dX3_around_30 : decode cX3_around 30 = .ok (.ireturn, 1) := by decide +kernel
theorem dX3_shiftBehind_0 : decode cX3_shiftBehind 0 = .ok (.aload_n 0, 1) := by decide +kernel
theorem dX3_shiftBehind_1 : decode cX3_shiftBehind 1 = .ok (.aload_n 0, 1) := by decide +kernel
theorem dX3_shiftBehind_2 : decode cX3_shiftBehind 2 = .ok (.getfield 40, 3) := by decide +kernel
theorem dX3_shiftBehind_5 : decode cX3_shiftBehind 5 = .ok (.iload_n 1, 1) := by decide +kernel
theorem dX3_shiftBehind_6 : decode cX3_shiftBehind 6 = .ok (.aload_n 0, 1) := by decide +kernel
theorem dX3_shiftBehind_7 : decode cX3_shiftBehind 7 = .ok (.getfield 37, 3) := by decide +kernel
theorem dX3_shiftBehind_10 : decode cX3_shiftBehind 10 = .ok (.imul, 1) := by decide +kernel
theorem dX3_shiftBehind_11 : decode cX3_shiftBehind 11 = .ok (.iadd, 1) := by decide +kernel
theorem dX3_shiftBehind_12 : decode cX3_shiftBehind 12 = .ok (.invokevirtual 52, 3) := by decide +kernel
theorem dX3_shiftBehind_15 : decode cX3_shiftBehind 15 = .ok (.ireturn, 1) := by decide +kernel
theorem dX3_stringOf_0 : decode cX3_stringOf 0 = .ok (.aload_n 0, 1) := by decide +kernel
theorem dX3_stringOf_1 : decode cX3_stringOf 1 = .ok (.getfield 15, 3) := by decide +kernel
theorem dX3_stringOf_4 : decode cX3_stringOf 4 = .ok (.iload_n 1, 1) := by decide +kernel
theorem dX3_stringOf_5 : decode cX3_stringOf 5 = .ok (.bipush 8, 2) := by decide +kernel
theorem dX3_stringOf_7 : decode cX3_stringOf 7 = .ok (.imul, 1) := by decide +kernel
theorem dX3_stringOf_8 : decode cX3_stringOf 8 = .ok (.iload_n 2, 1) := by decide +kernel
theorem dX3_stringOf_9 : decode cX3_stringOf 9 = .ok (.iadd, 1) := by decide +kernel
theorem dX3_stringOf_10 : decode cX3_stringOf 10 = .ok (.iaload, 1) := by decide +kernel
theorem dX3_stringOf_11 : decode cX3_stringOf 11 = .ok (.ireturn, 1) := by decide +kernel
theorem dX3_biasOf_0 : decode cX3_biasOf 0 = .ok (.aload_n 0, 1) := by decide +kernel
theorem dX3_biasOf_1 : decode cX3_biasOf 1 = .ok (.aload_n 0, 1) := by decide +kernel
theorem dX3_biasOf_2 : decode cX3_biasOf 2 = .ok (.getfield 18, 3) := by decide +kernel
theorem dX3_biasOf_5 : decode cX3_biasOf 5 = .ok (.iload_n 1, 1) := by decide +kernel
theorem dX3_biasOf_6 : decode cX3_biasOf 6 = .ok (.iaload, 1) := by decide +kernel
theorem dX3_biasOf_7 : decode cX3_biasOf 7 = .ok (.aload_n 0, 1) := by decide +kernel
theorem dX3_biasOf_8 : decode cX3_biasOf 8 = .ok (.getfield 21, 3) := by decide +kernel
theorem dX3_biasOf_11 : decode cX3_biasOf 11 = .ok (.iload_n 1, 1) := by decide +kernel
theorem dX3_biasOf_12 : decode cX3_biasOf 12 = .ok (.iaload, 1) := by decide +kernel
theorem dX3_biasOf_13 : decode cX3_biasOf 13 = .ok (.invokevirtual 56, 3) := by decide +kernel
theorem dX3_biasOf_16 : decode cX3_biasOf 16 = .ok (.ireturn, 1) := by decide +kernel
theorem dX3_biasAs_0 : decode cX3_biasAs 0 = .ok (.iload_n 1, 1) := by decide +kernel
theorem dX3_biasAs_1 : decode cX3_biasAs 1 = .ok (.tableswitch 67 2 5 #[31, 44, 52, 59], 31) := by decide +kernel
theorem dX3_biasAs_32 : decode cX3_biasAs 32 = .ok (.aload_n 0, 1) := by decide +kernel
theorem dX3_biasAs_33 : decode cX3_biasAs 33 = .ok (.iload_n 2, 1) := by decide +kernel
theorem dX3_biasAs_34 : decode cX3_biasAs 34 = .ok (.iconst 2, 1) := by decide +kernel
theorem dX3_biasAs_35 : decode cX3_biasAs 35 = .ok (.aload_n 0, 1) := by decide +kernel
theorem dX3_biasAs_36 : decode cX3_biasAs 36 = .ok (.getfield 37, 3) := by decide +kernel
theorem dX3_biasAs_39 : decode cX3_biasAs 39 = .ok (.imul, 1) := by decide +kernel
theorem dX3_biasAs_40 : decode cX3_biasAs 40 = .ok (.iadd, 1) := by decide +kernel
theorem dX3_biasAs_41 : decode cX3_biasAs 41 = .ok (.invokevirtual 52, 3) := by decide +kernel
theorem dX3_biasAs_44 : decode cX3_biasAs 44 = .ok (.ireturn, 1) := by decide +kernel
theorem dX3_biasAs_45 : decode cX3_biasAs 45 = .ok (.aload_n 0, 1) := by decide +kernel
theorem dX3_biasAs_46 : decode cX3_biasAs 46 = .ok (.iload_n 2, 1) := by decide +kernel
theorem dX3_biasAs_47 : decode cX3_biasAs 47 = .ok (.iconst 2, 1) := by decide +kernel
theorem dX3_biasAs_48 : decode cX3_biasAs 48 = .ok (.isub, 1) := by decide +kernel
theorem dX3_biasAs_49 : decode cX3_biasAs 49 = .ok (.invokevirtual 52, 3) := by decide +kernel
theorem dX3_biasAs_52 : decode cX3_biasAs 52 = .ok (.ireturn, 1) := by decide +kernel
theorem dX3_biasAs_53 : decode cX3_biasAs 53 = .ok (.aload_n 0, 1) := by decide +kernel
theorem dX3_biasAs_54 : decode cX3_biasAs 54 = .ok (.iload_n 2, 1) := by decide +kernel
theorem dX3_biasAs_55 : decode cX3_biasAs 55 = .ok (.ineg, 1) := by decide +kernel
theorem dX3_biasAs_56 : decode cX3_biasAs 56 = .ok (.invokevirtual 52, 3) := by decide +kernel
theorem dX3_biasAs_59 : decode cX3_biasAs 59 = .ok (.ireturn, 1) := by decide +kernel
theorem dX3_biasAs_60 : decode cX3_biasAs 60 = .ok (.aload_n 0, 1) := by decide +kernel
theorem dX3_biasAs_61 : decode cX3_biasAs 61 = .ok (.iconst 1, 1) := by decide +kernel
theorem dX3_biasAs_62 : decode cX3_biasAs 62 = .ok (.iload_n 2, 1) := by decide +kernel
theorem dX3_biasAs_63 : decode cX3_biasAs 63 = .ok (.isub, 1) := by decide +kernel
theorem dX3_biasAs_64 : decode cX3_biasAs 64 = .ok (.invokevirtual 52, 3) := by decide +kernel
theorem dX3_biasAs_67 : decode cX3_biasAs 67 = .ok (.ireturn, 1) := by decide +kernel
theorem dX3_biasAs_68 : decode cX3_biasAs 68 = .ok (.aload_n 0, 1) := by decide +kernel
theorem dX3_biasAs_69 : decode cX3_biasAs 69 = .ok (.iload_n 2, 1) := by decide +kernel
theorem dX3_biasAs_70 : decode cX3_biasAs 70 = .ok (.invokevirtual 52, 3) := by decide +kernel
theorem dX3_biasAs_73 : decode cX3_biasAs 73 = .ok (.ireturn, 1) := by decide +kernel
theorem dX3_stringHeard_0 : decode cX3_stringHeard 0 = .ok (.aload_n 0, 1) := by decide +kernel
theorem dX3_stringHeard_1 : decode cX3_stringHeard 1 = .ok (.iload_n 1, 1) := by decide +kernel
theorem dX3_stringHeard_2 : decode cX3_stringHeard 2 = .ok (.iload_n 2, 1) := by decide +kernel
theorem dX3_stringHeard_3 : decode cX3_stringHeard 3 = .ok (.isub, 1) := by decide +kernel
theorem dX3_stringHeard_4 : decode cX3_stringHeard 4 = .ok (.aload_n 0, 1) := by decide +kernel
theorem dX3_stringHeard_5 : decode cX3_stringHeard 5 = .ok (.getfield 40, 3) := by decide +kernel
theorem dX3_stringHeard_8 : decode cX3_stringHeard 8 = .ok (.iadd, 1) := by decide +kernel
theorem dX3_stringHeard_9 : decode cX3_stringHeard 9 = .ok (.invokevirtual 52, 3) := by decide +kernel
theorem dX3_stringHeard_12 : decode cX3_stringHeard 12 = .ok (.ireturn, 1) := by decide +kernel
theorem dX3_reaches_0 : decode cX3_reaches 0 = .ok (.aload_n 0, 1) := by decide +kernel
theorem dX3_reaches_1 : decode cX3_reaches 1 = .ok (.iload_n 1, 1) := by decide +kernel
theorem dX3_reaches_2 : decode cX3_reaches 2 = .ok (.invokevirtual 60, 3) := by decide +kernel
theorem dX3_reaches_5 : decode cX3_reaches 5 = .ok (.istore_n 3, 1) := by decide +kernel
theorem dX3_reaches_6 : decode cX3_reaches 6 = .ok (.aload_n 0, 1) := by decide +kernel
theorem dX3_reaches_7 : decode cX3_reaches 7 = .ok (.iload_n 3, 1) := by decide +kernel
theorem dX3_reaches_8 : decode cX3_reaches 8 = .ok (.iload_n 2, 1) := by decide +kernel
theorem dX3_reaches_9 : decode cX3_reaches 9 = .ok (.invokevirtual 63, 3) := by decide +kernel
theorem dX3_reaches_12 : decode cX3_reaches 12 = .ok (.aload_n 0, 1) := by decide +kernel
theorem dX3_reaches_13 : decode cX3_reaches 13 = .ok (.iload_n 3, 1) := by decide +kernel
theorem dX3_reaches_14 : decode cX3_reaches 14 = .ok (.iload_n 2, 1) := by decide +kernel
theorem dX3_reaches_15 : decode cX3_reaches 15 = .ok (.invokevirtual 66, 3) := by decide +kernel
theorem dX3_reaches_18 : decode cX3_reaches 18 = .ok (.isub, 1) := by decide +kernel
theorem dX3_reaches_19 : decode cX3_reaches 19 = .ok (.aload_n 0, 1) := by decide +kernel
theorem dX3_reaches_20 : decode cX3_reaches 20 = .ok (.getfield 24, 3) := by decide +kernel
theorem dX3_reaches_23 : decode cX3_reaches 23 = .ok (.iload_n 1, 1) := by decide +kernel
theorem dX3_reaches_24 : decode cX3_reaches 24 = .ok (.iaload, 1) := by decide +kernel
theorem dX3_reaches_25 : decode cX3_reaches 25 = .ok (.if_icmp .ge 7, 3) := by decide +kernel
theorem dX3_reaches_28 : decode cX3_reaches 28 = .ok (.iconst 1, 1) := by decide +kernel
theorem dX3_reaches_29 : decode cX3_reaches 29 = .ok (.goto 4, 3) := by decide +kernel
theorem dX3_reaches_32 : decode cX3_reaches 32 = .ok (.iconst 0, 1) := by decide +kernel
theorem dX3_reaches_33 : decode cX3_reaches 33 = .ok (.ireturn, 1) := by decide +kernel
theorem dX3_leastKey_0 : decode cX3_leastKey 0 = .ok (.aload_n 0, 1) := by decide +kernel
theorem dX3_leastKey_1 : decode cX3_leastKey 1 = .ok (.getfield 27, 3) := by decide +kernel
theorem dX3_leastKey_4 : decode cX3_leastKey 4 = .ok (.istore_n 3, 1) := by decide +kernel
theorem dX3_leastKey_5 : decode cX3_leastKey 5 = .ok (.iconst 0, 1) := by decide +kernel
theorem dX3_leastKey_6 : decode cX3_leastKey 6 = .ok (.istore 4, 2) := by decide +kernel
theorem dX3_leastKey_8 : decode cX3_leastKey 8 = .ok (.iload 4, 2) := by decide +kernel
theorem dX3_leastKey_10 : decode cX3_leastKey 10 = .ok (.aload_n 0, 1) := by decide +kernel
theorem dX3_leastKey_11 : decode cX3_leastKey 11 = .ok (.getfield 11, 3) := by decide +kernel
theorem dX3_leastKey_14 : decode cX3_leastKey 14 = .ok (.iload_n 2, 1) := by decide +kernel
theorem dX3_leastKey_15 : decode cX3_leastKey 15 = .ok (.iaload, 1) := by decide +kernel
theorem dX3_leastKey_16 : decode cX3_leastKey 16 = .ok (.if_icmp .ge 27, 3) := by decide +kernel
theorem dX3_leastKey_19 : decode cX3_leastKey 19 = .ok (.iload_n 3, 1) := by decide +kernel
theorem dX3_leastKey_20 : decode cX3_leastKey 20 = .ok (.aload_n 0, 1) := by decide +kernel
theorem dX3_leastKey_21 : decode cX3_leastKey 21 = .ok (.aload_n 0, 1) := by decide +kernel
theorem dX3_leastKey_22 : decode cX3_leastKey 22 = .ok (.iload_n 2, 1) := by decide +kernel
theorem dX3_leastKey_23 : decode cX3_leastKey 23 = .ok (.iload 4, 2) := by decide +kernel
theorem dX3_leastKey_25 : decode cX3_leastKey 25 = .ok (.invokevirtual 69, 3) := by decide +kernel
theorem dX3_leastKey_28 : decode cX3_leastKey 28 = .ok (.iload_n 1, 1) := by decide +kernel
theorem dX3_leastKey_29 : decode cX3_leastKey 29 = .ok (.isub, 1) := by decide +kernel
theorem dX3_leastKey_30 : decode cX3_leastKey 30 = .ok (.invokevirtual 52, 3) := by decide +kernel
theorem dX3_leastKey_33 : decode cX3_leastKey 33 = .ok (.invokestatic 72, 3) := by decide +kernel
theorem dX3_leastKey_36 : decode cX3_leastKey 36 = .ok (.istore_n 3, 1) := by decide +kernel
theorem dX3_leastKey_37 : decode cX3_leastKey 37 = .ok (.iinc 4 1, 3) := by decide +kernel
theorem dX3_leastKey_40 : decode cX3_leastKey 40 = .ok (.goto (-32), 3) := by decide +kernel
theorem dX3_leastKey_43 : decode cX3_leastKey 43 = .ok (.iload_n 3, 1) := by decide +kernel
theorem dX3_leastKey_44 : decode cX3_leastKey 44 = .ok (.ireturn, 1) := by decide +kernel
theorem dX3_greatestKey_0 : decode cX3_greatestKey 0 = .ok (.iconst 0, 1) := by decide +kernel
theorem dX3_greatestKey_1 : decode cX3_greatestKey 1 = .ok (.istore_n 3, 1) := by decide +kernel
theorem dX3_greatestKey_2 : decode cX3_greatestKey 2 = .ok (.iconst 0, 1) := by decide +kernel
theorem dX3_greatestKey_3 : decode cX3_greatestKey 3 = .ok (.istore 4, 2) := by decide +kernel
theorem dX3_greatestKey_5 : decode cX3_greatestKey 5 = .ok (.iload 4, 2) := by decide +kernel
theorem dX3_greatestKey_7 : decode cX3_greatestKey 7 = .ok (.aload_n 0, 1) := by decide +kernel
theorem dX3_greatestKey_8 : decode cX3_greatestKey 8 = .ok (.getfield 11, 3) := by decide +kernel
theorem dX3_greatestKey_11 : decode cX3_greatestKey 11 = .ok (.iload_n 2, 1) := by decide +kernel
theorem dX3_greatestKey_12 : decode cX3_greatestKey 12 = .ok (.iaload, 1) := by decide +kernel
theorem dX3_greatestKey_13 : decode cX3_greatestKey 13 = .ok (.if_icmp .ge 27, 3) := by decide +kernel
theorem dX3_greatestKey_16 : decode cX3_greatestKey 16 = .ok (.iload_n 3, 1) := by decide +kernel
theorem dX3_greatestKey_17 : decode cX3_greatestKey 17 = .ok (.aload_n 0, 1) := by decide +kernel
theorem dX3_greatestKey_18 : decode cX3_greatestKey 18 = .ok (.aload_n 0, 1) := by decide +kernel
theorem dX3_greatestKey_19 : decode cX3_greatestKey 19 = .ok (.iload_n 2, 1) := by decide +kernel
theorem dX3_greatestKey_20 : decode cX3_greatestKey 20 = .ok (.iload 4, 2) := by decide +kernel
theorem dX3_greatestKey_22 : decode cX3_greatestKey 22 = .ok (.invokevirtual 69, 3) := by decide +kernel
theorem dX3_greatestKey_25 : decode cX3_greatestKey 25 = .ok (.iload_n 1, 1) := by decide +kernel
theorem dX3_greatestKey_26 : decode cX3_greatestKey 26 = .ok (.isub, 1) := by decide +kernel
theorem dX3_greatestKey_27 : decode cX3_greatestKey 27 = .ok (.invokevirtual 52, 3) := by decide +kernel
theorem dX3_greatestKey_30 : decode cX3_greatestKey 30 = .ok (.invokestatic 77, 3) := by decide +kernel
theorem dX3_greatestKey_33 : decode cX3_greatestKey 33 = .ok (.istore_n 3, 1) := by decide +kernel
theorem dX3_greatestKey_34 : decode cX3_greatestKey 34 = .ok (.iinc 4 1, 3) := by decide +kernel
theorem dX3_greatestKey_37 : decode cX3_greatestKey 37 = .ok (.goto (-32), 3) := by decide +kernel
theorem dX3_greatestKey_40 : decode cX3_greatestKey 40 = .ok (.iload_n 3, 1) := by decide +kernel
theorem dX3_greatestKey_41 : decode cX3_greatestKey 41 = .ok (.ireturn, 1) := by decide +kernel
theorem dX4_init_0 : decode cX4_init 0 = .ok (.aload_n 0, 1) := by decide +kernel
theorem dX4_init_1 : decode cX4_init 1 = .ok (.invokespecial 1, 3) := by decide +kernel
theorem dX4_init_4 : decode cX4_init 4 = .ok (.aload_n 0, 1) := by decide +kernel
theorem dX4_init_5 : decode cX4_init 5 = .ok (.bipush 40, 2) := by decide +kernel
theorem dX4_init_7 : decode cX4_init 7 = .ok (.newarray .int, 2) := by decide +kernel
theorem dX4_init_9 : decode cX4_init 9 = .ok (.putfield 9, 3) := by decide +kernel
theorem dX4_init_12 : decode cX4_init 12 = .ok (.aload_n 0, 1) := by decide +kernel
theorem dX4_init_13 : decode cX4_init 13 = .ok (.iconst (-1), 1) := by decide +kernel
theorem dX4_init_14 : decode cX4_init 14 = .ok (.putfield 13, 3) := by decide +kernel
theorem dX4_init_17 : decode cX4_init 17 = .ok (.return_, 1) := by decide +kernel
theorem dX4_isLane_0 : decode cX4_isLane 0 = .ok (.iload_n 0, 1) := by decide +kernel
theorem dX4_isLane_1 : decode cX4_isLane 1 = .ok (.ifCond .lt 12, 3) := by decide +kernel
theorem dX4_isLane_4 : decode cX4_isLane 4 = .ok (.iload_n 0, 1) := by decide +kernel
theorem dX4_isLane_5 : decode cX4_isLane 5 = .ok (.iconst 2, 1) := by decide +kernel
theorem dX4_isLane_6 : decode cX4_isLane 6 = .ok (.if_icmp .gt 7, 3) := by decide +kernel
theorem dX4_isLane_9 : decode cX4_isLane 9 = .ok (.iconst 1, 1) := by decide +kernel
theorem dX4_isLane_10 : decode cX4_isLane 10 = .ok (.goto 4, 3) := by decide +kernel
theorem dX4_isLane_13 : decode cX4_isLane 13 = .ok (.iconst 0, 1) := by decide +kernel
theorem dX4_isLane_14 : decode cX4_isLane 14 = .ok (.ireturn, 1) := by decide +kernel
theorem dX4_isMissing_0 : decode cX4_isMissing 0 = .ok (.aload_n 0, 1) := by decide +kernel
theorem dX4_isMissing_1 : decode cX4_isMissing 1 = .ok (.getfield 13, 3) := by decide +kernel
theorem dX4_isMissing_4 : decode cX4_isMissing 4 = .ok (.iconst (-1), 1) := by decide +kernel
theorem dX4_isMissing_5 : decode cX4_isMissing 5 = .ok (.if_icmp .ne 7, 3) := by decide +kernel
theorem dX4_isMissing_8 : decode cX4_isMissing 8 = .ok (.iconst 1, 1) := by decide +kernel
theorem dX4_isMissing_9 : decode cX4_isMissing 9 = .ok (.goto 4, 3) := by decide +kernel
theorem dX4_isMissing_12 : decode cX4_isMissing 12 = .ok (.iconst 0, 1) := by decide +kernel
theorem dX4_isMissing_13 : decode cX4_isMissing 13 = .ok (.ireturn, 1) := by decide +kernel
theorem dX4_begin_0 : decode cX4_begin 0 = .ok (.aload_n 0, 1) := by decide +kernel
theorem dX4_begin_1 : decode cX4_begin 1 = .ok (.getfield 9, 3) := by decide +kernel
theorem dX4_begin_4 : decode cX4_begin 4 = .ok (.iconst 0, 1) := by decide +kernel
theorem dX4_begin_5 : decode cX4_begin 5 = .ok (.invokestatic 17, 3) := by decide +kernel
theorem dX4_begin_8 : decode cX4_begin 8 = .ok (.aload_n 0, 1) := by decide +kernel
theorem dX4_begin_9 : decode cX4_begin 9 = .ok (.iload_n 1, 1) := by decide +kernel
theorem dX4_begin_10 : decode cX4_begin 10 = .ok (.putfield 13, 3) := by decide +kernel
theorem dX4_begin_13 : decode cX4_begin 13 = .ok (.aload_n 0, 1) := by decide +kernel
theorem dX4_begin_14 : decode cX4_begin 14 = .ok (.iload_n 2, 1) := by decide +kernel
theorem dX4_begin_15 : decode cX4_begin 15 = .ok (.putfield 23, 3) := by decide +kernel
theorem dX4_begin_18 : decode cX4_begin 18 = .ok (.return_, 1) := by decide +kernel
theorem dX4_lose_0 : decode cX4_lose 0 = .ok (.aload_n 0, 1) := by decide +kernel
theorem dX4_lose_1 : decode cX4_lose 1 = .ok (.iconst (-1), 1) := by decide +kernel
theorem dX4_lose_2 : decode cX4_lose 2 = .ok (.putfield 13, 3) := by decide +kernel
theorem dX4_lose_5 : decode cX4_lose 5 = .ok (.aload_n 0, 1) := by decide +kernel
theorem dX4_lose_6 : decode cX4_lose 6 = .ok (.iconst 0, 1) := by decide +kernel
theorem dX4_lose_7 : decode cX4_lose 7 = .ok (.putfield 23, 3) := by decide +kernel
theorem dX4_lose_10 : decode cX4_lose 10 = .ok (.return_, 1) := by decide +kernel
theorem dX4_hasPlaces_0 : decode cX4_hasPlaces 0 = .ok (.iload_n 1, 1) := by decide +kernel
theorem dX4_hasPlaces_1 : decode cX4_hasPlaces 1 = .ok (.ifCond .lt 21, 3) := by decide +kernel
theorem dX4_hasPlaces_4 : decode cX4_hasPlaces 4 = .ok (.iload_n 2, 1) := by decide +kernel
theorem dX4_hasPlaces_5 : decode cX4_hasPlaces 5 = .ok (.ifCond .lt 17, 3) := by decide +kernel
theorem dX4_hasPlaces_8 : decode cX4_hasPlaces 8 = .ok (.iload_n 1, 1) := by decide +kernel
theorem dX4_hasPlaces_9 : decode cX4_hasPlaces 9 = .ok (.aload_n 0, 1) := by decide +kernel
theorem dX4_hasPlaces_10 : decode cX4_hasPlaces 10 = .ok (.getfield 23, 3) := by decide +kernel
theorem dX4_hasPlaces_13 : decode cX4_hasPlaces 13 = .ok (.iload_n 2, 1) := by decide +kernel
theorem dX4_hasPlaces_14 : decode cX4_hasPlaces 14 = .ok (.isub, 1) := by decide +kernel
theorem dX4_hasPlaces_15 : decode cX4_hasPlaces 15 = .ok (.if_icmp .gt 7, 3) := by decide +kernel
theorem dX4_hasPlaces_18 : decode cX4_hasPlaces 18 = .ok (.iconst 1, 1) := by decide +kernel
theorem dX4_hasPlaces_19 : decode cX4_hasPlaces 19 = .ok (.goto 4, 3) := by decide +kernel
theorem dX4_hasPlaces_22 : decode cX4_hasPlaces 22 = .ok (.iconst 0, 1) := by decide +kernel
theorem dX4_hasPlaces_23 : decode cX4_hasPlaces 23 = .ok (.ireturn, 1) := by decide +kernel
theorem dX4_put_0 : decode cX4_put 0 = .ok (.aload_n 0, 1) := by decide +kernel
theorem dX4_put_1 : decode cX4_put 1 = .ok (.getfield 9, 3) := by decide +kernel
theorem dX4_put_4 : decode cX4_put 4 = .ok (.iload_n 1, 1) := by decide +kernel
theorem dX4_put_5 : decode cX4_put 5 = .ok (.aload_n 0, 1) := by decide +kernel
theorem dX4_put_6 : decode cX4_put 6 = .ok (.iload_n 2, 1) := by decide +kernel
theorem dX4_put_7 : decode cX4_put 7 = .ok (.invokevirtual 26, 3) := by decide +kernel
theorem dX4_put_10 : decode cX4_put 10 = .ok (.iastore, 1) := by decide +kernel
theorem dX4_put_11 : decode cX4_put 11 = .ok (.aload_n 0, 1) := by decide +kernel
theorem dX4_put_12 : decode cX4_put 12 = .ok (.getfield 9, 3) := by decide +kernel
theorem dX4_put_15 : decode cX4_put 15 = .ok (.iload_n 1, 1) := by decide +kernel
theorem dX4_put_16 : decode cX4_put 16 = .ok (.iaload, 1) := by decide +kernel
theorem dX4_put_17 : decode cX4_put 17 = .ok (.ireturn, 1) := by decide +kernel
theorem dX4_lowestBits_0 : decode cX4_lowestBits 0 = .ok (.aload_n 0, 1) := by decide +kernel
theorem dX4_lowestBits_1 : decode cX4_lowestBits 1 = .ok (.getfield 13, 3) := by decide +kernel
theorem dX4_lowestBits_4 : decode cX4_lowestBits 4 = .ok (.ifCond .ne 6, 3) := by decide +kernel
theorem dX4_lowestBits_7 : decode cX4_lowestBits 7 = .ok (.iload_n 1, 1) := by decide +kernel
theorem dX4_lowestBits_8 : decode cX4_lowestBits 8 = .ok (.i2b, 1) := by decide +kernel
theorem dX4_lowestBits_9 : decode cX4_lowestBits 9 = .ok (.ireturn, 1) := by decide +kernel
theorem dX4_lowestBits_10 : decode cX4_lowestBits 10 = .ok (.aload_n 0, 1) := by decide +kernel
theorem dX4_lowestBits_11 : decode cX4_lowestBits 11 = .ok (.getfield 13, 3) := by decide +kernel
theorem dX4_lowestBits_14 : decode cX4_lowestBits 14 = .ok (.iconst 1, 1) := by decide +kernel
theorem dX4_lowestBits_15 : decode cX4_lowestBits 15 = .ok (.if_icmp .ne 8, 3) := by decide +kernel
theorem dX4_lowestBits_18 : decode cX4_lowestBits 18 = .ok (.iload_n 1, 1) := by decide +kernel
theorem dX4_lowestBits_19 : decode cX4_lowestBits 19 = .ok (.i2s, 1) := by decide +kernel
theorem dX4_lowestBits_20 : decode cX4_lowestBits 20 = .ok (.goto 4, 3) := by decide +kernel
theorem dX4_lowestBits_23 : decode cX4_lowestBits 23 = .ok (.iload_n 1, 1) := by decide +kernel
theorem dX4_lowestBits_24 : decode cX4_lowestBits 24 = .ok (.ireturn, 1) := by decide +kernel
theorem dX5_init_0 : decode cX5_init 0 = .ok (.aload_n 0, 1) := by decide +kernel
theorem dX5_init_1 : decode cX5_init 1 = .ok (.invokespecial 3, 3) := by decide +kernel
theorem dX5_init_4 : decode cX5_init 4 = .ok (.aload_n 0, 1) := by decide +kernel
theorem dX5_init_5 : decode cX5_init 5 = .ok (.bipush 120, 2) := by decide +kernel
theorem dX5_init_7 : decode cX5_init 7 = .ok (.newarray .int, 2) := by decide +kernel
theorem dX5_init_9 : decode cX5_init 9 = .ok (.putfield 11, 3) := by decide +kernel
theorem dX5_init_12 : decode cX5_init 12 = .ok (.return_, 1) := by decide +kernel
theorem dX5_isFull_0 : decode cX5_isFull 0 = .ok (.aload_n 0, 1) := by decide +kernel
theorem dX5_isFull_1 : decode cX5_isFull 1 = .ok (.getfield 15, 3) := by decide +kernel
theorem dX5_isFull_4 : decode cX5_isFull 4 = .ok (.bipush 120, 2) := by decide +kernel
theorem dX5_isFull_6 : decode cX5_isFull 6 = .ok (.if_icmp .lt 7, 3) := by decide +kernel
theorem dX5_isFull_9 : decode cX5_isFull 9 = .ok (.iconst 1, 1) := by decide +kernel
theorem dX5_isFull_10 : decode cX5_isFull 10 = .ok (.goto 4, 3) := by decide +kernel
theorem dX5_isFull_13 : decode cX5_isFull 13 = .ok (.iconst 0, 1) := by decide +kernel
theorem dX5_isFull_14 : decode cX5_isFull 14 = .ok (.ireturn, 1) := by decide +kernel
theorem dX5_append_0 : decode cX5_append 0 = .ok (.aload_n 0, 1) := by decide +kernel
theorem dX5_append_1 : decode cX5_append 1 = .ok (.getfield 11, 3) := by decide +kernel
theorem dX5_append_4 : decode cX5_append 4 = .ok (.aload_n 0, 1) := by decide +kernel
theorem dX5_append_5 : decode cX5_append 5 = .ok (.getfield 15, 3) := by decide +kernel
theorem dX5_append_8 : decode cX5_append 8 = .ok (.iload_n 1, 1) := by decide +kernel
theorem dX5_append_9 : decode cX5_append 9 = .ok (.iastore, 1) := by decide +kernel
theorem dX5_append_10 : decode cX5_append 10 = .ok (.aload_n 0, 1) := by decide +kernel
theorem dX5_append_11 : decode cX5_append 11 = .ok (.dup, 1) := by decide +kernel
theorem dX5_append_12 : decode cX5_append 12 = .ok (.getfield 15, 3) := by decide +kernel
theorem dX5_append_15 : decode cX5_append 15 = .ok (.iconst 1, 1) := by decide +kernel
theorem dX5_append_16 : decode cX5_append 16 = .ok (.iadd, 1) := by decide +kernel
theorem dX5_append_17 : decode cX5_append 17 = .ok (.putfield 15, 3) := by decide +kernel
theorem dX5_append_20 : decode cX5_append 20 = .ok (.aload_n 0, 1) := by decide +kernel
theorem dX5_append_21 : decode cX5_append 21 = .ok (.getfield 15, 3) := by decide +kernel
theorem dX5_append_24 : decode cX5_append 24 = .ok (.ireturn, 1) := by decide +kernel
theorem dX5_clear_0 : decode cX5_clear 0 = .ok (.aload_n 0, 1) := by decide +kernel
theorem dX5_clear_1 : decode cX5_clear 1 = .ok (.iconst 0, 1) := by decide +kernel
theorem dX5_clear_2 : decode cX5_clear 2 = .ok (.putfield 15, 3) := by decide +kernel
theorem dX5_clear_5 : decode cX5_clear 5 = .ok (.return_, 1) := by decide +kernel
theorem dX5_readInto_0 : decode cX5_readInto 0 = .ok (.aload_n 0, 1) := by decide +kernel
theorem dX5_readInto_1 : decode cX5_readInto 1 = .ok (.iconst 0, 1) := by decide +kernel
theorem dX5_readInto_2 : decode cX5_readInto 2 = .ok (.putfield 19, 3) := by decide +kernel
theorem dX5_readInto_5 : decode cX5_readInto 5 = .ok (.aload_n 0, 1) := by decide +kernel
theorem dX5_readInto_6 : decode cX5_readInto 6 = .ok (.iconst 0, 1) := by decide +kernel
theorem dX5_readInto_7 : decode cX5_readInto 7 = .ok (.putfield 22, 3) := by decide +kernel
theorem dX5_readInto_10 : decode cX5_readInto 10 = .ok (.aload_n 0, 1) := by decide +kernel
theorem dX5_readInto_11 : decode cX5_readInto 11 = .ok (.aload_n 1, 1) := by decide +kernel
theorem dX5_readInto_12 : decode cX5_readInto 12 = .ok (.invokevirtual 25, 3) := by decide +kernel
theorem dX5_readInto_15 : decode cX5_readInto 15 = .ok (.aload_n 0, 1) := by decide +kernel
theorem dX5_readInto_16 : decode cX5_readInto 16 = .ok (.aload_n 1, 1) := by decide +kernel
theorem dX5_readInto_17 : decode cX5_readInto 17 = .ok (.invokevirtual 29, 3) := by decide +kernel
theorem dX5_readInto_20 : decode cX5_readInto 20 = .ok (.aload_n 0, 1) := by decide +kernel
theorem dX5_readInto_21 : decode cX5_readInto 21 = .ok (.aload_n 1, 1) := by decide +kernel
theorem dX5_readInto_22 : decode cX5_readInto 22 = .ok (.invokevirtual 32, 3) := by decide +kernel
theorem dX5_readInto_25 : decode cX5_readInto 25 = .ok (.aload_n 0, 1) := by decide +kernel
theorem dX5_readInto_26 : decode cX5_readInto 26 = .ok (.getfield 22, 3) := by decide +kernel
theorem dX5_readInto_29 : decode cX5_readInto 29 = .ok (.ifCond .ne 19, 3) := by decide +kernel
theorem dX5_readInto_32 : decode cX5_readInto 32 = .ok (.aload_n 0, 1) := by decide +kernel
theorem dX5_readInto_33 : decode cX5_readInto 33 = .ok (.getfield 19, 3) := by decide +kernel
theorem dX5_readInto_36 : decode cX5_readInto 36 = .ok (.aload_n 0, 1) := by decide +kernel
theorem dX5_readInto_37 : decode cX5_readInto 37 = .ok (.getfield 15, 3) := by decide +kernel
theorem dX5_readInto_40 : decode cX5_readInto 40 = .ok (.if_icmp .ge 8, 3) := by decide +kernel
theorem dX5_readInto_43 : decode cX5_readInto 43 = .ok (.aload_n 0, 1) := by decide +kernel
theorem dX5_readInto_44 : decode cX5_readInto 44 = .ok (.iconst 1, 1) := by decide +kernel
theorem dX5_readInto_45 : decode cX5_readInto 45 = .ok (.invokevirtual 35, 3) := by decide +kernel
theorem dX5_readInto_48 : decode cX5_readInto 48 = .ok (.aload_n 0, 1) := by decide +kernel
theorem dX5_readInto_49 : decode cX5_readInto 49 = .ok (.getfield 22, 3) := by decide +kernel
theorem dX5_readInto_52 : decode cX5_readInto 52 = .ok (.ifCond .ne 7, 3) := by decide +kernel
theorem dX5_readInto_55 : decode cX5_readInto 55 = .ok (.iconst 1, 1) := by decide +kernel
theorem dX5_readInto_56 : decode cX5_readInto 56 = .ok (.goto 4, 3) := by decide +kernel
theorem dX5_readInto_59 : decode cX5_readInto 59 = .ok (.iconst 0, 1) := by decide +kernel
theorem dX5_readInto_60 : decode cX5_readInto 60 = .ok (.ireturn, 1) := by decide +kernel
theorem dX5_readLaw_0 : decode cX5_readLaw 0 = .ok (.aload_n 0, 1) := by decide +kernel
theorem dX5_readLaw_1 : decode cX5_readLaw 1 = .ok (.bipush 107, 2) := by decide +kernel
theorem dX5_readLaw_3 : decode cX5_readLaw 3 = .ok (.invokevirtual 39, 3) := by decide +kernel
theorem dX5_readLaw_6 : decode cX5_readLaw 6 = .ok (.aload_n 1, 1) := by decide +kernel
theorem dX5_readLaw_7 : decode cX5_readLaw 7 = .ok (.aload_n 0, 1) := by decide +kernel
theorem dX5_readLaw_8 : decode cX5_readLaw 8 = .ok (.iconst 2, 1) := by decide +kernel
theorem dX5_readLaw_9 : decode cX5_readLaw 9 = .ok (.bipush 12, 2) := by decide +kernel
theorem dX5_readLaw_11 : decode cX5_readLaw 11 = .ok (.invokevirtual 44, 3) := by decide +kernel
theorem dX5_readLaw_14 : decode cX5_readLaw 14 = .ok (.putfield 48, 3) := by decide +kernel
theorem dX5_readLaw_17 : decode cX5_readLaw 17 = .ok (.aload_n 0, 1) := by decide +kernel
theorem dX5_readLaw_18 : decode cX5_readLaw 18 = .ok (.bipush 44, 2) := by decide +kernel
theorem dX5_readLaw_20 : decode cX5_readLaw 20 = .ok (.invokevirtual 39, 3) := by decide +kernel
theorem dX5_readLaw_23 : decode cX5_readLaw 23 = .ok (.aload_n 1, 1) := by decide +kernel
theorem dX5_readLaw_24 : decode cX5_readLaw 24 = .ok (.aload_n 0, 1) := by decide +kernel
theorem dX5_readLaw_25 : decode cX5_readLaw 25 = .ok (.iconst 0, 1) := by decide +kernel
theorem dX5_readLaw_26 : decode cX5_readLaw 26 = .ok (.aload_n 1, 1) := by decide +kernel
theorem dX5_readLaw_27 : decode cX5_readLaw 27 = .ok (.getfield 48, 3) := by decide +kernel
theorem dX5_readLaw_30 : decode cX5_readLaw 30 = .ok (.iconst 1, 1) := by decide +kernel
theorem dX5_readLaw_31 : decode cX5_readLaw 31 = .ok (.isub, 1) := by decide +kernel
theorem dX5_readLaw_32 : decode cX5_readLaw 32 = .ok (.invokevirtual 44, 3) := by decide +kernel
theorem dX5_readLaw_35 : decode cX5_readLaw 35 = .ok (.putfield 51, 3) := by decide +kernel
theorem dX5_readLaw_38 : decode cX5_readLaw 38 = .ok (.aload_n 0, 1) := by decide +kernel
theorem dX5_readLaw_39 : decode cX5_readLaw 39 = .ok (.bipush 44, 2) := by decide +kernel
theorem dX5_readLaw_41 : decode cX5_readLaw 41 = .ok (.invokevirtual 39, 3) := by decide +kernel
theorem dX5_readLaw_44 : decode cX5_readLaw 44 = .ok (.aload_n 1, 1) := by decide +kernel
theorem dX5_readLaw_45 : decode cX5_readLaw 45 = .ok (.aload_n 0, 1) := by decide +kernel
theorem dX5_readLaw_46 : decode cX5_readLaw 46 = .ok (.iconst 0, 1) := by decide +kernel
theorem dX5_readLaw_47 : decode cX5_readLaw 47 = .ok (.aload_n 1, 1) := by decide +kernel
theorem dX5_readLaw_48 : decode cX5_readLaw 48 = .ok (.getfield 48, 3) := by decide +kernel
theorem dX5_readLaw_51 : decode cX5_readLaw 51 = .ok (.iconst 1, 1) := by decide +kernel
theorem dX5_readLaw_52 : decode cX5_readLaw 52 = .ok (.isub, 1) := by decide +kernel
theorem dX5_readLaw_53 : decode cX5_readLaw 53 = .ok (.invokevirtual 44, 3) := by decide +kernel
theorem dX5_readLaw_56 : decode cX5_readLaw 56 = .ok (.putfield 54, 3) := by decide +kernel
theorem dX5_readLaw_59 : decode cX5_readLaw 59 = .ok (.aload_n 0, 1) := by decide +kernel
theorem dX5_readLaw_60 : decode cX5_readLaw 60 = .ok (.bipush 59, 2) := by decide +kernel
theorem dX5_readLaw_62 : decode cX5_readLaw 62 = .ok (.invokevirtual 39, 3) := by decide +kernel
theorem dX5_readLaw_65 : decode cX5_readLaw 65 = .ok (.aload_n 1, 1) := by decide +kernel
theorem dX5_readLaw_66 : decode cX5_readLaw 66 = .ok (.iconst 0, 1) := by decide +kernel
theorem dX5_readLaw_67 : decode cX5_readLaw 67 = .ok (.putfield 57, 3) := by decide +kernel
theorem dX5_readLaw_70 : decode cX5_readLaw 70 = .ok (.return_, 1) := by decide +kernel
theorem dX5_readPieces_0 : decode cX5_readPieces 0 = .ok (.aload_n 1, 1) := by decide +kernel
theorem dX5_readPieces_1 : decode cX5_readPieces 1 = .ok (.iconst 0, 1) := by decide +kernel
theorem dX5_readPieces_2 : decode cX5_readPieces 2 = .ok (.putfield 60, 3) := by decide +kernel
theorem dX5_readPieces_5 : decode cX5_readPieces 5 = .ok (.iconst 0, 1) := by decide +kernel
theorem dX5_readPieces_6 : decode cX5_readPieces 6 = .ok (.istore_n 2, 1) := by decide +kernel
theorem dX5_readPieces_7 : decode cX5_readPieces 7 = .ok (.iload_n 2, 1) := by decide +kernel
theorem dX5_readPieces_8 : decode cX5_readPieces 8 = .ok (.iconst 4, 1) := by decide +kernel
theorem dX5_readPieces_9 : decode cX5_readPieces 9 = .ok (.if_icmp .ge 46, 3) := by decide +kernel
theorem dX5_readPieces_12 : decode cX5_readPieces 12 = .ok (.aload_n 0, 1) := by decide +kernel
theorem dX5_readPieces_13 : decode cX5_readPieces 13 = .ok (.bipush 116, 2) := by decide +kernel
theorem dX5_readPieces_15 : decode cX5_readPieces 15 = .ok (.invokevirtual 63, 3) := by decide +kernel
theorem dX5_readPieces_18 : decode cX5_readPieces 18 = .ok (.ifCond .eq 37, 3) := by decide +kernel
theorem dX5_readPieces_21 : decode cX5_readPieces 21 = .ok (.aload_n 0, 1) := by decide +kernel
theorem dX5_readPieces_22 : decode cX5_readPieces 22 = .ok (.bipush 116, 2) := by decide +kernel
theorem dX5_readPieces_24 : decode cX5_readPieces 24 = .ok (.invokevirtual 39, 3) := by decide +kernel
theorem dX5_readPieces_27 : decode cX5_readPieces 27 = .ok (.aload_n 0, 1) := by decide +kernel
theorem dX5_readPieces_28 : decode cX5_readPieces 28 = .ok (.aload_n 1, 1) := by decide +kernel
theorem dX5_readPieces_29 : decode cX5_readPieces 29 = .ok (.iload_n 2, 1) := by decide +kernel
theorem dX5_readPieces_30 : decode cX5_readPieces 30 = .ok (.invokevirtual 67, 3) := by decide +kernel
theorem dX5_readPieces_33 : decode cX5_readPieces 33 = .ok (.aload_n 0, 1) := by decide +kernel
theorem dX5_readPieces_34 : decode cX5_readPieces 34 = .ok (.bipush 59, 2) := by decide +kernel
theorem dX5_readPieces_36 : decode cX5_readPieces 36 = .ok (.invokevirtual 39, 3) := by decide +kernel
theorem dX5_readPieces_39 : decode cX5_readPieces 39 = .ok (.aload_n 1, 1) := by decide +kernel
theorem dX5_readPieces_40 : decode cX5_readPieces 40 = .ok (.dup, 1) := by decide +kernel
theorem dX5_readPieces_41 : decode cX5_readPieces 41 = .ok (.getfield 60, 3) := by decide +kernel
theorem dX5_readPieces_44 : decode cX5_readPieces 44 = .ok (.iconst 1, 1) := by decide +kernel
theorem dX5_readPieces_45 : decode cX5_readPieces 45 = .ok (.iadd, 1) := by decide +kernel
theorem dX5_readPieces_46 : decode cX5_readPieces 46 = .ok (.putfield 60, 3) := by decide +kernel
theorem dX5_readPieces_49 : decode cX5_readPieces 49 = .ok (.iinc 2 1, 3) := by decide +kernel
theorem dX5_readPieces_52 : decode cX5_readPieces 52 = .ok (.goto (-45), 3) := by decide +kernel
theorem dX5_readPieces_55 : decode cX5_readPieces 55 = .ok (.aload_n 0, 1) := by decide +kernel
theorem dX5_readPieces_56 : decode cX5_readPieces 56 = .ok (.bipush 116, 2) := by decide +kernel
theorem dX5_readPieces_58 : decode cX5_readPieces 58 = .ok (.invokevirtual 63, 3) := by decide +kernel
theorem dX5_readPieces_61 : decode cX5_readPieces 61 = .ok (.ifCond .eq 8, 3) := by decide +kernel
theorem dX5_readPieces_64 : decode cX5_readPieces 64 = .ok (.aload_n 0, 1) := by decide +kernel
theorem dX5_readPieces_65 : decode cX5_readPieces 65 = .ok (.iconst 3, 1) := by decide +kernel
theorem dX5_readPieces_66 : decode cX5_readPieces 66 = .ok (.invokevirtual 35, 3) := by decide +kernel
theorem dX5_readPieces_69 : decode cX5_readPieces 69 = .ok (.return_, 1) := by decide +kernel
theorem dX5_readStrings_0 : decode cX5_readStrings 0 = .ok (.iconst 0, 1) := by decide +kernel
theorem dX5_readStrings_1 : decode cX5_readStrings 1 = .ok (.istore_n 3, 1) := by decide +kernel
theorem dX5_readStrings_2 : decode cX5_readStrings 2 = .ok (.iload_n 3, 1) := by decide +kernel
theorem dX5_readStrings_3 : decode cX5_readStrings 3 = .ok (.bipush 8, 2) := by decide +kernel
theorem dX5_readStrings_5 : decode cX5_readStrings 5 = .ok (.if_icmp .ge 48, 3) := by decide +kernel
theorem dX5_readStrings_8 : decode cX5_readStrings 8 = .ok (.aload_n 0, 1) := by decide +kernel
theorem dX5_readStrings_9 : decode cX5_readStrings 9 = .ok (.aload_n 1, 1) := by decide +kernel
theorem dX5_readStrings_10 : decode cX5_readStrings 10 = .ok (.getfield 48, 3) := by decide +kernel
theorem dX5_readStrings_13 : decode cX5_readStrings 13 = .ok (.invokevirtual 71, 3) := by decide +kernel
theorem dX5_readStrings_16 : decode cX5_readStrings 16 = .ok (.ifCond .eq 37, 3) := by decide +kernel
theorem dX5_readStrings_19 : decode cX5_readStrings 19 = .ok (.aload_n 1, 1) := by decide +kernel
theorem dX5_readStrings_20 : decode cX5_readStrings 20 = .ok (.getfield 74, 3) := by decide +kernel
theorem dX5_readStrings_23 : decode cX5_readStrings 23 = .ok (.iload_n 2, 1) := by decide +kernel
theorem dX5_readStrings_24 : decode cX5_readStrings 24 = .ok (.bipush 8, 2) := by decide +kernel
theorem dX5_readStrings_26 : decode cX5_readStrings 26 = .ok (.imul, 1) := by decide +kernel
theorem dX5_readStrings_27 : decode cX5_readStrings 27 = .ok (.iload_n 3, 1) := by decide +kernel
theorem dX5_readStrings_28 : decode cX5_readStrings 28 = .ok (.iadd, 1) := by decide +kernel
theorem dX5_readStrings_29 : decode cX5_readStrings 29 = .ok (.aload_n 0, 1) := by decide +kernel
theorem dX5_readStrings_30 : decode cX5_readStrings 30 = .ok (.invokevirtual 77, 3) := by decide +kernel
theorem dX5_readStrings_33 : decode cX5_readStrings 33 = .ok (.bipush 97, 2) := by decide +kernel
theorem dX5_readStrings_35 : decode cX5_readStrings 35 = .ok (.isub, 1) := by decide +kernel
theorem dX5_readStrings_36 : decode cX5_readStrings 36 = .ok (.iastore, 1) := by decide +kernel
theorem dX5_readStrings_37 : decode cX5_readStrings 37 = .ok (.aload_n 0, 1) := by decide +kernel
theorem dX5_readStrings_38 : decode cX5_readStrings 38 = .ok (.dup, 1) := by decide +kernel
theorem dX5_readStrings_39 : decode cX5_readStrings 39 = .ok (.getfield 19, 3) := by decide +kernel
theorem dX5_readStrings_42 : decode cX5_readStrings 42 = .ok (.iconst 1, 1) := by decide +kernel
theorem dX5_readStrings_43 : decode cX5_readStrings 43 = .ok (.iadd, 1) := by decide +kernel
theorem dX5_readStrings_44 : decode cX5_readStrings 44 = .ok (.putfield 19, 3) := by decide +kernel
theorem dX5_readStrings_47 : decode cX5_readStrings 47 = .ok (.iinc 3 1, 3) := by decide +kernel
theorem dX5_readStrings_50 : decode cX5_readStrings 50 = .ok (.goto (-48), 3) := by decide +kernel
theorem dX5_readStrings_53 : decode cX5_readStrings 53 = .ok (.iload_n 3, 1) := by decide +kernel
theorem dX5_readStrings_54 : decode cX5_readStrings 54 = .ok (.ifCond .ne 8, 3) := by decide +kernel
theorem dX5_readStrings_57 : decode cX5_readStrings 57 = .ok (.aload_n 0, 1) := by decide +kernel
theorem dX5_readStrings_58 : decode cX5_readStrings 58 = .ok (.iconst 1, 1) := by decide +kernel
theorem dX5_readStrings_59 : decode cX5_readStrings 59 = .ok (.invokevirtual 35, 3) := by decide +kernel
theorem dX5_readStrings_62 : decode cX5_readStrings 62 = .ok (.aload_n 1, 1) := by decide +kernel
theorem dX5_readStrings_63 : decode cX5_readStrings 63 = .ok (.getfield 81, 3) := by decide +kernel
theorem dX5_readStrings_66 : decode cX5_readStrings 66 = .ok (.iload_n 2, 1) := by decide +kernel
theorem dX5_readStrings_67 : decode cX5_readStrings 67 = .ok (.iload_n 3, 1) := by decide +kernel
theorem dX5_readStrings_68 : decode cX5_readStrings 68 = .ok (.iastore, 1) := by decide +kernel
theorem dX5_readStrings_69 : decode cX5_readStrings 69 = .ok (.return_, 1) := by decide +kernel
theorem dX5_readPupils_0 : decode cX5_readPupils 0 = .ok (.aload_n 1, 1) := by decide +kernel
theorem dX5_readPupils_1 : decode cX5_readPupils 1 = .ok (.iconst 0, 1) := by decide +kernel
theorem dX5_readPupils_2 : decode cX5_readPupils 2 = .ok (.putfield 84, 3) := by decide +kernel
theorem dX5_readPupils_5 : decode cX5_readPupils 5 = .ok (.iconst 0, 1) := by decide +kernel
theorem dX5_readPupils_6 : decode cX5_readPupils 6 = .ok (.istore_n 2, 1) := by decide +kernel
theorem dX5_readPupils_7 : decode cX5_readPupils 7 = .ok (.iload_n 2, 1) := by decide +kernel
theorem dX5_readPupils_8 : decode cX5_readPupils 8 = .ok (.iconst 5, 1) := by decide +kernel
theorem dX5_readPupils_9 : decode cX5_readPupils 9 = .ok (.if_icmp .ge 91, 3) := by decide +kernel
theorem dX5_readPupils_12 : decode cX5_readPupils 12 = .ok (.aload_n 0, 1) := by decide +kernel
theorem dX5_readPupils_13 : decode cX5_readPupils 13 = .ok (.invokevirtual 87, 3) := by decide +kernel
theorem dX5_readPupils_16 : decode cX5_readPupils 16 = .ok (.ifCond .eq 84, 3) := by decide +kernel
theorem dX5_readPupils_19 : decode cX5_readPupils 19 = .ok (.aload_n 1, 1) := by decide +kernel
theorem dX5_readPupils_20 : decode cX5_readPupils 20 = .ok (.getfield 91, 3) := by decide +kernel
theorem dX5_readPupils_23 : decode cX5_readPupils 23 = .ok (.iload_n 2, 1) := by decide +kernel
theorem dX5_readPupils_24 : decode cX5_readPupils 24 = .ok (.aload_n 0, 1) := by decide +kernel
theorem dX5_readPupils_25 : decode cX5_readPupils 25 = .ok (.invokevirtual 77, 3) := by decide +kernel
theorem dX5_readPupils_28 : decode cX5_readPupils 28 = .ok (.invokestatic 94, 3) := by decide +kernel
theorem dX5_readPupils_31 : decode cX5_readPupils 31 = .ok (.iastore, 1) := by decide +kernel
theorem dX5_readPupils_32 : decode cX5_readPupils 32 = .ok (.aload_n 0, 1) := by decide +kernel
theorem dX5_readPupils_33 : decode cX5_readPupils 33 = .ok (.dup, 1) := by decide +kernel
theorem dX5_readPupils_34 : decode cX5_readPupils 34 = .ok (.getfield 19, 3) := by decide +kernel
theorem dX5_readPupils_37 : decode cX5_readPupils 37 = .ok (.iconst 1, 1) := by decide +kernel
theorem dX5_readPupils_38 : decode cX5_readPupils 38 = .ok (.iadd, 1) := by decide +kernel
theorem dX5_readPupils_39 : decode cX5_readPupils 39 = .ok (.putfield 19, 3) := by decide +kernel
theorem dX5_readPupils_42 : decode cX5_readPupils 42 = .ok (.aload_n 1, 1) := by decide +kernel
theorem dX5_readPupils_43 : decode cX5_readPupils 43 = .ok (.getfield 98, 3) := by decide +kernel
theorem dX5_readPupils_46 : decode cX5_readPupils 46 = .ok (.iload_n 2, 1) := by decide +kernel
theorem dX5_readPupils_47 : decode cX5_readPupils 47 = .ok (.aload_n 0, 1) := by decide +kernel
theorem dX5_readPupils_48 : decode cX5_readPupils 48 = .ok (.iconst 0, 1) := by decide +kernel
theorem dX5_readPupils_49 : decode cX5_readPupils 49 = .ok (.aload_n 1, 1) := by decide +kernel
theorem dX5_readPupils_50 : decode cX5_readPupils 50 = .ok (.getfield 48, 3) := by decide +kernel
theorem dX5_readPupils_53 : decode cX5_readPupils 53 = .ok (.iconst 1, 1) := by decide +kernel
theorem dX5_readPupils_54 : decode cX5_readPupils 54 = .ok (.isub, 1) := by decide +kernel
theorem dX5_readPupils_55 : decode cX5_readPupils 55 = .ok (.invokevirtual 44, 3) := by decide +kernel
theorem dX5_readPupils_58 : decode cX5_readPupils 58 = .ok (.iastore, 1) := by decide +kernel
theorem dX5_readPupils_59 : decode cX5_readPupils 59 = .ok (.aload_n 0, 1) := by decide +kernel
theorem dX5_readPupils_60 : decode cX5_readPupils 60 = .ok (.bipush 44, 2) := by decide +kernel
theorem dX5_readPupils_62 : decode cX5_readPupils 62 = .ok (.invokevirtual 39, 3) := by decide +kernel
theorem dX5_readPupils_65 : decode cX5_readPupils 65 = .ok (.aload_n 1, 1) := by decide +kernel
theorem dX5_readPupils_66 : decode cX5_readPupils 66 = .ok (.getfield 101, 3) := by decide +kernel
theorem dX5_readPupils_69 : decode cX5_readPupils 69 = .ok (.iload_n 2, 1) := by decide +kernel
theorem dX5_readPupils_70 : decode cX5_readPupils 70 = .ok (.aload_n 0, 1) := by decide +kernel
theorem dX5_readPupils_71 : decode cX5_readPupils 71 = .ok (.iconst 1, 1) := by decide +kernel
theorem dX5_readPupils_72 : decode cX5_readPupils 72 = .ok (.bipush 12, 2) := by decide +kernel
theorem dX5_readPupils_74 : decode cX5_readPupils 74 = .ok (.invokevirtual 44, 3) := by decide +kernel
theorem dX5_readPupils_77 : decode cX5_readPupils 77 = .ok (.iastore, 1) := by decide +kernel
theorem dX5_readPupils_78 : decode cX5_readPupils 78 = .ok (.aload_n 0, 1) := by decide +kernel
theorem dX5_readPupils_79 : decode cX5_readPupils 79 = .ok (.bipush 59, 2) := by decide +kernel
theorem dX5_readPupils_81 : decode cX5_readPupils 81 = .ok (.invokevirtual 39, 3) := by decide +kernel
theorem dX5_readPupils_84 : decode cX5_readPupils 84 = .ok (.aload_n 1, 1) := by decide +kernel
theorem dX5_readPupils_85 : decode cX5_readPupils 85 = .ok (.dup, 1) := by decide +kernel
theorem dX5_readPupils_86 : decode cX5_readPupils 86 = .ok (.getfield 84, 3) := by decide +kernel
theorem dX5_readPupils_89 : decode cX5_readPupils 89 = .ok (.iconst 1, 1) := by decide +kernel
theorem dX5_readPupils_90 : decode cX5_readPupils 90 = .ok (.iadd, 1) := by decide +kernel
theorem dX5_readPupils_91 : decode cX5_readPupils 91 = .ok (.putfield 84, 3) := by decide +kernel
theorem dX5_readPupils_94 : decode cX5_readPupils 94 = .ok (.iinc 2 1, 3) := by decide +kernel
theorem dX5_readPupils_97 : decode cX5_readPupils 97 = .ok (.goto (-90), 3) := by decide +kernel
theorem dX5_readPupils_100 : decode cX5_readPupils 100 = .ok (.aload_n 0, 1) := by decide +kernel
theorem dX5_readPupils_101 : decode cX5_readPupils 101 = .ok (.invokevirtual 87, 3) := by decide +kernel
theorem dX5_readPupils_104 : decode cX5_readPupils 104 = .ok (.ifCond .eq 8, 3) := by decide +kernel
theorem dX5_readPupils_107 : decode cX5_readPupils 107 = .ok (.aload_n 0, 1) := by decide +kernel
theorem dX5_readPupils_108 : decode cX5_readPupils 108 = .ok (.iconst 3, 1) := by decide +kernel
theorem dX5_readPupils_109 : decode cX5_readPupils 109 = .ok (.invokevirtual 35, 3) := by decide +kernel
theorem dX5_readPupils_112 : decode cX5_readPupils 112 = .ok (.return_, 1) := by decide +kernel
theorem dX5_takeByte_0 : decode cX5_takeByte 0 = .ok (.aload_n 0, 1) := by decide +kernel
theorem dX5_takeByte_1 : decode cX5_takeByte 1 = .ok (.iload_n 1, 1) := by decide +kernel
theorem dX5_takeByte_2 : decode cX5_takeByte 2 = .ok (.invokevirtual 63, 3) := by decide +kernel
theorem dX5_takeByte_5 : decode cX5_takeByte 5 = .ok (.ifCond .eq 16, 3) := by decide +kernel
theorem dX5_takeByte_8 : decode cX5_takeByte 8 = .ok (.aload_n 0, 1) := by decide +kernel
theorem dX5_takeByte_9 : decode cX5_takeByte 9 = .ok (.dup, 1) := by decide +kernel
theorem dX5_takeByte_10 : decode cX5_takeByte 10 = .ok (.getfield 19, 3) := by decide +kernel
theorem dX5_takeByte_13 : decode cX5_takeByte 13 = .ok (.iconst 1, 1) := by decide +kernel
theorem dX5_takeByte_14 : decode cX5_takeByte 14 = .ok (.iadd, 1) := by decide +kernel
theorem dX5_takeByte_15 : decode cX5_takeByte 15 = .ok (.putfield 19, 3) := by decide +kernel
theorem dX5_takeByte_18 : decode cX5_takeByte 18 = .ok (.goto 8, 3) := by decide +kernel
theorem dX5_takeByte_21 : decode cX5_takeByte 21 = .ok (.aload_n 0, 1) := by decide +kernel
theorem dX5_takeByte_22 : decode cX5_takeByte 22 = .ok (.iconst 1, 1) := by decide +kernel
theorem dX5_takeByte_23 : decode cX5_takeByte 23 = .ok (.invokevirtual 35, 3) := by decide +kernel
theorem dX5_takeByte_26 : decode cX5_takeByte 26 = .ok (.return_, 1) := by decide +kernel
theorem dX5_takeNumber_0 : decode cX5_takeNumber 0 = .ok (.aload_n 0, 1) := by decide +kernel
theorem dX5_takeNumber_1 : decode cX5_takeNumber 1 = .ok (.invokevirtual 104, 3) := by decide +kernel
theorem dX5_takeNumber_4 : decode cX5_takeNumber 4 = .ok (.istore_n 3, 1) := by decide +kernel
theorem dX5_takeNumber_5 : decode cX5_takeNumber 5 = .ok (.aload_n 0, 1) := by decide +kernel
theorem dX5_takeNumber_6 : decode cX5_takeNumber 6 = .ok (.getfield 22, 3) := by decide +kernel
theorem dX5_takeNumber_9 : decode cX5_takeNumber 9 = .ok (.ifCond .ne 13, 3) := by decide +kernel
theorem dX5_takeNumber_12 : decode cX5_takeNumber 12 = .ok (.iload_n 3, 1) := by decide +kernel
theorem dX5_takeNumber_13 : decode cX5_takeNumber 13 = .ok (.iconst 1, 1) := by decide +kernel
theorem dX5_takeNumber_14 : decode cX5_takeNumber 14 = .ok (.if_icmp .lt 8, 3) := by decide +kernel
theorem dX5_takeNumber_17 : decode cX5_takeNumber 17 = .ok (.iload_n 3, 1) := by decide +kernel
theorem dX5_takeNumber_18 : decode cX5_takeNumber 18 = .ok (.iconst 2, 1) := by decide +kernel
theorem dX5_takeNumber_19 : decode cX5_takeNumber 19 = .ok (.if_icmp .le 10, 3) := by decide +kernel
theorem dX5_takeNumber_22 : decode cX5_takeNumber 22 = .ok (.aload_n 0, 1) := by decide +kernel
theorem dX5_takeNumber_23 : decode cX5_takeNumber 23 = .ok (.iconst 1, 1) := by decide +kernel
theorem dX5_takeNumber_24 : decode cX5_takeNumber 24 = .ok (.invokevirtual 35, 3) := by decide +kernel
theorem dX5_takeNumber_27 : decode cX5_takeNumber 27 = .ok (.iload_n 1, 1) := by decide +kernel
theorem dX5_takeNumber_28 : decode cX5_takeNumber 28 = .ok (.ireturn, 1) := by decide +kernel
theorem dX5_takeNumber_29 : decode cX5_takeNumber 29 = .ok (.iconst 0, 1) := by decide +kernel
theorem dX5_takeNumber_30 : decode cX5_takeNumber 30 = .ok (.istore 4, 2) := by decide +kernel
theorem dX5_takeNumber_32 : decode cX5_takeNumber 32 = .ok (.iconst 0, 1) := by decide +kernel
theorem dX5_takeNumber_33 : decode cX5_takeNumber 33 = .ok (.istore 5, 2) := by decide +kernel
theorem dX5_takeNumber_35 : decode cX5_takeNumber 35 = .ok (.iload 5, 2) := by decide +kernel
theorem dX5_takeNumber_37 : decode cX5_takeNumber 37 = .ok (.iload_n 3, 1) := by decide +kernel
theorem dX5_takeNumber_38 : decode cX5_takeNumber 38 = .ok (.if_icmp .ge 31, 3) := by decide +kernel
theorem dX5_takeNumber_41 : decode cX5_takeNumber 41 = .ok (.iload 4, 2) := by decide +kernel
theorem dX5_takeNumber_43 : decode cX5_takeNumber 43 = .ok (.bipush 10, 2) := by decide +kernel
theorem dX5_takeNumber_45 : decode cX5_takeNumber 45 = .ok (.imul, 1) := by decide +kernel
theorem dX5_takeNumber_46 : decode cX5_takeNumber 46 = .ok (.aload_n 0, 1) := by decide +kernel
theorem dX5_takeNumber_47 : decode cX5_takeNumber 47 = .ok (.aload_n 0, 1) := by decide +kernel
theorem dX5_takeNumber_48 : decode cX5_takeNumber 48 = .ok (.getfield 19, 3) := by decide +kernel
theorem dX5_takeNumber_51 : decode cX5_takeNumber 51 = .ok (.iload 5, 2) := by decide +kernel
theorem dX5_takeNumber_53 : decode cX5_takeNumber 53 = .ok (.iadd, 1) := by decide +kernel
theorem dX5_takeNumber_54 : decode cX5_takeNumber 54 = .ok (.invokevirtual 107, 3) := by decide +kernel
theorem dX5_takeNumber_57 : decode cX5_takeNumber 57 = .ok (.iadd, 1) := by decide +kernel
theorem dX5_takeNumber_58 : decode cX5_takeNumber 58 = .ok (.bipush 48, 2) := by decide +kernel
theorem dX5_takeNumber_60 : decode cX5_takeNumber 60 = .ok (.isub, 1) := by decide +kernel
theorem dX5_takeNumber_61 : decode cX5_takeNumber 61 = .ok (.istore 4, 2) := by decide +kernel
theorem dX5_takeNumber_63 : decode cX5_takeNumber 63 = .ok (.iinc 5 1, 3) := by decide +kernel
theorem dX5_takeNumber_66 : decode cX5_takeNumber 66 = .ok (.goto (-31), 3) := by decide +kernel
theorem dX5_takeNumber_69 : decode cX5_takeNumber 69 = .ok (.iload 4, 2) := by decide +kernel
theorem dX5_takeNumber_71 : decode cX5_takeNumber 71 = .ok (.iload_n 1, 1) := by decide +kernel
theorem dX5_takeNumber_72 : decode cX5_takeNumber 72 = .ok (.if_icmp .lt 9, 3) := by decide +kernel
theorem dX5_takeNumber_75 : decode cX5_takeNumber 75 = .ok (.iload 4, 2) := by decide +kernel
theorem dX5_takeNumber_77 : decode cX5_takeNumber 77 = .ok (.iload_n 2, 1) := by decide +kernel
theorem dX5_takeNumber_78 : decode cX5_takeNumber 78 = .ok (.if_icmp .le 10, 3) := by decide +kernel
theorem dX5_takeNumber_81 : decode cX5_takeNumber 81 = .ok (.aload_n 0, 1) := by decide +kernel
theorem dX5_takeNumber_82 : decode cX5_takeNumber 82 = .ok (.iconst 2, 1) := by decide +kernel
theorem dX5_takeNumber_83 : decode cX5_takeNumber 83 = .ok (.invokevirtual 35, 3) := by decide +kernel
theorem dX5_takeNumber_86 : decode cX5_takeNumber 86 = .ok (.iload_n 1, 1) := by decide +kernel
theorem dX5_takeNumber_87 : decode cX5_takeNumber 87 = .ok (.ireturn, 1) := by decide +kernel
theorem dX5_takeNumber_88 : decode cX5_takeNumber 88 = .ok (.aload_n 0, 1) := by decide +kernel
theorem dX5_takeNumber_89 : decode cX5_takeNumber 89 = .ok (.dup, 1) := by decide +kernel
theorem dX5_takeNumber_90 : decode cX5_takeNumber 90 = .ok (.getfield 19, 3) := by decide +kernel
theorem dX5_takeNumber_93 : decode cX5_takeNumber 93 = .ok (.iload_n 3, 1) := by decide +kernel
theorem dX5_takeNumber_94 : decode cX5_takeNumber 94 = .ok (.iadd, 1) := by decide +kernel
theorem dX5_takeNumber_95 : decode cX5_takeNumber 95 = .ok (.putfield 19, 3) := by decide +kernel
theorem dX5_takeNumber_98 : decode cX5_takeNumber 98 = .ok (.iload 4, 2) := by decide +kernel
theorem dX5_takeNumber_100 : decode cX5_takeNumber 100 = .ok (.ireturn, 1) := by decide +kernel
theorem dX5_sees_0 : decode cX5_sees 0 = .ok (.aload_n 0, 1) := by decide +kernel
theorem dX5_sees_1 : decode cX5_sees 1 = .ok (.getfield 22, 3) := by decide +kernel
theorem dX5_sees_4 : decode cX5_sees 4 = .ok (.ifCond .ne 15, 3) := by decide +kernel
theorem dX5_sees_7 : decode cX5_sees 7 = .ok (.aload_n 0, 1) := by decide +kernel
theorem dX5_sees_8 : decode cX5_sees 8 = .ok (.invokevirtual 77, 3) := by decide +kernel
theorem dX5_sees_11 : decode cX5_sees 11 = .ok (.iload_n 1, 1) := by decide +kernel
theorem dX5_sees_12 : decode cX5_sees 12 = .ok (.if_icmp .ne 7, 3) := by decide +kernel
theorem dX5_sees_15 : decode cX5_sees 15 = .ok (.iconst 1, 1) := by decide +kernel
theorem dX5_sees_16 : decode cX5_sees 16 = .ok (.goto 4, 3) := by decide +kernel
theorem dX5_sees_19 : decode cX5_sees 19 = .ok (.iconst 0, 1) := by decide +kernel
theorem dX5_sees_20 : decode cX5_sees 20 = .ok (.ireturn, 1) := by decide +kernel
theorem dX5_seesString_0 : decode cX5_seesString 0 = .ok (.aload_n 0, 1) := by decide +kernel
theorem dX5_seesString_1 : decode cX5_seesString 1 = .ok (.invokevirtual 77, 3) := by decide +kernel
theorem dX5_seesString_4 : decode cX5_seesString 4 = .ok (.bipush 97, 2) := by decide +kernel
theorem dX5_seesString_6 : decode cX5_seesString 6 = .ok (.isub, 1) := by decide +kernel
theorem dX5_seesString_7 : decode cX5_seesString 7 = .ok (.istore_n 2, 1) := by decide +kernel
theorem dX5_seesString_8 : decode cX5_seesString 8 = .ok (.aload_n 0, 1) := by decide +kernel
theorem dX5_seesString_9 : decode cX5_seesString 9 = .ok (.getfield 22, 3) := by decide +kernel
theorem dX5_seesString_12 : decode cX5_seesString 12 = .ok (.ifCond .ne 16, 3) := by decide +kernel
theorem dX5_seesString_15 : decode cX5_seesString 15 = .ok (.iload_n 2, 1) := by decide +kernel
theorem dX5_seesString_16 : decode cX5_seesString 16 = .ok (.ifCond .lt 12, 3) := by decide +kernel
theorem dX5_seesString_19 : decode cX5_seesString 19 = .ok (.iload_n 2, 1) := by decide +kernel
theorem dX5_seesString_20 : decode cX5_seesString 20 = .ok (.iload_n 1, 1) := by decide +kernel
theorem dX5_seesString_21 : decode cX5_seesString 21 = .ok (.if_icmp .ge 7, 3) := by decide +kernel
theorem dX5_seesString_24 : decode cX5_seesString 24 = .ok (.iconst 1, 1) := by decide +kernel
theorem dX5_seesString_25 : decode cX5_seesString 25 = .ok (.goto 4, 3) := by decide +kernel
theorem dX5_seesString_28 : decode cX5_seesString 28 = .ok (.iconst 0, 1) := by decide +kernel
theorem dX5_seesString_29 : decode cX5_seesString 29 = .ok (.ireturn, 1) := by decide +kernel
theorem dX5_seesSort_0 : decode cX5_seesSort 0 = .ok (.aload_n 0, 1) := by decide +kernel
theorem dX5_seesSort_1 : decode cX5_seesSort 1 = .ok (.getfield 22, 3) := by decide +kernel
theorem dX5_seesSort_4 : decode cX5_seesSort 4 = .ok (.ifCond .ne 17, 3) := by decide +kernel
theorem dX5_seesSort_7 : decode cX5_seesSort 7 = .ok (.aload_n 0, 1) := by decide +kernel
theorem dX5_seesSort_8 : decode cX5_seesSort 8 = .ok (.invokevirtual 77, 3) := by decide +kernel
theorem dX5_seesSort_11 : decode cX5_seesSort 11 = .ok (.invokestatic 94, 3) := by decide +kernel
theorem dX5_seesSort_14 : decode cX5_seesSort 14 = .ok (.ifCond .eq 7, 3) := by decide +kernel
theorem dX5_seesSort_17 : decode cX5_seesSort 17 = .ok (.iconst 1, 1) := by decide +kernel
theorem dX5_seesSort_18 : decode cX5_seesSort 18 = .ok (.goto 4, 3) := by decide +kernel
theorem dX5_seesSort_21 : decode cX5_seesSort 21 = .ok (.iconst 0, 1) := by decide +kernel
theorem dX5_seesSort_22 : decode cX5_seesSort 22 = .ok (.ireturn, 1) := by decide +kernel
theorem dX5_kindOfSort_0 : decode cX5_kindOfSort 0 = .ok (.iload_n 0, 1) := by decide +kernel
theorem dX5_kindOfSort_1 : decode cX5_kindOfSort 1 = .ok (.lookupswitch 61 #[(99, 57), (109, 59), (112, 51), (115, 55), (118, 53)], 51) := by decide +kernel
theorem dX5_kindOfSort_52 : decode cX5_kindOfSort 52 = .ok (.iconst 1, 1) := by decide +kernel
theorem dX5_kindOfSort_53 : decode cX5_kindOfSort 53 = .ok (.ireturn, 1) := by decide +kernel
theorem dX5_kindOfSort_54 : decode cX5_kindOfSort 54 = .ok (.iconst 2, 1) := by decide +kernel
theorem dX5_kindOfSort_55 : decode cX5_kindOfSort 55 = .ok (.ireturn, 1) := by decide +kernel
theorem dX5_kindOfSort_56 : decode cX5_kindOfSort 56 = .ok (.iconst 3, 1) := by decide +kernel
theorem dX5_kindOfSort_57 : decode cX5_kindOfSort 57 = .ok (.ireturn, 1) := by decide +kernel
theorem dX5_kindOfSort_58 : decode cX5_kindOfSort 58 = .ok (.iconst 4, 1) := by decide +kernel
theorem dX5_kindOfSort_59 : decode cX5_kindOfSort 59 = .ok (.ireturn, 1) := by decide +kernel
theorem dX5_kindOfSort_60 : decode cX5_kindOfSort 60 = .ok (.iconst 5, 1) := by decide +kernel
theorem dX5_kindOfSort_61 : decode cX5_kindOfSort 61 = .ok (.ireturn, 1) := by decide +kernel
theorem dX5_kindOfSort_62 : decode cX5_kindOfSort 62 = .ok (.iconst 0, 1) := by decide +kernel
theorem dX5_kindOfSort_63 : decode cX5_kindOfSort 63 = .ok (.ireturn, 1) := by decide +kernel
theorem dX5_figuresHere_0 : decode cX5_figuresHere 0 = .ok (.iconst 0, 1) := by decide +kernel
theorem dX5_figuresHere_1 : decode cX5_figuresHere 1 = .ok (.istore_n 1, 1) := by decide +kernel
theorem dX5_figuresHere_2 : decode cX5_figuresHere 2 = .ok (.iload_n 1, 1) := by decide +kernel
theorem dX5_figuresHere_3 : decode cX5_figuresHere 3 = .ok (.iconst 2, 1) := by decide +kernel
theorem dX5_figuresHere_4 : decode cX5_figuresHere 4 = .ok (.if_icmp .gt 25, 3) := by decide +kernel
theorem dX5_figuresHere_7 : decode cX5_figuresHere 7 = .ok (.aload_n 0, 1) := by decide +kernel
theorem dX5_figuresHere_8 : decode cX5_figuresHere 8 = .ok (.aload_n 0, 1) := by decide +kernel
theorem dX5_figuresHere_9 : decode cX5_figuresHere 9 = .ok (.getfield 19, 3) := by decide +kernel
theorem dX5_figuresHere_12 : decode cX5_figuresHere 12 = .ok (.iload_n 1, 1) := by decide +kernel
theorem dX5_figuresHere_13 : decode cX5_figuresHere 13 = .ok (.iadd, 1) := by decide +kernel
theorem dX5_figuresHere_14 : decode cX5_figuresHere 14 = .ok (.invokevirtual 107, 3) := by decide +kernel
theorem dX5_figuresHere_17 : decode cX5_figuresHere 17 = .ok (.invokestatic 110, 3) := by decide +kernel
theorem dX5_figuresHere_20 : decode cX5_figuresHere 20 = .ok (.ifCond .eq 9, 3) := by decide +kernel
theorem dX5_figuresHere_23 : decode cX5_figuresHere 23 = .ok (.iinc 1 1, 3) := by decide +kernel
theorem dX5_figuresHere_26 : decode cX5_figuresHere 26 = .ok (.goto (-24), 3) := by decide +kernel
theorem dX5_figuresHere_29 : decode cX5_figuresHere 29 = .ok (.iload_n 1, 1) := by decide +kernel
theorem dX5_figuresHere_30 : decode cX5_figuresHere 30 = .ok (.ireturn, 1) := by decide +kernel
theorem dX5_isFigure_0 : decode cX5_isFigure 0 = .ok (.iload_n 0, 1) := by decide +kernel
theorem dX5_isFigure_1 : decode cX5_isFigure 1 = .ok (.bipush 48, 2) := by decide +kernel
theorem dX5_isFigure_3 : decode cX5_isFigure 3 = .ok (.if_icmp .lt 13, 3) := by decide +kernel
theorem dX5_isFigure_6 : decode cX5_isFigure 6 = .ok (.iload_n 0, 1) := by decide +kernel
theorem dX5_isFigure_7 : decode cX5_isFigure 7 = .ok (.bipush 57, 2) := by decide +kernel
theorem dX5_isFigure_9 : decode cX5_isFigure 9 = .ok (.if_icmp .gt 7, 3) := by decide +kernel
theorem dX5_isFigure_12 : decode cX5_isFigure 12 = .ok (.iconst 1, 1) := by decide +kernel
theorem dX5_isFigure_13 : decode cX5_isFigure 13 = .ok (.goto 4, 3) := by decide +kernel
theorem dX5_isFigure_16 : decode cX5_isFigure 16 = .ok (.iconst 0, 1) := by decide +kernel
theorem dX5_isFigure_17 : decode cX5_isFigure 17 = .ok (.ireturn, 1) := by decide +kernel
theorem dX5_byteHere_0 : decode cX5_byteHere 0 = .ok (.aload_n 0, 1) := by decide +kernel
theorem dX5_byteHere_1 : decode cX5_byteHere 1 = .ok (.aload_n 0, 1) := by decide +kernel
theorem dX5_byteHere_2 : decode cX5_byteHere 2 = .ok (.getfield 19, 3) := by decide +kernel
theorem dX5_byteHere_5 : decode cX5_byteHere 5 = .ok (.invokevirtual 107, 3) := by decide +kernel
theorem dX5_byteHere_8 : decode cX5_byteHere 8 = .ok (.ireturn, 1) := by decide +kernel
theorem dX5_byteAt_0 : decode cX5_byteAt 0 = .ok (.iload_n 1, 1) := by decide +kernel
theorem dX5_byteAt_1 : decode cX5_byteAt 1 = .ok (.ifCond .lt 20, 3) := by decide +kernel
theorem dX5_byteAt_4 : decode cX5_byteAt 4 = .ok (.iload_n 1, 1) := by decide +kernel
theorem dX5_byteAt_5 : decode cX5_byteAt 5 = .ok (.aload_n 0, 1) := by decide +kernel
theorem dX5_byteAt_6 : decode cX5_byteAt 6 = .ok (.getfield 15, 3) := by decide +kernel
theorem dX5_byteAt_9 : decode cX5_byteAt 9 = .ok (.if_icmp .ge 12, 3) := by decide +kernel
theorem dX5_byteAt_12 : decode cX5_byteAt 12 = .ok (.aload_n 0, 1) := by decide +kernel
theorem dX5_byteAt_13 : decode cX5_byteAt 13 = .ok (.getfield 11, 3) := by decide +kernel
theorem dX5_byteAt_16 : decode cX5_byteAt 16 = .ok (.iload_n 1, 1) := by decide +kernel
theorem dX5_byteAt_17 : decode cX5_byteAt 17 = .ok (.iaload, 1) := by decide +kernel
theorem dX5_byteAt_18 : decode cX5_byteAt 18 = .ok (.goto 4, 3) := by decide +kernel
theorem dX5_byteAt_21 : decode cX5_byteAt 21 = .ok (.iconst (-1), 1) := by decide +kernel
theorem dX5_byteAt_22 : decode cX5_byteAt 22 = .ok (.ireturn, 1) := by decide +kernel
theorem dX5_refuse_0 : decode cX5_refuse 0 = .ok (.aload_n 0, 1) := by decide +kernel
theorem dX5_refuse_1 : decode cX5_refuse 1 = .ok (.getfield 22, 3) := by decide +kernel
theorem dX5_refuse_4 : decode cX5_refuse 4 = .ok (.ifCond .ne 21, 3) := by decide +kernel
theorem dX5_refuse_7 : decode cX5_refuse 7 = .ok (.aload_n 0, 1) := by decide +kernel
theorem dX5_refuse_8 : decode cX5_refuse 8 = .ok (.iload_n 1, 1) := by decide +kernel
theorem dX5_refuse_9 : decode cX5_refuse 9 = .ok (.putfield 22, 3) := by decide +kernel
theorem dX5_refuse_12 : decode cX5_refuse 12 = .ok (.aload_n 0, 1) := by decide +kernel
theorem dX5_refuse_13 : decode cX5_refuse 13 = .ok (.aload_n 0, 1) := by decide +kernel
theorem dX5_refuse_14 : decode cX5_refuse 14 = .ok (.getfield 19, 3) := by decide +kernel
theorem dX5_refuse_17 : decode cX5_refuse 17 = .ok (.putfield 113, 3) := by decide +kernel
theorem dX5_refuse_20 : decode cX5_refuse 20 = .ok (.aload_n 0, 1) := by decide +kernel
theorem dX5_refuse_21 : decode cX5_refuse 21 = .ok (.iload_n 1, 1) := by decide +kernel
theorem dX5_refuse_22 : decode cX5_refuse 22 = .ok (.putfield 116, 3) := by decide +kernel
theorem dX5_refuse_25 : decode cX5_refuse 25 = .ok (.return_, 1) := by decide +kernel
theorem dX6_init_0 : decode cX6_init 0 = .ok (.aload_n 0, 1) := by decide +kernel
theorem dX6_init_1 : decode cX6_init 1 = .ok (.invokespecial 1, 3) := by decide +kernel
theorem dX6_init_4 : decode cX6_init 4 = .ok (.aload_n 0, 1) := by decide +kernel
theorem dX6_init_5 : decode cX6_init 5 = .ok (.bipush 8, 2) := by decide +kernel
theorem dX6_init_7 : decode cX6_init 7 = .ok (.anewarray 9, 3) := by decide +kernel
theorem dX6_init_10 : decode cX6_init 10 = .ok (.putfield 11, 3) := by decide +kernel
theorem dX6_init_13 : decode cX6_init 13 = .ok (.iconst 0, 1) := by decide +kernel
theorem dX6_init_14 : decode cX6_init 14 = .ok (.istore_n 1, 1) := by decide +kernel
theorem dX6_init_15 : decode cX6_init 15 = .ok (.iload_n 1, 1) := by decide +kernel
theorem dX6_init_16 : decode cX6_init 16 = .ok (.bipush 8, 2) := by decide +kernel
theorem dX6_init_18 : decode cX6_init 18 = .ok (.if_icmp .ge 22, 3) := by decide +kernel
theorem dX6_init_21 : decode cX6_init 21 = .ok (.aload_n 0, 1) := by decide +kernel
theorem dX6_init_22 : decode cX6_init 22 = .ok (.getfield 11, 3) := by decide +kernel
theorem dX6_init_25 : decode cX6_init 25 = .ok (.iload_n 1, 1) := by decide +kernel
theorem dX6_init_26 : decode cX6_init 26 = .ok (.new 9, 3) := by decide +kernel
theorem dX6_init_29 : decode cX6_init 29 = .ok (.dup, 1) := by decide +kernel
theorem dX6_init_30 : decode cX6_init 30 = .ok (.invokespecial 15, 3) := by decide +kernel
theorem dX6_init_33 : decode cX6_init 33 = .ok (.aastore, 1) := by decide +kernel
theorem dX6_init_34 : decode cX6_init 34 = .ok (.iinc 1 1, 3) := by decide +kernel
theorem dX6_init_37 : decode cX6_init 37 = .ok (.goto (-22), 3) := by decide +kernel
theorem dX6_init_40 : decode cX6_init 40 = .ok (.aload_n 0, 1) := by decide +kernel
theorem dX6_init_41 : decode cX6_init 41 = .ok (.iconst 2, 1) := by decide +kernel
theorem dX6_init_42 : decode cX6_init 42 = .ok (.anewarray 16, 3) := by decide +kernel
theorem dX6_init_45 : decode cX6_init 45 = .ok (.putfield 18, 3) := by decide +kernel
theorem dX6_init_48 : decode cX6_init 48 = .ok (.iconst 0, 1) := by decide +kernel
theorem dX6_init_49 : decode cX6_init 49 = .ok (.istore_n 1, 1) := by decide +kernel
theorem dX6_init_50 : decode cX6_init 50 = .ok (.iload_n 1, 1) := by decide +kernel
theorem dX6_init_51 : decode cX6_init 51 = .ok (.iconst 2, 1) := by decide +kernel
theorem dX6_init_52 : decode cX6_init 52 = .ok (.if_icmp .ge 22, 3) := by decide +kernel
theorem dX6_init_55 : decode cX6_init 55 = .ok (.aload_n 0, 1) := by decide +kernel
theorem dX6_init_56 : decode cX6_init 56 = .ok (.getfield 18, 3) := by decide +kernel
theorem dX6_init_59 : decode cX6_init 59 = .ok (.iload_n 1, 1) := by decide +kernel
theorem dX6_init_60 : decode cX6_init 60 = .ok (.new 16, 3) := by decide +kernel
theorem dX6_init_63 : decode cX6_init 63 = .ok (.dup, 1) := by decide +kernel
theorem dX6_init_64 : decode cX6_init 64 = .ok (.invokespecial 22, 3) := by decide +kernel
theorem dX6_init_67 : decode cX6_init 67 = .ok (.aastore, 1) := by decide +kernel
theorem dX6_init_68 : decode cX6_init 68 = .ok (.iinc 1 1, 3) := by decide +kernel
theorem dX6_init_71 : decode cX6_init 71 = .ok (.goto (-21), 3) := by decide +kernel
theorem dX6_init_74 : decode cX6_init 74 = .ok (.aload_n 0, 1) := by decide +kernel
theorem dX6_init_75 : decode cX6_init 75 = .ok (.new 23, 3) := by decide +kernel
theorem dX6_init_78 : decode cX6_init 78 = .ok (.dup, 1) := by decide +kernel
theorem dX6_init_79 : decode cX6_init 79 = .ok (.invokespecial 25, 3) := by decide +kernel
theorem dX6_init_82 : decode cX6_init 82 = .ok (.putfield 26, 3) := by decide +kernel
theorem dX6_init_85 : decode cX6_init 85 = .ok (.aload_n 0, 1) := by decide +kernel
theorem dX6_init_86 : decode cX6_init 86 = .ok (.new 16, 3) := by decide +kernel
theorem dX6_init_89 : decode cX6_init 89 = .ok (.dup, 1) := by decide +kernel
theorem dX6_init_90 : decode cX6_init 90 = .ok (.invokespecial 22, 3) := by decide +kernel
theorem dX6_init_93 : decode cX6_init 93 = .ok (.putfield 30, 3) := by decide +kernel
theorem dX6_init_96 : decode cX6_init 96 = .ok (.aload_n 0, 1) := by decide +kernel
theorem dX6_init_97 : decode cX6_init 97 = .ok (.new 16, 3) := by decide +kernel
theorem dX6_init_100 : decode cX6_init 100 = .ok (.dup, 1) := by decide +kernel
theorem dX6_init_101 : decode cX6_init 101 = .ok (.invokespecial 22, 3) := by decide +kernel
theorem dX6_init_104 : decode cX6_init 104 = .ok (.putfield 34, 3) := by decide +kernel
theorem dX6_init_107 : decode cX6_init 107 = .ok (.aload_n 0, 1) := by decide +kernel
theorem dX6_init_108 : decode cX6_init 108 = .ok (.new 37, 3) := by decide +kernel
theorem dX6_init_111 : decode cX6_init 111 = .ok (.dup, 1) := by decide +kernel
theorem dX6_init_112 : decode cX6_init 112 = .ok (.invokespecial 39, 3) := by decide +kernel
theorem dX6_init_115 : decode cX6_init 115 = .ok (.putfield 40, 3) := by decide +kernel
theorem dX6_init_118 : decode cX6_init 118 = .ok (.aload_n 0, 1) := by decide +kernel
theorem dX6_init_119 : decode cX6_init 119 = .ok (.new 44, 3) := by decide +kernel
theorem dX6_init_122 : decode cX6_init 122 = .ok (.dup, 1) := by decide +kernel
theorem dX6_init_123 : decode cX6_init 123 = .ok (.aload_n 0, 1) := by decide +kernel
theorem dX6_init_124 : decode cX6_init 124 = .ok (.getfield 30, 3) := by decide +kernel
theorem dX6_init_127 : decode cX6_init 127 = .ok (.invokespecial 46, 3) := by decide +kernel
theorem dX6_init_130 : decode cX6_init 130 = .ok (.putfield 49, 3) := by decide +kernel
theorem dX6_init_133 : decode cX6_init 133 = .ok (.aload_n 0, 1) := by decide +kernel
theorem dX6_init_134 : decode cX6_init 134 = .ok (.new 53, 3) := by decide +kernel
theorem dX6_init_137 : decode cX6_init 137 = .ok (.dup, 1) := by decide +kernel
theorem dX6_init_138 : decode cX6_init 138 = .ok (.invokespecial 55, 3) := by decide +kernel
theorem dX6_init_141 : decode cX6_init 141 = .ok (.putfield 56, 3) := by decide +kernel
theorem dX6_init_144 : decode cX6_init 144 = .ok (.return_, 1) := by decide +kernel
theorem dX6_row_0 : decode cX6_row 0 = .ok (.iload_n 1, 1) := by decide +kernel
theorem dX6_row_1 : decode cX6_row 1 = .ok (.invokestatic 60, 3) := by decide +kernel
theorem dX6_row_4 : decode cX6_row 4 = .ok (.ifCond .eq 16, 3) := by decide +kernel
theorem dX6_row_7 : decode cX6_row 7 = .ok (.iload_n 2, 1) := by decide +kernel
theorem dX6_row_8 : decode cX6_row 8 = .ok (.invokestatic 64, 3) := by decide +kernel
theorem dX6_row_11 : decode cX6_row 11 = .ok (.ifCond .eq 9, 3) := by decide +kernel
theorem dX6_row_14 : decode cX6_row 14 = .ok (.iload_n 3, 1) := by decide +kernel
theorem dX6_row_15 : decode cX6_row 15 = .ok (.bipush 40, 2) := by decide +kernel
theorem dX6_row_17 : decode cX6_row 17 = .ok (.if_icmp .le 6, 3) := by decide +kernel
theorem dX6_row_20 : decode cX6_row 20 = .ok (.ldc 67, 2) := by decide +kernel
theorem dX6_row_22 : decode cX6_row 22 = .ok (.ireturn, 1) := by decide +kernel
theorem dX6_row_23 : decode cX6_row 23 = .ok (.iload_n 3, 1) := by decide +kernel
theorem dX6_row_24 : decode cX6_row 24 = .ok (.ifCond .ge 9, 3) := by decide +kernel
theorem dX6_row_27 : decode cX6_row 27 = .ok (.aload_n 0, 1) := by decide +kernel
theorem dX6_row_28 : decode cX6_row 28 = .ok (.iconst 4, 1) := by decide +kernel
theorem dX6_row_29 : decode cX6_row 29 = .ok (.invokevirtual 68, 3) := by decide +kernel
theorem dX6_row_32 : decode cX6_row 32 = .ok (.ireturn, 1) := by decide +kernel
theorem dX6_row_33 : decode cX6_row 33 = .ok (.aload_n 0, 1) := by decide +kernel
theorem dX6_row_34 : decode cX6_row 34 = .ok (.getfield 11, 3) := by decide +kernel
theorem dX6_row_37 : decode cX6_row 37 = .ok (.iload_n 1, 1) := by decide +kernel
theorem dX6_row_38 : decode cX6_row 38 = .ok (.aaload, 1) := by decide +kernel
theorem dX6_row_39 : decode cX6_row 39 = .ok (.iload_n 2, 1) := by decide +kernel
theorem dX6_row_40 : decode cX6_row 40 = .ok (.iload_n 3, 1) := by decide +kernel
theorem dX6_row_41 : decode cX6_row 41 = .ok (.invokevirtual 72, 3) := by decide +kernel
theorem dX6_row_44 : decode cX6_row 44 = .ok (.aload_n 0, 1) := by decide +kernel
theorem dX6_row_45 : decode cX6_row 45 = .ok (.iload_n 3, 1) := by decide +kernel
theorem dX6_row_46 : decode cX6_row 46 = .ok (.invokevirtual 76, 3) := by decide +kernel
theorem dX6_row_49 : decode cX6_row 49 = .ok (.ireturn, 1) := by decide +kernel
theorem dX6_set_0 : decode cX6_set 0 = .ok (.iload_n 1, 1) := by decide +kernel
theorem dX6_set_1 : decode cX6_set 1 = .ok (.invokestatic 60, 3) := by decide +kernel
theorem dX6_set_4 : decode cX6_set 4 = .ok (.ifCond .ne 6, 3) := by decide +kernel
theorem dX6_set_7 : decode cX6_set 7 = .ok (.ldc 67, 2) := by decide +kernel
theorem dX6_set_9 : decode cX6_set 9 = .ok (.ireturn, 1) := by decide +kernel
theorem dX6_set_10 : decode cX6_set 10 = .ok (.aload_n 0, 1) := by decide +kernel
theorem dX6_set_11 : decode cX6_set 11 = .ok (.getfield 11, 3) := by decide +kernel
theorem dX6_set_14 : decode cX6_set 14 = .ok (.iload_n 1, 1) := by decide +kernel
theorem dX6_set_15 : decode cX6_set 15 = .ok (.aaload, 1) := by decide +kernel
theorem dX6_set_16 : decode cX6_set 16 = .ok (.invokevirtual 79, 3) := by decide +kernel
theorem dX6_set_19 : decode cX6_set 19 = .ok (.ifCond .eq 9, 3) := by decide +kernel
theorem dX6_set_22 : decode cX6_set 22 = .ok (.aload_n 0, 1) := by decide +kernel
theorem dX6_set_23 : decode cX6_set 23 = .ok (.iconst 1, 1) := by decide +kernel
theorem dX6_set_24 : decode cX6_set 24 = .ok (.invokevirtual 68, 3) := by decide +kernel
theorem dX6_set_27 : decode cX6_set 27 = .ok (.ireturn, 1) := by decide +kernel
theorem dX6_set_28 : decode cX6_set 28 = .ok (.aload_n 0, 1) := by decide +kernel
theorem dX6_set_29 : decode cX6_set 29 = .ok (.getfield 11, 3) := by decide +kernel
theorem dX6_set_32 : decode cX6_set 32 = .ok (.iload_n 1, 1) := by decide +kernel
theorem dX6_set_33 : decode cX6_set 33 = .ok (.aaload, 1) := by decide +kernel
theorem dX6_set_34 : decode cX6_set 34 = .ok (.iload_n 2, 1) := by decide +kernel
theorem dX6_set_35 : decode cX6_set 35 = .ok (.iconst 1, 1) := by decide +kernel
theorem dX6_set_36 : decode cX6_set 36 = .ok (.invokevirtual 83, 3) := by decide +kernel
theorem dX6_set_39 : decode cX6_set 39 = .ok (.ifCond .ne 9, 3) := by decide +kernel
theorem dX6_set_42 : decode cX6_set 42 = .ok (.aload_n 0, 1) := by decide +kernel
theorem dX6_set_43 : decode cX6_set 43 = .ok (.iconst 2, 1) := by decide +kernel
theorem dX6_set_44 : decode cX6_set 44 = .ok (.invokevirtual 68, 3) := by decide +kernel
theorem dX6_set_47 : decode cX6_set 47 = .ok (.ireturn, 1) := by decide +kernel
theorem dX6_set_48 : decode cX6_set 48 = .ok (.aload_n 0, 1) := by decide +kernel
theorem dX6_set_49 : decode cX6_set 49 = .ok (.aload_n 0, 1) := by decide +kernel
theorem dX6_set_50 : decode cX6_set 50 = .ok (.getfield 11, 3) := by decide +kernel
theorem dX6_set_53 : decode cX6_set 53 = .ok (.iload_n 1, 1) := by decide +kernel
theorem dX6_set_54 : decode cX6_set 54 = .ok (.aaload, 1) := by decide +kernel
theorem dX6_set_55 : decode cX6_set 55 = .ok (.iload_n 2, 1) := by decide +kernel
theorem dX6_set_56 : decode cX6_set 56 = .ok (.iload_n 3, 1) := by decide +kernel
theorem dX6_set_57 : decode cX6_set 57 = .ok (.invokevirtual 87, 3) := by decide +kernel
theorem dX6_set_60 : decode cX6_set 60 = .ok (.invokevirtual 76, 3) := by decide +kernel
theorem dX6_set_63 : decode cX6_set 63 = .ok (.ireturn, 1) := by decide +kernel
theorem dX6_copy_0 : decode cX6_copy 0 = .ok (.iload_n 1, 1) := by decide +kernel
theorem dX6_copy_1 : decode cX6_copy 1 = .ok (.invokestatic 60, 3) := by decide +kernel
theorem dX6_copy_4 : decode cX6_copy 4 = .ok (.ifCond .eq 10, 3) := by decide +kernel
theorem dX6_copy_7 : decode cX6_copy 7 = .ok (.iload_n 3, 1) := by decide +kernel
theorem dX6_copy_8 : decode cX6_copy 8 = .ok (.invokestatic 60, 3) := by decide +kernel
theorem dX6_copy_11 : decode cX6_copy 11 = .ok (.ifCond .ne 6, 3) := by decide +kernel
theorem dX6_copy_14 : decode cX6_copy 14 = .ok (.ldc 67, 2) := by decide +kernel
theorem dX6_copy_16 : decode cX6_copy 16 = .ok (.ireturn, 1) := by decide +kernel
theorem dX6_copy_17 : decode cX6_copy 17 = .ok (.aload_n 0, 1) := by decide +kernel
theorem dX6_copy_18 : decode cX6_copy 18 = .ok (.getfield 11, 3) := by decide +kernel
theorem dX6_copy_21 : decode cX6_copy 21 = .ok (.iload_n 1, 1) := by decide +kernel
theorem dX6_copy_22 : decode cX6_copy 22 = .ok (.aaload, 1) := by decide +kernel
theorem dX6_copy_23 : decode cX6_copy 23 = .ok (.invokevirtual 79, 3) := by decide +kernel
theorem dX6_copy_26 : decode cX6_copy 26 = .ok (.ifCond .ne 15, 3) := by decide +kernel
theorem dX6_copy_29 : decode cX6_copy 29 = .ok (.aload_n 0, 1) := by decide +kernel
theorem dX6_copy_30 : decode cX6_copy 30 = .ok (.getfield 11, 3) := by decide +kernel
theorem dX6_copy_33 : decode cX6_copy 33 = .ok (.iload_n 3, 1) := by decide +kernel
theorem dX6_copy_34 : decode cX6_copy 34 = .ok (.aaload, 1) := by decide +kernel
theorem dX6_copy_35 : decode cX6_copy 35 = .ok (.invokevirtual 79, 3) := by decide +kernel
theorem dX6_copy_38 : decode cX6_copy 38 = .ok (.ifCond .eq 9, 3) := by decide +kernel
theorem dX6_copy_41 : decode cX6_copy 41 = .ok (.aload_n 0, 1) := by decide +kernel
theorem dX6_copy_42 : decode cX6_copy 42 = .ok (.iconst 1, 1) := by decide +kernel
theorem dX6_copy_43 : decode cX6_copy 43 = .ok (.invokevirtual 68, 3) := by decide +kernel
theorem dX6_copy_46 : decode cX6_copy 46 = .ok (.ireturn, 1) := by decide +kernel
theorem dX6_copy_47 : decode cX6_copy 47 = .ok (.aload_n 0, 1) := by decide +kernel
theorem dX6_copy_48 : decode cX6_copy 48 = .ok (.getfield 11, 3) := by decide +kernel
theorem dX6_copy_51 : decode cX6_copy 51 = .ok (.iload_n 1, 1) := by decide +kernel
theorem dX6_copy_52 : decode cX6_copy 52 = .ok (.aaload, 1) := by decide +kernel
theorem dX6_copy_53 : decode cX6_copy 53 = .ok (.getfield 91, 3) := by decide +kernel
theorem dX6_copy_56 : decode cX6_copy 56 = .ok (.aload_n 0, 1) := by decide +kernel
theorem dX6_copy_57 : decode cX6_copy 57 = .ok (.getfield 11, 3) := by decide +kernel
theorem dX6_copy_60 : decode cX6_copy 60 = .ok (.iload_n 3, 1) := by decide +kernel
theorem dX6_copy_61 : decode cX6_copy 61 = .ok (.aaload, 1) := by decide +kernel
theorem dX6_copy_62 : decode cX6_copy 62 = .ok (.getfield 91, 3) := by decide +kernel
theorem dX6_copy_65 : decode cX6_copy 65 = .ok (.if_icmp .eq 9, 3) := by decide +kernel
theorem dX6_copy_68 : decode cX6_copy 68 = .ok (.aload_n 0, 1) := by decide +kernel
theorem dX6_copy_69 : decode cX6_copy 69 = .ok (.iconst 5, 1) := by decide +kernel
theorem dX6_copy_70 : decode cX6_copy 70 = .ok (.invokevirtual 68, 3) := by decide +kernel
theorem dX6_copy_73 : decode cX6_copy 73 = .ok (.ireturn, 1) := by decide +kernel
theorem dX6_copy_74 : decode cX6_copy 74 = .ok (.aload_n 0, 1) := by decide +kernel
theorem dX6_copy_75 : decode cX6_copy 75 = .ok (.getfield 11, 3) := by decide +kernel
theorem dX6_copy_78 : decode cX6_copy 78 = .ok (.iload_n 1, 1) := by decide +kernel
theorem dX6_copy_79 : decode cX6_copy 79 = .ok (.aaload, 1) := by decide +kernel
theorem dX6_copy_80 : decode cX6_copy 80 = .ok (.iload_n 2, 1) := by decide +kernel
theorem dX6_copy_81 : decode cX6_copy 81 = .ok (.iload 5, 2) := by decide +kernel
theorem dX6_copy_83 : decode cX6_copy 83 = .ok (.invokevirtual 83, 3) := by decide +kernel
theorem dX6_copy_86 : decode cX6_copy 86 = .ok (.ifCond .eq 19, 3) := by decide +kernel
theorem dX6_copy_89 : decode cX6_copy 89 = .ok (.aload_n 0, 1) := by decide +kernel
theorem dX6_copy_90 : decode cX6_copy 90 = .ok (.getfield 11, 3) := by decide +kernel
theorem dX6_copy_93 : decode cX6_copy 93 = .ok (.iload_n 3, 1) := by decide +kernel
theorem dX6_copy_94 : decode cX6_copy 94 = .ok (.aaload, 1) := by decide +kernel
theorem dX6_copy_95 : decode cX6_copy 95 = .ok (.iload 4, 2) := by decide +kernel
theorem dX6_copy_97 : decode cX6_copy 97 = .ok (.iload 5, 2) := by decide +kernel
theorem dX6_copy_99 : decode cX6_copy 99 = .ok (.invokevirtual 83, 3) := by decide +kernel
theorem dX6_copy_102 : decode cX6_copy 102 = .ok (.ifCond .ne 9, 3) := by decide +kernel
theorem dX6_copy_105 : decode cX6_copy 105 = .ok (.aload_n 0, 1) := by decide +kernel
theorem dX6_copy_106 : decode cX6_copy 106 = .ok (.iconst 2, 1) := by decide +kernel
theorem dX6_copy_107 : decode cX6_copy 107 = .ok (.invokevirtual 68, 3) := by decide +kernel
theorem dX6_copy_110 : decode cX6_copy 110 = .ok (.ireturn, 1) := by decide +kernel
theorem dX6_copy_111 : decode cX6_copy 111 = .ok (.aload_n 0, 1) := by decide +kernel
theorem dX6_copy_112 : decode cX6_copy 112 = .ok (.getfield 11, 3) := by decide +kernel
theorem dX6_copy_115 : decode cX6_copy 115 = .ok (.iload_n 1, 1) := by decide +kernel
theorem dX6_copy_116 : decode cX6_copy 116 = .ok (.aaload, 1) := by decide +kernel
theorem dX6_copy_117 : decode cX6_copy 117 = .ok (.getfield 95, 3) := by decide +kernel
theorem dX6_copy_120 : decode cX6_copy 120 = .ok (.iload_n 2, 1) := by decide +kernel
theorem dX6_copy_121 : decode cX6_copy 121 = .ok (.aload_n 0, 1) := by decide +kernel
theorem dX6_copy_122 : decode cX6_copy 122 = .ok (.getfield 11, 3) := by decide +kernel
theorem dX6_copy_125 : decode cX6_copy 125 = .ok (.iload_n 3, 1) := by decide +kernel
theorem dX6_copy_126 : decode cX6_copy 126 = .ok (.aaload, 1) := by decide +kernel
theorem dX6_copy_127 : decode cX6_copy 127 = .ok (.getfield 95, 3) := by decide +kernel
theorem dX6_copy_130 : decode cX6_copy 130 = .ok (.iload 4, 2) := by decide +kernel
theorem dX6_copy_132 : decode cX6_copy 132 = .ok (.iload 5, 2) := by decide +kernel
theorem dX6_copy_134 : decode cX6_copy 134 = .ok (.invokestatic 99, 3) := by decide +kernel
theorem dX6_copy_137 : decode cX6_copy 137 = .ok (.aload_n 0, 1) := by decide +kernel
theorem dX6_copy_138 : decode cX6_copy 138 = .ok (.iload 5, 2) := by decide +kernel
theorem dX6_copy_140 : decode cX6_copy 140 = .ok (.invokevirtual 76, 3) := by decide +kernel
theorem dX6_copy_143 : decode cX6_copy 143 = .ok (.ireturn, 1) := by decide +kernel
theorem dX6_drop_0 : decode cX6_drop 0 = .ok (.iload_n 1, 1) := by decide +kernel
theorem dX6_drop_1 : decode cX6_drop 1 = .ok (.invokestatic 60, 3) := by decide +kernel
theorem dX6_drop_4 : decode cX6_drop 4 = .ok (.ifCond .ne 6, 3) := by decide +kernel
theorem dX6_drop_7 : decode cX6_drop 7 = .ok (.ldc 67, 2) := by decide +kernel
theorem dX6_drop_9 : decode cX6_drop 9 = .ok (.ireturn, 1) := by decide +kernel
theorem dX6_drop_10 : decode cX6_drop 10 = .ok (.aload_n 0, 1) := by decide +kernel
theorem dX6_drop_11 : decode cX6_drop 11 = .ok (.getfield 11, 3) := by decide +kernel
theorem dX6_drop_14 : decode cX6_drop 14 = .ok (.iload_n 1, 1) := by decide +kernel
theorem dX6_drop_15 : decode cX6_drop 15 = .ok (.aaload, 1) := by decide +kernel
theorem dX6_drop_16 : decode cX6_drop 16 = .ok (.invokevirtual 79, 3) := by decide +kernel
theorem dX6_drop_19 : decode cX6_drop 19 = .ok (.ifCond .eq 9, 3) := by decide +kernel
theorem dX6_drop_22 : decode cX6_drop 22 = .ok (.aload_n 0, 1) := by decide +kernel
theorem dX6_drop_23 : decode cX6_drop 23 = .ok (.iconst 1, 1) := by decide +kernel
theorem dX6_drop_24 : decode cX6_drop 24 = .ok (.invokevirtual 68, 3) := by decide +kernel
theorem dX6_drop_27 : decode cX6_drop 27 = .ok (.ireturn, 1) := by decide +kernel
theorem dX6_drop_28 : decode cX6_drop 28 = .ok (.aload_n 0, 1) := by decide +kernel
theorem dX6_drop_29 : decode cX6_drop 29 = .ok (.getfield 11, 3) := by decide +kernel
theorem dX6_drop_32 : decode cX6_drop 32 = .ok (.iload_n 1, 1) := by decide +kernel
theorem dX6_drop_33 : decode cX6_drop 33 = .ok (.aaload, 1) := by decide +kernel
theorem dX6_drop_34 : decode cX6_drop 34 = .ok (.getfield 105, 3) := by decide +kernel
theorem dX6_drop_37 : decode cX6_drop 37 = .ok (.istore_n 2, 1) := by decide +kernel
theorem dX6_drop_38 : decode cX6_drop 38 = .ok (.aload_n 0, 1) := by decide +kernel
theorem dX6_drop_39 : decode cX6_drop 39 = .ok (.getfield 11, 3) := by decide +kernel
theorem dX6_drop_42 : decode cX6_drop 42 = .ok (.iload_n 1, 1) := by decide +kernel
theorem dX6_drop_43 : decode cX6_drop 43 = .ok (.aaload, 1) := by decide +kernel
theorem dX6_drop_44 : decode cX6_drop 44 = .ok (.invokevirtual 108, 3) := by decide +kernel
theorem dX6_drop_47 : decode cX6_drop 47 = .ok (.aload_n 0, 1) := by decide +kernel
theorem dX6_drop_48 : decode cX6_drop 48 = .ok (.iload_n 2, 1) := by decide +kernel
theorem dX6_drop_49 : decode cX6_drop 49 = .ok (.invokevirtual 76, 3) := by decide +kernel
theorem dX6_drop_52 : decode cX6_drop 52 = .ok (.ireturn, 1) := by decide +kernel
theorem dX6_feed_0 : decode cX6_feed 0 = .ok (.iload_n 1, 1) := by decide +kernel
theorem dX6_feed_1 : decode cX6_feed 1 = .ok (.ifCond .lt 10, 3) := by decide +kernel
theorem dX6_feed_4 : decode cX6_feed 4 = .ok (.iload_n 1, 1) := by decide +kernel
theorem dX6_feed_5 : decode cX6_feed 5 = .ok (.sipush 255, 3) := by decide +kernel
theorem dX6_feed_8 : decode cX6_feed 8 = .ok (.if_icmp .le 6, 3) := by decide +kernel
theorem dX6_feed_11 : decode cX6_feed 11 = .ok (.ldc 67, 2) := by decide +kernel
theorem dX6_feed_13 : decode cX6_feed 13 = .ok (.ireturn, 1) := by decide +kernel
theorem dX6_feed_14 : decode cX6_feed 14 = .ok (.aload_n 0, 1) := by decide +kernel
theorem dX6_feed_15 : decode cX6_feed 15 = .ok (.getfield 26, 3) := by decide +kernel
theorem dX6_feed_18 : decode cX6_feed 18 = .ok (.invokevirtual 111, 3) := by decide +kernel
theorem dX6_feed_21 : decode cX6_feed 21 = .ok (.ifCond .eq 6, 3) := by decide +kernel
theorem dX6_feed_24 : decode cX6_feed 24 = .ok (.ldc 114, 2) := by decide +kernel
theorem dX6_feed_26 : decode cX6_feed 26 = .ok (.ireturn, 1) := by decide +kernel
theorem dX6_feed_27 : decode cX6_feed 27 = .ok (.aload_n 0, 1) := by decide +kernel
theorem dX6_feed_28 : decode cX6_feed 28 = .ok (.getfield 26, 3) := by decide +kernel
theorem dX6_feed_31 : decode cX6_feed 31 = .ok (.iload_n 1, 1) := by decide +kernel
theorem dX6_feed_32 : decode cX6_feed 32 = .ok (.invokevirtual 115, 3) := by decide +kernel
theorem dX6_feed_35 : decode cX6_feed 35 = .ok (.ireturn, 1) := by decide +kernel
theorem dX6_hall_0 : decode cX6_hall 0 = .ok (.aload_n 0, 1) := by decide +kernel
theorem dX6_hall_1 : decode cX6_hall 1 = .ok (.getfield 26, 3) := by decide +kernel
theorem dX6_hall_4 : decode cX6_hall 4 = .ok (.aload_n 0, 1) := by decide +kernel
theorem dX6_hall_5 : decode cX6_hall 5 = .ok (.getfield 34, 3) := by decide +kernel
theorem dX6_hall_8 : decode cX6_hall 8 = .ok (.invokevirtual 118, 3) := by decide +kernel
theorem dX6_hall_11 : decode cX6_hall 11 = .ok (.istore_n 1, 1) := by decide +kernel
theorem dX6_hall_12 : decode cX6_hall 12 = .ok (.aload_n 0, 1) := by decide +kernel
theorem dX6_hall_13 : decode cX6_hall 13 = .ok (.getfield 26, 3) := by decide +kernel
theorem dX6_hall_16 : decode cX6_hall 16 = .ok (.invokevirtual 122, 3) := by decide +kernel
theorem dX6_hall_19 : decode cX6_hall 19 = .ok (.iload_n 1, 1) := by decide +kernel
theorem dX6_hall_20 : decode cX6_hall 20 = .ok (.ifCond .ne 14, 3) := by decide +kernel
theorem dX6_hall_23 : decode cX6_hall 23 = .ok (.ldc 125, 2) := by decide +kernel
theorem dX6_hall_25 : decode cX6_hall 25 = .ok (.aload_n 0, 1) := by decide +kernel
theorem dX6_hall_26 : decode cX6_hall 26 = .ok (.getfield 26, 3) := by decide +kernel
theorem dX6_hall_29 : decode cX6_hall 29 = .ok (.getfield 126, 3) := by decide +kernel
theorem dX6_hall_32 : decode cX6_hall 32 = .ok (.isub, 1) := by decide +kernel
theorem dX6_hall_33 : decode cX6_hall 33 = .ok (.ireturn, 1) := by decide +kernel
theorem dX6_hall_34 : decode cX6_hall 34 = .ok (.aload_n 0, 1) := by decide +kernel
theorem dX6_hall_35 : decode cX6_hall 35 = .ok (.getfield 30, 3) := by decide +kernel
theorem dX6_hall_38 : decode cX6_hall 38 = .ok (.aload_n 0, 1) := by decide +kernel
theorem dX6_hall_39 : decode cX6_hall 39 = .ok (.getfield 34, 3) := by decide +kernel
theorem dX6_hall_42 : decode cX6_hall 42 = .ok (.invokevirtual 129, 3) := by decide +kernel
theorem dX6_hall_45 : decode cX6_hall 45 = .ok (.aload_n 0, 1) := by decide +kernel
theorem dX6_hall_46 : decode cX6_hall 46 = .ok (.getfield 40, 3) := by decide +kernel
theorem dX6_hall_49 : decode cX6_hall 49 = .ok (.invokevirtual 132, 3) := by decide +kernel
theorem dX6_hall_52 : decode cX6_hall 52 = .ok (.aload_n 0, 1) := by decide +kernel
theorem dX6_hall_53 : decode cX6_hall 53 = .ok (.getfield 30, 3) := by decide +kernel
theorem dX6_hall_56 : decode cX6_hall 56 = .ok (.getfield 133, 3) := by decide +kernel
theorem dX6_hall_59 : decode cX6_hall 59 = .ok (.ireturn, 1) := by decide +kernel
theorem dX6_fault_0 : decode cX6_fault 0 = .ok (.aload_n 0, 1) := by decide +kernel
theorem dX6_fault_1 : decode cX6_fault 1 = .ok (.getfield 26, 3) := by decide +kernel
theorem dX6_fault_4 : decode cX6_fault 4 = .ok (.getfield 136, 3) := by decide +kernel
theorem dX6_fault_7 : decode cX6_fault 7 = .ok (.ireturn, 1) := by decide +kernel
theorem dX6_undo_0 : decode cX6_undo 0 = .ok (.aload_n 0, 1) := by decide +kernel
theorem dX6_undo_1 : decode cX6_undo 1 = .ok (.getfield 40, 3) := by decide +kernel
theorem dX6_undo_4 : decode cX6_undo 4 = .ok (.getfield 139, 3) := by decide +kernel
theorem dX6_undo_7 : decode cX6_undo 7 = .ok (.ifCond .ne 6, 3) := by decide +kernel
theorem dX6_undo_10 : decode cX6_undo 10 = .ok (.ldc 142, 2) := by decide +kernel
theorem dX6_undo_12 : decode cX6_undo 12 = .ok (.ireturn, 1) := by decide +kernel
theorem dX6_undo_13 : decode cX6_undo 13 = .ok (.aload_n 0, 1) := by decide +kernel
theorem dX6_undo_14 : decode cX6_undo 14 = .ok (.getfield 40, 3) := by decide +kernel
theorem dX6_undo_17 : decode cX6_undo 17 = .ok (.aload_n 0, 1) := by decide +kernel
theorem dX6_undo_18 : decode cX6_undo 18 = .ok (.getfield 30, 3) := by decide +kernel
theorem dX6_undo_21 : decode cX6_undo 21 = .ok (.invokevirtual 143, 3) := by decide +kernel
theorem dX6_undo_24 : decode cX6_undo 24 = .ok (.aload_n 0, 1) := by decide +kernel
theorem dX6_undo_25 : decode cX6_undo 25 = .ok (.getfield 40, 3) := by decide +kernel
theorem dX6_undo_28 : decode cX6_undo 28 = .ok (.getfield 139, 3) := by decide +kernel
theorem dX6_undo_31 : decode cX6_undo 31 = .ok (.ireturn, 1) := by decide +kernel
theorem dX6_nights_0 : decode cX6_nights 0 = .ok (.aload_n 0, 1) := by decide +kernel
theorem dX6_nights_1 : decode cX6_nights 1 = .ok (.getfield 30, 3) := by decide +kernel
theorem dX6_nights_4 : decode cX6_nights 4 = .ok (.invokevirtual 146, 3) := by decide +kernel
theorem dX6_nights_7 : decode cX6_nights 7 = .ok (.ifCond .ne 6, 3) := by decide +kernel
theorem dX6_nights_10 : decode cX6_nights 10 = .ok (.ldc 142, 2) := by decide +kernel
theorem dX6_nights_12 : decode cX6_nights 12 = .ok (.ireturn, 1) := by decide +kernel
theorem dX6_nights_13 : decode cX6_nights 13 = .ok (.iload_n 1, 1) := by decide +kernel
theorem dX6_nights_14 : decode cX6_nights 14 = .ok (.iconst 1, 1) := by decide +kernel
theorem dX6_nights_15 : decode cX6_nights 15 = .ok (.if_icmp .lt 9, 3) := by decide +kernel
theorem dX6_nights_18 : decode cX6_nights 18 = .ok (.iload_n 1, 1) := by decide +kernel
theorem dX6_nights_19 : decode cX6_nights 19 = .ok (.bipush 24, 2) := by decide +kernel
theorem dX6_nights_21 : decode cX6_nights 21 = .ok (.if_icmp .le 6, 3) := by decide +kernel
theorem dX6_nights_24 : decode cX6_nights 24 = .ok (.ldc 67, 2) := by decide +kernel
theorem dX6_nights_26 : decode cX6_nights 26 = .ok (.ireturn, 1) := by decide +kernel
theorem dX6_nights_27 : decode cX6_nights 27 = .ok (.aload_n 0, 1) := by decide +kernel
theorem dX6_nights_28 : decode cX6_nights 28 = .ok (.getfield 30, 3) := by decide +kernel
theorem dX6_nights_31 : decode cX6_nights 31 = .ok (.getfield 149, 3) := by decide +kernel
theorem dX6_nights_34 : decode cX6_nights 34 = .ok (.iload_n 1, 1) := by decide +kernel
theorem dX6_nights_35 : decode cX6_nights 35 = .ok (.iadd, 1) := by decide +kernel
theorem dX6_nights_36 : decode cX6_nights 36 = .ok (.sipush 999, 3) := by decide +kernel
theorem dX6_nights_39 : decode cX6_nights 39 = .ok (.if_icmp .le 6, 3) := by decide +kernel
theorem dX6_nights_42 : decode cX6_nights 42 = .ok (.ldc 114, 2) := by decide +kernel
theorem dX6_nights_44 : decode cX6_nights 44 = .ok (.ireturn, 1) := by decide +kernel
theorem dX6_nights_45 : decode cX6_nights 45 = .ok (.iconst 0, 1) := by decide +kernel
theorem dX6_nights_46 : decode cX6_nights 46 = .ok (.istore_n 2, 1) := by decide +kernel
theorem dX6_nights_47 : decode cX6_nights 47 = .ok (.iload_n 2, 1) := by decide +kernel
theorem dX6_nights_48 : decode cX6_nights 48 = .ok (.iload_n 1, 1) := by decide +kernel
theorem dX6_nights_49 : decode cX6_nights 49 = .ok (.if_icmp .ge 53, 3) := by decide +kernel
theorem dX6_nights_52 : decode cX6_nights 52 = .ok (.aload_n 0, 1) := by decide +kernel
theorem dX6_nights_53 : decode cX6_nights 53 = .ok (.getfield 40, 3) := by decide +kernel
theorem dX6_nights_56 : decode cX6_nights 56 = .ok (.iconst 0, 1) := by decide +kernel
theorem dX6_nights_57 : decode cX6_nights 57 = .ok (.iconst 0, 1) := by decide +kernel
theorem dX6_nights_58 : decode cX6_nights 58 = .ok (.aload_n 0, 1) := by decide +kernel
theorem dX6_nights_59 : decode cX6_nights 59 = .ok (.getfield 30, 3) := by decide +kernel
theorem dX6_nights_62 : decode cX6_nights 62 = .ok (.getfield 152, 3) := by decide +kernel
theorem dX6_nights_65 : decode cX6_nights 65 = .ok (.invokevirtual 155, 3) := by decide +kernel
theorem dX6_nights_68 : decode cX6_nights 68 = .ok (.aload_n 0, 1) := by decide +kernel
theorem dX6_nights_69 : decode cX6_nights 69 = .ok (.getfield 30, 3) := by decide +kernel
theorem dX6_nights_72 : decode cX6_nights 72 = .ok (.dup, 1) := by decide +kernel
theorem dX6_nights_73 : decode cX6_nights 73 = .ok (.getfield 149, 3) := by decide +kernel
theorem dX6_nights_76 : decode cX6_nights 76 = .ok (.iconst 1, 1) := by decide +kernel
theorem dX6_nights_77 : decode cX6_nights 77 = .ok (.iadd, 1) := by decide +kernel
theorem dX6_nights_78 : decode cX6_nights 78 = .ok (.putfield 149, 3) := by decide +kernel
theorem dX6_nights_81 : decode cX6_nights 81 = .ok (.aload_n 0, 1) := by decide +kernel
theorem dX6_nights_82 : decode cX6_nights 82 = .ok (.getfield 30, 3) := by decide +kernel
theorem dX6_nights_85 : decode cX6_nights 85 = .ok (.aload_n 0, 1) := by decide +kernel
theorem dX6_nights_86 : decode cX6_nights 86 = .ok (.getfield 30, 3) := by decide +kernel
theorem dX6_nights_89 : decode cX6_nights 89 = .ok (.iconst 1, 1) := by decide +kernel
theorem dX6_nights_90 : decode cX6_nights 90 = .ok (.invokevirtual 159, 3) := by decide +kernel
theorem dX6_nights_93 : decode cX6_nights 93 = .ok (.putfield 152, 3) := by decide +kernel
theorem dX6_nights_96 : decode cX6_nights 96 = .ok (.iinc 2 1, 3) := by decide +kernel
theorem dX6_nights_99 : decode cX6_nights 99 = .ok (.goto (-52), 3) := by decide +kernel
theorem dX6_nights_102 : decode cX6_nights 102 = .ok (.aload_n 0, 1) := by decide +kernel
theorem dX6_nights_103 : decode cX6_nights 103 = .ok (.getfield 30, 3) := by decide +kernel
theorem dX6_nights_106 : decode cX6_nights 106 = .ok (.getfield 152, 3) := by decide +kernel
theorem dX6_nights_109 : decode cX6_nights 109 = .ok (.ireturn, 1) := by decide +kernel
theorem dX6_thunder_0 : decode cX6_thunder 0 = .ok (.aload_n 0, 1) := by decide +kernel
theorem dX6_thunder_1 : decode cX6_thunder 1 = .ok (.getfield 30, 3) := by decide +kernel
theorem dX6_thunder_4 : decode cX6_thunder 4 = .ok (.invokevirtual 146, 3) := by decide +kernel
theorem dX6_thunder_7 : decode cX6_thunder 7 = .ok (.ifCond .ne 6, 3) := by decide +kernel
theorem dX6_thunder_10 : decode cX6_thunder 10 = .ok (.ldc 142, 2) := by decide +kernel
theorem dX6_thunder_12 : decode cX6_thunder 12 = .ok (.ireturn, 1) := by decide +kernel
theorem dX6_thunder_13 : decode cX6_thunder 13 = .ok (.iload_n 1, 1) := by decide +kernel
theorem dX6_thunder_14 : decode cX6_thunder 14 = .ok (.iconst 1, 1) := by decide +kernel
theorem dX6_thunder_15 : decode cX6_thunder 15 = .ok (.if_icmp .lt 9, 3) := by decide +kernel
theorem dX6_thunder_18 : decode cX6_thunder 18 = .ok (.iload_n 1, 1) := by decide +kernel
theorem dX6_thunder_19 : decode cX6_thunder 19 = .ok (.bipush 11, 2) := by decide +kernel
theorem dX6_thunder_21 : decode cX6_thunder 21 = .ok (.if_icmp .le 6, 3) := by decide +kernel
theorem dX6_thunder_24 : decode cX6_thunder 24 = .ok (.ldc 67, 2) := by decide +kernel
theorem dX6_thunder_26 : decode cX6_thunder 26 = .ok (.ireturn, 1) := by decide +kernel
theorem dX6_thunder_27 : decode cX6_thunder 27 = .ok (.aload_n 0, 1) := by decide +kernel
theorem dX6_thunder_28 : decode cX6_thunder 28 = .ok (.getfield 40, 3) := by decide +kernel
theorem dX6_thunder_31 : decode cX6_thunder 31 = .ok (.iconst 1, 1) := by decide +kernel
theorem dX6_thunder_32 : decode cX6_thunder 32 = .ok (.iconst 0, 1) := by decide +kernel
theorem dX6_thunder_33 : decode cX6_thunder 33 = .ok (.aload_n 0, 1) := by decide +kernel
theorem dX6_thunder_34 : decode cX6_thunder 34 = .ok (.getfield 30, 3) := by decide +kernel
theorem dX6_thunder_37 : decode cX6_thunder 37 = .ok (.getfield 152, 3) := by decide +kernel
theorem dX6_thunder_40 : decode cX6_thunder 40 = .ok (.invokevirtual 155, 3) := by decide +kernel
theorem dX6_thunder_43 : decode cX6_thunder 43 = .ok (.aload_n 0, 1) := by decide +kernel
theorem dX6_thunder_44 : decode cX6_thunder 44 = .ok (.getfield 30, 3) := by decide +kernel
theorem dX6_thunder_47 : decode cX6_thunder 47 = .ok (.aload_n 0, 1) := by decide +kernel
theorem dX6_thunder_48 : decode cX6_thunder 48 = .ok (.getfield 30, 3) := by decide +kernel
theorem dX6_thunder_51 : decode cX6_thunder 51 = .ok (.aload_n 0, 1) := by decide +kernel
theorem dX6_thunder_52 : decode cX6_thunder 52 = .ok (.getfield 30, 3) := by decide +kernel
theorem dX6_thunder_55 : decode cX6_thunder 55 = .ok (.getfield 152, 3) := by decide +kernel
theorem dX6_thunder_58 : decode cX6_thunder 58 = .ok (.iload_n 1, 1) := by decide +kernel
theorem dX6_thunder_59 : decode cX6_thunder 59 = .ok (.iadd, 1) := by decide +kernel
theorem dX6_thunder_60 : decode cX6_thunder 60 = .ok (.invokevirtual 162, 3) := by decide +kernel
theorem dX6_thunder_63 : decode cX6_thunder 63 = .ok (.putfield 152, 3) := by decide +kernel
theorem dX6_thunder_66 : decode cX6_thunder 66 = .ok (.aload_n 0, 1) := by decide +kernel
theorem dX6_thunder_67 : decode cX6_thunder 67 = .ok (.getfield 30, 3) := by decide +kernel
theorem dX6_thunder_70 : decode cX6_thunder 70 = .ok (.getfield 152, 3) := by decide +kernel
theorem dX6_thunder_73 : decode cX6_thunder 73 = .ok (.ireturn, 1) := by decide +kernel
theorem dX6_tune_0 : decode cX6_tune 0 = .ok (.aload_n 0, 1) := by decide +kernel
theorem dX6_tune_1 : decode cX6_tune 1 = .ok (.getfield 30, 3) := by decide +kernel
theorem dX6_tune_4 : decode cX6_tune 4 = .ok (.invokevirtual 146, 3) := by decide +kernel
theorem dX6_tune_7 : decode cX6_tune 7 = .ok (.ifCond .ne 6, 3) := by decide +kernel
theorem dX6_tune_10 : decode cX6_tune 10 = .ok (.ldc 142, 2) := by decide +kernel
theorem dX6_tune_12 : decode cX6_tune 12 = .ok (.ireturn, 1) := by decide +kernel
theorem dX6_tune_13 : decode cX6_tune 13 = .ok (.aload_n 0, 1) := by decide +kernel
theorem dX6_tune_14 : decode cX6_tune 14 = .ok (.getfield 30, 3) := by decide +kernel
theorem dX6_tune_17 : decode cX6_tune 17 = .ok (.getfield 152, 3) := by decide +kernel
theorem dX6_tune_20 : decode cX6_tune 20 = .ok (.istore_n 1, 1) := by decide +kernel
theorem dX6_tune_21 : decode cX6_tune 21 = .ok (.aload_n 0, 1) := by decide +kernel
theorem dX6_tune_22 : decode cX6_tune 22 = .ok (.getfield 40, 3) := by decide +kernel
theorem dX6_tune_25 : decode cX6_tune 25 = .ok (.iconst 1, 1) := by decide +kernel
theorem dX6_tune_26 : decode cX6_tune 26 = .ok (.iconst 0, 1) := by decide +kernel
theorem dX6_tune_27 : decode cX6_tune 27 = .ok (.iload_n 1, 1) := by decide +kernel
theorem dX6_tune_28 : decode cX6_tune 28 = .ok (.invokevirtual 155, 3) := by decide +kernel
theorem dX6_tune_31 : decode cX6_tune 31 = .ok (.aload_n 0, 1) := by decide +kernel
theorem dX6_tune_32 : decode cX6_tune 32 = .ok (.getfield 30, 3) := by decide +kernel
theorem dX6_tune_35 : decode cX6_tune 35 = .ok (.iconst 0, 1) := by decide +kernel
theorem dX6_tune_36 : decode cX6_tune 36 = .ok (.putfield 152, 3) := by decide +kernel
theorem dX6_tune_39 : decode cX6_tune 39 = .ok (.iload_n 1, 1) := by decide +kernel
theorem dX6_tune_40 : decode cX6_tune 40 = .ok (.ireturn, 1) := by decide +kernel
theorem dX6_learn_0 : decode cX6_learn 0 = .ok (.aload_n 0, 1) := by decide +kernel
theorem dX6_learn_1 : decode cX6_learn 1 = .ok (.getfield 30, 3) := by decide +kernel
theorem dX6_learn_4 : decode cX6_learn 4 = .ok (.iload_n 1, 1) := by decide +kernel
theorem dX6_learn_5 : decode cX6_learn 5 = .ok (.invokevirtual 165, 3) := by decide +kernel
theorem dX6_learn_8 : decode cX6_learn 8 = .ok (.ifCond .ne 6, 3) := by decide +kernel
theorem dX6_learn_11 : decode cX6_learn 11 = .ok (.ldc 67, 2) := by decide +kernel
theorem dX6_learn_13 : decode cX6_learn 13 = .ok (.ireturn, 1) := by decide +kernel
theorem dX6_learn_14 : decode cX6_learn 14 = .ok (.aload_n 0, 1) := by decide +kernel
theorem dX6_learn_15 : decode cX6_learn 15 = .ok (.getfield 30, 3) := by decide +kernel
theorem dX6_learn_18 : decode cX6_learn 18 = .ok (.getfield 168, 3) := by decide +kernel
theorem dX6_learn_21 : decode cX6_learn 21 = .ok (.iload_n 1, 1) := by decide +kernel
theorem dX6_learn_22 : decode cX6_learn 22 = .ok (.iaload, 1) := by decide +kernel
theorem dX6_learn_23 : decode cX6_learn 23 = .ok (.istore_n 2, 1) := by decide +kernel
theorem dX6_learn_24 : decode cX6_learn 24 = .ok (.aload_n 0, 1) := by decide +kernel
theorem dX6_learn_25 : decode cX6_learn 25 = .ok (.getfield 40, 3) := by decide +kernel
theorem dX6_learn_28 : decode cX6_learn 28 = .ok (.iconst 2, 1) := by decide +kernel
theorem dX6_learn_29 : decode cX6_learn 29 = .ok (.iload_n 1, 1) := by decide +kernel
theorem dX6_learn_30 : decode cX6_learn 30 = .ok (.iload_n 2, 1) := by decide +kernel
theorem dX6_learn_31 : decode cX6_learn 31 = .ok (.invokevirtual 155, 3) := by decide +kernel
theorem dX6_learn_34 : decode cX6_learn 34 = .ok (.aload_n 0, 1) := by decide +kernel
theorem dX6_learn_35 : decode cX6_learn 35 = .ok (.getfield 30, 3) := by decide +kernel
theorem dX6_learn_38 : decode cX6_learn 38 = .ok (.getfield 168, 3) := by decide +kernel
theorem dX6_learn_41 : decode cX6_learn 41 = .ok (.iload_n 1, 1) := by decide +kernel
theorem dX6_learn_42 : decode cX6_learn 42 = .ok (.aload_n 0, 1) := by decide +kernel
theorem dX6_learn_43 : decode cX6_learn 43 = .ok (.getfield 30, 3) := by decide +kernel
theorem dX6_learn_46 : decode cX6_learn 46 = .ok (.getfield 152, 3) := by decide +kernel
theorem dX6_learn_49 : decode cX6_learn 49 = .ok (.iastore, 1) := by decide +kernel
theorem dX6_learn_50 : decode cX6_learn 50 = .ok (.iload_n 2, 1) := by decide +kernel
theorem dX6_learn_51 : decode cX6_learn 51 = .ok (.ireturn, 1) := by decide +kernel
theorem dX6_piece_0 : decode cX6_piece 0 = .ok (.aload_n 0, 1) := by decide +kernel
theorem dX6_piece_1 : decode cX6_piece 1 = .ok (.getfield 30, 3) := by decide +kernel
theorem dX6_piece_4 : decode cX6_piece 4 = .ok (.iload_n 1, 1) := by decide +kernel
theorem dX6_piece_5 : decode cX6_piece 5 = .ok (.invokevirtual 171, 3) := by decide +kernel
theorem dX6_piece_8 : decode cX6_piece 8 = .ok (.ifCond .eq 8, 3) := by decide +kernel
theorem dX6_piece_11 : decode cX6_piece 11 = .ok (.iload_n 2, 1) := by decide +kernel
theorem dX6_piece_12 : decode cX6_piece 12 = .ok (.iconst (-1), 1) := by decide +kernel
theorem dX6_piece_13 : decode cX6_piece 13 = .ok (.if_icmp .ge 6, 3) := by decide +kernel
theorem dX6_piece_16 : decode cX6_piece 16 = .ok (.ldc 67, 2) := by decide +kernel
theorem dX6_piece_18 : decode cX6_piece 18 = .ok (.ireturn, 1) := by decide +kernel
theorem dX6_piece_19 : decode cX6_piece 19 = .ok (.iload_n 2, 1) := by decide +kernel
theorem dX6_piece_20 : decode cX6_piece 20 = .ok (.iconst (-1), 1) := by decide +kernel
theorem dX6_piece_21 : decode cX6_piece 21 = .ok (.if_icmp .ne 13, 3) := by decide +kernel
theorem dX6_piece_24 : decode cX6_piece 24 = .ok (.aload_n 0, 1) := by decide +kernel
theorem dX6_piece_25 : decode cX6_piece 25 = .ok (.getfield 30, 3) := by decide +kernel
theorem dX6_piece_28 : decode cX6_piece 28 = .ok (.getfield 174, 3) := by decide +kernel
theorem dX6_piece_31 : decode cX6_piece 31 = .ok (.iload_n 1, 1) := by decide +kernel
theorem dX6_piece_32 : decode cX6_piece 32 = .ok (.iaload, 1) := by decide +kernel
theorem dX6_piece_33 : decode cX6_piece 33 = .ok (.ireturn, 1) := by decide +kernel
theorem dX6_piece_34 : decode cX6_piece 34 = .ok (.iload_n 2, 1) := by decide +kernel
theorem dX6_piece_35 : decode cX6_piece 35 = .ok (.aload_n 0, 1) := by decide +kernel
theorem dX6_piece_36 : decode cX6_piece 36 = .ok (.getfield 30, 3) := by decide +kernel
theorem dX6_piece_39 : decode cX6_piece 39 = .ok (.getfield 174, 3) := by decide +kernel
theorem dX6_piece_42 : decode cX6_piece 42 = .ok (.iload_n 1, 1) := by decide +kernel
theorem dX6_piece_43 : decode cX6_piece 43 = .ok (.iaload, 1) := by decide +kernel
theorem dX6_piece_44 : decode cX6_piece 44 = .ok (.if_icmp .ge 15, 3) := by decide +kernel
theorem dX6_piece_47 : decode cX6_piece 47 = .ok (.aload_n 0, 1) := by decide +kernel
theorem dX6_piece_48 : decode cX6_piece 48 = .ok (.getfield 30, 3) := by decide +kernel
theorem dX6_piece_51 : decode cX6_piece 51 = .ok (.iload_n 1, 1) := by decide +kernel
theorem dX6_piece_52 : decode cX6_piece 52 = .ok (.iload_n 2, 1) := by decide +kernel
theorem dX6_piece_53 : decode cX6_piece 53 = .ok (.invokevirtual 177, 3) := by decide +kernel
theorem dX6_piece_56 : decode cX6_piece 56 = .ok (.goto 5, 3) := by decide +kernel
theorem dX6_piece_59 : decode cX6_piece 59 = .ok (.ldc 180, 2) := by decide +kernel
theorem dX6_piece_61 : decode cX6_piece 61 = .ok (.ireturn, 1) := by decide +kernel
theorem dX6_pupil_0 : decode cX6_pupil 0 = .ok (.aload_n 0, 1) := by decide +kernel
theorem dX6_pupil_1 : decode cX6_pupil 1 = .ok (.getfield 30, 3) := by decide +kernel
theorem dX6_pupil_4 : decode cX6_pupil 4 = .ok (.iload_n 1, 1) := by decide +kernel
theorem dX6_pupil_5 : decode cX6_pupil 5 = .ok (.invokevirtual 165, 3) := by decide +kernel
theorem dX6_pupil_8 : decode cX6_pupil 8 = .ok (.ifCond .ne 6, 3) := by decide +kernel
theorem dX6_pupil_11 : decode cX6_pupil 11 = .ok (.ldc 67, 2) := by decide +kernel
theorem dX6_pupil_13 : decode cX6_pupil 13 = .ok (.ireturn, 1) := by decide +kernel
theorem dX6_pupil_14 : decode cX6_pupil 14 = .ok (.iload_n 2, 1) := by decide +kernel
theorem dX6_pupil_15 : decode cX6_pupil 15 = .ok (.tableswitch 82 0 3 #[29, 39, 49, 58], 29) := by decide +kernel
theorem dX6_pupil_44 : decode cX6_pupil 44 = .ok (.aload_n 0, 1) := by decide +kernel
theorem dX6_pupil_45 : decode cX6_pupil 45 = .ok (.getfield 30, 3) := by decide +kernel
theorem dX6_pupil_48 : decode cX6_pupil 48 = .ok (.getfield 168, 3) := by decide +kernel
theorem dX6_pupil_51 : decode cX6_pupil 51 = .ok (.iload_n 1, 1) := by decide +kernel
theorem dX6_pupil_52 : decode cX6_pupil 52 = .ok (.iaload, 1) := by decide +kernel
theorem dX6_pupil_53 : decode cX6_pupil 53 = .ok (.ireturn, 1) := by decide +kernel
theorem dX6_pupil_54 : decode cX6_pupil 54 = .ok (.aload_n 0, 1) := by decide +kernel
theorem dX6_pupil_55 : decode cX6_pupil 55 = .ok (.getfield 30, 3) := by decide +kernel
theorem dX6_pupil_58 : decode cX6_pupil 58 = .ok (.getfield 181, 3) := by decide +kernel
theorem dX6_pupil_61 : decode cX6_pupil 61 = .ok (.iload_n 1, 1) := by decide +kernel
theorem dX6_pupil_62 : decode cX6_pupil 62 = .ok (.iaload, 1) := by decide +kernel
theorem dX6_pupil_63 : decode cX6_pupil 63 = .ok (.ireturn, 1) := by decide +kernel
theorem dX6_pupil_64 : decode cX6_pupil 64 = .ok (.aload_n 0, 1) := by decide +kernel
theorem dX6_pupil_65 : decode cX6_pupil 65 = .ok (.getfield 30, 3) := by decide +kernel
theorem dX6_pupil_68 : decode cX6_pupil 68 = .ok (.iload_n 1, 1) := by decide +kernel
theorem dX6_pupil_69 : decode cX6_pupil 69 = .ok (.invokevirtual 184, 3) := by decide +kernel
theorem dX6_pupil_72 : decode cX6_pupil 72 = .ok (.ireturn, 1) := by decide +kernel
theorem dX6_pupil_73 : decode cX6_pupil 73 = .ok (.aload_n 0, 1) := by decide +kernel
theorem dX6_pupil_74 : decode cX6_pupil 74 = .ok (.getfield 30, 3) := by decide +kernel
theorem dX6_pupil_77 : decode cX6_pupil 77 = .ok (.iload_n 1, 1) := by decide +kernel
theorem dX6_pupil_78 : decode cX6_pupil 78 = .ok (.invokevirtual 184, 3) := by decide +kernel
theorem dX6_pupil_81 : decode cX6_pupil 81 = .ok (.aload_n 0, 1) := by decide +kernel
theorem dX6_pupil_82 : decode cX6_pupil 82 = .ok (.getfield 30, 3) := by decide +kernel
theorem dX6_pupil_85 : decode cX6_pupil 85 = .ok (.getfield 152, 3) := by decide +kernel
end
section
theorem dX6_pupil_88 : decode cX6_pupil 88 = .ok (.if_icmp .ne 7, 3) := by decide +kernel
theorem dX6_pupil_91 : decode cX6_pupil 91 = .ok (.iconst 1, 1) := by decide +kernel
theorem dX6_pupil_92 : decode cX6_pupil 92 = .ok (.goto 4, 3) := by decide +kernel
theorem dX6_pupil_95 : decode cX6_pupil 95 = .ok (.iconst 0, 1) := by decide +kernel
theorem dX6_pupil_96 : decode cX6_pupil 96 = .ok (.ireturn, 1) := by decide +kernel
theorem dX6_pupil_97 : decode cX6_pupil 97 = .ok (.ldc 67, 2) := by decide +kernel
theorem dX6_pupil_99 : decode cX6_pupil 99 = .ok (.ireturn, 1) := by decide +kernel
theorem dX6_plays_0 : decode cX6_plays 0 = .ok (.aload_n 0, 1) := by decide +kernel
theorem dX6_plays_1 : decode cX6_plays 1 = .ok (.getfield 30, 3) := by decide +kernel
theorem dX6_plays_4 : decode cX6_plays 4 = .ok (.iload_n 1, 1) := by decide +kernel
theorem dX6_plays_5 : decode cX6_plays 5 = .ok (.invokevirtual 165, 3) := by decide +kernel
theorem dX6_plays_8 : decode cX6_plays 8 = .ok (.ifCond .eq 14, 3) := by decide +kernel
theorem dX6_plays_11 : decode cX6_plays 11 = .ok (.aload_n 0, 1) := by decide +kernel
theorem dX6_plays_12 : decode cX6_plays 12 = .ok (.getfield 30, 3) := by decide +kernel
theorem dX6_plays_15 : decode cX6_plays 15 = .ok (.iload_n 2, 1) := by decide +kernel
theorem dX6_plays_16 : decode cX6_plays 16 = .ok (.invokevirtual 171, 3) := by decide +kernel
theorem dX6_plays_19 : decode cX6_plays 19 = .ok (.ifCond .ne 6, 3) := by decide +kernel
theorem dX6_plays_22 : decode cX6_plays 22 = .ok (.ldc 67, 2) := by decide +kernel
theorem dX6_plays_24 : decode cX6_plays 24 = .ok (.ireturn, 1) := by decide +kernel
theorem dX6_plays_25 : decode cX6_plays 25 = .ok (.iload_n 3, 1) := by decide +kernel
theorem dX6_plays_26 : decode cX6_plays 26 = .ok (.tableswitch 78 0 2 #[26, 44, 61], 26) := by decide +kernel
theorem dX6_plays_52 : decode cX6_plays 52 = .ok (.aload_n 0, 1) := by decide +kernel
theorem dX6_plays_53 : decode cX6_plays 53 = .ok (.getfield 30, 3) := by decide +kernel
theorem dX6_plays_56 : decode cX6_plays 56 = .ok (.iload_n 1, 1) := by decide +kernel
theorem dX6_plays_57 : decode cX6_plays 57 = .ok (.iload_n 2, 1) := by decide +kernel
theorem dX6_plays_58 : decode cX6_plays 58 = .ok (.invokevirtual 187, 3) := by decide +kernel
theorem dX6_plays_61 : decode cX6_plays 61 = .ok (.ifCond .eq 7, 3) := by decide +kernel
theorem dX6_plays_64 : decode cX6_plays 64 = .ok (.iconst 1, 1) := by decide +kernel
theorem dX6_plays_65 : decode cX6_plays 65 = .ok (.goto 4, 3) := by decide +kernel
theorem dX6_plays_68 : decode cX6_plays 68 = .ok (.iconst 0, 1) := by decide +kernel
theorem dX6_plays_69 : decode cX6_plays 69 = .ok (.ireturn, 1) := by decide +kernel
theorem dX6_plays_70 : decode cX6_plays 70 = .ok (.aload_n 0, 1) := by decide +kernel
theorem dX6_plays_71 : decode cX6_plays 71 = .ok (.getfield 30, 3) := by decide +kernel
theorem dX6_plays_74 : decode cX6_plays 74 = .ok (.aload_n 0, 1) := by decide +kernel
theorem dX6_plays_75 : decode cX6_plays 75 = .ok (.getfield 30, 3) := by decide +kernel
theorem dX6_plays_78 : decode cX6_plays 78 = .ok (.iload_n 1, 1) := by decide +kernel
theorem dX6_plays_79 : decode cX6_plays 79 = .ok (.invokevirtual 184, 3) := by decide +kernel
theorem dX6_plays_82 : decode cX6_plays 82 = .ok (.iload_n 2, 1) := by decide +kernel
theorem dX6_plays_83 : decode cX6_plays 83 = .ok (.invokevirtual 190, 3) := by decide +kernel
theorem dX6_plays_86 : decode cX6_plays 86 = .ok (.ireturn, 1) := by decide +kernel
theorem dX6_plays_87 : decode cX6_plays 87 = .ok (.aload_n 0, 1) := by decide +kernel
theorem dX6_plays_88 : decode cX6_plays 88 = .ok (.getfield 30, 3) := by decide +kernel
theorem dX6_plays_91 : decode cX6_plays 91 = .ok (.aload_n 0, 1) := by decide +kernel
theorem dX6_plays_92 : decode cX6_plays 92 = .ok (.getfield 30, 3) := by decide +kernel
theorem dX6_plays_95 : decode cX6_plays 95 = .ok (.iload_n 1, 1) := by decide +kernel
theorem dX6_plays_96 : decode cX6_plays 96 = .ok (.invokevirtual 184, 3) := by decide +kernel
theorem dX6_plays_99 : decode cX6_plays 99 = .ok (.iload_n 2, 1) := by decide +kernel
theorem dX6_plays_100 : decode cX6_plays 100 = .ok (.invokevirtual 193, 3) := by decide +kernel
theorem dX6_plays_103 : decode cX6_plays 103 = .ok (.ireturn, 1) := by decide +kernel
theorem dX6_plays_104 : decode cX6_plays 104 = .ok (.ldc 67, 2) := by decide +kernel
theorem dX6_plays_106 : decode cX6_plays 106 = .ok (.ireturn, 1) := by decide +kernel
theorem dX6_heard_0 : decode cX6_heard 0 = .ok (.aload_n 0, 1) := by decide +kernel
theorem dX6_heard_1 : decode cX6_heard 1 = .ok (.getfield 30, 3) := by decide +kernel
theorem dX6_heard_4 : decode cX6_heard 4 = .ok (.iload_n 1, 1) := by decide +kernel
theorem dX6_heard_5 : decode cX6_heard 5 = .ok (.invokevirtual 165, 3) := by decide +kernel
theorem dX6_heard_8 : decode cX6_heard 8 = .ok (.ifCond .eq 14, 3) := by decide +kernel
theorem dX6_heard_11 : decode cX6_heard 11 = .ok (.aload_n 0, 1) := by decide +kernel
theorem dX6_heard_12 : decode cX6_heard 12 = .ok (.getfield 30, 3) := by decide +kernel
theorem dX6_heard_15 : decode cX6_heard 15 = .ok (.iload_n 2, 1) := by decide +kernel
theorem dX6_heard_16 : decode cX6_heard 16 = .ok (.invokevirtual 171, 3) := by decide +kernel
theorem dX6_heard_19 : decode cX6_heard 19 = .ok (.ifCond .ne 6, 3) := by decide +kernel
theorem dX6_heard_22 : decode cX6_heard 22 = .ok (.ldc 67, 2) := by decide +kernel
theorem dX6_heard_24 : decode cX6_heard 24 = .ok (.ireturn, 1) := by decide +kernel
theorem dX6_heard_25 : decode cX6_heard 25 = .ok (.iload_n 3, 1) := by decide +kernel
theorem dX6_heard_26 : decode cX6_heard 26 = .ok (.ifCond .lt 16, 3) := by decide +kernel
theorem dX6_heard_29 : decode cX6_heard 29 = .ok (.iload_n 3, 1) := by decide +kernel
theorem dX6_heard_30 : decode cX6_heard 30 = .ok (.aload_n 0, 1) := by decide +kernel
theorem dX6_heard_31 : decode cX6_heard 31 = .ok (.getfield 30, 3) := by decide +kernel
theorem dX6_heard_34 : decode cX6_heard 34 = .ok (.getfield 174, 3) := by decide +kernel
theorem dX6_heard_37 : decode cX6_heard 37 = .ok (.iload_n 2, 1) := by decide +kernel
theorem dX6_heard_38 : decode cX6_heard 38 = .ok (.iaload, 1) := by decide +kernel
theorem dX6_heard_39 : decode cX6_heard 39 = .ok (.if_icmp .lt 6, 3) := by decide +kernel
theorem dX6_heard_42 : decode cX6_heard 42 = .ok (.ldc 67, 2) := by decide +kernel
theorem dX6_heard_44 : decode cX6_heard 44 = .ok (.ireturn, 1) := by decide +kernel
theorem dX6_heard_45 : decode cX6_heard 45 = .ok (.aload_n 0, 1) := by decide +kernel
theorem dX6_heard_46 : decode cX6_heard 46 = .ok (.getfield 30, 3) := by decide +kernel
theorem dX6_heard_49 : decode cX6_heard 49 = .ok (.aload_n 0, 1) := by decide +kernel
theorem dX6_heard_50 : decode cX6_heard 50 = .ok (.getfield 30, 3) := by decide +kernel
theorem dX6_heard_53 : decode cX6_heard 53 = .ok (.iload_n 2, 1) := by decide +kernel
theorem dX6_heard_54 : decode cX6_heard 54 = .ok (.iload_n 3, 1) := by decide +kernel
theorem dX6_heard_55 : decode cX6_heard 55 = .ok (.invokevirtual 177, 3) := by decide +kernel
theorem dX6_heard_58 : decode cX6_heard 58 = .ok (.aload_n 0, 1) := by decide +kernel
theorem dX6_heard_59 : decode cX6_heard 59 = .ok (.getfield 30, 3) := by decide +kernel
theorem dX6_heard_62 : decode cX6_heard 62 = .ok (.iload_n 1, 1) := by decide +kernel
theorem dX6_heard_63 : decode cX6_heard 63 = .ok (.invokevirtual 184, 3) := by decide +kernel
theorem dX6_heard_66 : decode cX6_heard 66 = .ok (.invokevirtual 196, 3) := by decide +kernel
theorem dX6_heard_69 : decode cX6_heard 69 = .ok (.ireturn, 1) := by decide +kernel
theorem dX6_strike_0 : decode cX6_strike 0 = .ok (.aload_n 0, 1) := by decide +kernel
theorem dX6_strike_1 : decode cX6_strike 1 = .ok (.getfield 30, 3) := by decide +kernel
theorem dX6_strike_4 : decode cX6_strike 4 = .ok (.invokevirtual 146, 3) := by decide +kernel
theorem dX6_strike_7 : decode cX6_strike 7 = .ok (.ifCond .ne 6, 3) := by decide +kernel
theorem dX6_strike_10 : decode cX6_strike 10 = .ok (.ldc 142, 2) := by decide +kernel
theorem dX6_strike_12 : decode cX6_strike 12 = .ok (.ireturn, 1) := by decide +kernel
theorem dX6_strike_13 : decode cX6_strike 13 = .ok (.iload_n 1, 1) := by decide +kernel
theorem dX6_strike_14 : decode cX6_strike 14 = .ok (.ifCond .lt 14, 3) := by decide +kernel
theorem dX6_strike_17 : decode cX6_strike 17 = .ok (.iload_n 1, 1) := by decide +kernel
theorem dX6_strike_18 : decode cX6_strike 18 = .ok (.aload_n 0, 1) := by decide +kernel
theorem dX6_strike_19 : decode cX6_strike 19 = .ok (.getfield 30, 3) := by decide +kernel
theorem dX6_strike_22 : decode cX6_strike 22 = .ok (.getfield 199, 3) := by decide +kernel
theorem dX6_strike_25 : decode cX6_strike 25 = .ok (.if_icmp .lt 6, 3) := by decide +kernel
theorem dX6_strike_28 : decode cX6_strike 28 = .ok (.ldc 67, 2) := by decide +kernel
theorem dX6_strike_30 : decode cX6_strike 30 = .ok (.ireturn, 1) := by decide +kernel
theorem dX6_strike_31 : decode cX6_strike 31 = .ok (.aload_n 0, 1) := by decide +kernel
theorem dX6_strike_32 : decode cX6_strike 32 = .ok (.getfield 30, 3) := by decide +kernel
theorem dX6_strike_35 : decode cX6_strike 35 = .ok (.iload_n 1, 1) := by decide +kernel
theorem dX6_strike_36 : decode cX6_strike 36 = .ok (.aload_n 0, 1) := by decide +kernel
theorem dX6_strike_37 : decode cX6_strike 37 = .ok (.getfield 30, 3) := by decide +kernel
theorem dX6_strike_40 : decode cX6_strike 40 = .ok (.getfield 152, 3) := by decide +kernel
theorem dX6_strike_43 : decode cX6_strike 43 = .ok (.iadd, 1) := by decide +kernel
theorem dX6_strike_44 : decode cX6_strike 44 = .ok (.invokevirtual 162, 3) := by decide +kernel
theorem dX6_strike_47 : decode cX6_strike 47 = .ok (.ireturn, 1) := by decide +kernel
theorem dX6_soon_0 : decode cX6_soon 0 = .ok (.aload_n 0, 1) := by decide +kernel
theorem dX6_soon_1 : decode cX6_soon 1 = .ok (.getfield 30, 3) := by decide +kernel
theorem dX6_soon_4 : decode cX6_soon 4 = .ok (.iload_n 1, 1) := by decide +kernel
theorem dX6_soon_5 : decode cX6_soon 5 = .ok (.invokevirtual 165, 3) := by decide +kernel
theorem dX6_soon_8 : decode cX6_soon 8 = .ok (.ifCond .ne 6, 3) := by decide +kernel
theorem dX6_soon_11 : decode cX6_soon 11 = .ok (.ldc 67, 2) := by decide +kernel
theorem dX6_soon_13 : decode cX6_soon 13 = .ok (.ireturn, 1) := by decide +kernel
theorem dX6_soon_14 : decode cX6_soon 14 = .ok (.aload_n 0, 1) := by decide +kernel
theorem dX6_soon_15 : decode cX6_soon 15 = .ok (.getfield 49, 3) := by decide +kernel
theorem dX6_soon_18 : decode cX6_soon 18 = .ok (.aload_n 0, 1) := by decide +kernel
theorem dX6_soon_19 : decode cX6_soon 19 = .ok (.getfield 30, 3) := by decide +kernel
theorem dX6_soon_22 : decode cX6_soon 22 = .ok (.iload_n 1, 1) := by decide +kernel
theorem dX6_soon_23 : decode cX6_soon 23 = .ok (.invokevirtual 184, 3) := by decide +kernel
theorem dX6_soon_26 : decode cX6_soon 26 = .ok (.invokevirtual 202, 3) := by decide +kernel
theorem dX6_soon_29 : decode cX6_soon 29 = .ok (.ireturn, 1) := by decide +kernel
theorem dX6_together_0 : decode cX6_together 0 = .ok (.aload_n 0, 1) := by decide +kernel
theorem dX6_together_1 : decode cX6_together 1 = .ok (.getfield 30, 3) := by decide +kernel
theorem dX6_together_4 : decode cX6_together 4 = .ok (.iload_n 1, 1) := by decide +kernel
theorem dX6_together_5 : decode cX6_together 5 = .ok (.invokevirtual 165, 3) := by decide +kernel
theorem dX6_together_8 : decode cX6_together 8 = .ok (.ifCond .eq 19, 3) := by decide +kernel
theorem dX6_together_11 : decode cX6_together 11 = .ok (.aload_n 0, 1) := by decide +kernel
theorem dX6_together_12 : decode cX6_together 12 = .ok (.getfield 30, 3) := by decide +kernel
theorem dX6_together_15 : decode cX6_together 15 = .ok (.iload_n 2, 1) := by decide +kernel
theorem dX6_together_16 : decode cX6_together 16 = .ok (.invokevirtual 165, 3) := by decide +kernel
theorem dX6_together_19 : decode cX6_together 19 = .ok (.ifCond .eq 8, 3) := by decide +kernel
theorem dX6_together_22 : decode cX6_together 22 = .ok (.iload_n 1, 1) := by decide +kernel
theorem dX6_together_23 : decode cX6_together 23 = .ok (.iload_n 2, 1) := by decide +kernel
theorem dX6_together_24 : decode cX6_together 24 = .ok (.if_icmp .ne 6, 3) := by decide +kernel
theorem dX6_together_27 : decode cX6_together 27 = .ok (.ldc 67, 2) := by decide +kernel
theorem dX6_together_29 : decode cX6_together 29 = .ok (.ireturn, 1) := by decide +kernel
theorem dX6_together_30 : decode cX6_together 30 = .ok (.aload_n 0, 1) := by decide +kernel
theorem dX6_together_31 : decode cX6_together 31 = .ok (.getfield 30, 3) := by decide +kernel
theorem dX6_together_34 : decode cX6_together 34 = .ok (.iload_n 1, 1) := by decide +kernel
theorem dX6_together_35 : decode cX6_together 35 = .ok (.invokevirtual 184, 3) := by decide +kernel
theorem dX6_together_38 : decode cX6_together 38 = .ok (.aload_n 0, 1) := by decide +kernel
theorem dX6_together_39 : decode cX6_together 39 = .ok (.getfield 30, 3) := by decide +kernel
theorem dX6_together_42 : decode cX6_together 42 = .ok (.iload_n 2, 1) := by decide +kernel
theorem dX6_together_43 : decode cX6_together 43 = .ok (.invokevirtual 184, 3) := by decide +kernel
theorem dX6_together_46 : decode cX6_together 46 = .ok (.if_icmp .eq 6, 3) := by decide +kernel
theorem dX6_together_49 : decode cX6_together 49 = .ok (.ldc 180, 2) := by decide +kernel
theorem dX6_together_51 : decode cX6_together 51 = .ok (.ireturn, 1) := by decide +kernel
theorem dX6_together_52 : decode cX6_together 52 = .ok (.aload_n 0, 1) := by decide +kernel
theorem dX6_together_53 : decode cX6_together 53 = .ok (.getfield 49, 3) := by decide +kernel
theorem dX6_together_56 : decode cX6_together 56 = .ok (.aload_n 0, 1) := by decide +kernel
theorem dX6_together_57 : decode cX6_together 57 = .ok (.getfield 30, 3) := by decide +kernel
theorem dX6_together_60 : decode cX6_together 60 = .ok (.iload_n 1, 1) := by decide +kernel
theorem dX6_together_61 : decode cX6_together 61 = .ok (.invokevirtual 184, 3) := by decide +kernel
theorem dX6_together_64 : decode cX6_together 64 = .ok (.invokevirtual 202, 3) := by decide +kernel
theorem dX6_together_67 : decode cX6_together 67 = .ok (.ireturn, 1) := by decide +kernel
theorem dX6_itself_0 : decode cX6_itself 0 = .ok (.aload_n 0, 1) := by decide +kernel
theorem dX6_itself_1 : decode cX6_itself 1 = .ok (.getfield 30, 3) := by decide +kernel
theorem dX6_itself_4 : decode cX6_itself 4 = .ok (.invokevirtual 146, 3) := by decide +kernel
theorem dX6_itself_7 : decode cX6_itself 7 = .ok (.ifCond .eq 14, 3) := by decide +kernel
theorem dX6_itself_10 : decode cX6_itself 10 = .ok (.aload_n 0, 1) := by decide +kernel
theorem dX6_itself_11 : decode cX6_itself 11 = .ok (.getfield 49, 3) := by decide +kernel
theorem dX6_itself_14 : decode cX6_itself 14 = .ok (.iconst 0, 1) := by decide +kernel
theorem dX6_itself_15 : decode cX6_itself 15 = .ok (.invokevirtual 202, 3) := by decide +kernel
theorem dX6_itself_18 : decode cX6_itself 18 = .ok (.goto 5, 3) := by decide +kernel
theorem dX6_itself_21 : decode cX6_itself 21 = .ok (.ldc 142, 2) := by decide +kernel
theorem dX6_itself_23 : decode cX6_itself 23 = .ok (.ireturn, 1) := by decide +kernel
theorem dX6_nightsOf_0 : decode cX6_nightsOf 0 = .ok (.aload_n 0, 1) := by decide +kernel
theorem dX6_nightsOf_1 : decode cX6_nightsOf 1 = .ok (.getfield 30, 3) := by decide +kernel
theorem dX6_nightsOf_4 : decode cX6_nightsOf 4 = .ok (.iload_n 1, 1) := by decide +kernel
theorem dX6_nightsOf_5 : decode cX6_nightsOf 5 = .ok (.invokevirtual 165, 3) := by decide +kernel
theorem dX6_nightsOf_8 : decode cX6_nightsOf 8 = .ok (.ifCond .eq 14, 3) := by decide +kernel
theorem dX6_nightsOf_11 : decode cX6_nightsOf 11 = .ok (.iload_n 2, 1) := by decide +kernel
theorem dX6_nightsOf_12 : decode cX6_nightsOf 12 = .ok (.iconst 1, 1) := by decide +kernel
theorem dX6_nightsOf_13 : decode cX6_nightsOf 13 = .ok (.if_icmp .lt 9, 3) := by decide +kernel
theorem dX6_nightsOf_16 : decode cX6_nightsOf 16 = .ok (.iload_n 2, 1) := by decide +kernel
theorem dX6_nightsOf_17 : decode cX6_nightsOf 17 = .ok (.bipush 24, 2) := by decide +kernel
theorem dX6_nightsOf_19 : decode cX6_nightsOf 19 = .ok (.if_icmp .le 6, 3) := by decide +kernel
theorem dX6_nightsOf_22 : decode cX6_nightsOf 22 = .ok (.ldc 67, 2) := by decide +kernel
theorem dX6_nightsOf_24 : decode cX6_nightsOf 24 = .ok (.ireturn, 1) := by decide +kernel
theorem dX6_nightsOf_25 : decode cX6_nightsOf 25 = .ok (.aload_n 0, 1) := by decide +kernel
theorem dX6_nightsOf_26 : decode cX6_nightsOf 26 = .ok (.getfield 49, 3) := by decide +kernel
theorem dX6_nightsOf_29 : decode cX6_nightsOf 29 = .ok (.aload_n 0, 1) := by decide +kernel
theorem dX6_nightsOf_30 : decode cX6_nightsOf 30 = .ok (.getfield 30, 3) := by decide +kernel
theorem dX6_nightsOf_33 : decode cX6_nightsOf 33 = .ok (.iload_n 1, 1) := by decide +kernel
theorem dX6_nightsOf_34 : decode cX6_nightsOf 34 = .ok (.invokevirtual 184, 3) := by decide +kernel
theorem dX6_nightsOf_37 : decode cX6_nightsOf 37 = .ok (.iload_n 2, 1) := by decide +kernel
theorem dX6_nightsOf_38 : decode cX6_nightsOf 38 = .ok (.invokevirtual 205, 3) := by decide +kernel
theorem dX6_nightsOf_41 : decode cX6_nightsOf 41 = .ok (.ireturn, 1) := by decide +kernel
theorem dX6_struck_0 : decode cX6_struck 0 = .ok (.aload_n 0, 1) := by decide +kernel
theorem dX6_struck_1 : decode cX6_struck 1 = .ok (.getfield 30, 3) := by decide +kernel
theorem dX6_struck_4 : decode cX6_struck 4 = .ok (.invokevirtual 146, 3) := by decide +kernel
theorem dX6_struck_7 : decode cX6_struck 7 = .ok (.ifCond .ne 6, 3) := by decide +kernel
theorem dX6_struck_10 : decode cX6_struck 10 = .ok (.ldc 142, 2) := by decide +kernel
theorem dX6_struck_12 : decode cX6_struck 12 = .ok (.ireturn, 1) := by decide +kernel
theorem dX6_struck_13 : decode cX6_struck 13 = .ok (.iload_n 1, 1) := by decide +kernel
theorem dX6_struck_14 : decode cX6_struck 14 = .ok (.invokestatic 60, 3) := by decide +kernel
theorem dX6_struck_17 : decode cX6_struck 17 = .ok (.ifCond .eq 25, 3) := by decide +kernel
theorem dX6_struck_20 : decode cX6_struck 20 = .ok (.iload_n 3, 1) := by decide +kernel
theorem dX6_struck_21 : decode cX6_struck 21 = .ok (.iconst 1, 1) := by decide +kernel
theorem dX6_struck_22 : decode cX6_struck 22 = .ok (.if_icmp .lt 20, 3) := by decide +kernel
theorem dX6_struck_25 : decode cX6_struck 25 = .ok (.iload_n 3, 1) := by decide +kernel
theorem dX6_struck_26 : decode cX6_struck 26 = .ok (.bipush 12, 2) := by decide +kernel
theorem dX6_struck_28 : decode cX6_struck 28 = .ok (.if_icmp .gt 14, 3) := by decide +kernel
theorem dX6_struck_31 : decode cX6_struck 31 = .ok (.iload 4, 2) := by decide +kernel
theorem dX6_struck_33 : decode cX6_struck 33 = .ok (.ifCond .lt 9, 3) := by decide +kernel
theorem dX6_struck_36 : decode cX6_struck 36 = .ok (.iload 4, 2) := by decide +kernel
theorem dX6_struck_38 : decode cX6_struck 38 = .ok (.iconst 1, 1) := by decide +kernel
theorem dX6_struck_39 : decode cX6_struck 39 = .ok (.if_icmp .le 6, 3) := by decide +kernel
theorem dX6_struck_42 : decode cX6_struck 42 = .ok (.ldc 67, 2) := by decide +kernel
theorem dX6_struck_44 : decode cX6_struck 44 = .ok (.ireturn, 1) := by decide +kernel
theorem dX6_struck_45 : decode cX6_struck 45 = .ok (.aload_n 0, 1) := by decide +kernel
theorem dX6_struck_46 : decode cX6_struck 46 = .ok (.getfield 11, 3) := by decide +kernel
theorem dX6_struck_49 : decode cX6_struck 49 = .ok (.iload_n 1, 1) := by decide +kernel
theorem dX6_struck_50 : decode cX6_struck 50 = .ok (.aaload, 1) := by decide +kernel
theorem dX6_struck_51 : decode cX6_struck 51 = .ok (.invokevirtual 79, 3) := by decide +kernel
theorem dX6_struck_54 : decode cX6_struck 54 = .ok (.ifCond .eq 9, 3) := by decide +kernel
theorem dX6_struck_57 : decode cX6_struck 57 = .ok (.aload_n 0, 1) := by decide +kernel
theorem dX6_struck_58 : decode cX6_struck 58 = .ok (.iconst 1, 1) := by decide +kernel
theorem dX6_struck_59 : decode cX6_struck 59 = .ok (.invokevirtual 68, 3) := by decide +kernel
theorem dX6_struck_62 : decode cX6_struck 62 = .ok (.ireturn, 1) := by decide +kernel
theorem dX6_struck_63 : decode cX6_struck 63 = .ok (.aload_n 0, 1) := by decide +kernel
theorem dX6_struck_64 : decode cX6_struck 64 = .ok (.getfield 11, 3) := by decide +kernel
theorem dX6_struck_67 : decode cX6_struck 67 = .ok (.iload_n 1, 1) := by decide +kernel
theorem dX6_struck_68 : decode cX6_struck 68 = .ok (.aaload, 1) := by decide +kernel
theorem dX6_struck_69 : decode cX6_struck 69 = .ok (.iload_n 2, 1) := by decide +kernel
theorem dX6_struck_70 : decode cX6_struck 70 = .ok (.iconst 2, 1) := by decide +kernel
theorem dX6_struck_71 : decode cX6_struck 71 = .ok (.iload_n 3, 1) := by decide +kernel
theorem dX6_struck_72 : decode cX6_struck 72 = .ok (.imul, 1) := by decide +kernel
theorem dX6_struck_73 : decode cX6_struck 73 = .ok (.invokevirtual 83, 3) := by decide +kernel
theorem dX6_struck_76 : decode cX6_struck 76 = .ok (.ifCond .ne 9, 3) := by decide +kernel
theorem dX6_struck_79 : decode cX6_struck 79 = .ok (.aload_n 0, 1) := by decide +kernel
theorem dX6_struck_80 : decode cX6_struck 80 = .ok (.iconst 2, 1) := by decide +kernel
theorem dX6_struck_81 : decode cX6_struck 81 = .ok (.invokevirtual 68, 3) := by decide +kernel
theorem dX6_struck_84 : decode cX6_struck 84 = .ok (.ireturn, 1) := by decide +kernel
theorem dX6_struck_85 : decode cX6_struck 85 = .ok (.aload_n 0, 1) := by decide +kernel
theorem dX6_struck_86 : decode cX6_struck 86 = .ok (.aload_n 0, 1) := by decide +kernel
theorem dX6_struck_87 : decode cX6_struck 87 = .ok (.getfield 49, 3) := by decide +kernel
theorem dX6_struck_90 : decode cX6_struck 90 = .ok (.aload_n 0, 1) := by decide +kernel
theorem dX6_struck_91 : decode cX6_struck 91 = .ok (.getfield 11, 3) := by decide +kernel
theorem dX6_struck_94 : decode cX6_struck 94 = .ok (.iload_n 1, 1) := by decide +kernel
theorem dX6_struck_95 : decode cX6_struck 95 = .ok (.aaload, 1) := by decide +kernel
theorem dX6_struck_96 : decode cX6_struck 96 = .ok (.getfield 95, 3) := by decide +kernel
theorem dX6_struck_99 : decode cX6_struck 99 = .ok (.iload_n 2, 1) := by decide +kernel
theorem dX6_struck_100 : decode cX6_struck 100 = .ok (.iload_n 3, 1) := by decide +kernel
theorem dX6_struck_101 : decode cX6_struck 101 = .ok (.iload 4, 2) := by decide +kernel
theorem dX6_struck_103 : decode cX6_struck 103 = .ok (.invokevirtual 208, 3) := by decide +kernel
theorem dX6_struck_106 : decode cX6_struck 106 = .ok (.invokevirtual 76, 3) := by decide +kernel
theorem dX6_struck_109 : decode cX6_struck 109 = .ok (.ireturn, 1) := by decide +kernel
theorem dX6_lessons_0 : decode cX6_lessons 0 = .ok (.aload_n 0, 1) := by decide +kernel
theorem dX6_lessons_1 : decode cX6_lessons 1 = .ok (.getfield 30, 3) := by decide +kernel
theorem dX6_lessons_4 : decode cX6_lessons 4 = .ok (.invokevirtual 146, 3) := by decide +kernel
theorem dX6_lessons_7 : decode cX6_lessons 7 = .ok (.ifCond .ne 6, 3) := by decide +kernel
theorem dX6_lessons_10 : decode cX6_lessons 10 = .ok (.ldc 142, 2) := by decide +kernel
theorem dX6_lessons_12 : decode cX6_lessons 12 = .ok (.ireturn, 1) := by decide +kernel
theorem dX6_lessons_13 : decode cX6_lessons 13 = .ok (.iload_n 1, 1) := by decide +kernel
theorem dX6_lessons_14 : decode cX6_lessons 14 = .ok (.ifCond .lt 18, 3) := by decide +kernel
theorem dX6_lessons_17 : decode cX6_lessons 17 = .ok (.iload_n 1, 1) := by decide +kernel
theorem dX6_lessons_18 : decode cX6_lessons 18 = .ok (.ldc 212, 2) := by decide +kernel
theorem dX6_lessons_20 : decode cX6_lessons 20 = .ok (.if_icmp .gt 12, 3) := by decide +kernel
theorem dX6_lessons_23 : decode cX6_lessons 23 = .ok (.iload_n 2, 1) := by decide +kernel
theorem dX6_lessons_24 : decode cX6_lessons 24 = .ok (.ifCond .lt 8, 3) := by decide +kernel
theorem dX6_lessons_27 : decode cX6_lessons 27 = .ok (.iload_n 2, 1) := by decide +kernel
theorem dX6_lessons_28 : decode cX6_lessons 28 = .ok (.iconst 1, 1) := by decide +kernel
theorem dX6_lessons_29 : decode cX6_lessons 29 = .ok (.if_icmp .le 6, 3) := by decide +kernel
theorem dX6_lessons_32 : decode cX6_lessons 32 = .ok (.ldc 67, 2) := by decide +kernel
theorem dX6_lessons_34 : decode cX6_lessons 34 = .ok (.ireturn, 1) := by decide +kernel
theorem dX6_lessons_35 : decode cX6_lessons 35 = .ok (.aload_n 0, 1) := by decide +kernel
theorem dX6_lessons_36 : decode cX6_lessons 36 = .ok (.getfield 49, 3) := by decide +kernel
theorem dX6_lessons_39 : decode cX6_lessons 39 = .ok (.iload_n 1, 1) := by decide +kernel
theorem dX6_lessons_40 : decode cX6_lessons 40 = .ok (.invokevirtual 213, 3) := by decide +kernel
theorem dX6_lessons_43 : decode cX6_lessons 43 = .ok (.istore_n 3, 1) := by decide +kernel
theorem dX6_lessons_44 : decode cX6_lessons 44 = .ok (.iload_n 3, 1) := by decide +kernel
theorem dX6_lessons_45 : decode cX6_lessons 45 = .ok (.ldc 180, 2) := by decide +kernel
theorem dX6_lessons_47 : decode cX6_lessons 47 = .ok (.if_icmp .ne 6, 3) := by decide +kernel
theorem dX6_lessons_50 : decode cX6_lessons 50 = .ok (.ldc 180, 2) := by decide +kernel
theorem dX6_lessons_52 : decode cX6_lessons 52 = .ok (.ireturn, 1) := by decide +kernel
theorem dX6_lessons_53 : decode cX6_lessons 53 = .ok (.iload_n 2, 1) := by decide +kernel
theorem dX6_lessons_54 : decode cX6_lessons 54 = .ok (.ifCond .ne 10, 3) := by decide +kernel
theorem dX6_lessons_57 : decode cX6_lessons 57 = .ok (.iload_n 3, 1) := by decide +kernel
theorem dX6_lessons_58 : decode cX6_lessons 58 = .ok (.invokestatic 216, 3) := by decide +kernel
theorem dX6_lessons_61 : decode cX6_lessons 61 = .ok (.goto 4, 3) := by decide +kernel
theorem dX6_lessons_64 : decode cX6_lessons 64 = .ok (.iload_n 3, 1) := by decide +kernel
theorem dX6_lessons_65 : decode cX6_lessons 65 = .ok (.ireturn, 1) := by decide +kernel
theorem dX6_programme_0 : decode cX6_programme 0 = .ok (.aload_n 0, 1) := by decide +kernel
theorem dX6_programme_1 : decode cX6_programme 1 = .ok (.getfield 30, 3) := by decide +kernel
theorem dX6_programme_4 : decode cX6_programme 4 = .ok (.invokevirtual 146, 3) := by decide +kernel
theorem dX6_programme_7 : decode cX6_programme 7 = .ok (.ifCond .ne 6, 3) := by decide +kernel
theorem dX6_programme_10 : decode cX6_programme 10 = .ok (.ldc 142, 2) := by decide +kernel
theorem dX6_programme_12 : decode cX6_programme 12 = .ok (.ireturn, 1) := by decide +kernel
theorem dX6_programme_13 : decode cX6_programme 13 = .ok (.iload_n 1, 1) := by decide +kernel
theorem dX6_programme_14 : decode cX6_programme 14 = .ok (.iconst 1, 1) := by decide +kernel
theorem dX6_programme_15 : decode cX6_programme 15 = .ok (.if_icmp .lt 19, 3) := by decide +kernel
theorem dX6_programme_18 : decode cX6_programme 18 = .ok (.iload_n 1, 1) := by decide +kernel
theorem dX6_programme_19 : decode cX6_programme 19 = .ok (.bipush 6, 2) := by decide +kernel
theorem dX6_programme_21 : decode cX6_programme 21 = .ok (.if_icmp .gt 13, 3) := by decide +kernel
theorem dX6_programme_24 : decode cX6_programme 24 = .ok (.iload_n 2, 1) := by decide +kernel
theorem dX6_programme_25 : decode cX6_programme 25 = .ok (.iconst (-1), 1) := by decide +kernel
theorem dX6_programme_26 : decode cX6_programme 26 = .ok (.if_icmp .lt 8, 3) := by decide +kernel
theorem dX6_programme_29 : decode cX6_programme 29 = .ok (.iload_n 2, 1) := by decide +kernel
theorem dX6_programme_30 : decode cX6_programme 30 = .ok (.iconst 4, 1) := by decide +kernel
theorem dX6_programme_31 : decode cX6_programme 31 = .ok (.if_icmp .lt 6, 3) := by decide +kernel
theorem dX6_programme_34 : decode cX6_programme 34 = .ok (.ldc 67, 2) := by decide +kernel
theorem dX6_programme_36 : decode cX6_programme 36 = .ok (.ireturn, 1) := by decide +kernel
theorem dX6_programme_37 : decode cX6_programme 37 = .ok (.iload_n 2, 1) := by decide +kernel
theorem dX6_programme_38 : decode cX6_programme 38 = .ok (.iconst (-1), 1) := by decide +kernel
theorem dX6_programme_39 : decode cX6_programme 39 = .ok (.if_icmp .ne 14, 3) := by decide +kernel
theorem dX6_programme_42 : decode cX6_programme 42 = .ok (.aload_n 0, 1) := by decide +kernel
theorem dX6_programme_43 : decode cX6_programme 43 = .ok (.getfield 49, 3) := by decide +kernel
theorem dX6_programme_46 : decode cX6_programme 46 = .ok (.iload_n 1, 1) := by decide +kernel
theorem dX6_programme_47 : decode cX6_programme 47 = .ok (.invokevirtual 221, 3) := by decide +kernel
theorem dX6_programme_50 : decode cX6_programme 50 = .ok (.goto 12, 3) := by decide +kernel
theorem dX6_programme_53 : decode cX6_programme 53 = .ok (.aload_n 0, 1) := by decide +kernel
theorem dX6_programme_54 : decode cX6_programme 54 = .ok (.getfield 49, 3) := by decide +kernel
theorem dX6_programme_57 : decode cX6_programme 57 = .ok (.iload_n 1, 1) := by decide +kernel
theorem dX6_programme_58 : decode cX6_programme 58 = .ok (.iload_n 2, 1) := by decide +kernel
theorem dX6_programme_59 : decode cX6_programme 59 = .ok (.invokevirtual 224, 3) := by decide +kernel
theorem dX6_programme_62 : decode cX6_programme 62 = .ok (.ireturn, 1) := by decide +kernel
theorem dX6_chords_0 : decode cX6_chords 0 = .ok (.aload_n 0, 1) := by decide +kernel
theorem dX6_chords_1 : decode cX6_chords 1 = .ok (.getfield 30, 3) := by decide +kernel
theorem dX6_chords_4 : decode cX6_chords 4 = .ok (.invokevirtual 146, 3) := by decide +kernel
theorem dX6_chords_7 : decode cX6_chords 7 = .ok (.ifCond .ne 6, 3) := by decide +kernel
theorem dX6_chords_10 : decode cX6_chords 10 = .ok (.ldc 142, 2) := by decide +kernel
theorem dX6_chords_12 : decode cX6_chords 12 = .ok (.ireturn, 1) := by decide +kernel
theorem dX6_chords_13 : decode cX6_chords 13 = .ok (.iload_n 1, 1) := by decide +kernel
theorem dX6_chords_14 : decode cX6_chords 14 = .ok (.iconst (-1), 1) := by decide +kernel
theorem dX6_chords_15 : decode cX6_chords 15 = .ok (.if_icmp .ge 6, 3) := by decide +kernel
theorem dX6_chords_18 : decode cX6_chords 18 = .ok (.ldc 67, 2) := by decide +kernel
theorem dX6_chords_20 : decode cX6_chords 20 = .ok (.ireturn, 1) := by decide +kernel
theorem dX6_chords_21 : decode cX6_chords 21 = .ok (.aload_n 0, 1) := by decide +kernel
theorem dX6_chords_22 : decode cX6_chords 22 = .ok (.getfield 49, 3) := by decide +kernel
theorem dX6_chords_25 : decode cX6_chords 25 = .ok (.invokevirtual 227, 3) := by decide +kernel
theorem dX6_chords_28 : decode cX6_chords 28 = .ok (.istore_n 2, 1) := by decide +kernel
theorem dX6_chords_29 : decode cX6_chords 29 = .ok (.iload_n 1, 1) := by decide +kernel
theorem dX6_chords_30 : decode cX6_chords 30 = .ok (.iconst (-1), 1) := by decide +kernel
theorem dX6_chords_31 : decode cX6_chords 31 = .ok (.if_icmp .ne 5, 3) := by decide +kernel
theorem dX6_chords_34 : decode cX6_chords 34 = .ok (.iload_n 2, 1) := by decide +kernel
theorem dX6_chords_35 : decode cX6_chords 35 = .ok (.ireturn, 1) := by decide +kernel
theorem dX6_chords_36 : decode cX6_chords 36 = .ok (.iload_n 1, 1) := by decide +kernel
theorem dX6_chords_37 : decode cX6_chords 37 = .ok (.iload_n 2, 1) := by decide +kernel
theorem dX6_chords_38 : decode cX6_chords 38 = .ok (.if_icmp .ge 14, 3) := by decide +kernel
theorem dX6_chords_41 : decode cX6_chords 41 = .ok (.aload_n 0, 1) := by decide +kernel
theorem dX6_chords_42 : decode cX6_chords 42 = .ok (.getfield 49, 3) := by decide +kernel
theorem dX6_chords_45 : decode cX6_chords 45 = .ok (.iload_n 1, 1) := by decide +kernel
theorem dX6_chords_46 : decode cX6_chords 46 = .ok (.invokevirtual 231, 3) := by decide +kernel
theorem dX6_chords_49 : decode cX6_chords 49 = .ok (.goto 5, 3) := by decide +kernel
theorem dX6_chords_52 : decode cX6_chords 52 = .ok (.ldc 180, 2) := by decide +kernel
theorem dX6_chords_54 : decode cX6_chords 54 = .ok (.ireturn, 1) := by decide +kernel
theorem dX6_who_0 : decode cX6_who 0 = .ok (.aload_n 0, 1) := by decide +kernel
theorem dX6_who_1 : decode cX6_who 1 = .ok (.getfield 30, 3) := by decide +kernel
theorem dX6_who_4 : decode cX6_who 4 = .ok (.iload_n 1, 1) := by decide +kernel
theorem dX6_who_5 : decode cX6_who 5 = .ok (.invokevirtual 165, 3) := by decide +kernel
theorem dX6_who_8 : decode cX6_who 8 = .ok (.ifCond .eq 21, 3) := by decide +kernel
theorem dX6_who_11 : decode cX6_who 11 = .ok (.aload_n 0, 1) := by decide +kernel
theorem dX6_who_12 : decode cX6_who 12 = .ok (.getfield 30, 3) := by decide +kernel
theorem dX6_who_15 : decode cX6_who 15 = .ok (.iload_n 2, 1) := by decide +kernel
theorem dX6_who_16 : decode cX6_who 16 = .ok (.invokevirtual 171, 3) := by decide +kernel
theorem dX6_who_19 : decode cX6_who 19 = .ok (.ifCond .eq 10, 3) := by decide +kernel
theorem dX6_who_22 : decode cX6_who 22 = .ok (.iload_n 3, 1) := by decide +kernel
theorem dX6_who_23 : decode cX6_who 23 = .ok (.invokestatic 60, 3) := by decide +kernel
theorem dX6_who_26 : decode cX6_who 26 = .ok (.ifCond .ne 6, 3) := by decide +kernel
theorem dX6_who_29 : decode cX6_who 29 = .ok (.ldc 67, 2) := by decide +kernel
theorem dX6_who_31 : decode cX6_who 31 = .ok (.ireturn, 1) := by decide +kernel
theorem dX6_who_32 : decode cX6_who 32 = .ok (.aload_n 0, 1) := by decide +kernel
theorem dX6_who_33 : decode cX6_who 33 = .ok (.getfield 11, 3) := by decide +kernel
theorem dX6_who_36 : decode cX6_who 36 = .ok (.iload_n 3, 1) := by decide +kernel
theorem dX6_who_37 : decode cX6_who 37 = .ok (.aaload, 1) := by decide +kernel
theorem dX6_who_38 : decode cX6_who 38 = .ok (.invokevirtual 79, 3) := by decide +kernel
theorem dX6_who_41 : decode cX6_who 41 = .ok (.ifCond .eq 9, 3) := by decide +kernel
theorem dX6_who_44 : decode cX6_who 44 = .ok (.aload_n 0, 1) := by decide +kernel
theorem dX6_who_45 : decode cX6_who 45 = .ok (.iconst 1, 1) := by decide +kernel
theorem dX6_who_46 : decode cX6_who 46 = .ok (.invokevirtual 68, 3) := by decide +kernel
theorem dX6_who_49 : decode cX6_who 49 = .ok (.ireturn, 1) := by decide +kernel
theorem dX6_who_50 : decode cX6_who 50 = .ok (.aload_n 0, 1) := by decide +kernel
theorem dX6_who_51 : decode cX6_who 51 = .ok (.getfield 11, 3) := by decide +kernel
theorem dX6_who_54 : decode cX6_who 54 = .ok (.iload_n 3, 1) := by decide +kernel
theorem dX6_who_55 : decode cX6_who 55 = .ok (.aaload, 1) := by decide +kernel
theorem dX6_who_56 : decode cX6_who 56 = .ok (.iload 4, 2) := by decide +kernel
theorem dX6_who_58 : decode cX6_who 58 = .ok (.aload_n 0, 1) := by decide +kernel
theorem dX6_who_59 : decode cX6_who 59 = .ok (.getfield 30, 3) := by decide +kernel
theorem dX6_who_62 : decode cX6_who 62 = .ok (.getfield 174, 3) := by decide +kernel
theorem dX6_who_65 : decode cX6_who 65 = .ok (.iload_n 2, 1) := by decide +kernel
theorem dX6_who_66 : decode cX6_who 66 = .ok (.iaload, 1) := by decide +kernel
theorem dX6_who_67 : decode cX6_who 67 = .ok (.invokevirtual 83, 3) := by decide +kernel
theorem dX6_who_70 : decode cX6_who 70 = .ok (.ifCond .ne 9, 3) := by decide +kernel
theorem dX6_who_73 : decode cX6_who 73 = .ok (.aload_n 0, 1) := by decide +kernel
theorem dX6_who_74 : decode cX6_who 74 = .ok (.iconst 2, 1) := by decide +kernel
theorem dX6_who_75 : decode cX6_who 75 = .ok (.invokevirtual 68, 3) := by decide +kernel
theorem dX6_who_78 : decode cX6_who 78 = .ok (.ireturn, 1) := by decide +kernel
theorem dX6_who_79 : decode cX6_who 79 = .ok (.aload_n 0, 1) := by decide +kernel
theorem dX6_who_80 : decode cX6_who 80 = .ok (.aload_n 0, 1) := by decide +kernel
theorem dX6_who_81 : decode cX6_who 81 = .ok (.getfield 49, 3) := by decide +kernel
theorem dX6_who_84 : decode cX6_who 84 = .ok (.iload_n 1, 1) := by decide +kernel
theorem dX6_who_85 : decode cX6_who 85 = .ok (.iload_n 2, 1) := by decide +kernel
theorem dX6_who_86 : decode cX6_who 86 = .ok (.aload_n 0, 1) := by decide +kernel
theorem dX6_who_87 : decode cX6_who 87 = .ok (.getfield 11, 3) := by decide +kernel
theorem dX6_who_90 : decode cX6_who 90 = .ok (.iload_n 3, 1) := by decide +kernel
theorem dX6_who_91 : decode cX6_who 91 = .ok (.aaload, 1) := by decide +kernel
theorem dX6_who_92 : decode cX6_who 92 = .ok (.getfield 95, 3) := by decide +kernel
theorem dX6_who_95 : decode cX6_who 95 = .ok (.iload 4, 2) := by decide +kernel
theorem dX6_who_97 : decode cX6_who 97 = .ok (.invokevirtual 234, 3) := by decide +kernel
theorem dX6_who_100 : decode cX6_who 100 = .ok (.invokevirtual 76, 3) := by decide +kernel
theorem dX6_who_103 : decode cX6_who 103 = .ok (.ireturn, 1) := by decide +kernel
theorem dX6_tunings_0 : decode cX6_tunings 0 = .ok (.aload_n 0, 1) := by decide +kernel
theorem dX6_tunings_1 : decode cX6_tunings 1 = .ok (.getfield 30, 3) := by decide +kernel
theorem dX6_tunings_4 : decode cX6_tunings 4 = .ok (.invokevirtual 146, 3) := by decide +kernel
theorem dX6_tunings_7 : decode cX6_tunings 7 = .ok (.ifCond .ne 6, 3) := by decide +kernel
theorem dX6_tunings_10 : decode cX6_tunings 10 = .ok (.ldc 142, 2) := by decide +kernel
theorem dX6_tunings_12 : decode cX6_tunings 12 = .ok (.ireturn, 1) := by decide +kernel
theorem dX6_tunings_13 : decode cX6_tunings 13 = .ok (.iload_n 1, 1) := by decide +kernel
theorem dX6_tunings_14 : decode cX6_tunings 14 = .ok (.iconst 1, 1) := by decide +kernel
theorem dX6_tunings_15 : decode cX6_tunings 15 = .ok (.if_icmp .lt 19, 3) := by decide +kernel
theorem dX6_tunings_18 : decode cX6_tunings 18 = .ok (.iload_n 1, 1) := by decide +kernel
theorem dX6_tunings_19 : decode cX6_tunings 19 = .ok (.bipush 60, 2) := by decide +kernel
theorem dX6_tunings_21 : decode cX6_tunings 21 = .ok (.if_icmp .gt 13, 3) := by decide +kernel
theorem dX6_tunings_24 : decode cX6_tunings 24 = .ok (.iload_n 2, 1) := by decide +kernel
theorem dX6_tunings_25 : decode cX6_tunings 25 = .ok (.ifCond .lt 9, 3) := by decide +kernel
theorem dX6_tunings_28 : decode cX6_tunings 28 = .ok (.iload_n 2, 1) := by decide +kernel
theorem dX6_tunings_29 : decode cX6_tunings 29 = .ok (.bipush 11, 2) := by decide +kernel
theorem dX6_tunings_31 : decode cX6_tunings 31 = .ok (.if_icmp .le 6, 3) := by decide +kernel
theorem dX6_tunings_34 : decode cX6_tunings 34 = .ok (.ldc 67, 2) := by decide +kernel
theorem dX6_tunings_36 : decode cX6_tunings 36 = .ok (.ireturn, 1) := by decide +kernel
theorem dX6_tunings_37 : decode cX6_tunings 37 = .ok (.aload_n 0, 1) := by decide +kernel
theorem dX6_tunings_38 : decode cX6_tunings 38 = .ok (.getfield 49, 3) := by decide +kernel
theorem dX6_tunings_41 : decode cX6_tunings 41 = .ok (.iload_n 1, 1) := by decide +kernel
theorem dX6_tunings_42 : decode cX6_tunings 42 = .ok (.iload_n 2, 1) := by decide +kernel
theorem dX6_tunings_43 : decode cX6_tunings 43 = .ok (.invokevirtual 238, 3) := by decide +kernel
theorem dX6_tunings_46 : decode cX6_tunings 46 = .ok (.ireturn, 1) := by decide +kernel
theorem dX6_other_0 : decode cX6_other 0 = .ok (.aload_n 0, 1) := by decide +kernel
theorem dX6_other_1 : decode cX6_other 1 = .ok (.getfield 30, 3) := by decide +kernel
theorem dX6_other_4 : decode cX6_other 4 = .ok (.invokevirtual 146, 3) := by decide +kernel
theorem dX6_other_7 : decode cX6_other 7 = .ok (.ifCond .ne 6, 3) := by decide +kernel
theorem dX6_other_10 : decode cX6_other 10 = .ok (.ldc 142, 2) := by decide +kernel
theorem dX6_other_12 : decode cX6_other 12 = .ok (.ireturn, 1) := by decide +kernel
theorem dX6_other_13 : decode cX6_other 13 = .ok (.iload_n 1, 1) := by decide +kernel
theorem dX6_other_14 : decode cX6_other 14 = .ok (.ifCond .lt 29, 3) := by decide +kernel
theorem dX6_other_17 : decode cX6_other 17 = .ok (.iload_n 1, 1) := by decide +kernel
theorem dX6_other_18 : decode cX6_other 18 = .ok (.aload_n 0, 1) := by decide +kernel
theorem dX6_other_19 : decode cX6_other 19 = .ok (.getfield 30, 3) := by decide +kernel
theorem dX6_other_22 : decode cX6_other 22 = .ok (.getfield 199, 3) := by decide +kernel
theorem dX6_other_25 : decode cX6_other 25 = .ok (.if_icmp .ge 18, 3) := by decide +kernel
theorem dX6_other_28 : decode cX6_other 28 = .ok (.iload_n 2, 1) := by decide +kernel
theorem dX6_other_29 : decode cX6_other 29 = .ok (.ifCond .lt 14, 3) := by decide +kernel
theorem dX6_other_32 : decode cX6_other 32 = .ok (.iload_n 2, 1) := by decide +kernel
theorem dX6_other_33 : decode cX6_other 33 = .ok (.aload_n 0, 1) := by decide +kernel
theorem dX6_other_34 : decode cX6_other 34 = .ok (.getfield 30, 3) := by decide +kernel
theorem dX6_other_37 : decode cX6_other 37 = .ok (.getfield 199, 3) := by decide +kernel
theorem dX6_other_40 : decode cX6_other 40 = .ok (.if_icmp .lt 6, 3) := by decide +kernel
theorem dX6_other_43 : decode cX6_other 43 = .ok (.ldc 67, 2) := by decide +kernel
theorem dX6_other_45 : decode cX6_other 45 = .ok (.ireturn, 1) := by decide +kernel
theorem dX6_other_46 : decode cX6_other 46 = .ok (.aload_n 0, 1) := by decide +kernel
theorem dX6_other_47 : decode cX6_other 47 = .ok (.getfield 49, 3) := by decide +kernel
theorem dX6_other_50 : decode cX6_other 50 = .ok (.iload_n 1, 1) := by decide +kernel
theorem dX6_other_51 : decode cX6_other 51 = .ok (.iload_n 2, 1) := by decide +kernel
theorem dX6_other_52 : decode cX6_other 52 = .ok (.invokevirtual 241, 3) := by decide +kernel
theorem dX6_other_55 : decode cX6_other 55 = .ok (.ireturn, 1) := by decide +kernel
theorem dX6_thunderOdds_0 : decode cX6_thunderOdds 0 = .ok (.aload_n 0, 1) := by decide +kernel
theorem dX6_thunderOdds_1 : decode cX6_thunderOdds 1 = .ok (.getfield 30, 3) := by decide +kernel
theorem dX6_thunderOdds_4 : decode cX6_thunderOdds 4 = .ok (.iload_n 1, 1) := by decide +kernel
theorem dX6_thunderOdds_5 : decode cX6_thunderOdds 5 = .ok (.invokevirtual 165, 3) := by decide +kernel
theorem dX6_thunderOdds_8 : decode cX6_thunderOdds 8 = .ok (.ifCond .eq 13, 3) := by decide +kernel
theorem dX6_thunderOdds_11 : decode cX6_thunderOdds 11 = .ok (.iload_n 2, 1) := by decide +kernel
theorem dX6_thunderOdds_12 : decode cX6_thunderOdds 12 = .ok (.ifCond .lt 9, 3) := by decide +kernel
theorem dX6_thunderOdds_15 : decode cX6_thunderOdds 15 = .ok (.iload_n 2, 1) := by decide +kernel
theorem dX6_thunderOdds_16 : decode cX6_thunderOdds 16 = .ok (.bipush 10, 2) := by decide +kernel
theorem dX6_thunderOdds_18 : decode cX6_thunderOdds 18 = .ok (.if_icmp .le 7, 3) := by decide +kernel
theorem dX6_thunderOdds_21 : decode cX6_thunderOdds 21 = .ok (.ldc2_w 244, 3) := by decide +kernel
theorem dX6_thunderOdds_24 : decode cX6_thunderOdds 24 = .ok (.lreturn, 1) := by decide +kernel
theorem dX6_thunderOdds_25 : decode cX6_thunderOdds 25 = .ok (.iload_n 3, 1) := by decide +kernel
theorem dX6_thunderOdds_26 : decode cX6_thunderOdds 26 = .ok (.ifCond .lt 20, 3) := by decide +kernel
theorem dX6_thunderOdds_29 : decode cX6_thunderOdds 29 = .ok (.iload_n 3, 1) := by decide +kernel
theorem dX6_thunderOdds_30 : decode cX6_thunderOdds 30 = .ok (.bipush 6, 2) := by decide +kernel
theorem dX6_thunderOdds_32 : decode cX6_thunderOdds 32 = .ok (.if_icmp .gt 14, 3) := by decide +kernel
theorem dX6_thunderOdds_35 : decode cX6_thunderOdds 35 = .ok (.iload 4, 2) := by decide +kernel
theorem dX6_thunderOdds_37 : decode cX6_thunderOdds 37 = .ok (.ifCond .lt 9, 3) := by decide +kernel
theorem dX6_thunderOdds_40 : decode cX6_thunderOdds 40 = .ok (.iload 4, 2) := by decide +kernel
theorem dX6_thunderOdds_42 : decode cX6_thunderOdds 42 = .ok (.iconst 1, 1) := by decide +kernel
theorem dX6_thunderOdds_43 : decode cX6_thunderOdds 43 = .ok (.if_icmp .le 7, 3) := by decide +kernel
theorem dX6_thunderOdds_46 : decode cX6_thunderOdds 46 = .ok (.ldc2_w 244, 3) := by decide +kernel
theorem dX6_thunderOdds_49 : decode cX6_thunderOdds 49 = .ok (.lreturn, 1) := by decide +kernel
theorem dX6_thunderOdds_50 : decode cX6_thunderOdds 50 = .ok (.aload_n 0, 1) := by decide +kernel
theorem dX6_thunderOdds_51 : decode cX6_thunderOdds 51 = .ok (.getfield 49, 3) := by decide +kernel
theorem dX6_thunderOdds_54 : decode cX6_thunderOdds 54 = .ok (.aload_n 0, 1) := by decide +kernel
theorem dX6_thunderOdds_55 : decode cX6_thunderOdds 55 = .ok (.getfield 30, 3) := by decide +kernel
theorem dX6_thunderOdds_58 : decode cX6_thunderOdds 58 = .ok (.iload_n 1, 1) := by decide +kernel
theorem dX6_thunderOdds_59 : decode cX6_thunderOdds 59 = .ok (.invokevirtual 184, 3) := by decide +kernel
theorem dX6_thunderOdds_62 : decode cX6_thunderOdds 62 = .ok (.iload_n 2, 1) := by decide +kernel
theorem dX6_thunderOdds_63 : decode cX6_thunderOdds 63 = .ok (.iload_n 3, 1) := by decide +kernel
theorem dX6_thunderOdds_64 : decode cX6_thunderOdds 64 = .ok (.invokevirtual 246, 3) := by decide +kernel
theorem dX6_thunderOdds_67 : decode cX6_thunderOdds 67 = .ok (.lstore 5, 2) := by decide +kernel
theorem dX6_thunderOdds_69 : decode cX6_thunderOdds 69 = .ok (.bipush 10, 2) := by decide +kernel
theorem dX6_thunderOdds_71 : decode cX6_thunderOdds 71 = .ok (.iload_n 3, 1) := by decide +kernel
theorem dX6_thunderOdds_72 : decode cX6_thunderOdds 72 = .ok (.invokestatic 250, 3) := by decide +kernel
theorem dX6_thunderOdds_75 : decode cX6_thunderOdds 75 = .ok (.lstore 7, 2) := by decide +kernel
theorem dX6_thunderOdds_77 : decode cX6_thunderOdds 77 = .ok (.lload 5, 2) := by decide +kernel
theorem dX6_thunderOdds_79 : decode cX6_thunderOdds 79 = .ok (.lload 7, 2) := by decide +kernel
theorem dX6_thunderOdds_81 : decode cX6_thunderOdds 81 = .ok (.invokestatic 254, 3) := by decide +kernel
theorem dX6_thunderOdds_84 : decode cX6_thunderOdds 84 = .ok (.lstore 9, 2) := by decide +kernel
theorem dX6_thunderOdds_86 : decode cX6_thunderOdds 86 = .ok (.lload 9, 2) := by decide +kernel
theorem dX6_thunderOdds_88 : decode cX6_thunderOdds 88 = .ok (.lconst 1, 1) := by decide +kernel
theorem dX6_thunderOdds_89 : decode cX6_thunderOdds 89 = .ok (.lcmp, 1) := by decide +kernel
theorem dX6_thunderOdds_90 : decode cX6_thunderOdds 90 = .ok (.ifCond .ge 6, 3) := by decide +kernel
theorem dX6_thunderOdds_93 : decode cX6_thunderOdds 93 = .ok (.lconst 1, 1) := by decide +kernel
theorem dX6_thunderOdds_94 : decode cX6_thunderOdds 94 = .ok (.lstore 9, 2) := by decide +kernel
theorem dX6_thunderOdds_96 : decode cX6_thunderOdds 96 = .ok (.iload 4, 2) := by decide +kernel
theorem dX6_thunderOdds_98 : decode cX6_thunderOdds 98 = .ok (.ifCond .ne 11, 3) := by decide +kernel
theorem dX6_thunderOdds_101 : decode cX6_thunderOdds 101 = .ok (.lload 5, 2) := by decide +kernel
theorem dX6_thunderOdds_103 : decode cX6_thunderOdds 103 = .ok (.lload 9, 2) := by decide +kernel
theorem dX6_thunderOdds_105 : decode cX6_thunderOdds 105 = .ok (.ldiv, 1) := by decide +kernel
theorem dX6_thunderOdds_106 : decode cX6_thunderOdds 106 = .ok (.goto 8, 3) := by decide +kernel
theorem dX6_thunderOdds_109 : decode cX6_thunderOdds 109 = .ok (.lload 7, 2) := by decide +kernel
theorem dX6_thunderOdds_111 : decode cX6_thunderOdds 111 = .ok (.lload 9, 2) := by decide +kernel
theorem dX6_thunderOdds_113 : decode cX6_thunderOdds 113 = .ok (.ldiv, 1) := by decide +kernel
theorem dX6_thunderOdds_114 : decode cX6_thunderOdds 114 = .ok (.lreturn, 1) := by decide +kernel
theorem dX6_drawn_0 : decode cX6_drawn 0 = .ok (.aload_n 0, 1) := by decide +kernel
theorem dX6_drawn_1 : decode cX6_drawn 1 = .ok (.getfield 30, 3) := by decide +kernel
theorem dX6_drawn_4 : decode cX6_drawn 4 = .ok (.invokevirtual 146, 3) := by decide +kernel
theorem dX6_drawn_7 : decode cX6_drawn 7 = .ok (.ifCond .ne 6, 3) := by decide +kernel
theorem dX6_drawn_10 : decode cX6_drawn 10 = .ok (.ldc 142, 2) := by decide +kernel
theorem dX6_drawn_12 : decode cX6_drawn 12 = .ok (.ireturn, 1) := by decide +kernel
theorem dX6_drawn_13 : decode cX6_drawn 13 = .ok (.iload_n 1, 1) := by decide +kernel
theorem dX6_drawn_14 : decode cX6_drawn 14 = .ok (.ifCond .lt 30, 3) := by decide +kernel
theorem dX6_drawn_17 : decode cX6_drawn 17 = .ok (.iload_n 1, 1) := by decide +kernel
theorem dX6_drawn_18 : decode cX6_drawn 18 = .ok (.bipush 60, 2) := by decide +kernel
theorem dX6_drawn_20 : decode cX6_drawn 20 = .ok (.if_icmp .gt 24, 3) := by decide +kernel
theorem dX6_drawn_23 : decode cX6_drawn 23 = .ok (.iload_n 2, 1) := by decide +kernel
theorem dX6_drawn_24 : decode cX6_drawn 24 = .ok (.iconst 1, 1) := by decide +kernel
theorem dX6_drawn_25 : decode cX6_drawn 25 = .ok (.if_icmp .lt 19, 3) := by decide +kernel
theorem dX6_drawn_28 : decode cX6_drawn 28 = .ok (.iload_n 2, 1) := by decide +kernel
theorem dX6_drawn_29 : decode cX6_drawn 29 = .ok (.ldc_w 258, 3) := by decide +kernel
theorem dX6_drawn_32 : decode cX6_drawn 32 = .ok (.if_icmp .gt 12, 3) := by decide +kernel
theorem dX6_drawn_35 : decode cX6_drawn 35 = .ok (.iload_n 3, 1) := by decide +kernel
theorem dX6_drawn_36 : decode cX6_drawn 36 = .ok (.ifCond .lt 8, 3) := by decide +kernel
theorem dX6_drawn_39 : decode cX6_drawn 39 = .ok (.iload_n 3, 1) := by decide +kernel
theorem dX6_drawn_40 : decode cX6_drawn 40 = .ok (.iconst 1, 1) := by decide +kernel
theorem dX6_drawn_41 : decode cX6_drawn 41 = .ok (.if_icmp .le 6, 3) := by decide +kernel
theorem dX6_drawn_44 : decode cX6_drawn 44 = .ok (.ldc 67, 2) := by decide +kernel
theorem dX6_drawn_46 : decode cX6_drawn 46 = .ok (.ireturn, 1) := by decide +kernel
theorem dX6_drawn_47 : decode cX6_drawn 47 = .ok (.aload_n 0, 1) := by decide +kernel
theorem dX6_drawn_48 : decode cX6_drawn 48 = .ok (.getfield 49, 3) := by decide +kernel
theorem dX6_drawn_51 : decode cX6_drawn 51 = .ok (.iload_n 1, 1) := by decide +kernel
theorem dX6_drawn_52 : decode cX6_drawn 52 = .ok (.iload_n 2, 1) := by decide +kernel
theorem dX6_drawn_53 : decode cX6_drawn 53 = .ok (.iload_n 3, 1) := by decide +kernel
theorem dX6_drawn_54 : decode cX6_drawn 54 = .ok (.iconst 1, 1) := by decide +kernel
theorem dX6_drawn_55 : decode cX6_drawn 55 = .ok (.if_icmp .ne 7, 3) := by decide +kernel
theorem dX6_drawn_58 : decode cX6_drawn 58 = .ok (.iconst 1, 1) := by decide +kernel
theorem dX6_drawn_59 : decode cX6_drawn 59 = .ok (.goto 4, 3) := by decide +kernel
theorem dX6_drawn_62 : decode cX6_drawn 62 = .ok (.iconst 0, 1) := by decide +kernel
theorem dX6_drawn_63 : decode cX6_drawn 63 = .ok (.invokevirtual 259, 3) := by decide +kernel
theorem dX6_drawn_66 : decode cX6_drawn 66 = .ok (.ireturn, 1) := by decide +kernel
theorem dX6_image_0 : decode cX6_image 0 = .ok (.iload_n 1, 1) := by decide +kernel
theorem dX6_image_1 : decode cX6_image 1 = .ok (.invokestatic 263, 3) := by decide +kernel
theorem dX6_image_4 : decode cX6_image 4 = .ok (.ifCond .ne 6, 3) := by decide +kernel
theorem dX6_image_7 : decode cX6_image 7 = .ok (.ldc 67, 2) := by decide +kernel
theorem dX6_image_9 : decode cX6_image 9 = .ok (.ireturn, 1) := by decide +kernel
theorem dX6_image_10 : decode cX6_image 10 = .ok (.aload_n 0, 1) := by decide +kernel
theorem dX6_image_11 : decode cX6_image 11 = .ok (.getfield 30, 3) := by decide +kernel
theorem dX6_image_14 : decode cX6_image 14 = .ok (.invokevirtual 146, 3) := by decide +kernel
theorem dX6_image_17 : decode cX6_image 17 = .ok (.ifCond .ne 6, 3) := by decide +kernel
theorem dX6_image_20 : decode cX6_image 20 = .ok (.ldc 142, 2) := by decide +kernel
theorem dX6_image_22 : decode cX6_image 22 = .ok (.ireturn, 1) := by decide +kernel
theorem dX6_image_23 : decode cX6_image 23 = .ok (.aload_n 0, 1) := by decide +kernel
theorem dX6_image_24 : decode cX6_image 24 = .ok (.getfield 18, 3) := by decide +kernel
theorem dX6_image_27 : decode cX6_image 27 = .ok (.iload_n 1, 1) := by decide +kernel
theorem dX6_image_28 : decode cX6_image 28 = .ok (.aaload, 1) := by decide +kernel
theorem dX6_image_29 : decode cX6_image 29 = .ok (.aload_n 0, 1) := by decide +kernel
theorem dX6_image_30 : decode cX6_image 30 = .ok (.getfield 30, 3) := by decide +kernel
theorem dX6_image_33 : decode cX6_image 33 = .ok (.invokevirtual 129, 3) := by decide +kernel
theorem dX6_image_36 : decode cX6_image 36 = .ok (.iconst 1, 1) := by decide +kernel
theorem dX6_image_37 : decode cX6_image 37 = .ok (.ireturn, 1) := by decide +kernel
theorem dX6_restore_0 : decode cX6_restore 0 = .ok (.iload_n 1, 1) := by decide +kernel
theorem dX6_restore_1 : decode cX6_restore 1 = .ok (.invokestatic 263, 3) := by decide +kernel
theorem dX6_restore_4 : decode cX6_restore 4 = .ok (.ifCond .ne 6, 3) := by decide +kernel
theorem dX6_restore_7 : decode cX6_restore 7 = .ok (.ldc 67, 2) := by decide +kernel
theorem dX6_restore_9 : decode cX6_restore 9 = .ok (.ireturn, 1) := by decide +kernel
theorem dX6_restore_10 : decode cX6_restore 10 = .ok (.aload_n 0, 1) := by decide +kernel
theorem dX6_restore_11 : decode cX6_restore 11 = .ok (.getfield 18, 3) := by decide +kernel
theorem dX6_restore_14 : decode cX6_restore 14 = .ok (.iload_n 1, 1) := by decide +kernel
theorem dX6_restore_15 : decode cX6_restore 15 = .ok (.aaload, 1) := by decide +kernel
theorem dX6_restore_16 : decode cX6_restore 16 = .ok (.invokevirtual 146, 3) := by decide +kernel
theorem dX6_restore_19 : decode cX6_restore 19 = .ok (.ifCond .ne 6, 3) := by decide +kernel
theorem dX6_restore_22 : decode cX6_restore 22 = .ok (.ldc 142, 2) := by decide +kernel
theorem dX6_restore_24 : decode cX6_restore 24 = .ok (.ireturn, 1) := by decide +kernel
theorem dX6_restore_25 : decode cX6_restore 25 = .ok (.aload_n 0, 1) := by decide +kernel
theorem dX6_restore_26 : decode cX6_restore 26 = .ok (.getfield 30, 3) := by decide +kernel
theorem dX6_restore_29 : decode cX6_restore 29 = .ok (.aload_n 0, 1) := by decide +kernel
theorem dX6_restore_30 : decode cX6_restore 30 = .ok (.getfield 18, 3) := by decide +kernel
theorem dX6_restore_33 : decode cX6_restore 33 = .ok (.iload_n 1, 1) := by decide +kernel
theorem dX6_restore_34 : decode cX6_restore 34 = .ok (.aaload, 1) := by decide +kernel
theorem dX6_restore_35 : decode cX6_restore 35 = .ok (.invokevirtual 129, 3) := by decide +kernel
theorem dX6_restore_38 : decode cX6_restore 38 = .ok (.aload_n 0, 1) := by decide +kernel
theorem dX6_restore_39 : decode cX6_restore 39 = .ok (.getfield 40, 3) := by decide +kernel
theorem dX6_restore_42 : decode cX6_restore 42 = .ok (.invokevirtual 132, 3) := by decide +kernel
theorem dX6_restore_45 : decode cX6_restore 45 = .ok (.iconst 1, 1) := by decide +kernel
theorem dX6_restore_46 : decode cX6_restore 46 = .ok (.ireturn, 1) := by decide +kernel
theorem dX6_kind_0 : decode cX6_kind 0 = .ok (.aload_n 0, 1) := by decide +kernel
theorem dX6_kind_1 : decode cX6_kind 1 = .ok (.getfield 30, 3) := by decide +kernel
theorem dX6_kind_4 : decode cX6_kind 4 = .ok (.iload_n 1, 1) := by decide +kernel
theorem dX6_kind_5 : decode cX6_kind 5 = .ok (.invokevirtual 165, 3) := by decide +kernel
theorem dX6_kind_8 : decode cX6_kind 8 = .ok (.ifCond .eq 15, 3) := by decide +kernel
theorem dX6_kind_11 : decode cX6_kind 11 = .ok (.aload_n 0, 1) := by decide +kernel
theorem dX6_kind_12 : decode cX6_kind 12 = .ok (.getfield 30, 3) := by decide +kernel
theorem dX6_kind_15 : decode cX6_kind 15 = .ok (.getfield 266, 3) := by decide +kernel
theorem dX6_kind_18 : decode cX6_kind 18 = .ok (.iload_n 1, 1) := by decide +kernel
theorem dX6_kind_19 : decode cX6_kind 19 = .ok (.iaload, 1) := by decide +kernel
theorem dX6_kind_20 : decode cX6_kind 20 = .ok (.goto 5, 3) := by decide +kernel
theorem dX6_kind_23 : decode cX6_kind 23 = .ok (.ldc 67, 2) := by decide +kernel
theorem dX6_kind_25 : decode cX6_kind 25 = .ok (.ireturn, 1) := by decide +kernel
theorem dX6_as_0 : decode cX6_as 0 = .ok (.aload_n 0, 1) := by decide +kernel
theorem dX6_as_1 : decode cX6_as 1 = .ok (.getfield 30, 3) := by decide +kernel
theorem dX6_as_4 : decode cX6_as 4 = .ok (.iload_n 1, 1) := by decide +kernel
theorem dX6_as_5 : decode cX6_as 5 = .ok (.invokevirtual 165, 3) := by decide +kernel
theorem dX6_as_8 : decode cX6_as 8 = .ok (.ifCond .eq 12, 3) := by decide +kernel
theorem dX6_as_11 : decode cX6_as 11 = .ok (.iload_n 2, 1) := by decide +kernel
theorem dX6_as_12 : decode cX6_as 12 = .ok (.ifCond .lt 8, 3) := by decide +kernel
theorem dX6_as_15 : decode cX6_as 15 = .ok (.iload_n 2, 1) := by decide +kernel
theorem dX6_as_16 : decode cX6_as 16 = .ok (.iconst 5, 1) := by decide +kernel
theorem dX6_as_17 : decode cX6_as 17 = .ok (.if_icmp .le 6, 3) := by decide +kernel
theorem dX6_as_20 : decode cX6_as 20 = .ok (.ldc 67, 2) := by decide +kernel
theorem dX6_as_22 : decode cX6_as 22 = .ok (.ireturn, 1) := by decide +kernel
theorem dX6_as_23 : decode cX6_as 23 = .ok (.aload_n 0, 1) := by decide +kernel
theorem dX6_as_24 : decode cX6_as 24 = .ok (.getfield 30, 3) := by decide +kernel
theorem dX6_as_27 : decode cX6_as 27 = .ok (.getfield 266, 3) := by decide +kernel
theorem dX6_as_30 : decode cX6_as 30 = .ok (.iload_n 1, 1) := by decide +kernel
theorem dX6_as_31 : decode cX6_as 31 = .ok (.iaload, 1) := by decide +kernel
theorem dX6_as_32 : decode cX6_as 32 = .ok (.iload_n 2, 1) := by decide +kernel
theorem dX6_as_33 : decode cX6_as 33 = .ok (.invokestatic 269, 3) := by decide +kernel
theorem dX6_as_36 : decode cX6_as 36 = .ok (.ifCond .eq 11, 3) := by decide +kernel
theorem dX6_as_39 : decode cX6_as 39 = .ok (.aload_n 0, 1) := by decide +kernel
theorem dX6_as_40 : decode cX6_as 40 = .ok (.iload_n 1, 1) := by decide +kernel
theorem dX6_as_41 : decode cX6_as 41 = .ok (.invokevirtual 76, 3) := by decide +kernel
theorem dX6_as_44 : decode cX6_as 44 = .ok (.goto 8, 3) := by decide +kernel
theorem dX6_as_47 : decode cX6_as 47 = .ok (.aload_n 0, 1) := by decide +kernel
theorem dX6_as_48 : decode cX6_as 48 = .ok (.iconst 3, 1) := by decide +kernel
theorem dX6_as_49 : decode cX6_as 49 = .ok (.invokevirtual 68, 3) := by decide +kernel
theorem dX6_as_52 : decode cX6_as 52 = .ok (.ireturn, 1) := by decide +kernel
theorem dX6_ask_0 : decode cX6_ask 0 = .ok (.aload_n 0, 1) := by decide +kernel
theorem dX6_ask_1 : decode cX6_ask 1 = .ok (.getfield 30, 3) := by decide +kernel
theorem dX6_ask_4 : decode cX6_ask 4 = .ok (.iload_n 1, 1) := by decide +kernel
theorem dX6_ask_5 : decode cX6_ask 5 = .ok (.invokevirtual 165, 3) := by decide +kernel
theorem dX6_ask_8 : decode cX6_ask 8 = .ok (.ifCond .eq 12, 3) := by decide +kernel
theorem dX6_ask_11 : decode cX6_ask 11 = .ok (.iload_n 2, 1) := by decide +kernel
theorem dX6_ask_12 : decode cX6_ask 12 = .ok (.ifCond .lt 8, 3) := by decide +kernel
theorem dX6_ask_15 : decode cX6_ask 15 = .ok (.iload_n 2, 1) := by decide +kernel
theorem dX6_ask_16 : decode cX6_ask 16 = .ok (.iconst 1, 1) := by decide +kernel
theorem dX6_ask_17 : decode cX6_ask 17 = .ok (.if_icmp .le 6, 3) := by decide +kernel
theorem dX6_ask_20 : decode cX6_ask 20 = .ok (.ldc 67, 2) := by decide +kernel
theorem dX6_ask_22 : decode cX6_ask 22 = .ok (.ireturn, 1) := by decide +kernel
theorem dX6_ask_23 : decode cX6_ask 23 = .ok (.aload_n 0, 1) := by decide +kernel
theorem dX6_ask_24 : decode cX6_ask 24 = .ok (.getfield 56, 3) := by decide +kernel
theorem dX6_ask_27 : decode cX6_ask 27 = .ok (.iload_n 1, 1) := by decide +kernel
theorem dX6_ask_28 : decode cX6_ask 28 = .ok (.aload_n 0, 1) := by decide +kernel
theorem dX6_ask_29 : decode cX6_ask 29 = .ok (.getfield 30, 3) := by decide +kernel
theorem dX6_ask_32 : decode cX6_ask 32 = .ok (.getfield 266, 3) := by decide +kernel
theorem dX6_ask_35 : decode cX6_ask 35 = .ok (.iload_n 1, 1) := by decide +kernel
theorem dX6_ask_36 : decode cX6_ask 36 = .ok (.iaload, 1) := by decide +kernel
theorem dX6_ask_37 : decode cX6_ask 37 = .ok (.aload_n 0, 1) := by decide +kernel
theorem dX6_ask_38 : decode cX6_ask 38 = .ok (.getfield 30, 3) := by decide +kernel
theorem dX6_ask_41 : decode cX6_ask 41 = .ok (.getfield 168, 3) := by decide +kernel
theorem dX6_ask_44 : decode cX6_ask 44 = .ok (.iload_n 1, 1) := by decide +kernel
theorem dX6_ask_45 : decode cX6_ask 45 = .ok (.iaload, 1) := by decide +kernel
theorem dX6_ask_46 : decode cX6_ask 46 = .ok (.aload_n 0, 1) := by decide +kernel
theorem dX6_ask_47 : decode cX6_ask 47 = .ok (.getfield 30, 3) := by decide +kernel
theorem dX6_ask_50 : decode cX6_ask 50 = .ok (.getfield 181, 3) := by decide +kernel
theorem dX6_ask_53 : decode cX6_ask 53 = .ok (.iload_n 1, 1) := by decide +kernel
theorem dX6_ask_54 : decode cX6_ask 54 = .ok (.iaload, 1) := by decide +kernel
theorem dX6_ask_55 : decode cX6_ask 55 = .ok (.invokevirtual 272, 3) := by decide +kernel
theorem dX6_ask_58 : decode cX6_ask 58 = .ok (.iload_n 2, 1) := by decide +kernel
theorem dX6_ask_59 : decode cX6_ask 59 = .ok (.ifCond .ne 13, 3) := by decide +kernel
theorem dX6_ask_62 : decode cX6_ask 62 = .ok (.aload_n 0, 1) := by decide +kernel
theorem dX6_ask_63 : decode cX6_ask 63 = .ok (.getfield 56, 3) := by decide +kernel
theorem dX6_ask_66 : decode cX6_ask 66 = .ok (.invokevirtual 275, 3) := by decide +kernel
theorem dX6_ask_69 : decode cX6_ask 69 = .ok (.goto 10, 3) := by decide +kernel
theorem dX6_ask_72 : decode cX6_ask 72 = .ok (.aload_n 0, 1) := by decide +kernel
theorem dX6_ask_73 : decode cX6_ask 73 = .ok (.getfield 56, 3) := by decide +kernel
theorem dX6_ask_76 : decode cX6_ask 76 = .ok (.invokevirtual 278, 3) := by decide +kernel
theorem dX6_ask_79 : decode cX6_ask 79 = .ok (.ireturn, 1) := by decide +kernel
theorem dX6_trace_0 : decode cX6_trace 0 = .ok (.iload_n 1, 1) := by decide +kernel
theorem dX6_trace_1 : decode cX6_trace 1 = .ok (.ifCond .lt 26, 3) := by decide +kernel
theorem dX6_trace_4 : decode cX6_trace 4 = .ok (.iload_n 1, 1) := by decide +kernel
theorem dX6_trace_5 : decode cX6_trace 5 = .ok (.aload_n 0, 1) := by decide +kernel
theorem dX6_trace_6 : decode cX6_trace 6 = .ok (.getfield 56, 3) := by decide +kernel
theorem dX6_trace_9 : decode cX6_trace 9 = .ok (.getfield 281, 3) := by decide +kernel
theorem dX6_trace_12 : decode cX6_trace 12 = .ok (.if_icmp .ge 15, 3) := by decide +kernel
theorem dX6_trace_15 : decode cX6_trace 15 = .ok (.aload_n 0, 1) := by decide +kernel
theorem dX6_trace_16 : decode cX6_trace 16 = .ok (.getfield 56, 3) := by decide +kernel
theorem dX6_trace_19 : decode cX6_trace 19 = .ok (.getfield 284, 3) := by decide +kernel
theorem dX6_trace_22 : decode cX6_trace 22 = .ok (.iload_n 1, 1) := by decide +kernel
theorem dX6_trace_23 : decode cX6_trace 23 = .ok (.iaload, 1) := by decide +kernel
theorem dX6_trace_24 : decode cX6_trace 24 = .ok (.goto 5, 3) := by decide +kernel
theorem dX6_trace_27 : decode cX6_trace 27 = .ok (.ldc 180, 2) := by decide +kernel
theorem dX6_trace_29 : decode cX6_trace 29 = .ok (.ireturn, 1) := by decide +kernel
theorem dX6_count_0 : decode cX6_count 0 = .ok (.iload_n 1, 1) := by decide +kernel
theorem dX6_count_1 : decode cX6_count 1 = .ok (.tableswitch 120 0 8 #[51, 56, 64, 72, 80, 88, 96, 104, 112], 51) := by decide +kernel
theorem dX6_count_52 : decode cX6_count 52 = .ok (.aload_n 0, 1) := by decide +kernel
theorem dX6_count_53 : decode cX6_count 53 = .ok (.invokevirtual 287, 3) := by decide +kernel
theorem dX6_count_56 : decode cX6_count 56 = .ok (.ireturn, 1) := by decide +kernel
theorem dX6_count_57 : decode cX6_count 57 = .ok (.aload_n 0, 1) := by decide +kernel
theorem dX6_count_58 : decode cX6_count 58 = .ok (.getfield 30, 3) := by decide +kernel
theorem dX6_count_61 : decode cX6_count 61 = .ok (.getfield 199, 3) := by decide +kernel
theorem dX6_count_64 : decode cX6_count 64 = .ok (.ireturn, 1) := by decide +kernel
theorem dX6_count_65 : decode cX6_count 65 = .ok (.aload_n 0, 1) := by decide +kernel
theorem dX6_count_66 : decode cX6_count 66 = .ok (.getfield 30, 3) := by decide +kernel
theorem dX6_count_69 : decode cX6_count 69 = .ok (.getfield 290, 3) := by decide +kernel
theorem dX6_count_72 : decode cX6_count 72 = .ok (.ireturn, 1) := by decide +kernel
theorem dX6_count_73 : decode cX6_count 73 = .ok (.aload_n 0, 1) := by decide +kernel
theorem dX6_count_74 : decode cX6_count 74 = .ok (.getfield 30, 3) := by decide +kernel
theorem dX6_count_77 : decode cX6_count 77 = .ok (.getfield 152, 3) := by decide +kernel
theorem dX6_count_80 : decode cX6_count 80 = .ok (.ireturn, 1) := by decide +kernel
theorem dX6_count_81 : decode cX6_count 81 = .ok (.aload_n 0, 1) := by decide +kernel
theorem dX6_count_82 : decode cX6_count 82 = .ok (.getfield 30, 3) := by decide +kernel
theorem dX6_count_85 : decode cX6_count 85 = .ok (.getfield 293, 3) := by decide +kernel
theorem dX6_count_88 : decode cX6_count 88 = .ok (.ireturn, 1) := by decide +kernel
theorem dX6_count_89 : decode cX6_count 89 = .ok (.aload_n 0, 1) := by decide +kernel
theorem dX6_count_90 : decode cX6_count 90 = .ok (.getfield 30, 3) := by decide +kernel
theorem dX6_count_93 : decode cX6_count 93 = .ok (.getfield 133, 3) := by decide +kernel
theorem dX6_count_96 : decode cX6_count 96 = .ok (.ireturn, 1) := by decide +kernel
theorem dX6_count_97 : decode cX6_count 97 = .ok (.aload_n 0, 1) := by decide +kernel
theorem dX6_count_98 : decode cX6_count 98 = .ok (.getfield 30, 3) := by decide +kernel
theorem dX6_count_101 : decode cX6_count 101 = .ok (.getfield 149, 3) := by decide +kernel
theorem dX6_count_104 : decode cX6_count 104 = .ok (.ireturn, 1) := by decide +kernel
theorem dX6_count_105 : decode cX6_count 105 = .ok (.aload_n 0, 1) := by decide +kernel
theorem dX6_count_106 : decode cX6_count 106 = .ok (.getfield 40, 3) := by decide +kernel
theorem dX6_count_109 : decode cX6_count 109 = .ok (.getfield 139, 3) := by decide +kernel
theorem dX6_count_112 : decode cX6_count 112 = .ok (.ireturn, 1) := by decide +kernel
theorem dX6_count_113 : decode cX6_count 113 = .ok (.aload_n 0, 1) := by decide +kernel
theorem dX6_count_114 : decode cX6_count 114 = .ok (.getfield 26, 3) := by decide +kernel
theorem dX6_count_117 : decode cX6_count 117 = .ok (.getfield 296, 3) := by decide +kernel
theorem dX6_count_120 : decode cX6_count 120 = .ok (.ireturn, 1) := by decide +kernel
theorem dX6_count_121 : decode cX6_count 121 = .ok (.ldc 67, 2) := by decide +kernel
theorem dX6_count_123 : decode cX6_count 123 = .ok (.ireturn, 1) := by decide +kernel
theorem dX6_status_0 : decode cX6_status 0 = .ok (.aload_n 0, 1) := by decide +kernel
theorem dX6_status_1 : decode cX6_status 1 = .ok (.getfield 299, 3) := by decide +kernel
theorem dX6_status_4 : decode cX6_status 4 = .ok (.ireturn, 1) := by decide +kernel
theorem dX6_found_0 : decode cX6_found 0 = .ok (.aload_n 0, 1) := by decide +kernel
theorem dX6_found_1 : decode cX6_found 1 = .ok (.iload_n 1, 1) := by decide +kernel
theorem dX6_found_2 : decode cX6_found 2 = .ok (.putfield 299, 3) := by decide +kernel
theorem dX6_found_5 : decode cX6_found 5 = .ok (.ldc_w 302, 3) := by decide +kernel
theorem dX6_found_8 : decode cX6_found 8 = .ok (.iload_n 1, 1) := by decide +kernel
theorem dX6_found_9 : decode cX6_found 9 = .ok (.isub, 1) := by decide +kernel
theorem dX6_found_10 : decode cX6_found 10 = .ok (.ireturn, 1) := by decide +kernel
theorem dX6_fine_0 : decode cX6_fine 0 = .ok (.aload_n 0, 1) := by decide +kernel
theorem dX6_fine_1 : decode cX6_fine 1 = .ok (.iconst 0, 1) := by decide +kernel
theorem dX6_fine_2 : decode cX6_fine 2 = .ok (.putfield 299, 3) := by decide +kernel
theorem dX6_fine_5 : decode cX6_fine 5 = .ok (.iload_n 1, 1) := by decide +kernel
theorem dX6_fine_6 : decode cX6_fine 6 = .ok (.ireturn, 1) := by decide +kernel
theorem dX6_isRow_0 : decode cX6_isRow 0 = .ok (.iload_n 0, 1) := by decide +kernel
theorem dX6_isRow_1 : decode cX6_isRow 1 = .ok (.ifCond .lt 13, 3) := by decide +kernel
theorem dX6_isRow_4 : decode cX6_isRow 4 = .ok (.iload_n 0, 1) := by decide +kernel
theorem dX6_isRow_5 : decode cX6_isRow 5 = .ok (.bipush 8, 2) := by decide +kernel
theorem dX6_isRow_7 : decode cX6_isRow 7 = .ok (.if_icmp .ge 7, 3) := by decide +kernel
theorem dX6_isRow_10 : decode cX6_isRow 10 = .ok (.iconst 1, 1) := by decide +kernel
theorem dX6_isRow_11 : decode cX6_isRow 11 = .ok (.goto 4, 3) := by decide +kernel
theorem dX6_isRow_14 : decode cX6_isRow 14 = .ok (.iconst 0, 1) := by decide +kernel
theorem dX6_isRow_15 : decode cX6_isRow 15 = .ok (.ireturn, 1) := by decide +kernel
theorem dX6_isImage_0 : decode cX6_isImage 0 = .ok (.iload_n 0, 1) := by decide +kernel
theorem dX6_isImage_1 : decode cX6_isImage 1 = .ok (.ifCond .lt 12, 3) := by decide +kernel
theorem dX6_isImage_4 : decode cX6_isImage 4 = .ok (.iload_n 0, 1) := by decide +kernel
theorem dX6_isImage_5 : decode cX6_isImage 5 = .ok (.iconst 2, 1) := by decide +kernel
theorem dX6_isImage_6 : decode cX6_isImage 6 = .ok (.if_icmp .ge 7, 3) := by decide +kernel
theorem dX6_isImage_9 : decode cX6_isImage 9 = .ok (.iconst 1, 1) := by decide +kernel
theorem dX6_isImage_10 : decode cX6_isImage 10 = .ok (.goto 4, 3) := by decide +kernel
theorem dX6_isImage_13 : decode cX6_isImage 13 = .ok (.iconst 0, 1) := by decide +kernel
theorem dX6_isImage_14 : decode cX6_isImage 14 = .ok (.ireturn, 1) := by decide +kernel
theorem dX6_rowsThere_0 : decode cX6_rowsThere 0 = .ok (.iconst 0, 1) := by decide +kernel
theorem dX6_rowsThere_1 : decode cX6_rowsThere 1 = .ok (.istore_n 1, 1) := by decide +kernel
theorem dX6_rowsThere_2 : decode cX6_rowsThere 2 = .ok (.iconst 0, 1) := by decide +kernel
theorem dX6_rowsThere_3 : decode cX6_rowsThere 3 = .ok (.istore_n 2, 1) := by decide +kernel
theorem dX6_rowsThere_4 : decode cX6_rowsThere 4 = .ok (.iload_n 2, 1) := by decide +kernel
theorem dX6_rowsThere_5 : decode cX6_rowsThere 5 = .ok (.bipush 8, 2) := by decide +kernel
theorem dX6_rowsThere_7 : decode cX6_rowsThere 7 = .ok (.if_icmp .ge 24, 3) := by decide +kernel
theorem dX6_rowsThere_10 : decode cX6_rowsThere 10 = .ok (.aload_n 0, 1) := by decide +kernel
theorem dX6_rowsThere_11 : decode cX6_rowsThere 11 = .ok (.getfield 11, 3) := by decide +kernel
theorem dX6_rowsThere_14 : decode cX6_rowsThere 14 = .ok (.iload_n 2, 1) := by decide +kernel
theorem dX6_rowsThere_15 : decode cX6_rowsThere 15 = .ok (.aaload, 1) := by decide +kernel
theorem dX6_rowsThere_16 : decode cX6_rowsThere 16 = .ok (.invokevirtual 79, 3) := by decide +kernel
theorem dX6_rowsThere_19 : decode cX6_rowsThere 19 = .ok (.ifCond .ne 6, 3) := by decide +kernel
theorem dX6_rowsThere_22 : decode cX6_rowsThere 22 = .ok (.iinc 1 1, 3) := by decide +kernel
theorem dX6_rowsThere_25 : decode cX6_rowsThere 25 = .ok (.iinc 2 1, 3) := by decide +kernel
theorem dX6_rowsThere_28 : decode cX6_rowsThere 28 = .ok (.goto (-24), 3) := by decide +kernel
theorem dX6_rowsThere_31 : decode cX6_rowsThere 31 = .ok (.iload_n 1, 1) := by decide +kernel
theorem dX6_rowsThere_32 : decode cX6_rowsThere 32 = .ok (.ireturn, 1) := by decide +kernel
theorem dX7_init_0 : decode cX7_init 0 = .ok (.aload_n 0, 1) := by decide +kernel
theorem dX7_init_1 : decode cX7_init 1 = .ok (.invokespecial 1, 3) := by decide +kernel
theorem dX7_init_4 : decode cX7_init 4 = .ok (.aload_n 0, 1) := by decide +kernel
theorem dX7_init_5 : decode cX7_init 5 = .ok (.bipush 8, 2) := by decide +kernel
theorem dX7_init_7 : decode cX7_init 7 = .ok (.newarray .int, 2) := by decide +kernel
theorem dX7_init_9 : decode cX7_init 9 = .ok (.putfield 7, 3) := by decide +kernel
theorem dX7_init_12 : decode cX7_init 12 = .ok (.aload_n 0, 1) := by decide +kernel
theorem dX7_init_13 : decode cX7_init 13 = .ok (.bipush 8, 2) := by decide +kernel
theorem dX7_init_15 : decode cX7_init 15 = .ok (.newarray .int, 2) := by decide +kernel
theorem dX7_init_17 : decode cX7_init 17 = .ok (.putfield 13, 3) := by decide +kernel
theorem dX7_init_20 : decode cX7_init 20 = .ok (.aload_n 0, 1) := by decide +kernel
theorem dX7_init_21 : decode cX7_init 21 = .ok (.sipush 320, 3) := by decide +kernel
theorem dX7_init_24 : decode cX7_init 24 = .ok (.newarray .int, 2) := by decide +kernel
theorem dX7_init_26 : decode cX7_init 26 = .ok (.putfield 16, 3) := by decide +kernel
theorem dX7_init_29 : decode cX7_init 29 = .ok (.aload_n 0, 1) := by decide +kernel
theorem dX7_init_30 : decode cX7_init 30 = .ok (.bipush 57, 2) := by decide +kernel
theorem dX7_init_32 : decode cX7_init 32 = .ok (.newarray .int, 2) := by decide +kernel
theorem dX7_init_34 : decode cX7_init 34 = .ok (.putfield 19, 3) := by decide +kernel
theorem dX7_init_37 : decode cX7_init 37 = .ok (.aload_n 0, 1) := by decide +kernel
theorem dX7_init_38 : decode cX7_init 38 = .ok (.bipush 40, 2) := by decide +kernel
theorem dX7_init_40 : decode cX7_init 40 = .ok (.newarray .int, 2) := by decide +kernel
theorem dX7_init_42 : decode cX7_init 42 = .ok (.putfield 22, 3) := by decide +kernel
theorem dX7_init_45 : decode cX7_init 45 = .ok (.aload_n 0, 1) := by decide +kernel
theorem dX7_init_46 : decode cX7_init 46 = .ok (.bipush 120, 2) := by decide +kernel
theorem dX7_init_48 : decode cX7_init 48 = .ok (.newarray .int, 2) := by decide +kernel
theorem dX7_init_50 : decode cX7_init 50 = .ok (.putfield 25, 3) := by decide +kernel
theorem dX7_init_53 : decode cX7_init 53 = .ok (.aload_n 0, 1) := by decide +kernel
theorem dX7_init_54 : decode cX7_init 54 = .ok (.bipush 57, 2) := by decide +kernel
theorem dX7_init_56 : decode cX7_init 56 = .ok (.newarray .int, 2) := by decide +kernel
theorem dX7_init_58 : decode cX7_init 58 = .ok (.putfield 28, 3) := by decide +kernel
theorem dX7_init_61 : decode cX7_init 61 = .ok (.aload_n 0, 1) := by decide +kernel
theorem dX7_init_62 : decode cX7_init 62 = .ok (.sipush 1368, 3) := by decide +kernel
theorem dX7_init_65 : decode cX7_init 65 = .ok (.newarray .int, 2) := by decide +kernel
theorem dX7_init_67 : decode cX7_init 67 = .ok (.putfield 31, 3) := by decide +kernel
theorem dX7_init_70 : decode cX7_init 70 = .ok (.aload_n 0, 1) := by decide +kernel
theorem dX7_init_71 : decode cX7_init 71 = .ok (.bipush 12, 2) := by decide +kernel
theorem dX7_init_73 : decode cX7_init 73 = .ok (.newarray .int, 2) := by decide +kernel
theorem dX7_init_75 : decode cX7_init 75 = .ok (.putfield 34, 3) := by decide +kernel
theorem dX7_init_78 : decode cX7_init 78 = .ok (.aload_n 0, 1) := by decide +kernel
theorem dX7_init_79 : decode cX7_init 79 = .ok (.bipush 12, 2) := by decide +kernel
theorem dX7_init_81 : decode cX7_init 81 = .ok (.newarray .int, 2) := by decide +kernel
theorem dX7_init_83 : decode cX7_init 83 = .ok (.putfield 37, 3) := by decide +kernel
theorem dX7_init_86 : decode cX7_init 86 = .ok (.aload_n 0, 1) := by decide +kernel
theorem dX7_init_87 : decode cX7_init 87 = .ok (.iconst 2, 1) := by decide +kernel
theorem dX7_init_88 : decode cX7_init 88 = .ok (.newarray .boolean, 2) := by decide +kernel
theorem dX7_init_90 : decode cX7_init 90 = .ok (.putfield 40, 3) := by decide +kernel
theorem dX7_init_93 : decode cX7_init 93 = .ok (.aload_n 0, 1) := by decide +kernel
theorem dX7_init_94 : decode cX7_init 94 = .ok (.bipush 114, 2) := by decide +kernel
theorem dX7_init_96 : decode cX7_init 96 = .ok (.newarray .int, 2) := by decide +kernel
theorem dX7_init_98 : decode cX7_init 98 = .ok (.putfield 44, 3) := by decide +kernel
theorem dX7_init_101 : decode cX7_init 101 = .ok (.aload_n 0, 1) := by decide +kernel
theorem dX7_init_102 : decode cX7_init 102 = .ok (.bipush 16, 2) := by decide +kernel
theorem dX7_init_104 : decode cX7_init 104 = .ok (.newarray .int, 2) := by decide +kernel
theorem dX7_init_106 : decode cX7_init 106 = .ok (.putfield 47, 3) := by decide +kernel
theorem dX7_init_109 : decode cX7_init 109 = .ok (.iconst 0, 1) := by decide +kernel
theorem dX7_init_110 : decode cX7_init 110 = .ok (.istore_n 1, 1) := by decide +kernel
theorem dX7_init_111 : decode cX7_init 111 = .ok (.iload_n 1, 1) := by decide +kernel
theorem dX7_init_112 : decode cX7_init 112 = .ok (.bipush 8, 2) := by decide +kernel
theorem dX7_init_114 : decode cX7_init 114 = .ok (.if_icmp .ge 16, 3) := by decide +kernel
theorem dX7_init_117 : decode cX7_init 117 = .ok (.aload_n 0, 1) := by decide +kernel
theorem dX7_init_118 : decode cX7_init 118 = .ok (.getfield 13, 3) := by decide +kernel
theorem dX7_init_121 : decode cX7_init 121 = .ok (.iload_n 1, 1) := by decide +kernel
theorem dX7_init_122 : decode cX7_init 122 = .ok (.iconst (-1), 1) := by decide +kernel
theorem dX7_init_123 : decode cX7_init 123 = .ok (.iastore, 1) := by decide +kernel
theorem dX7_init_124 : decode cX7_init 124 = .ok (.iinc 1 1, 3) := by decide +kernel
theorem dX7_init_127 : decode cX7_init 127 = .ok (.goto (-16), 3) := by decide +kernel
theorem dX7_init_130 : decode cX7_init 130 = .ok (.return_, 1) := by decide +kernel
theorem dX7_in_0 : decode cX7_in 0 = .ok (.lload_n 0, 1) := by decide +kernel
theorem dX7_in_1 : decode cX7_in 1 = .ok (.lload_n 2, 1) := by decide +kernel
theorem dX7_in_2 : decode cX7_in 2 = .ok (.lcmp, 1) := by decide +kernel
theorem dX7_in_3 : decode cX7_in 3 = .ok (.ifCond .lt 14, 3) := by decide +kernel
theorem dX7_in_6 : decode cX7_in 6 = .ok (.lload_n 0, 1) := by decide +kernel
theorem dX7_in_7 : decode cX7_in 7 = .ok (.lload 4, 2) := by decide +kernel
theorem dX7_in_9 : decode cX7_in 9 = .ok (.lcmp, 1) := by decide +kernel
theorem dX7_in_10 : decode cX7_in 10 = .ok (.ifCond .gt 7, 3) := by decide +kernel
theorem dX7_in_13 : decode cX7_in 13 = .ok (.iconst 1, 1) := by decide +kernel
theorem dX7_in_14 : decode cX7_in 14 = .ok (.goto 4, 3) := by decide +kernel
theorem dX7_in_17 : decode cX7_in 17 = .ok (.iconst 0, 1) := by decide +kernel
theorem dX7_in_18 : decode cX7_in 18 = .ok (.ireturn, 1) := by decide +kernel
theorem dX7_has_0 : decode cX7_has 0 = .ok (.iload_n 0, 1) := by decide +kernel
theorem dX7_has_1 : decode cX7_has 1 = .ok (.iload_n 1, 1) := by decide +kernel
theorem dX7_has_2 : decode cX7_has 2 = .ok (.ishr, 1) := by decide +kernel
theorem dX7_has_3 : decode cX7_has 3 = .ok (.iconst 1, 1) := by decide +kernel
theorem dX7_has_4 : decode cX7_has 4 = .ok (.iand, 1) := by decide +kernel
theorem dX7_has_5 : decode cX7_has 5 = .ok (.iconst 1, 1) := by decide +kernel
theorem dX7_has_6 : decode cX7_has 6 = .ok (.if_icmp .ne 7, 3) := by decide +kernel
theorem dX7_has_9 : decode cX7_has 9 = .ok (.iconst 1, 1) := by decide +kernel
theorem dX7_has_10 : decode cX7_has 10 = .ok (.goto 4, 3) := by decide +kernel
theorem dX7_has_13 : decode cX7_has 13 = .ok (.iconst 0, 1) := by decide +kernel
theorem dX7_has_14 : decode cX7_has 14 = .ok (.ireturn, 1) := by decide +kernel
theorem dX7_ones_0 : decode cX7_ones 0 = .ok (.iconst 0, 1) := by decide +kernel
theorem dX7_ones_1 : decode cX7_ones 1 = .ok (.istore_n 1, 1) := by decide +kernel
theorem dX7_ones_2 : decode cX7_ones 2 = .ok (.iload_n 0, 1) := by decide +kernel
theorem dX7_ones_3 : decode cX7_ones 3 = .ok (.istore_n 2, 1) := by decide +kernel
theorem dX7_ones_4 : decode cX7_ones 4 = .ok (.iload_n 2, 1) := by decide +kernel
theorem dX7_ones_5 : decode cX7_ones 5 = .ok (.ifCond .eq 15, 3) := by decide +kernel
theorem dX7_ones_8 : decode cX7_ones 8 = .ok (.iinc 1 1, 3) := by decide +kernel
theorem dX7_ones_11 : decode cX7_ones 11 = .ok (.iload_n 2, 1) := by decide +kernel
theorem dX7_ones_12 : decode cX7_ones 12 = .ok (.iload_n 2, 1) := by decide +kernel
theorem dX7_ones_13 : decode cX7_ones 13 = .ok (.iconst 1, 1) := by decide +kernel
theorem dX7_ones_14 : decode cX7_ones 14 = .ok (.isub, 1) := by decide +kernel
theorem dX7_ones_15 : decode cX7_ones 15 = .ok (.iand, 1) := by decide +kernel
theorem dX7_ones_16 : decode cX7_ones 16 = .ok (.istore_n 2, 1) := by decide +kernel
theorem dX7_ones_17 : decode cX7_ones 17 = .ok (.goto (-13), 3) := by decide +kernel
theorem dX7_ones_20 : decode cX7_ones 20 = .ok (.iload_n 1, 1) := by decide +kernel
theorem dX7_ones_21 : decode cX7_ones 21 = .ok (.ireturn, 1) := by decide +kernel
theorem dX7_find_0 : decode cX7_find 0 = .ok (.aload_n 0, 1) := by decide +kernel
theorem dX7_find_1 : decode cX7_find 1 = .ok (.iload_n 1, 1) := by decide +kernel
theorem dX7_find_2 : decode cX7_find 2 = .ok (.putfield 50, 3) := by decide +kernel
theorem dX7_find_5 : decode cX7_find 5 = .ok (.ldc 54, 2) := by decide +kernel
theorem dX7_find_7 : decode cX7_find 7 = .ok (.iload_n 1, 1) := by decide +kernel
theorem dX7_find_8 : decode cX7_find 8 = .ok (.isub, 1) := by decide +kernel
theorem dX7_find_9 : decode cX7_find 9 = .ok (.ireturn, 1) := by decide +kernel
theorem dX7_well_0 : decode cX7_well 0 = .ok (.aload_n 0, 1) := by decide +kernel
theorem dX7_well_1 : decode cX7_well 1 = .ok (.iconst 0, 1) := by decide +kernel
theorem dX7_well_2 : decode cX7_well 2 = .ok (.putfield 50, 3) := by decide +kernel
theorem dX7_well_5 : decode cX7_well 5 = .ok (.iload_n 1, 1) := by decide +kernel
theorem dX7_well_6 : decode cX7_well 6 = .ok (.ireturn, 1) := by decide +kernel
theorem dX7_isRow_0 : decode cX7_isRow 0 = .ok (.iload_n 0, 1) := by decide +kernel
theorem dX7_isRow_1 : decode cX7_isRow 1 = .ok (.i2l, 1) := by decide +kernel
theorem dX7_isRow_2 : decode cX7_isRow 2 = .ok (.lconst 0, 1) := by decide +kernel
theorem dX7_isRow_3 : decode cX7_isRow 3 = .ok (.ldc2_w 55, 3) := by decide +kernel
theorem dX7_isRow_6 : decode cX7_isRow 6 = .ok (.invokestatic 57, 3) := by decide +kernel
theorem dX7_isRow_9 : decode cX7_isRow 9 = .ok (.ireturn, 1) := by decide +kernel
theorem dX7_row_0 : decode cX7_row 0 = .ok (.iload_n 1, 1) := by decide +kernel
theorem dX7_row_1 : decode cX7_row 1 = .ok (.invokestatic 61, 3) := by decide +kernel
theorem dX7_row_4 : decode cX7_row 4 = .ok (.ifCond .eq 21, 3) := by decide +kernel
theorem dX7_row_7 : decode cX7_row 7 = .ok (.iload_n 2, 1) := by decide +kernel
theorem dX7_row_8 : decode cX7_row 8 = .ok (.i2l, 1) := by decide +kernel
theorem dX7_row_9 : decode cX7_row 9 = .ok (.lconst 0, 1) := by decide +kernel
theorem dX7_row_10 : decode cX7_row 10 = .ok (.ldc2_w 65, 3) := by decide +kernel
theorem dX7_row_13 : decode cX7_row 13 = .ok (.invokestatic 57, 3) := by decide +kernel
theorem dX7_row_16 : decode cX7_row 16 = .ok (.ifCond .eq 9, 3) := by decide +kernel
theorem dX7_row_19 : decode cX7_row 19 = .ok (.iload_n 3, 1) := by decide +kernel
theorem dX7_row_20 : decode cX7_row 20 = .ok (.bipush 40, 2) := by decide +kernel
theorem dX7_row_22 : decode cX7_row 22 = .ok (.if_icmp .le 6, 3) := by decide +kernel
theorem dX7_row_25 : decode cX7_row 25 = .ok (.ldc 67, 2) := by decide +kernel
theorem dX7_row_27 : decode cX7_row 27 = .ok (.ireturn, 1) := by decide +kernel
theorem dX7_row_28 : decode cX7_row 28 = .ok (.iload_n 3, 1) := by decide +kernel
theorem dX7_row_29 : decode cX7_row 29 = .ok (.ifCond .ge 9, 3) := by decide +kernel
theorem dX7_row_32 : decode cX7_row 32 = .ok (.aload_n 0, 1) := by decide +kernel
theorem dX7_row_33 : decode cX7_row 33 = .ok (.iconst 4, 1) := by decide +kernel
theorem dX7_row_34 : decode cX7_row 34 = .ok (.invokevirtual 68, 3) := by decide +kernel
theorem dX7_row_37 : decode cX7_row 37 = .ok (.ireturn, 1) := by decide +kernel
theorem dX7_row_38 : decode cX7_row 38 = .ok (.aload_n 0, 1) := by decide +kernel
theorem dX7_row_39 : decode cX7_row 39 = .ok (.getfield 7, 3) := by decide +kernel
theorem dX7_row_42 : decode cX7_row 42 = .ok (.iload_n 1, 1) := by decide +kernel
theorem dX7_row_43 : decode cX7_row 43 = .ok (.iload_n 2, 1) := by decide +kernel
theorem dX7_row_44 : decode cX7_row 44 = .ok (.iastore, 1) := by decide +kernel
theorem dX7_row_45 : decode cX7_row 45 = .ok (.aload_n 0, 1) := by decide +kernel
theorem dX7_row_46 : decode cX7_row 46 = .ok (.getfield 13, 3) := by decide +kernel
theorem dX7_row_49 : decode cX7_row 49 = .ok (.iload_n 1, 1) := by decide +kernel
theorem dX7_row_50 : decode cX7_row 50 = .ok (.iload_n 3, 1) := by decide +kernel
theorem dX7_row_51 : decode cX7_row 51 = .ok (.iastore, 1) := by decide +kernel
theorem dX7_row_52 : decode cX7_row 52 = .ok (.iconst 0, 1) := by decide +kernel
theorem dX7_row_53 : decode cX7_row 53 = .ok (.istore 4, 2) := by decide +kernel
theorem dX7_row_55 : decode cX7_row 55 = .ok (.iload 4, 2) := by decide +kernel
theorem dX7_row_57 : decode cX7_row 57 = .ok (.bipush 40, 2) := by decide +kernel
theorem dX7_row_59 : decode cX7_row 59 = .ok (.if_icmp .ge 22, 3) := by decide +kernel
theorem dX7_row_62 : decode cX7_row 62 = .ok (.aload_n 0, 1) := by decide +kernel
theorem dX7_row_63 : decode cX7_row 63 = .ok (.getfield 16, 3) := by decide +kernel
theorem dX7_row_66 : decode cX7_row 66 = .ok (.bipush 40, 2) := by decide +kernel
theorem dX7_row_68 : decode cX7_row 68 = .ok (.iload_n 1, 1) := by decide +kernel
theorem dX7_row_69 : decode cX7_row 69 = .ok (.imul, 1) := by decide +kernel
theorem dX7_row_70 : decode cX7_row 70 = .ok (.iload 4, 2) := by decide +kernel
theorem dX7_row_72 : decode cX7_row 72 = .ok (.iadd, 1) := by decide +kernel
theorem dX7_row_73 : decode cX7_row 73 = .ok (.iconst 0, 1) := by decide +kernel
theorem dX7_row_74 : decode cX7_row 74 = .ok (.iastore, 1) := by decide +kernel
theorem dX7_row_75 : decode cX7_row 75 = .ok (.iinc 4 1, 3) := by decide +kernel
theorem dX7_row_78 : decode cX7_row 78 = .ok (.goto (-23), 3) := by decide +kernel
theorem dX7_row_81 : decode cX7_row 81 = .ok (.aload_n 0, 1) := by decide +kernel
theorem dX7_row_82 : decode cX7_row 82 = .ok (.iload_n 3, 1) := by decide +kernel
theorem dX7_row_83 : decode cX7_row 83 = .ok (.invokevirtual 72, 3) := by decide +kernel
theorem dX7_row_86 : decode cX7_row 86 = .ok (.ireturn, 1) := by decide +kernel
theorem dX7_asLane_0 : decode cX7_asLane 0 = .ok (.iload_n 0, 1) := by decide +kernel
theorem dX7_asLane_1 : decode cX7_asLane 1 = .ok (.ifCond .ne 13, 3) := by decide +kernel
theorem dX7_asLane_4 : decode cX7_asLane 4 = .ok (.iload_n 1, 1) := by decide +kernel
theorem dX7_asLane_5 : decode cX7_asLane 5 = .ok (.bipush 24, 2) := by decide +kernel
theorem dX7_asLane_7 : decode cX7_asLane 7 = .ok (.ishl, 1) := by decide +kernel
theorem dX7_asLane_8 : decode cX7_asLane 8 = .ok (.bipush 24, 2) := by decide +kernel
theorem dX7_asLane_10 : decode cX7_asLane 10 = .ok (.ishr, 1) := by decide +kernel
theorem dX7_asLane_11 : decode cX7_asLane 11 = .ok (.goto 19, 3) := by decide +kernel
theorem dX7_asLane_14 : decode cX7_asLane 14 = .ok (.iload_n 0, 1) := by decide +kernel
theorem dX7_asLane_15 : decode cX7_asLane 15 = .ok (.iconst 1, 1) := by decide +kernel
theorem dX7_asLane_16 : decode cX7_asLane 16 = .ok (.if_icmp .ne 13, 3) := by decide +kernel
theorem dX7_asLane_19 : decode cX7_asLane 19 = .ok (.iload_n 1, 1) := by decide +kernel
theorem dX7_asLane_20 : decode cX7_asLane 20 = .ok (.bipush 16, 2) := by decide +kernel
theorem dX7_asLane_22 : decode cX7_asLane 22 = .ok (.ishl, 1) := by decide +kernel
theorem dX7_asLane_23 : decode cX7_asLane 23 = .ok (.bipush 16, 2) := by decide +kernel
theorem dX7_asLane_25 : decode cX7_asLane 25 = .ok (.ishr, 1) := by decide +kernel
theorem dX7_asLane_26 : decode cX7_asLane 26 = .ok (.goto 4, 3) := by decide +kernel
theorem dX7_asLane_29 : decode cX7_asLane 29 = .ok (.iload_n 1, 1) := by decide +kernel
theorem dX7_asLane_30 : decode cX7_asLane 30 = .ok (.ireturn, 1) := by decide +kernel
theorem dX7_set_0 : decode cX7_set 0 = .ok (.iload_n 1, 1) := by decide +kernel
theorem dX7_set_1 : decode cX7_set 1 = .ok (.invokestatic 61, 3) := by decide +kernel
theorem dX7_set_4 : decode cX7_set 4 = .ok (.ifCond .ne 6, 3) := by decide +kernel
theorem dX7_set_7 : decode cX7_set 7 = .ok (.ldc 67, 2) := by decide +kernel
theorem dX7_set_9 : decode cX7_set 9 = .ok (.ireturn, 1) := by decide +kernel
theorem dX7_set_10 : decode cX7_set 10 = .ok (.aload_n 0, 1) := by decide +kernel
theorem dX7_set_11 : decode cX7_set 11 = .ok (.getfield 13, 3) := by decide +kernel
theorem dX7_set_14 : decode cX7_set 14 = .ok (.iload_n 1, 1) := by decide +kernel
theorem dX7_set_15 : decode cX7_set 15 = .ok (.iaload, 1) := by decide +kernel
theorem dX7_set_16 : decode cX7_set 16 = .ok (.ifCond .ge 9, 3) := by decide +kernel
theorem dX7_set_19 : decode cX7_set 19 = .ok (.aload_n 0, 1) := by decide +kernel
theorem dX7_set_20 : decode cX7_set 20 = .ok (.iconst 1, 1) := by decide +kernel
theorem dX7_set_21 : decode cX7_set 21 = .ok (.invokevirtual 68, 3) := by decide +kernel
theorem dX7_set_24 : decode cX7_set 24 = .ok (.ireturn, 1) := by decide +kernel
theorem dX7_set_25 : decode cX7_set 25 = .ok (.iload_n 2, 1) := by decide +kernel
theorem dX7_set_26 : decode cX7_set 26 = .ok (.i2l, 1) := by decide +kernel
theorem dX7_set_27 : decode cX7_set 27 = .ok (.lconst 0, 1) := by decide +kernel
theorem dX7_set_28 : decode cX7_set 28 = .ok (.aload_n 0, 1) := by decide +kernel
theorem dX7_set_29 : decode cX7_set 29 = .ok (.getfield 13, 3) := by decide +kernel
theorem dX7_set_32 : decode cX7_set 32 = .ok (.iload_n 1, 1) := by decide +kernel
theorem dX7_set_33 : decode cX7_set 33 = .ok (.iaload, 1) := by decide +kernel
theorem dX7_set_34 : decode cX7_set 34 = .ok (.iconst 1, 1) := by decide +kernel
theorem dX7_set_35 : decode cX7_set 35 = .ok (.isub, 1) := by decide +kernel
theorem dX7_set_36 : decode cX7_set 36 = .ok (.i2l, 1) := by decide +kernel
theorem dX7_set_37 : decode cX7_set 37 = .ok (.invokestatic 57, 3) := by decide +kernel
theorem dX7_set_40 : decode cX7_set 40 = .ok (.ifCond .ne 9, 3) := by decide +kernel
theorem dX7_set_43 : decode cX7_set 43 = .ok (.aload_n 0, 1) := by decide +kernel
theorem dX7_set_44 : decode cX7_set 44 = .ok (.iconst 2, 1) := by decide +kernel
theorem dX7_set_45 : decode cX7_set 45 = .ok (.invokevirtual 68, 3) := by decide +kernel
theorem dX7_set_48 : decode cX7_set 48 = .ok (.ireturn, 1) := by decide +kernel
theorem dX7_set_49 : decode cX7_set 49 = .ok (.aload_n 0, 1) := by decide +kernel
theorem dX7_set_50 : decode cX7_set 50 = .ok (.getfield 16, 3) := by decide +kernel
theorem dX7_set_53 : decode cX7_set 53 = .ok (.bipush 40, 2) := by decide +kernel
theorem dX7_set_55 : decode cX7_set 55 = .ok (.iload_n 1, 1) := by decide +kernel
theorem dX7_set_56 : decode cX7_set 56 = .ok (.imul, 1) := by decide +kernel
theorem dX7_set_57 : decode cX7_set 57 = .ok (.iload_n 2, 1) := by decide +kernel
theorem dX7_set_58 : decode cX7_set 58 = .ok (.iadd, 1) := by decide +kernel
theorem dX7_set_59 : decode cX7_set 59 = .ok (.aload_n 0, 1) := by decide +kernel
theorem dX7_set_60 : decode cX7_set 60 = .ok (.getfield 7, 3) := by decide +kernel
theorem dX7_set_63 : decode cX7_set 63 = .ok (.iload_n 1, 1) := by decide +kernel
theorem dX7_set_64 : decode cX7_set 64 = .ok (.iaload, 1) := by decide +kernel
theorem dX7_set_65 : decode cX7_set 65 = .ok (.iload_n 3, 1) := by decide +kernel
theorem dX7_set_66 : decode cX7_set 66 = .ok (.invokestatic 75, 3) := by decide +kernel
theorem dX7_set_69 : decode cX7_set 69 = .ok (.iastore, 1) := by decide +kernel
theorem dX7_set_70 : decode cX7_set 70 = .ok (.aload_n 0, 1) := by decide +kernel
theorem dX7_set_71 : decode cX7_set 71 = .ok (.aload_n 0, 1) := by decide +kernel
theorem dX7_set_72 : decode cX7_set 72 = .ok (.getfield 16, 3) := by decide +kernel
theorem dX7_set_75 : decode cX7_set 75 = .ok (.bipush 40, 2) := by decide +kernel
theorem dX7_set_77 : decode cX7_set 77 = .ok (.iload_n 1, 1) := by decide +kernel
theorem dX7_set_78 : decode cX7_set 78 = .ok (.imul, 1) := by decide +kernel
theorem dX7_set_79 : decode cX7_set 79 = .ok (.iload_n 2, 1) := by decide +kernel
theorem dX7_set_80 : decode cX7_set 80 = .ok (.iadd, 1) := by decide +kernel
theorem dX7_set_81 : decode cX7_set 81 = .ok (.iaload, 1) := by decide +kernel
theorem dX7_set_82 : decode cX7_set 82 = .ok (.invokevirtual 72, 3) := by decide +kernel
theorem dX7_set_85 : decode cX7_set 85 = .ok (.ireturn, 1) := by decide +kernel
theorem dX7_copy_0 : decode cX7_copy 0 = .ok (.iload_n 1, 1) := by decide +kernel
theorem dX7_copy_1 : decode cX7_copy 1 = .ok (.invokestatic 61, 3) := by decide +kernel
theorem dX7_copy_4 : decode cX7_copy 4 = .ok (.ifCond .eq 10, 3) := by decide +kernel
theorem dX7_copy_7 : decode cX7_copy 7 = .ok (.iload_n 3, 1) := by decide +kernel
theorem dX7_copy_8 : decode cX7_copy 8 = .ok (.invokestatic 61, 3) := by decide +kernel
theorem dX7_copy_11 : decode cX7_copy 11 = .ok (.ifCond .ne 6, 3) := by decide +kernel
theorem dX7_copy_14 : decode cX7_copy 14 = .ok (.ldc 67, 2) := by decide +kernel
theorem dX7_copy_16 : decode cX7_copy 16 = .ok (.ireturn, 1) := by decide +kernel
theorem dX7_copy_17 : decode cX7_copy 17 = .ok (.aload_n 0, 1) := by decide +kernel
theorem dX7_copy_18 : decode cX7_copy 18 = .ok (.getfield 13, 3) := by decide +kernel
theorem dX7_copy_21 : decode cX7_copy 21 = .ok (.iload_n 1, 1) := by decide +kernel
theorem dX7_copy_22 : decode cX7_copy 22 = .ok (.iaload, 1) := by decide +kernel
theorem dX7_copy_23 : decode cX7_copy 23 = .ok (.ifCond .lt 12, 3) := by decide +kernel
theorem dX7_copy_26 : decode cX7_copy 26 = .ok (.aload_n 0, 1) := by decide +kernel
theorem dX7_copy_27 : decode cX7_copy 27 = .ok (.getfield 13, 3) := by decide +kernel
theorem dX7_copy_30 : decode cX7_copy 30 = .ok (.iload_n 3, 1) := by decide +kernel
theorem dX7_copy_31 : decode cX7_copy 31 = .ok (.iaload, 1) := by decide +kernel
theorem dX7_copy_32 : decode cX7_copy 32 = .ok (.ifCond .ge 9, 3) := by decide +kernel
theorem dX7_copy_35 : decode cX7_copy 35 = .ok (.aload_n 0, 1) := by decide +kernel
theorem dX7_copy_36 : decode cX7_copy 36 = .ok (.iconst 1, 1) := by decide +kernel
theorem dX7_copy_37 : decode cX7_copy 37 = .ok (.invokevirtual 68, 3) := by decide +kernel
theorem dX7_copy_40 : decode cX7_copy 40 = .ok (.ireturn, 1) := by decide +kernel
theorem dX7_copy_41 : decode cX7_copy 41 = .ok (.aload_n 0, 1) := by decide +kernel
theorem dX7_copy_42 : decode cX7_copy 42 = .ok (.getfield 7, 3) := by decide +kernel
theorem dX7_copy_45 : decode cX7_copy 45 = .ok (.iload_n 1, 1) := by decide +kernel
theorem dX7_copy_46 : decode cX7_copy 46 = .ok (.iaload, 1) := by decide +kernel
theorem dX7_copy_47 : decode cX7_copy 47 = .ok (.aload_n 0, 1) := by decide +kernel
theorem dX7_copy_48 : decode cX7_copy 48 = .ok (.getfield 7, 3) := by decide +kernel
theorem dX7_copy_51 : decode cX7_copy 51 = .ok (.iload_n 3, 1) := by decide +kernel
theorem dX7_copy_52 : decode cX7_copy 52 = .ok (.iaload, 1) := by decide +kernel
theorem dX7_copy_53 : decode cX7_copy 53 = .ok (.if_icmp .eq 9, 3) := by decide +kernel
theorem dX7_copy_56 : decode cX7_copy 56 = .ok (.aload_n 0, 1) := by decide +kernel
theorem dX7_copy_57 : decode cX7_copy 57 = .ok (.iconst 5, 1) := by decide +kernel
theorem dX7_copy_58 : decode cX7_copy 58 = .ok (.invokevirtual 68, 3) := by decide +kernel
theorem dX7_copy_61 : decode cX7_copy 61 = .ok (.ireturn, 1) := by decide +kernel
theorem dX7_copy_62 : decode cX7_copy 62 = .ok (.iload 5, 2) := by decide +kernel
theorem dX7_copy_64 : decode cX7_copy 64 = .ok (.ifCond .lt 44, 3) := by decide +kernel
theorem dX7_copy_67 : decode cX7_copy 67 = .ok (.iload_n 2, 1) := by decide +kernel
theorem dX7_copy_68 : decode cX7_copy 68 = .ok (.i2l, 1) := by decide +kernel
theorem dX7_copy_69 : decode cX7_copy 69 = .ok (.lconst 0, 1) := by decide +kernel
theorem dX7_copy_70 : decode cX7_copy 70 = .ok (.aload_n 0, 1) := by decide +kernel
theorem dX7_copy_71 : decode cX7_copy 71 = .ok (.getfield 13, 3) := by decide +kernel
theorem dX7_copy_74 : decode cX7_copy 74 = .ok (.iload_n 1, 1) := by decide +kernel
theorem dX7_copy_75 : decode cX7_copy 75 = .ok (.iaload, 1) := by decide +kernel
theorem dX7_copy_76 : decode cX7_copy 76 = .ok (.i2l, 1) := by decide +kernel
theorem dX7_copy_77 : decode cX7_copy 77 = .ok (.iload 5, 2) := by decide +kernel
theorem dX7_copy_79 : decode cX7_copy 79 = .ok (.i2l, 1) := by decide +kernel
theorem dX7_copy_80 : decode cX7_copy 80 = .ok (.lsub, 1) := by decide +kernel
theorem dX7_copy_81 : decode cX7_copy 81 = .ok (.invokestatic 57, 3) := by decide +kernel
theorem dX7_copy_84 : decode cX7_copy 84 = .ok (.ifCond .eq 24, 3) := by decide +kernel
theorem dX7_copy_87 : decode cX7_copy 87 = .ok (.iload 4, 2) := by decide +kernel
theorem dX7_copy_89 : decode cX7_copy 89 = .ok (.i2l, 1) := by decide +kernel
theorem dX7_copy_90 : decode cX7_copy 90 = .ok (.lconst 0, 1) := by decide +kernel
theorem dX7_copy_91 : decode cX7_copy 91 = .ok (.aload_n 0, 1) := by decide +kernel
theorem dX7_copy_92 : decode cX7_copy 92 = .ok (.getfield 13, 3) := by decide +kernel
theorem dX7_copy_95 : decode cX7_copy 95 = .ok (.iload_n 3, 1) := by decide +kernel
theorem dX7_copy_96 : decode cX7_copy 96 = .ok (.iaload, 1) := by decide +kernel
theorem dX7_copy_97 : decode cX7_copy 97 = .ok (.i2l, 1) := by decide +kernel
theorem dX7_copy_98 : decode cX7_copy 98 = .ok (.iload 5, 2) := by decide +kernel
theorem dX7_copy_100 : decode cX7_copy 100 = .ok (.i2l, 1) := by decide +kernel
theorem dX7_copy_101 : decode cX7_copy 101 = .ok (.lsub, 1) := by decide +kernel
theorem dX7_copy_102 : decode cX7_copy 102 = .ok (.invokestatic 57, 3) := by decide +kernel
theorem dX7_copy_105 : decode cX7_copy 105 = .ok (.ifCond .ne 9, 3) := by decide +kernel
theorem dX7_copy_108 : decode cX7_copy 108 = .ok (.aload_n 0, 1) := by decide +kernel
theorem dX7_copy_109 : decode cX7_copy 109 = .ok (.iconst 2, 1) := by decide +kernel
theorem dX7_copy_110 : decode cX7_copy 110 = .ok (.invokevirtual 68, 3) := by decide +kernel
theorem dX7_copy_113 : decode cX7_copy 113 = .ok (.ireturn, 1) := by decide +kernel
theorem dX7_copy_114 : decode cX7_copy 114 = .ok (.iconst 0, 1) := by decide +kernel
theorem dX7_copy_115 : decode cX7_copy 115 = .ok (.istore 6, 2) := by decide +kernel
theorem dX7_copy_117 : decode cX7_copy 117 = .ok (.iload 6, 2) := by decide +kernel
theorem dX7_copy_119 : decode cX7_copy 119 = .ok (.iload 5, 2) := by decide +kernel
theorem dX7_copy_121 : decode cX7_copy 121 = .ok (.if_icmp .ge 30, 3) := by decide +kernel
theorem dX7_copy_124 : decode cX7_copy 124 = .ok (.aload_n 0, 1) := by decide +kernel
theorem dX7_copy_125 : decode cX7_copy 125 = .ok (.getfield 22, 3) := by decide +kernel
theorem dX7_copy_128 : decode cX7_copy 128 = .ok (.iload 6, 2) := by decide +kernel
theorem dX7_copy_130 : decode cX7_copy 130 = .ok (.aload_n 0, 1) := by decide +kernel
theorem dX7_copy_131 : decode cX7_copy 131 = .ok (.getfield 16, 3) := by decide +kernel
theorem dX7_copy_134 : decode cX7_copy 134 = .ok (.bipush 40, 2) := by decide +kernel
theorem dX7_copy_136 : decode cX7_copy 136 = .ok (.iload_n 1, 1) := by decide +kernel
theorem dX7_copy_137 : decode cX7_copy 137 = .ok (.imul, 1) := by decide +kernel
theorem dX7_copy_138 : decode cX7_copy 138 = .ok (.iload_n 2, 1) := by decide +kernel
theorem dX7_copy_139 : decode cX7_copy 139 = .ok (.iadd, 1) := by decide +kernel
theorem dX7_copy_140 : decode cX7_copy 140 = .ok (.iload 6, 2) := by decide +kernel
theorem dX7_copy_142 : decode cX7_copy 142 = .ok (.iadd, 1) := by decide +kernel
theorem dX7_copy_143 : decode cX7_copy 143 = .ok (.iaload, 1) := by decide +kernel
theorem dX7_copy_144 : decode cX7_copy 144 = .ok (.iastore, 1) := by decide +kernel
theorem dX7_copy_145 : decode cX7_copy 145 = .ok (.iinc 6 1, 3) := by decide +kernel
theorem dX7_copy_148 : decode cX7_copy 148 = .ok (.goto (-31), 3) := by decide +kernel
theorem dX7_copy_151 : decode cX7_copy 151 = .ok (.iconst 0, 1) := by decide +kernel
theorem dX7_copy_152 : decode cX7_copy 152 = .ok (.istore 6, 2) := by decide +kernel
theorem dX7_copy_154 : decode cX7_copy 154 = .ok (.iload 6, 2) := by decide +kernel
theorem dX7_copy_156 : decode cX7_copy 156 = .ok (.iload 5, 2) := by decide +kernel
theorem dX7_copy_158 : decode cX7_copy 158 = .ok (.if_icmp .ge 31, 3) := by decide +kernel
theorem dX7_copy_161 : decode cX7_copy 161 = .ok (.aload_n 0, 1) := by decide +kernel
theorem dX7_copy_162 : decode cX7_copy 162 = .ok (.getfield 16, 3) := by decide +kernel
theorem dX7_copy_165 : decode cX7_copy 165 = .ok (.bipush 40, 2) := by decide +kernel
theorem dX7_copy_167 : decode cX7_copy 167 = .ok (.iload_n 3, 1) := by decide +kernel
theorem dX7_copy_168 : decode cX7_copy 168 = .ok (.imul, 1) := by decide +kernel
theorem dX7_copy_169 : decode cX7_copy 169 = .ok (.iload 4, 2) := by decide +kernel
theorem dX7_copy_171 : decode cX7_copy 171 = .ok (.iadd, 1) := by decide +kernel
theorem dX7_copy_172 : decode cX7_copy 172 = .ok (.iload 6, 2) := by decide +kernel
theorem dX7_copy_174 : decode cX7_copy 174 = .ok (.iadd, 1) := by decide +kernel
theorem dX7_copy_175 : decode cX7_copy 175 = .ok (.aload_n 0, 1) := by decide +kernel
theorem dX7_copy_176 : decode cX7_copy 176 = .ok (.getfield 22, 3) := by decide +kernel
theorem dX7_copy_179 : decode cX7_copy 179 = .ok (.iload 6, 2) := by decide +kernel
theorem dX7_copy_181 : decode cX7_copy 181 = .ok (.iaload, 1) := by decide +kernel
theorem dX7_copy_182 : decode cX7_copy 182 = .ok (.iastore, 1) := by decide +kernel
theorem dX7_copy_183 : decode cX7_copy 183 = .ok (.iinc 6 1, 3) := by decide +kernel
theorem dX7_copy_186 : decode cX7_copy 186 = .ok (.goto (-32), 3) := by decide +kernel
theorem dX7_copy_189 : decode cX7_copy 189 = .ok (.aload_n 0, 1) := by decide +kernel
theorem dX7_copy_190 : decode cX7_copy 190 = .ok (.iload 5, 2) := by decide +kernel
theorem dX7_copy_192 : decode cX7_copy 192 = .ok (.invokevirtual 72, 3) := by decide +kernel
theorem dX7_copy_195 : decode cX7_copy 195 = .ok (.ireturn, 1) := by decide +kernel
theorem dX7_drop_0 : decode cX7_drop 0 = .ok (.iload_n 1, 1) := by decide +kernel
theorem dX7_drop_1 : decode cX7_drop 1 = .ok (.invokestatic 61, 3) := by decide +kernel
theorem dX7_drop_4 : decode cX7_drop 4 = .ok (.ifCond .ne 6, 3) := by decide +kernel
theorem dX7_drop_7 : decode cX7_drop 7 = .ok (.ldc 67, 2) := by decide +kernel
theorem dX7_drop_9 : decode cX7_drop 9 = .ok (.ireturn, 1) := by decide +kernel
theorem dX7_drop_10 : decode cX7_drop 10 = .ok (.aload_n 0, 1) := by decide +kernel
theorem dX7_drop_11 : decode cX7_drop 11 = .ok (.getfield 13, 3) := by decide +kernel
theorem dX7_drop_14 : decode cX7_drop 14 = .ok (.iload_n 1, 1) := by decide +kernel
theorem dX7_drop_15 : decode cX7_drop 15 = .ok (.iaload, 1) := by decide +kernel
theorem dX7_drop_16 : decode cX7_drop 16 = .ok (.ifCond .ge 9, 3) := by decide +kernel
theorem dX7_drop_19 : decode cX7_drop 19 = .ok (.aload_n 0, 1) := by decide +kernel
theorem dX7_drop_20 : decode cX7_drop 20 = .ok (.iconst 1, 1) := by decide +kernel
theorem dX7_drop_21 : decode cX7_drop 21 = .ok (.invokevirtual 68, 3) := by decide +kernel
theorem dX7_drop_24 : decode cX7_drop 24 = .ok (.ireturn, 1) := by decide +kernel
theorem dX7_drop_25 : decode cX7_drop 25 = .ok (.aload_n 0, 1) := by decide +kernel
theorem dX7_drop_26 : decode cX7_drop 26 = .ok (.getfield 13, 3) := by decide +kernel
theorem dX7_drop_29 : decode cX7_drop 29 = .ok (.iload_n 1, 1) := by decide +kernel
theorem dX7_drop_30 : decode cX7_drop 30 = .ok (.iaload, 1) := by decide +kernel
theorem dX7_drop_31 : decode cX7_drop 31 = .ok (.istore_n 2, 1) := by decide +kernel
theorem dX7_drop_32 : decode cX7_drop 32 = .ok (.aload_n 0, 1) := by decide +kernel
theorem dX7_drop_33 : decode cX7_drop 33 = .ok (.getfield 13, 3) := by decide +kernel
theorem dX7_drop_36 : decode cX7_drop 36 = .ok (.iload_n 1, 1) := by decide +kernel
theorem dX7_drop_37 : decode cX7_drop 37 = .ok (.iconst (-1), 1) := by decide +kernel
theorem dX7_drop_38 : decode cX7_drop 38 = .ok (.iastore, 1) := by decide +kernel
theorem dX7_drop_39 : decode cX7_drop 39 = .ok (.aload_n 0, 1) := by decide +kernel
theorem dX7_drop_40 : decode cX7_drop 40 = .ok (.iload_n 2, 1) := by decide +kernel
theorem dX7_drop_41 : decode cX7_drop 41 = .ok (.invokevirtual 72, 3) := by decide +kernel
theorem dX7_drop_44 : decode cX7_drop 44 = .ok (.ireturn, 1) := by decide +kernel
theorem dX7_feed_0 : decode cX7_feed 0 = .ok (.iload_n 1, 1) := by decide +kernel
theorem dX7_feed_1 : decode cX7_feed 1 = .ok (.i2l, 1) := by decide +kernel
theorem dX7_feed_2 : decode cX7_feed 2 = .ok (.lconst 0, 1) := by decide +kernel
theorem dX7_feed_3 : decode cX7_feed 3 = .ok (.ldc2_w 79, 3) := by decide +kernel
theorem dX7_feed_6 : decode cX7_feed 6 = .ok (.invokestatic 57, 3) := by decide +kernel
theorem dX7_feed_9 : decode cX7_feed 9 = .ok (.ifCond .ne 6, 3) := by decide +kernel
theorem dX7_feed_12 : decode cX7_feed 12 = .ok (.ldc 67, 2) := by decide +kernel
theorem dX7_feed_14 : decode cX7_feed 14 = .ok (.ireturn, 1) := by decide +kernel
theorem dX7_feed_15 : decode cX7_feed 15 = .ok (.aload_n 0, 1) := by decide +kernel
theorem dX7_feed_16 : decode cX7_feed 16 = .ok (.getfield 81, 3) := by decide +kernel
theorem dX7_feed_19 : decode cX7_feed 19 = .ok (.bipush 120, 2) := by decide +kernel
theorem dX7_feed_21 : decode cX7_feed 21 = .ok (.if_icmp .ne 6, 3) := by decide +kernel
theorem dX7_feed_24 : decode cX7_feed 24 = .ok (.ldc 84, 2) := by decide +kernel
theorem dX7_feed_26 : decode cX7_feed 26 = .ok (.ireturn, 1) := by decide +kernel
theorem dX7_feed_27 : decode cX7_feed 27 = .ok (.aload_n 0, 1) := by decide +kernel
theorem dX7_feed_28 : decode cX7_feed 28 = .ok (.getfield 25, 3) := by decide +kernel
theorem dX7_feed_31 : decode cX7_feed 31 = .ok (.aload_n 0, 1) := by decide +kernel
theorem dX7_feed_32 : decode cX7_feed 32 = .ok (.getfield 81, 3) := by decide +kernel
theorem dX7_feed_35 : decode cX7_feed 35 = .ok (.iload_n 1, 1) := by decide +kernel
theorem dX7_feed_36 : decode cX7_feed 36 = .ok (.iastore, 1) := by decide +kernel
theorem dX7_feed_37 : decode cX7_feed 37 = .ok (.aload_n 0, 1) := by decide +kernel
theorem dX7_feed_38 : decode cX7_feed 38 = .ok (.dup, 1) := by decide +kernel
theorem dX7_feed_39 : decode cX7_feed 39 = .ok (.getfield 81, 3) := by decide +kernel
theorem dX7_feed_42 : decode cX7_feed 42 = .ok (.iconst 1, 1) := by decide +kernel
theorem dX7_feed_43 : decode cX7_feed 43 = .ok (.iadd, 1) := by decide +kernel
end
section
theorem dX7_feed_44 : decode cX7_feed 44 = .ok (.putfield 81, 3) := by decide +kernel
theorem dX7_feed_47 : decode cX7_feed 47 = .ok (.aload_n 0, 1) := by decide +kernel
theorem dX7_feed_48 : decode cX7_feed 48 = .ok (.getfield 81, 3) := by decide +kernel
theorem dX7_feed_51 : decode cX7_feed 51 = .ok (.ireturn, 1) := by decide +kernel
theorem dX7_nextToken_0 : decode cX7_nextToken 0 = .ok (.aload_n 0, 1) := by decide +kernel
theorem dX7_nextToken_1 : decode cX7_nextToken 1 = .ok (.aload_n 0, 1) := by decide +kernel
theorem dX7_nextToken_2 : decode cX7_nextToken 2 = .ok (.getfield 85, 3) := by decide +kernel
theorem dX7_nextToken_5 : decode cX7_nextToken 5 = .ok (.putfield 88, 3) := by decide +kernel
theorem dX7_nextToken_8 : decode cX7_nextToken 8 = .ok (.aload_n 0, 1) := by decide +kernel
theorem dX7_nextToken_9 : decode cX7_nextToken 9 = .ok (.aload_n 0, 1) := by decide +kernel
theorem dX7_nextToken_10 : decode cX7_nextToken 10 = .ok (.getfield 85, 3) := by decide +kernel
theorem dX7_nextToken_13 : decode cX7_nextToken 13 = .ok (.aload_n 0, 1) := by decide +kernel
theorem dX7_nextToken_14 : decode cX7_nextToken 14 = .ok (.getfield 81, 3) := by decide +kernel
theorem dX7_nextToken_17 : decode cX7_nextToken 17 = .ok (.if_icmp .ne 7, 3) := by decide +kernel
theorem dX7_nextToken_20 : decode cX7_nextToken 20 = .ok (.iconst 3, 1) := by decide +kernel
theorem dX7_nextToken_21 : decode cX7_nextToken 21 = .ok (.goto 4, 3) := by decide +kernel
theorem dX7_nextToken_24 : decode cX7_nextToken 24 = .ok (.iconst 0, 1) := by decide +kernel
theorem dX7_nextToken_25 : decode cX7_nextToken 25 = .ok (.putfield 91, 3) := by decide +kernel
theorem dX7_nextToken_28 : decode cX7_nextToken 28 = .ok (.aload_n 0, 1) := by decide +kernel
theorem dX7_nextToken_29 : decode cX7_nextToken 29 = .ok (.iconst 0, 1) := by decide +kernel
theorem dX7_nextToken_30 : decode cX7_nextToken 30 = .ok (.putfield 94, 3) := by decide +kernel
theorem dX7_nextToken_33 : decode cX7_nextToken 33 = .ok (.aload_n 0, 1) := by decide +kernel
theorem dX7_nextToken_34 : decode cX7_nextToken 34 = .ok (.getfield 85, 3) := by decide +kernel
theorem dX7_nextToken_37 : decode cX7_nextToken 37 = .ok (.aload_n 0, 1) := by decide +kernel
theorem dX7_nextToken_38 : decode cX7_nextToken 38 = .ok (.getfield 81, 3) := by decide +kernel
theorem dX7_nextToken_41 : decode cX7_nextToken 41 = .ok (.if_icmp .ge 78, 3) := by decide +kernel
theorem dX7_nextToken_44 : decode cX7_nextToken 44 = .ok (.aload_n 0, 1) := by decide +kernel
theorem dX7_nextToken_45 : decode cX7_nextToken 45 = .ok (.getfield 25, 3) := by decide +kernel
theorem dX7_nextToken_48 : decode cX7_nextToken 48 = .ok (.aload_n 0, 1) := by decide +kernel
theorem dX7_nextToken_49 : decode cX7_nextToken 49 = .ok (.getfield 85, 3) := by decide +kernel
theorem dX7_nextToken_52 : decode cX7_nextToken 52 = .ok (.iaload, 1) := by decide +kernel
theorem dX7_nextToken_53 : decode cX7_nextToken 53 = .ok (.i2l, 1) := by decide +kernel
theorem dX7_nextToken_54 : decode cX7_nextToken 54 = .ok (.ldc2_w 97, 3) := by decide +kernel
theorem dX7_nextToken_57 : decode cX7_nextToken 57 = .ok (.ldc2_w 99, 3) := by decide +kernel
theorem dX7_nextToken_60 : decode cX7_nextToken 60 = .ok (.invokestatic 57, 3) := by decide +kernel
theorem dX7_nextToken_63 : decode cX7_nextToken 63 = .ok (.ifCond .eq 56, 3) := by decide +kernel
theorem dX7_nextToken_66 : decode cX7_nextToken 66 = .ok (.aload_n 0, 1) := by decide +kernel
theorem dX7_nextToken_67 : decode cX7_nextToken 67 = .ok (.aload_n 0, 1) := by decide +kernel
theorem dX7_nextToken_68 : decode cX7_nextToken 68 = .ok (.getfield 94, 3) := by decide +kernel
theorem dX7_nextToken_71 : decode cX7_nextToken 71 = .ok (.bipush 99, 2) := by decide +kernel
theorem dX7_nextToken_73 : decode cX7_nextToken 73 = .ok (.if_icmp .le 10, 3) := by decide +kernel
theorem dX7_nextToken_76 : decode cX7_nextToken 76 = .ok (.aload_n 0, 1) := by decide +kernel
theorem dX7_nextToken_77 : decode cX7_nextToken 77 = .ok (.getfield 94, 3) := by decide +kernel
theorem dX7_nextToken_80 : decode cX7_nextToken 80 = .ok (.goto 23, 3) := by decide +kernel
theorem dX7_nextToken_83 : decode cX7_nextToken 83 = .ok (.bipush 10, 2) := by decide +kernel
theorem dX7_nextToken_85 : decode cX7_nextToken 85 = .ok (.aload_n 0, 1) := by decide +kernel
theorem dX7_nextToken_86 : decode cX7_nextToken 86 = .ok (.getfield 94, 3) := by decide +kernel
theorem dX7_nextToken_89 : decode cX7_nextToken 89 = .ok (.imul, 1) := by decide +kernel
theorem dX7_nextToken_90 : decode cX7_nextToken 90 = .ok (.aload_n 0, 1) := by decide +kernel
theorem dX7_nextToken_91 : decode cX7_nextToken 91 = .ok (.getfield 25, 3) := by decide +kernel
theorem dX7_nextToken_94 : decode cX7_nextToken 94 = .ok (.aload_n 0, 1) := by decide +kernel
theorem dX7_nextToken_95 : decode cX7_nextToken 95 = .ok (.getfield 85, 3) := by decide +kernel
theorem dX7_nextToken_98 : decode cX7_nextToken 98 = .ok (.iaload, 1) := by decide +kernel
theorem dX7_nextToken_99 : decode cX7_nextToken 99 = .ok (.iadd, 1) := by decide +kernel
theorem dX7_nextToken_100 : decode cX7_nextToken 100 = .ok (.bipush 48, 2) := by decide +kernel
theorem dX7_nextToken_102 : decode cX7_nextToken 102 = .ok (.isub, 1) := by decide +kernel
theorem dX7_nextToken_103 : decode cX7_nextToken 103 = .ok (.putfield 94, 3) := by decide +kernel
theorem dX7_nextToken_106 : decode cX7_nextToken 106 = .ok (.aload_n 0, 1) := by decide +kernel
theorem dX7_nextToken_107 : decode cX7_nextToken 107 = .ok (.dup, 1) := by decide +kernel
theorem dX7_nextToken_108 : decode cX7_nextToken 108 = .ok (.getfield 85, 3) := by decide +kernel
theorem dX7_nextToken_111 : decode cX7_nextToken 111 = .ok (.iconst 1, 1) := by decide +kernel
theorem dX7_nextToken_112 : decode cX7_nextToken 112 = .ok (.iadd, 1) := by decide +kernel
theorem dX7_nextToken_113 : decode cX7_nextToken 113 = .ok (.putfield 85, 3) := by decide +kernel
theorem dX7_nextToken_116 : decode cX7_nextToken 116 = .ok (.goto (-83), 3) := by decide +kernel
theorem dX7_nextToken_119 : decode cX7_nextToken 119 = .ok (.aload_n 0, 1) := by decide +kernel
theorem dX7_nextToken_120 : decode cX7_nextToken 120 = .ok (.getfield 85, 3) := by decide +kernel
theorem dX7_nextToken_123 : decode cX7_nextToken 123 = .ok (.aload_n 0, 1) := by decide +kernel
theorem dX7_nextToken_124 : decode cX7_nextToken 124 = .ok (.getfield 88, 3) := by decide +kernel
theorem dX7_nextToken_127 : decode cX7_nextToken 127 = .ok (.if_icmp .le 28, 3) := by decide +kernel
theorem dX7_nextToken_130 : decode cX7_nextToken 130 = .ok (.aload_n 0, 1) := by decide +kernel
theorem dX7_nextToken_131 : decode cX7_nextToken 131 = .ok (.aload_n 0, 1) := by decide +kernel
theorem dX7_nextToken_132 : decode cX7_nextToken 132 = .ok (.getfield 85, 3) := by decide +kernel
theorem dX7_nextToken_135 : decode cX7_nextToken 135 = .ok (.aload_n 0, 1) := by decide +kernel
theorem dX7_nextToken_136 : decode cX7_nextToken 136 = .ok (.getfield 88, 3) := by decide +kernel
theorem dX7_nextToken_139 : decode cX7_nextToken 139 = .ok (.isub, 1) := by decide +kernel
theorem dX7_nextToken_140 : decode cX7_nextToken 140 = .ok (.iconst 2, 1) := by decide +kernel
theorem dX7_nextToken_141 : decode cX7_nextToken 141 = .ok (.if_icmp .le 7, 3) := by decide +kernel
theorem dX7_nextToken_144 : decode cX7_nextToken 144 = .ok (.iconst 0, 1) := by decide +kernel
theorem dX7_nextToken_145 : decode cX7_nextToken 145 = .ok (.goto 4, 3) := by decide +kernel
theorem dX7_nextToken_148 : decode cX7_nextToken 148 = .ok (.iconst 2, 1) := by decide +kernel
theorem dX7_nextToken_149 : decode cX7_nextToken 149 = .ok (.putfield 91, 3) := by decide +kernel
theorem dX7_nextToken_152 : decode cX7_nextToken 152 = .ok (.goto 77, 3) := by decide +kernel
theorem dX7_nextToken_155 : decode cX7_nextToken 155 = .ok (.aload_n 0, 1) := by decide +kernel
theorem dX7_nextToken_156 : decode cX7_nextToken 156 = .ok (.getfield 91, 3) := by decide +kernel
theorem dX7_nextToken_159 : decode cX7_nextToken 159 = .ok (.ifCond .ne 70, 3) := by decide +kernel
theorem dX7_nextToken_162 : decode cX7_nextToken 162 = .ok (.aload_n 0, 1) := by decide +kernel
theorem dX7_nextToken_163 : decode cX7_nextToken 163 = .ok (.aload_n 0, 1) := by decide +kernel
theorem dX7_nextToken_164 : decode cX7_nextToken 164 = .ok (.getfield 25, 3) := by decide +kernel
theorem dX7_nextToken_167 : decode cX7_nextToken 167 = .ok (.aload_n 0, 1) := by decide +kernel
theorem dX7_nextToken_168 : decode cX7_nextToken 168 = .ok (.getfield 85, 3) := by decide +kernel
theorem dX7_nextToken_171 : decode cX7_nextToken 171 = .ok (.iaload, 1) := by decide +kernel
theorem dX7_nextToken_172 : decode cX7_nextToken 172 = .ok (.putfield 94, 3) := by decide +kernel
theorem dX7_nextToken_175 : decode cX7_nextToken 175 = .ok (.aload_n 0, 1) := by decide +kernel
theorem dX7_nextToken_176 : decode cX7_nextToken 176 = .ok (.aload_n 0, 1) := by decide +kernel
theorem dX7_nextToken_177 : decode cX7_nextToken 177 = .ok (.getfield 94, 3) := by decide +kernel
theorem dX7_nextToken_180 : decode cX7_nextToken 180 = .ok (.i2l, 1) := by decide +kernel
theorem dX7_nextToken_181 : decode cX7_nextToken 181 = .ok (.ldc2_w 101, 3) := by decide +kernel
theorem dX7_nextToken_184 : decode cX7_nextToken 184 = .ok (.ldc2_w 103, 3) := by decide +kernel
theorem dX7_nextToken_187 : decode cX7_nextToken 187 = .ok (.invokestatic 57, 3) := by decide +kernel
theorem dX7_nextToken_190 : decode cX7_nextToken 190 = .ok (.ifCond .ne 21, 3) := by decide +kernel
theorem dX7_nextToken_193 : decode cX7_nextToken 193 = .ok (.aload_n 0, 1) := by decide +kernel
theorem dX7_nextToken_194 : decode cX7_nextToken 194 = .ok (.getfield 94, 3) := by decide +kernel
theorem dX7_nextToken_197 : decode cX7_nextToken 197 = .ok (.bipush 44, 2) := by decide +kernel
theorem dX7_nextToken_199 : decode cX7_nextToken 199 = .ok (.if_icmp .eq 12, 3) := by decide +kernel
theorem dX7_nextToken_202 : decode cX7_nextToken 202 = .ok (.aload_n 0, 1) := by decide +kernel
theorem dX7_nextToken_203 : decode cX7_nextToken 203 = .ok (.getfield 94, 3) := by decide +kernel
theorem dX7_nextToken_206 : decode cX7_nextToken 206 = .ok (.bipush 59, 2) := by decide +kernel
theorem dX7_nextToken_208 : decode cX7_nextToken 208 = .ok (.if_icmp .ne 7, 3) := by decide +kernel
theorem dX7_nextToken_211 : decode cX7_nextToken 211 = .ok (.iconst 1, 1) := by decide +kernel
theorem dX7_nextToken_212 : decode cX7_nextToken 212 = .ok (.goto 4, 3) := by decide +kernel
theorem dX7_nextToken_215 : decode cX7_nextToken 215 = .ok (.iconst 0, 1) := by decide +kernel
theorem dX7_nextToken_216 : decode cX7_nextToken 216 = .ok (.putfield 91, 3) := by decide +kernel
theorem dX7_nextToken_219 : decode cX7_nextToken 219 = .ok (.aload_n 0, 1) := by decide +kernel
theorem dX7_nextToken_220 : decode cX7_nextToken 220 = .ok (.dup, 1) := by decide +kernel
theorem dX7_nextToken_221 : decode cX7_nextToken 221 = .ok (.getfield 85, 3) := by decide +kernel
theorem dX7_nextToken_224 : decode cX7_nextToken 224 = .ok (.iconst 1, 1) := by decide +kernel
theorem dX7_nextToken_225 : decode cX7_nextToken 225 = .ok (.iadd, 1) := by decide +kernel
theorem dX7_nextToken_226 : decode cX7_nextToken 226 = .ok (.putfield 85, 3) := by decide +kernel
theorem dX7_nextToken_229 : decode cX7_nextToken 229 = .ok (.return_, 1) := by decide +kernel
theorem dX7_faults_0 : decode cX7_faults 0 = .ok (.aload_n 0, 1) := by decide +kernel
theorem dX7_faults_1 : decode cX7_faults 1 = .ok (.iload_n 1, 1) := by decide +kernel
theorem dX7_faults_2 : decode cX7_faults 2 = .ok (.putfield 105, 3) := by decide +kernel
theorem dX7_faults_5 : decode cX7_faults 5 = .ok (.iconst 0, 1) := by decide +kernel
theorem dX7_faults_6 : decode cX7_faults 6 = .ok (.ireturn, 1) := by decide +kernel
theorem dX7_isLetter_0 : decode cX7_isLetter 0 = .ok (.aload_n 0, 1) := by decide +kernel
theorem dX7_isLetter_1 : decode cX7_isLetter 1 = .ok (.getfield 91, 3) := by decide +kernel
theorem dX7_isLetter_4 : decode cX7_isLetter 4 = .ok (.iconst 1, 1) := by decide +kernel
theorem dX7_isLetter_5 : decode cX7_isLetter 5 = .ok (.if_icmp .ne 15, 3) := by decide +kernel
theorem dX7_isLetter_8 : decode cX7_isLetter 8 = .ok (.aload_n 0, 1) := by decide +kernel
theorem dX7_isLetter_9 : decode cX7_isLetter 9 = .ok (.getfield 94, 3) := by decide +kernel
theorem dX7_isLetter_12 : decode cX7_isLetter 12 = .ok (.iload_n 1, 1) := by decide +kernel
theorem dX7_isLetter_13 : decode cX7_isLetter 13 = .ok (.if_icmp .ne 7, 3) := by decide +kernel
theorem dX7_isLetter_16 : decode cX7_isLetter 16 = .ok (.iconst 1, 1) := by decide +kernel
theorem dX7_isLetter_17 : decode cX7_isLetter 17 = .ok (.goto 4, 3) := by decide +kernel
theorem dX7_isLetter_20 : decode cX7_isLetter 20 = .ok (.iconst 0, 1) := by decide +kernel
theorem dX7_isLetter_21 : decode cX7_isLetter 21 = .ok (.ireturn, 1) := by decide +kernel
theorem dX7_takes_0 : decode cX7_takes 0 = .ok (.aload_n 0, 1) := by decide +kernel
theorem dX7_takes_1 : decode cX7_takes 1 = .ok (.iload_n 1, 1) := by decide +kernel
theorem dX7_takes_2 : decode cX7_takes 2 = .ok (.invokevirtual 108, 3) := by decide +kernel
theorem dX7_takes_5 : decode cX7_takes 5 = .ok (.ifCond .ne 9, 3) := by decide +kernel
theorem dX7_takes_8 : decode cX7_takes 8 = .ok (.aload_n 0, 1) := by decide +kernel
theorem dX7_takes_9 : decode cX7_takes 9 = .ok (.iconst 1, 1) := by decide +kernel
theorem dX7_takes_10 : decode cX7_takes 10 = .ok (.invokevirtual 111, 3) := by decide +kernel
theorem dX7_takes_13 : decode cX7_takes 13 = .ok (.ireturn, 1) := by decide +kernel
theorem dX7_takes_14 : decode cX7_takes 14 = .ok (.aload_n 0, 1) := by decide +kernel
theorem dX7_takes_15 : decode cX7_takes 15 = .ok (.invokevirtual 114, 3) := by decide +kernel
theorem dX7_takes_18 : decode cX7_takes 18 = .ok (.iconst 1, 1) := by decide +kernel
theorem dX7_takes_19 : decode cX7_takes 19 = .ok (.ireturn, 1) := by decide +kernel
theorem dX7_takesNumber_0 : decode cX7_takesNumber 0 = .ok (.aload_n 0, 1) := by decide +kernel
theorem dX7_takesNumber_1 : decode cX7_takesNumber 1 = .ok (.getfield 91, 3) := by decide +kernel
theorem dX7_takesNumber_4 : decode cX7_takesNumber 4 = .ok (.iconst 2, 1) := by decide +kernel
theorem dX7_takesNumber_5 : decode cX7_takesNumber 5 = .ok (.if_icmp .ne 18, 3) := by decide +kernel
theorem dX7_takesNumber_8 : decode cX7_takesNumber 8 = .ok (.aload_n 0, 1) := by decide +kernel
theorem dX7_takesNumber_9 : decode cX7_takesNumber 9 = .ok (.getfield 94, 3) := by decide +kernel
theorem dX7_takesNumber_12 : decode cX7_takesNumber 12 = .ok (.i2l, 1) := by decide +kernel
theorem dX7_takesNumber_13 : decode cX7_takesNumber 13 = .ok (.iload_n 1, 1) := by decide +kernel
theorem dX7_takesNumber_14 : decode cX7_takesNumber 14 = .ok (.i2l, 1) := by decide +kernel
theorem dX7_takesNumber_15 : decode cX7_takesNumber 15 = .ok (.iload_n 2, 1) := by decide +kernel
theorem dX7_takesNumber_16 : decode cX7_takesNumber 16 = .ok (.i2l, 1) := by decide +kernel
theorem dX7_takesNumber_17 : decode cX7_takesNumber 17 = .ok (.invokestatic 57, 3) := by decide +kernel
theorem dX7_takesNumber_20 : decode cX7_takesNumber 20 = .ok (.ifCond .ne 21, 3) := by decide +kernel
theorem dX7_takesNumber_23 : decode cX7_takesNumber 23 = .ok (.aload_n 0, 1) := by decide +kernel
theorem dX7_takesNumber_24 : decode cX7_takesNumber 24 = .ok (.aload_n 0, 1) := by decide +kernel
theorem dX7_takesNumber_25 : decode cX7_takesNumber 25 = .ok (.getfield 91, 3) := by decide +kernel
theorem dX7_takesNumber_28 : decode cX7_takesNumber 28 = .ok (.iconst 2, 1) := by decide +kernel
theorem dX7_takesNumber_29 : decode cX7_takesNumber 29 = .ok (.if_icmp .ne 7, 3) := by decide +kernel
theorem dX7_takesNumber_32 : decode cX7_takesNumber 32 = .ok (.iconst 2, 1) := by decide +kernel
theorem dX7_takesNumber_33 : decode cX7_takesNumber 33 = .ok (.goto 4, 3) := by decide +kernel
theorem dX7_takesNumber_36 : decode cX7_takesNumber 36 = .ok (.iconst 1, 1) := by decide +kernel
theorem dX7_takesNumber_37 : decode cX7_takesNumber 37 = .ok (.invokevirtual 111, 3) := by decide +kernel
theorem dX7_takesNumber_40 : decode cX7_takesNumber 40 = .ok (.ireturn, 1) := by decide +kernel
theorem dX7_takesNumber_41 : decode cX7_takesNumber 41 = .ok (.aload_n 0, 1) := by decide +kernel
theorem dX7_takesNumber_42 : decode cX7_takesNumber 42 = .ok (.getfield 28, 3) := by decide +kernel
theorem dX7_takesNumber_45 : decode cX7_takesNumber 45 = .ok (.iload_n 3, 1) := by decide +kernel
theorem dX7_takesNumber_46 : decode cX7_takesNumber 46 = .ok (.aload_n 0, 1) := by decide +kernel
theorem dX7_takesNumber_47 : decode cX7_takesNumber 47 = .ok (.getfield 94, 3) := by decide +kernel
theorem dX7_takesNumber_50 : decode cX7_takesNumber 50 = .ok (.iastore, 1) := by decide +kernel
theorem dX7_takesNumber_51 : decode cX7_takesNumber 51 = .ok (.aload_n 0, 1) := by decide +kernel
theorem dX7_takesNumber_52 : decode cX7_takesNumber 52 = .ok (.invokevirtual 114, 3) := by decide +kernel
theorem dX7_takesNumber_55 : decode cX7_takesNumber 55 = .ok (.aload_n 0, 1) := by decide +kernel
theorem dX7_takesNumber_56 : decode cX7_takesNumber 56 = .ok (.iload 4, 2) := by decide +kernel
theorem dX7_takesNumber_58 : decode cX7_takesNumber 58 = .ok (.invokevirtual 117, 3) := by decide +kernel
theorem dX7_takesNumber_61 : decode cX7_takesNumber 61 = .ok (.ireturn, 1) := by decide +kernel
theorem dX7_readPiece_0 : decode cX7_readPiece 0 = .ok (.aload_n 0, 1) := by decide +kernel
theorem dX7_readPiece_1 : decode cX7_readPiece 1 = .ok (.getfield 28, 3) := by decide +kernel
theorem dX7_readPiece_4 : decode cX7_readPiece 4 = .ok (.iconst 3, 1) := by decide +kernel
theorem dX7_readPiece_5 : decode cX7_readPiece 5 = .ok (.iaload, 1) := by decide +kernel
theorem dX7_readPiece_6 : decode cX7_readPiece 6 = .ok (.istore_n 1, 1) := by decide +kernel
theorem dX7_readPiece_7 : decode cX7_readPiece 7 = .ok (.iload_n 1, 1) := by decide +kernel
theorem dX7_readPiece_8 : decode cX7_readPiece 8 = .ok (.iconst 4, 1) := by decide +kernel
theorem dX7_readPiece_9 : decode cX7_readPiece 9 = .ok (.if_icmp .eq 12, 3) := by decide +kernel
theorem dX7_readPiece_12 : decode cX7_readPiece 12 = .ok (.aload_n 0, 1) := by decide +kernel
theorem dX7_readPiece_13 : decode cX7_readPiece 13 = .ok (.getfield 28, 3) := by decide +kernel
theorem dX7_readPiece_16 : decode cX7_readPiece 16 = .ok (.iconst 4, 1) := by decide +kernel
theorem dX7_readPiece_17 : decode cX7_readPiece 17 = .ok (.iaload, 1) := by decide +kernel
theorem dX7_readPiece_18 : decode cX7_readPiece 18 = .ok (.ifCond .le 22, 3) := by decide +kernel
theorem dX7_readPiece_21 : decode cX7_readPiece 21 = .ok (.aload_n 0, 1) := by decide +kernel
theorem dX7_readPiece_22 : decode cX7_readPiece 22 = .ok (.aload_n 0, 1) := by decide +kernel
theorem dX7_readPiece_23 : decode cX7_readPiece 23 = .ok (.getfield 28, 3) := by decide +kernel
theorem dX7_readPiece_26 : decode cX7_readPiece 26 = .ok (.iconst 4, 1) := by decide +kernel
theorem dX7_readPiece_27 : decode cX7_readPiece 27 = .ok (.iaload, 1) := by decide +kernel
theorem dX7_readPiece_28 : decode cX7_readPiece 28 = .ok (.ifCond .le 7, 3) := by decide +kernel
theorem dX7_readPiece_31 : decode cX7_readPiece 31 = .ok (.iconst 1, 1) := by decide +kernel
theorem dX7_readPiece_32 : decode cX7_readPiece 32 = .ok (.goto 4, 3) := by decide +kernel
theorem dX7_readPiece_35 : decode cX7_readPiece 35 = .ok (.iconst 3, 1) := by decide +kernel
theorem dX7_readPiece_36 : decode cX7_readPiece 36 = .ok (.invokevirtual 111, 3) := by decide +kernel
theorem dX7_readPiece_39 : decode cX7_readPiece 39 = .ok (.ireturn, 1) := by decide +kernel
theorem dX7_readPiece_40 : decode cX7_readPiece 40 = .ok (.aload_n 0, 1) := by decide +kernel
theorem dX7_readPiece_41 : decode cX7_readPiece 41 = .ok (.invokevirtual 114, 3) := by decide +kernel
theorem dX7_readPiece_44 : decode cX7_readPiece 44 = .ok (.aload_n 0, 1) := by decide +kernel
theorem dX7_readPiece_45 : decode cX7_readPiece 45 = .ok (.getfield 28, 3) := by decide +kernel
theorem dX7_readPiece_48 : decode cX7_readPiece 48 = .ok (.iconst 3, 1) := by decide +kernel
theorem dX7_readPiece_49 : decode cX7_readPiece 49 = .ok (.dup2, 1) := by decide +kernel
theorem dX7_readPiece_50 : decode cX7_readPiece 50 = .ok (.iaload, 1) := by decide +kernel
theorem dX7_readPiece_51 : decode cX7_readPiece 51 = .ok (.iconst 1, 1) := by decide +kernel
theorem dX7_readPiece_52 : decode cX7_readPiece 52 = .ok (.iadd, 1) := by decide +kernel
theorem dX7_readPiece_53 : decode cX7_readPiece 53 = .ok (.iastore, 1) := by decide +kernel
theorem dX7_readPiece_54 : decode cX7_readPiece 54 = .ok (.aload_n 0, 1) := by decide +kernel
theorem dX7_readPiece_55 : decode cX7_readPiece 55 = .ok (.getfield 91, 3) := by decide +kernel
theorem dX7_readPiece_58 : decode cX7_readPiece 58 = .ok (.iconst 1, 1) := by decide +kernel
theorem dX7_readPiece_59 : decode cX7_readPiece 59 = .ok (.if_icmp .ne 92, 3) := by decide +kernel
theorem dX7_readPiece_62 : decode cX7_readPiece 62 = .ok (.aload_n 0, 1) := by decide +kernel
theorem dX7_readPiece_63 : decode cX7_readPiece 63 = .ok (.getfield 94, 3) := by decide +kernel
theorem dX7_readPiece_66 : decode cX7_readPiece 66 = .ok (.i2l, 1) := by decide +kernel
theorem dX7_readPiece_67 : decode cX7_readPiece 67 = .ok (.ldc2_w 101, 3) := by decide +kernel
theorem dX7_readPiece_70 : decode cX7_readPiece 70 = .ok (.bipush 97, 2) := by decide +kernel
theorem dX7_readPiece_72 : decode cX7_readPiece 72 = .ok (.aload_n 0, 1) := by decide +kernel
theorem dX7_readPiece_73 : decode cX7_readPiece 73 = .ok (.getfield 28, 3) := by decide +kernel
theorem dX7_readPiece_76 : decode cX7_readPiece 76 = .ok (.iconst 0, 1) := by decide +kernel
theorem dX7_readPiece_77 : decode cX7_readPiece 77 = .ok (.iaload, 1) := by decide +kernel
theorem dX7_readPiece_78 : decode cX7_readPiece 78 = .ok (.iadd, 1) := by decide +kernel
theorem dX7_readPiece_79 : decode cX7_readPiece 79 = .ok (.iconst 1, 1) := by decide +kernel
theorem dX7_readPiece_80 : decode cX7_readPiece 80 = .ok (.isub, 1) := by decide +kernel
theorem dX7_readPiece_81 : decode cX7_readPiece 81 = .ok (.i2l, 1) := by decide +kernel
theorem dX7_readPiece_82 : decode cX7_readPiece 82 = .ok (.invokestatic 57, 3) := by decide +kernel
theorem dX7_readPiece_85 : decode cX7_readPiece 85 = .ok (.ifCond .eq 66, 3) := by decide +kernel
theorem dX7_readPiece_88 : decode cX7_readPiece 88 = .ok (.aload_n 0, 1) := by decide +kernel
theorem dX7_readPiece_89 : decode cX7_readPiece 89 = .ok (.getfield 28, 3) := by decide +kernel
theorem dX7_readPiece_92 : decode cX7_readPiece 92 = .ok (.bipush 6, 2) := by decide +kernel
theorem dX7_readPiece_94 : decode cX7_readPiece 94 = .ok (.iload_n 1, 1) := by decide +kernel
theorem dX7_readPiece_95 : decode cX7_readPiece 95 = .ok (.iadd, 1) := by decide +kernel
theorem dX7_readPiece_96 : decode cX7_readPiece 96 = .ok (.iaload, 1) := by decide +kernel
theorem dX7_readPiece_97 : decode cX7_readPiece 97 = .ok (.bipush 8, 2) := by decide +kernel
theorem dX7_readPiece_99 : decode cX7_readPiece 99 = .ok (.if_icmp .ge 52, 3) := by decide +kernel
theorem dX7_readPiece_102 : decode cX7_readPiece 102 = .ok (.aload_n 0, 1) := by decide +kernel
theorem dX7_readPiece_103 : decode cX7_readPiece 103 = .ok (.getfield 28, 3) := by decide +kernel
theorem dX7_readPiece_106 : decode cX7_readPiece 106 = .ok (.bipush 10, 2) := by decide +kernel
theorem dX7_readPiece_108 : decode cX7_readPiece 108 = .ok (.bipush 8, 2) := by decide +kernel
theorem dX7_readPiece_110 : decode cX7_readPiece 110 = .ok (.iload_n 1, 1) := by decide +kernel
theorem dX7_readPiece_111 : decode cX7_readPiece 111 = .ok (.imul, 1) := by decide +kernel
theorem dX7_readPiece_112 : decode cX7_readPiece 112 = .ok (.iadd, 1) := by decide +kernel
theorem dX7_readPiece_113 : decode cX7_readPiece 113 = .ok (.aload_n 0, 1) := by decide +kernel
theorem dX7_readPiece_114 : decode cX7_readPiece 114 = .ok (.getfield 28, 3) := by decide +kernel
theorem dX7_readPiece_117 : decode cX7_readPiece 117 = .ok (.bipush 6, 2) := by decide +kernel
theorem dX7_readPiece_119 : decode cX7_readPiece 119 = .ok (.iload_n 1, 1) := by decide +kernel
theorem dX7_readPiece_120 : decode cX7_readPiece 120 = .ok (.iadd, 1) := by decide +kernel
theorem dX7_readPiece_121 : decode cX7_readPiece 121 = .ok (.iaload, 1) := by decide +kernel
theorem dX7_readPiece_122 : decode cX7_readPiece 122 = .ok (.iadd, 1) := by decide +kernel
theorem dX7_readPiece_123 : decode cX7_readPiece 123 = .ok (.aload_n 0, 1) := by decide +kernel
theorem dX7_readPiece_124 : decode cX7_readPiece 124 = .ok (.getfield 94, 3) := by decide +kernel
theorem dX7_readPiece_127 : decode cX7_readPiece 127 = .ok (.bipush 97, 2) := by decide +kernel
theorem dX7_readPiece_129 : decode cX7_readPiece 129 = .ok (.isub, 1) := by decide +kernel
theorem dX7_readPiece_130 : decode cX7_readPiece 130 = .ok (.iastore, 1) := by decide +kernel
theorem dX7_readPiece_131 : decode cX7_readPiece 131 = .ok (.aload_n 0, 1) := by decide +kernel
theorem dX7_readPiece_132 : decode cX7_readPiece 132 = .ok (.getfield 28, 3) := by decide +kernel
theorem dX7_readPiece_135 : decode cX7_readPiece 135 = .ok (.bipush 6, 2) := by decide +kernel
theorem dX7_readPiece_137 : decode cX7_readPiece 137 = .ok (.iload_n 1, 1) := by decide +kernel
theorem dX7_readPiece_138 : decode cX7_readPiece 138 = .ok (.iadd, 1) := by decide +kernel
theorem dX7_readPiece_139 : decode cX7_readPiece 139 = .ok (.dup2, 1) := by decide +kernel
theorem dX7_readPiece_140 : decode cX7_readPiece 140 = .ok (.iaload, 1) := by decide +kernel
theorem dX7_readPiece_141 : decode cX7_readPiece 141 = .ok (.iconst 1, 1) := by decide +kernel
theorem dX7_readPiece_142 : decode cX7_readPiece 142 = .ok (.iadd, 1) := by decide +kernel
theorem dX7_readPiece_143 : decode cX7_readPiece 143 = .ok (.iastore, 1) := by decide +kernel
theorem dX7_readPiece_144 : decode cX7_readPiece 144 = .ok (.aload_n 0, 1) := by decide +kernel
theorem dX7_readPiece_145 : decode cX7_readPiece 145 = .ok (.invokevirtual 114, 3) := by decide +kernel
theorem dX7_readPiece_148 : decode cX7_readPiece 148 = .ok (.goto (-94), 3) := by decide +kernel
theorem dX7_readPiece_151 : decode cX7_readPiece 151 = .ok (.aload_n 0, 1) := by decide +kernel
theorem dX7_readPiece_152 : decode cX7_readPiece 152 = .ok (.getfield 28, 3) := by decide +kernel
theorem dX7_readPiece_155 : decode cX7_readPiece 155 = .ok (.bipush 6, 2) := by decide +kernel
theorem dX7_readPiece_157 : decode cX7_readPiece 157 = .ok (.iload_n 1, 1) := by decide +kernel
theorem dX7_readPiece_158 : decode cX7_readPiece 158 = .ok (.iadd, 1) := by decide +kernel
theorem dX7_readPiece_159 : decode cX7_readPiece 159 = .ok (.iaload, 1) := by decide +kernel
theorem dX7_readPiece_160 : decode cX7_readPiece 160 = .ok (.ifCond .le 12, 3) := by decide +kernel
theorem dX7_readPiece_163 : decode cX7_readPiece 163 = .ok (.aload_n 0, 1) := by decide +kernel
theorem dX7_readPiece_164 : decode cX7_readPiece 164 = .ok (.bipush 59, 2) := by decide +kernel
theorem dX7_readPiece_166 : decode cX7_readPiece 166 = .ok (.invokevirtual 117, 3) := by decide +kernel
theorem dX7_readPiece_169 : decode cX7_readPiece 169 = .ok (.goto 8, 3) := by decide +kernel
theorem dX7_readPiece_172 : decode cX7_readPiece 172 = .ok (.aload_n 0, 1) := by decide +kernel
theorem dX7_readPiece_173 : decode cX7_readPiece 173 = .ok (.iconst 1, 1) := by decide +kernel
theorem dX7_readPiece_174 : decode cX7_readPiece 174 = .ok (.invokevirtual 111, 3) := by decide +kernel
theorem dX7_readPiece_177 : decode cX7_readPiece 177 = .ok (.ireturn, 1) := by decide +kernel
theorem dX7_readPupil_0 : decode cX7_readPupil 0 = .ok (.aload_n 0, 1) := by decide +kernel
theorem dX7_readPupil_1 : decode cX7_readPupil 1 = .ok (.getfield 28, 3) := by decide +kernel
theorem dX7_readPupil_4 : decode cX7_readPupil 4 = .ok (.iconst 4, 1) := by decide +kernel
theorem dX7_readPupil_5 : decode cX7_readPupil 5 = .ok (.iaload, 1) := by decide +kernel
theorem dX7_readPupil_6 : decode cX7_readPupil 6 = .ok (.istore_n 2, 1) := by decide +kernel
theorem dX7_readPupil_7 : decode cX7_readPupil 7 = .ok (.iload_n 2, 1) := by decide +kernel
theorem dX7_readPupil_8 : decode cX7_readPupil 8 = .ok (.iconst 5, 1) := by decide +kernel
theorem dX7_readPupil_9 : decode cX7_readPupil 9 = .ok (.if_icmp .ne 9, 3) := by decide +kernel
theorem dX7_readPupil_12 : decode cX7_readPupil 12 = .ok (.aload_n 0, 1) := by decide +kernel
theorem dX7_readPupil_13 : decode cX7_readPupil 13 = .ok (.iconst 3, 1) := by decide +kernel
theorem dX7_readPupil_14 : decode cX7_readPupil 14 = .ok (.invokevirtual 111, 3) := by decide +kernel
theorem dX7_readPupil_17 : decode cX7_readPupil 17 = .ok (.ireturn, 1) := by decide +kernel
theorem dX7_readPupil_18 : decode cX7_readPupil 18 = .ok (.aload_n 0, 1) := by decide +kernel
theorem dX7_readPupil_19 : decode cX7_readPupil 19 = .ok (.invokevirtual 114, 3) := by decide +kernel
theorem dX7_readPupil_22 : decode cX7_readPupil 22 = .ok (.aload_n 0, 1) := by decide +kernel
theorem dX7_readPupil_23 : decode cX7_readPupil 23 = .ok (.getfield 28, 3) := by decide +kernel
theorem dX7_readPupil_26 : decode cX7_readPupil 26 = .ok (.bipush 42, 2) := by decide +kernel
theorem dX7_readPupil_28 : decode cX7_readPupil 28 = .ok (.iload_n 2, 1) := by decide +kernel
theorem dX7_readPupil_29 : decode cX7_readPupil 29 = .ok (.iadd, 1) := by decide +kernel
theorem dX7_readPupil_30 : decode cX7_readPupil 30 = .ok (.iload_n 1, 1) := by decide +kernel
theorem dX7_readPupil_31 : decode cX7_readPupil 31 = .ok (.iastore, 1) := by decide +kernel
theorem dX7_readPupil_32 : decode cX7_readPupil 32 = .ok (.aload_n 0, 1) := by decide +kernel
theorem dX7_readPupil_33 : decode cX7_readPupil 33 = .ok (.getfield 28, 3) := by decide +kernel
theorem dX7_readPupil_36 : decode cX7_readPupil 36 = .ok (.iconst 4, 1) := by decide +kernel
theorem dX7_readPupil_37 : decode cX7_readPupil 37 = .ok (.dup2, 1) := by decide +kernel
theorem dX7_readPupil_38 : decode cX7_readPupil 38 = .ok (.iaload, 1) := by decide +kernel
theorem dX7_readPupil_39 : decode cX7_readPupil 39 = .ok (.iconst 1, 1) := by decide +kernel
theorem dX7_readPupil_40 : decode cX7_readPupil 40 = .ok (.iadd, 1) := by decide +kernel
theorem dX7_readPupil_41 : decode cX7_readPupil 41 = .ok (.iastore, 1) := by decide +kernel
theorem dX7_readPupil_42 : decode cX7_readPupil 42 = .ok (.aload_n 0, 1) := by decide +kernel
theorem dX7_readPupil_43 : decode cX7_readPupil 43 = .ok (.iconst 0, 1) := by decide +kernel
theorem dX7_readPupil_44 : decode cX7_readPupil 44 = .ok (.aload_n 0, 1) := by decide +kernel
theorem dX7_readPupil_45 : decode cX7_readPupil 45 = .ok (.getfield 28, 3) := by decide +kernel
theorem dX7_readPupil_48 : decode cX7_readPupil 48 = .ok (.iconst 0, 1) := by decide +kernel
theorem dX7_readPupil_49 : decode cX7_readPupil 49 = .ok (.iaload, 1) := by decide +kernel
theorem dX7_readPupil_50 : decode cX7_readPupil 50 = .ok (.iconst 1, 1) := by decide +kernel
theorem dX7_readPupil_51 : decode cX7_readPupil 51 = .ok (.isub, 1) := by decide +kernel
theorem dX7_readPupil_52 : decode cX7_readPupil 52 = .ok (.bipush 47, 2) := by decide +kernel
theorem dX7_readPupil_54 : decode cX7_readPupil 54 = .ok (.iload_n 2, 1) := by decide +kernel
theorem dX7_readPupil_55 : decode cX7_readPupil 55 = .ok (.iadd, 1) := by decide +kernel
theorem dX7_readPupil_56 : decode cX7_readPupil 56 = .ok (.bipush 44, 2) := by decide +kernel
theorem dX7_readPupil_58 : decode cX7_readPupil 58 = .ok (.invokevirtual 120, 3) := by decide +kernel
theorem dX7_readPupil_61 : decode cX7_readPupil 61 = .ok (.ifCond .eq 23, 3) := by decide +kernel
theorem dX7_readPupil_64 : decode cX7_readPupil 64 = .ok (.aload_n 0, 1) := by decide +kernel
theorem dX7_readPupil_65 : decode cX7_readPupil 65 = .ok (.iconst 1, 1) := by decide +kernel
theorem dX7_readPupil_66 : decode cX7_readPupil 66 = .ok (.bipush 12, 2) := by decide +kernel
theorem dX7_readPupil_68 : decode cX7_readPupil 68 = .ok (.bipush 52, 2) := by decide +kernel
theorem dX7_readPupil_70 : decode cX7_readPupil 70 = .ok (.iload_n 2, 1) := by decide +kernel
theorem dX7_readPupil_71 : decode cX7_readPupil 71 = .ok (.iadd, 1) := by decide +kernel
theorem dX7_readPupil_72 : decode cX7_readPupil 72 = .ok (.bipush 59, 2) := by decide +kernel
theorem dX7_readPupil_74 : decode cX7_readPupil 74 = .ok (.invokevirtual 120, 3) := by decide +kernel
theorem dX7_readPupil_77 : decode cX7_readPupil 77 = .ok (.ifCond .eq 7, 3) := by decide +kernel
theorem dX7_readPupil_80 : decode cX7_readPupil 80 = .ok (.iconst 1, 1) := by decide +kernel
theorem dX7_readPupil_81 : decode cX7_readPupil 81 = .ok (.goto 4, 3) := by decide +kernel
theorem dX7_readPupil_84 : decode cX7_readPupil 84 = .ok (.iconst 0, 1) := by decide +kernel
theorem dX7_readPupil_85 : decode cX7_readPupil 85 = .ok (.ireturn, 1) := by decide +kernel
theorem dX7_readHall_0 : decode cX7_readHall 0 = .ok (.aload_n 0, 1) := by decide +kernel
theorem dX7_readHall_1 : decode cX7_readHall 1 = .ok (.iconst 0, 1) := by decide +kernel
theorem dX7_readHall_2 : decode cX7_readHall 2 = .ok (.putfield 85, 3) := by decide +kernel
theorem dX7_readHall_5 : decode cX7_readHall 5 = .ok (.iconst 0, 1) := by decide +kernel
theorem dX7_readHall_6 : decode cX7_readHall 6 = .ok (.istore_n 1, 1) := by decide +kernel
theorem dX7_readHall_7 : decode cX7_readHall 7 = .ok (.iload_n 1, 1) := by decide +kernel
theorem dX7_readHall_8 : decode cX7_readHall 8 = .ok (.bipush 57, 2) := by decide +kernel
theorem dX7_readHall_10 : decode cX7_readHall 10 = .ok (.if_icmp .ge 16, 3) := by decide +kernel
theorem dX7_readHall_13 : decode cX7_readHall 13 = .ok (.aload_n 0, 1) := by decide +kernel
theorem dX7_readHall_14 : decode cX7_readHall 14 = .ok (.getfield 28, 3) := by decide +kernel
theorem dX7_readHall_17 : decode cX7_readHall 17 = .ok (.iload_n 1, 1) := by decide +kernel
theorem dX7_readHall_18 : decode cX7_readHall 18 = .ok (.iconst 0, 1) := by decide +kernel
theorem dX7_readHall_19 : decode cX7_readHall 19 = .ok (.iastore, 1) := by decide +kernel
theorem dX7_readHall_20 : decode cX7_readHall 20 = .ok (.iinc 1 1, 3) := by decide +kernel
theorem dX7_readHall_23 : decode cX7_readHall 23 = .ok (.goto (-16), 3) := by decide +kernel
theorem dX7_readHall_26 : decode cX7_readHall 26 = .ok (.aload_n 0, 1) := by decide +kernel
theorem dX7_readHall_27 : decode cX7_readHall 27 = .ok (.invokevirtual 114, 3) := by decide +kernel
theorem dX7_readHall_30 : decode cX7_readHall 30 = .ok (.aload_n 0, 1) := by decide +kernel
theorem dX7_readHall_31 : decode cX7_readHall 31 = .ok (.bipush 107, 2) := by decide +kernel
theorem dX7_readHall_33 : decode cX7_readHall 33 = .ok (.invokevirtual 117, 3) := by decide +kernel
theorem dX7_readHall_36 : decode cX7_readHall 36 = .ok (.ifCond .eq 54, 3) := by decide +kernel
theorem dX7_readHall_39 : decode cX7_readHall 39 = .ok (.aload_n 0, 1) := by decide +kernel
theorem dX7_readHall_40 : decode cX7_readHall 40 = .ok (.iconst 2, 1) := by decide +kernel
theorem dX7_readHall_41 : decode cX7_readHall 41 = .ok (.bipush 12, 2) := by decide +kernel
theorem dX7_readHall_43 : decode cX7_readHall 43 = .ok (.iconst 0, 1) := by decide +kernel
theorem dX7_readHall_44 : decode cX7_readHall 44 = .ok (.bipush 44, 2) := by decide +kernel
theorem dX7_readHall_46 : decode cX7_readHall 46 = .ok (.invokevirtual 120, 3) := by decide +kernel
theorem dX7_readHall_49 : decode cX7_readHall 49 = .ok (.ifCond .eq 41, 3) := by decide +kernel
theorem dX7_readHall_52 : decode cX7_readHall 52 = .ok (.aload_n 0, 1) := by decide +kernel
theorem dX7_readHall_53 : decode cX7_readHall 53 = .ok (.iconst 0, 1) := by decide +kernel
theorem dX7_readHall_54 : decode cX7_readHall 54 = .ok (.aload_n 0, 1) := by decide +kernel
theorem dX7_readHall_55 : decode cX7_readHall 55 = .ok (.getfield 28, 3) := by decide +kernel
theorem dX7_readHall_58 : decode cX7_readHall 58 = .ok (.iconst 0, 1) := by decide +kernel
theorem dX7_readHall_59 : decode cX7_readHall 59 = .ok (.iaload, 1) := by decide +kernel
theorem dX7_readHall_60 : decode cX7_readHall 60 = .ok (.iconst 1, 1) := by decide +kernel
theorem dX7_readHall_61 : decode cX7_readHall 61 = .ok (.isub, 1) := by decide +kernel
theorem dX7_readHall_62 : decode cX7_readHall 62 = .ok (.iconst 1, 1) := by decide +kernel
theorem dX7_readHall_63 : decode cX7_readHall 63 = .ok (.bipush 44, 2) := by decide +kernel
theorem dX7_readHall_65 : decode cX7_readHall 65 = .ok (.invokevirtual 120, 3) := by decide +kernel
theorem dX7_readHall_68 : decode cX7_readHall 68 = .ok (.ifCond .eq 22, 3) := by decide +kernel
theorem dX7_readHall_71 : decode cX7_readHall 71 = .ok (.aload_n 0, 1) := by decide +kernel
theorem dX7_readHall_72 : decode cX7_readHall 72 = .ok (.iconst 0, 1) := by decide +kernel
theorem dX7_readHall_73 : decode cX7_readHall 73 = .ok (.aload_n 0, 1) := by decide +kernel
theorem dX7_readHall_74 : decode cX7_readHall 74 = .ok (.getfield 28, 3) := by decide +kernel
theorem dX7_readHall_77 : decode cX7_readHall 77 = .ok (.iconst 0, 1) := by decide +kernel
theorem dX7_readHall_78 : decode cX7_readHall 78 = .ok (.iaload, 1) := by decide +kernel
theorem dX7_readHall_79 : decode cX7_readHall 79 = .ok (.iconst 1, 1) := by decide +kernel
theorem dX7_readHall_80 : decode cX7_readHall 80 = .ok (.isub, 1) := by decide +kernel
theorem dX7_readHall_81 : decode cX7_readHall 81 = .ok (.iconst 2, 1) := by decide +kernel
theorem dX7_readHall_82 : decode cX7_readHall 82 = .ok (.bipush 59, 2) := by decide +kernel
theorem dX7_readHall_84 : decode cX7_readHall 84 = .ok (.invokevirtual 120, 3) := by decide +kernel
theorem dX7_readHall_87 : decode cX7_readHall 87 = .ok (.ifCond .ne 5, 3) := by decide +kernel
theorem dX7_readHall_90 : decode cX7_readHall 90 = .ok (.iconst 0, 1) := by decide +kernel
theorem dX7_readHall_91 : decode cX7_readHall 91 = .ok (.ireturn, 1) := by decide +kernel
theorem dX7_readHall_92 : decode cX7_readHall 92 = .ok (.iconst 1, 1) := by decide +kernel
theorem dX7_readHall_93 : decode cX7_readHall 93 = .ok (.istore_n 1, 1) := by decide +kernel
theorem dX7_readHall_94 : decode cX7_readHall 94 = .ok (.iload_n 1, 1) := by decide +kernel
theorem dX7_readHall_95 : decode cX7_readHall 95 = .ok (.ifCond .eq 115, 3) := by decide +kernel
theorem dX7_readHall_98 : decode cX7_readHall 98 = .ok (.aload_n 0, 1) := by decide +kernel
theorem dX7_readHall_99 : decode cX7_readHall 99 = .ok (.getfield 91, 3) := by decide +kernel
theorem dX7_readHall_102 : decode cX7_readHall 102 = .ok (.iconst 3, 1) := by decide +kernel
theorem dX7_readHall_103 : decode cX7_readHall 103 = .ok (.if_icmp .eq 107, 3) := by decide +kernel
theorem dX7_readHall_106 : decode cX7_readHall 106 = .ok (.aload_n 0, 1) := by decide +kernel
theorem dX7_readHall_107 : decode cX7_readHall 107 = .ok (.bipush 112, 2) := by decide +kernel
theorem dX7_readHall_109 : decode cX7_readHall 109 = .ok (.invokevirtual 108, 3) := by decide +kernel
theorem dX7_readHall_112 : decode cX7_readHall 112 = .ok (.ifCond .eq 7, 3) := by decide +kernel
theorem dX7_readHall_115 : decode cX7_readHall 115 = .ok (.iconst 1, 1) := by decide +kernel
theorem dX7_readHall_116 : decode cX7_readHall 116 = .ok (.goto 56, 3) := by decide +kernel
theorem dX7_readHall_119 : decode cX7_readHall 119 = .ok (.aload_n 0, 1) := by decide +kernel
theorem dX7_readHall_120 : decode cX7_readHall 120 = .ok (.bipush 118, 2) := by decide +kernel
theorem dX7_readHall_122 : decode cX7_readHall 122 = .ok (.invokevirtual 108, 3) := by decide +kernel
theorem dX7_readHall_125 : decode cX7_readHall 125 = .ok (.ifCond .eq 7, 3) := by decide +kernel
theorem dX7_readHall_128 : decode cX7_readHall 128 = .ok (.iconst 2, 1) := by decide +kernel
theorem dX7_readHall_129 : decode cX7_readHall 129 = .ok (.goto 43, 3) := by decide +kernel
theorem dX7_readHall_132 : decode cX7_readHall 132 = .ok (.aload_n 0, 1) := by decide +kernel
theorem dX7_readHall_133 : decode cX7_readHall 133 = .ok (.bipush 115, 2) := by decide +kernel
theorem dX7_readHall_135 : decode cX7_readHall 135 = .ok (.invokevirtual 108, 3) := by decide +kernel
theorem dX7_readHall_138 : decode cX7_readHall 138 = .ok (.ifCond .eq 7, 3) := by decide +kernel
theorem dX7_readHall_141 : decode cX7_readHall 141 = .ok (.iconst 3, 1) := by decide +kernel
theorem dX7_readHall_142 : decode cX7_readHall 142 = .ok (.goto 30, 3) := by decide +kernel
theorem dX7_readHall_145 : decode cX7_readHall 145 = .ok (.aload_n 0, 1) := by decide +kernel
theorem dX7_readHall_146 : decode cX7_readHall 146 = .ok (.bipush 99, 2) := by decide +kernel
theorem dX7_readHall_148 : decode cX7_readHall 148 = .ok (.invokevirtual 108, 3) := by decide +kernel
theorem dX7_readHall_151 : decode cX7_readHall 151 = .ok (.ifCond .eq 7, 3) := by decide +kernel
theorem dX7_readHall_154 : decode cX7_readHall 154 = .ok (.iconst 4, 1) := by decide +kernel
theorem dX7_readHall_155 : decode cX7_readHall 155 = .ok (.goto 17, 3) := by decide +kernel
theorem dX7_readHall_158 : decode cX7_readHall 158 = .ok (.aload_n 0, 1) := by decide +kernel
theorem dX7_readHall_159 : decode cX7_readHall 159 = .ok (.bipush 109, 2) := by decide +kernel
theorem dX7_readHall_161 : decode cX7_readHall 161 = .ok (.invokevirtual 108, 3) := by decide +kernel
theorem dX7_readHall_164 : decode cX7_readHall 164 = .ok (.ifCond .eq 7, 3) := by decide +kernel
theorem dX7_readHall_167 : decode cX7_readHall 167 = .ok (.iconst 5, 1) := by decide +kernel
theorem dX7_readHall_168 : decode cX7_readHall 168 = .ok (.goto 4, 3) := by decide +kernel
theorem dX7_readHall_171 : decode cX7_readHall 171 = .ok (.iconst 0, 1) := by decide +kernel
theorem dX7_readHall_172 : decode cX7_readHall 172 = .ok (.istore_n 2, 1) := by decide +kernel
theorem dX7_readHall_173 : decode cX7_readHall 173 = .ok (.iload_n 2, 1) := by decide +kernel
theorem dX7_readHall_174 : decode cX7_readHall 174 = .ok (.ifCond .le 11, 3) := by decide +kernel
theorem dX7_readHall_177 : decode cX7_readHall 177 = .ok (.aload_n 0, 1) := by decide +kernel
theorem dX7_readHall_178 : decode cX7_readHall 178 = .ok (.iload_n 2, 1) := by decide +kernel
theorem dX7_readHall_179 : decode cX7_readHall 179 = .ok (.invokevirtual 124, 3) := by decide +kernel
theorem dX7_readHall_182 : decode cX7_readHall 182 = .ok (.goto 24, 3) := by decide +kernel
theorem dX7_readHall_185 : decode cX7_readHall 185 = .ok (.aload_n 0, 1) := by decide +kernel
theorem dX7_readHall_186 : decode cX7_readHall 186 = .ok (.bipush 116, 2) := by decide +kernel
theorem dX7_readHall_188 : decode cX7_readHall 188 = .ok (.invokevirtual 108, 3) := by decide +kernel
theorem dX7_readHall_191 : decode cX7_readHall 191 = .ok (.ifCond .eq 10, 3) := by decide +kernel
theorem dX7_readHall_194 : decode cX7_readHall 194 = .ok (.aload_n 0, 1) := by decide +kernel
theorem dX7_readHall_195 : decode cX7_readHall 195 = .ok (.invokevirtual 127, 3) := by decide +kernel
theorem dX7_readHall_198 : decode cX7_readHall 198 = .ok (.goto 8, 3) := by decide +kernel
theorem dX7_readHall_201 : decode cX7_readHall 201 = .ok (.aload_n 0, 1) := by decide +kernel
theorem dX7_readHall_202 : decode cX7_readHall 202 = .ok (.iconst 1, 1) := by decide +kernel
theorem dX7_readHall_203 : decode cX7_readHall 203 = .ok (.invokevirtual 111, 3) := by decide +kernel
theorem dX7_readHall_206 : decode cX7_readHall 206 = .ok (.istore_n 1, 1) := by decide +kernel
theorem dX7_readHall_207 : decode cX7_readHall 207 = .ok (.goto (-113), 3) := by decide +kernel
theorem dX7_readHall_210 : decode cX7_readHall 210 = .ok (.iload_n 1, 1) := by decide +kernel
theorem dX7_readHall_211 : decode cX7_readHall 211 = .ok (.ireturn, 1) := by decide +kernel
theorem dX7_hall_0 : decode cX7_hall 0 = .ok (.aload_n 0, 1) := by decide +kernel
theorem dX7_hall_1 : decode cX7_hall 1 = .ok (.invokevirtual 131, 3) := by decide +kernel
theorem dX7_hall_4 : decode cX7_hall 4 = .ok (.istore_n 1, 1) := by decide +kernel
theorem dX7_hall_5 : decode cX7_hall 5 = .ok (.aload_n 0, 1) := by decide +kernel
theorem dX7_hall_6 : decode cX7_hall 6 = .ok (.iconst 0, 1) := by decide +kernel
theorem dX7_hall_7 : decode cX7_hall 7 = .ok (.putfield 81, 3) := by decide +kernel
theorem dX7_hall_10 : decode cX7_hall 10 = .ok (.iload_n 1, 1) := by decide +kernel
theorem dX7_hall_11 : decode cX7_hall 11 = .ok (.ifCond .ne 19, 3) := by decide +kernel
theorem dX7_hall_14 : decode cX7_hall 14 = .ok (.aload_n 0, 1) := by decide +kernel
theorem dX7_hall_15 : decode cX7_hall 15 = .ok (.aload_n 0, 1) := by decide +kernel
theorem dX7_hall_16 : decode cX7_hall 16 = .ok (.getfield 105, 3) := by decide +kernel
theorem dX7_hall_19 : decode cX7_hall 19 = .ok (.putfield 134, 3) := by decide +kernel
theorem dX7_hall_22 : decode cX7_hall 22 = .ok (.ldc 137, 2) := by decide +kernel
theorem dX7_hall_24 : decode cX7_hall 24 = .ok (.aload_n 0, 1) := by decide +kernel
theorem dX7_hall_25 : decode cX7_hall 25 = .ok (.getfield 88, 3) := by decide +kernel
theorem dX7_hall_28 : decode cX7_hall 28 = .ok (.isub, 1) := by decide +kernel
theorem dX7_hall_29 : decode cX7_hall 29 = .ok (.ireturn, 1) := by decide +kernel
theorem dX7_hall_30 : decode cX7_hall 30 = .ok (.iconst 0, 1) := by decide +kernel
theorem dX7_hall_31 : decode cX7_hall 31 = .ok (.istore_n 2, 1) := by decide +kernel
theorem dX7_hall_32 : decode cX7_hall 32 = .ok (.iload_n 2, 1) := by decide +kernel
theorem dX7_hall_33 : decode cX7_hall 33 = .ok (.bipush 57, 2) := by decide +kernel
theorem dX7_hall_35 : decode cX7_hall 35 = .ok (.if_icmp .ge 21, 3) := by decide +kernel
theorem dX7_hall_38 : decode cX7_hall 38 = .ok (.aload_n 0, 1) := by decide +kernel
theorem dX7_hall_39 : decode cX7_hall 39 = .ok (.getfield 19, 3) := by decide +kernel
theorem dX7_hall_42 : decode cX7_hall 42 = .ok (.iload_n 2, 1) := by decide +kernel
theorem dX7_hall_43 : decode cX7_hall 43 = .ok (.aload_n 0, 1) := by decide +kernel
theorem dX7_hall_44 : decode cX7_hall 44 = .ok (.getfield 28, 3) := by decide +kernel
theorem dX7_hall_47 : decode cX7_hall 47 = .ok (.iload_n 2, 1) := by decide +kernel
theorem dX7_hall_48 : decode cX7_hall 48 = .ok (.iaload, 1) := by decide +kernel
theorem dX7_hall_49 : decode cX7_hall 49 = .ok (.iastore, 1) := by decide +kernel
theorem dX7_hall_50 : decode cX7_hall 50 = .ok (.iinc 2 1, 3) := by decide +kernel
theorem dX7_hall_53 : decode cX7_hall 53 = .ok (.goto (-21), 3) := by decide +kernel
theorem dX7_hall_56 : decode cX7_hall 56 = .ok (.aload_n 0, 1) := by decide +kernel
theorem dX7_hall_57 : decode cX7_hall 57 = .ok (.iconst 1, 1) := by decide +kernel
theorem dX7_hall_58 : decode cX7_hall 58 = .ok (.putfield 138, 3) := by decide +kernel
theorem dX7_hall_61 : decode cX7_hall 61 = .ok (.aload_n 0, 1) := by decide +kernel
theorem dX7_hall_62 : decode cX7_hall 62 = .ok (.iconst 0, 1) := by decide +kernel
theorem dX7_hall_63 : decode cX7_hall 63 = .ok (.putfield 142, 3) := by decide +kernel
theorem dX7_hall_66 : decode cX7_hall 66 = .ok (.aload_n 0, 1) := by decide +kernel
theorem dX7_hall_67 : decode cX7_hall 67 = .ok (.getfield 19, 3) := by decide +kernel
theorem dX7_hall_70 : decode cX7_hall 70 = .ok (.iconst 4, 1) := by decide +kernel
theorem dX7_hall_71 : decode cX7_hall 71 = .ok (.iaload, 1) := by decide +kernel
theorem dX7_hall_72 : decode cX7_hall 72 = .ok (.ireturn, 1) := by decide +kernel
theorem dX7_fault_0 : decode cX7_fault 0 = .ok (.aload_n 0, 1) := by decide +kernel
theorem dX7_fault_1 : decode cX7_fault 1 = .ok (.getfield 134, 3) := by decide +kernel
theorem dX7_fault_4 : decode cX7_fault 4 = .ok (.ireturn, 1) := by decide +kernel
theorem dX7_note_0 : decode cX7_note 0 = .ok (.aload_n 0, 1) := by decide +kernel
theorem dX7_note_1 : decode cX7_note 1 = .ok (.getfield 142, 3) := by decide +kernel
theorem dX7_note_4 : decode cX7_note 4 = .ok (.bipush 24, 2) := by decide +kernel
theorem dX7_note_6 : decode cX7_note 6 = .ok (.if_icmp .ne 43, 3) := by decide +kernel
theorem dX7_note_9 : decode cX7_note 9 = .ok (.iconst 0, 1) := by decide +kernel
theorem dX7_note_10 : decode cX7_note 10 = .ok (.istore_n 1, 1) := by decide +kernel
theorem dX7_note_11 : decode cX7_note 11 = .ok (.iload_n 1, 1) := by decide +kernel
theorem dX7_note_12 : decode cX7_note 12 = .ok (.sipush 1311, 3) := by decide +kernel
theorem dX7_note_15 : decode cX7_note 15 = .ok (.if_icmp .ge 24, 3) := by decide +kernel
theorem dX7_note_18 : decode cX7_note 18 = .ok (.aload_n 0, 1) := by decide +kernel
theorem dX7_note_19 : decode cX7_note 19 = .ok (.getfield 31, 3) := by decide +kernel
theorem dX7_note_22 : decode cX7_note 22 = .ok (.iload_n 1, 1) := by decide +kernel
theorem dX7_note_23 : decode cX7_note 23 = .ok (.aload_n 0, 1) := by decide +kernel
theorem dX7_note_24 : decode cX7_note 24 = .ok (.getfield 31, 3) := by decide +kernel
theorem dX7_note_27 : decode cX7_note 27 = .ok (.iload_n 1, 1) := by decide +kernel
theorem dX7_note_28 : decode cX7_note 28 = .ok (.bipush 57, 2) := by decide +kernel
theorem dX7_note_30 : decode cX7_note 30 = .ok (.iadd, 1) := by decide +kernel
theorem dX7_note_31 : decode cX7_note 31 = .ok (.iaload, 1) := by decide +kernel
theorem dX7_note_32 : decode cX7_note 32 = .ok (.iastore, 1) := by decide +kernel
theorem dX7_note_33 : decode cX7_note 33 = .ok (.iinc 1 1, 3) := by decide +kernel
theorem dX7_note_36 : decode cX7_note 36 = .ok (.goto (-25), 3) := by decide +kernel
theorem dX7_note_39 : decode cX7_note 39 = .ok (.aload_n 0, 1) := by decide +kernel
theorem dX7_note_40 : decode cX7_note 40 = .ok (.dup, 1) := by decide +kernel
theorem dX7_note_41 : decode cX7_note 41 = .ok (.getfield 142, 3) := by decide +kernel
theorem dX7_note_44 : decode cX7_note 44 = .ok (.iconst 1, 1) := by decide +kernel
theorem dX7_note_45 : decode cX7_note 45 = .ok (.isub, 1) := by decide +kernel
theorem dX7_note_46 : decode cX7_note 46 = .ok (.putfield 142, 3) := by decide +kernel
theorem dX7_note_49 : decode cX7_note 49 = .ok (.iconst 0, 1) := by decide +kernel
theorem dX7_note_50 : decode cX7_note 50 = .ok (.istore_n 1, 1) := by decide +kernel
theorem dX7_note_51 : decode cX7_note 51 = .ok (.iload_n 1, 1) := by decide +kernel
theorem dX7_note_52 : decode cX7_note 52 = .ok (.bipush 57, 2) := by decide +kernel
theorem dX7_note_54 : decode cX7_note 54 = .ok (.if_icmp .ge 29, 3) := by decide +kernel
theorem dX7_note_57 : decode cX7_note 57 = .ok (.aload_n 0, 1) := by decide +kernel
theorem dX7_note_58 : decode cX7_note 58 = .ok (.getfield 31, 3) := by decide +kernel
theorem dX7_note_61 : decode cX7_note 61 = .ok (.bipush 57, 2) := by decide +kernel
theorem dX7_note_63 : decode cX7_note 63 = .ok (.aload_n 0, 1) := by decide +kernel
theorem dX7_note_64 : decode cX7_note 64 = .ok (.getfield 142, 3) := by decide +kernel
theorem dX7_note_67 : decode cX7_note 67 = .ok (.imul, 1) := by decide +kernel
theorem dX7_note_68 : decode cX7_note 68 = .ok (.iload_n 1, 1) := by decide +kernel
theorem dX7_note_69 : decode cX7_note 69 = .ok (.iadd, 1) := by decide +kernel
theorem dX7_note_70 : decode cX7_note 70 = .ok (.aload_n 0, 1) := by decide +kernel
theorem dX7_note_71 : decode cX7_note 71 = .ok (.getfield 19, 3) := by decide +kernel
theorem dX7_note_74 : decode cX7_note 74 = .ok (.iload_n 1, 1) := by decide +kernel
theorem dX7_note_75 : decode cX7_note 75 = .ok (.iaload, 1) := by decide +kernel
theorem dX7_note_76 : decode cX7_note 76 = .ok (.iastore, 1) := by decide +kernel
theorem dX7_note_77 : decode cX7_note 77 = .ok (.iinc 1 1, 3) := by decide +kernel
theorem dX7_note_80 : decode cX7_note 80 = .ok (.goto (-29), 3) := by decide +kernel
theorem dX7_note_83 : decode cX7_note 83 = .ok (.aload_n 0, 1) := by decide +kernel
theorem dX7_note_84 : decode cX7_note 84 = .ok (.dup, 1) := by decide +kernel
theorem dX7_note_85 : decode cX7_note 85 = .ok (.getfield 142, 3) := by decide +kernel
theorem dX7_note_88 : decode cX7_note 88 = .ok (.iconst 1, 1) := by decide +kernel
theorem dX7_note_89 : decode cX7_note 89 = .ok (.iadd, 1) := by decide +kernel
theorem dX7_note_90 : decode cX7_note 90 = .ok (.putfield 142, 3) := by decide +kernel
theorem dX7_note_93 : decode cX7_note 93 = .ok (.return_, 1) := by decide +kernel
theorem dX7_undo_0 : decode cX7_undo 0 = .ok (.aload_n 0, 1) := by decide +kernel
theorem dX7_undo_1 : decode cX7_undo 1 = .ok (.getfield 142, 3) := by decide +kernel
theorem dX7_undo_4 : decode cX7_undo 4 = .ok (.ifCond .ne 6, 3) := by decide +kernel
theorem dX7_undo_7 : decode cX7_undo 7 = .ok (.ldc 145, 2) := by decide +kernel
theorem dX7_undo_9 : decode cX7_undo 9 = .ok (.ireturn, 1) := by decide +kernel
theorem dX7_undo_10 : decode cX7_undo 10 = .ok (.aload_n 0, 1) := by decide +kernel
theorem dX7_undo_11 : decode cX7_undo 11 = .ok (.dup, 1) := by decide +kernel
theorem dX7_undo_12 : decode cX7_undo 12 = .ok (.getfield 142, 3) := by decide +kernel
theorem dX7_undo_15 : decode cX7_undo 15 = .ok (.iconst 1, 1) := by decide +kernel
theorem dX7_undo_16 : decode cX7_undo 16 = .ok (.isub, 1) := by decide +kernel
theorem dX7_undo_17 : decode cX7_undo 17 = .ok (.putfield 142, 3) := by decide +kernel
theorem dX7_undo_20 : decode cX7_undo 20 = .ok (.iconst 0, 1) := by decide +kernel
theorem dX7_undo_21 : decode cX7_undo 21 = .ok (.istore_n 1, 1) := by decide +kernel
theorem dX7_undo_22 : decode cX7_undo 22 = .ok (.iload_n 1, 1) := by decide +kernel
theorem dX7_undo_23 : decode cX7_undo 23 = .ok (.bipush 57, 2) := by decide +kernel
theorem dX7_undo_25 : decode cX7_undo 25 = .ok (.if_icmp .ge 29, 3) := by decide +kernel
theorem dX7_undo_28 : decode cX7_undo 28 = .ok (.aload_n 0, 1) := by decide +kernel
theorem dX7_undo_29 : decode cX7_undo 29 = .ok (.getfield 19, 3) := by decide +kernel
theorem dX7_undo_32 : decode cX7_undo 32 = .ok (.iload_n 1, 1) := by decide +kernel
theorem dX7_undo_33 : decode cX7_undo 33 = .ok (.aload_n 0, 1) := by decide +kernel
theorem dX7_undo_34 : decode cX7_undo 34 = .ok (.getfield 31, 3) := by decide +kernel
theorem dX7_undo_37 : decode cX7_undo 37 = .ok (.bipush 57, 2) := by decide +kernel
theorem dX7_undo_39 : decode cX7_undo 39 = .ok (.aload_n 0, 1) := by decide +kernel
theorem dX7_undo_40 : decode cX7_undo 40 = .ok (.getfield 142, 3) := by decide +kernel
theorem dX7_undo_43 : decode cX7_undo 43 = .ok (.imul, 1) := by decide +kernel
theorem dX7_undo_44 : decode cX7_undo 44 = .ok (.iload_n 1, 1) := by decide +kernel
theorem dX7_undo_45 : decode cX7_undo 45 = .ok (.iadd, 1) := by decide +kernel
theorem dX7_undo_46 : decode cX7_undo 46 = .ok (.iaload, 1) := by decide +kernel
theorem dX7_undo_47 : decode cX7_undo 47 = .ok (.iastore, 1) := by decide +kernel
theorem dX7_undo_48 : decode cX7_undo 48 = .ok (.iinc 1 1, 3) := by decide +kernel
theorem dX7_undo_51 : decode cX7_undo 51 = .ok (.goto (-29), 3) := by decide +kernel
theorem dX7_undo_54 : decode cX7_undo 54 = .ok (.aload_n 0, 1) := by decide +kernel
theorem dX7_undo_55 : decode cX7_undo 55 = .ok (.getfield 142, 3) := by decide +kernel
theorem dX7_undo_58 : decode cX7_undo 58 = .ok (.ireturn, 1) := by decide +kernel
theorem dX7_over_0 : decode cX7_over 0 = .ok (.iload_n 1, 1) := by decide +kernel
theorem dX7_over_1 : decode cX7_over 1 = .ok (.aload_n 0, 1) := by decide +kernel
theorem dX7_over_2 : decode cX7_over 2 = .ok (.getfield 19, 3) := by decide +kernel
theorem dX7_over_5 : decode cX7_over 5 = .ok (.iconst 0, 1) := by decide +kernel
theorem dX7_over_6 : decode cX7_over 6 = .ok (.iaload, 1) := by decide +kernel
theorem dX7_over_7 : decode cX7_over 7 = .ok (.irem, 1) := by decide +kernel
theorem dX7_over_8 : decode cX7_over 8 = .ok (.istore_n 2, 1) := by decide +kernel
theorem dX7_over_9 : decode cX7_over 9 = .ok (.iload_n 2, 1) := by decide +kernel
theorem dX7_over_10 : decode cX7_over 10 = .ok (.ifCond .ge 14, 3) := by decide +kernel
theorem dX7_over_13 : decode cX7_over 13 = .ok (.iload_n 2, 1) := by decide +kernel
theorem dX7_over_14 : decode cX7_over 14 = .ok (.aload_n 0, 1) := by decide +kernel
theorem dX7_over_15 : decode cX7_over 15 = .ok (.getfield 19, 3) := by decide +kernel
theorem dX7_over_18 : decode cX7_over 18 = .ok (.iconst 0, 1) := by decide +kernel
theorem dX7_over_19 : decode cX7_over 19 = .ok (.iaload, 1) := by decide +kernel
theorem dX7_over_20 : decode cX7_over 20 = .ok (.iadd, 1) := by decide +kernel
theorem dX7_over_21 : decode cX7_over 21 = .ok (.goto 4, 3) := by decide +kernel
theorem dX7_over_24 : decode cX7_over 24 = .ok (.iload_n 2, 1) := by decide +kernel
theorem dX7_over_25 : decode cX7_over 25 = .ok (.ireturn, 1) := by decide +kernel
theorem dX7_shiftIn_0 : decode cX7_shiftIn 0 = .ok (.aload_n 0, 1) := by decide +kernel
theorem dX7_shiftIn_1 : decode cX7_shiftIn 1 = .ok (.aload_n 0, 1) := by decide +kernel
theorem dX7_shiftIn_2 : decode cX7_shiftIn 2 = .ok (.getfield 19, 3) := by decide +kernel
theorem dX7_shiftIn_5 : decode cX7_shiftIn 5 = .ok (.iconst 2, 1) := by decide +kernel
theorem dX7_shiftIn_6 : decode cX7_shiftIn 6 = .ok (.iaload, 1) := by decide +kernel
theorem dX7_shiftIn_7 : decode cX7_shiftIn 7 = .ok (.iload_n 1, 1) := by decide +kernel
theorem dX7_shiftIn_8 : decode cX7_shiftIn 8 = .ok (.aload_n 0, 1) := by decide +kernel
theorem dX7_shiftIn_9 : decode cX7_shiftIn 9 = .ok (.getfield 19, 3) := by decide +kernel
theorem dX7_shiftIn_12 : decode cX7_shiftIn 12 = .ok (.iconst 1, 1) := by decide +kernel
theorem dX7_shiftIn_13 : decode cX7_shiftIn 13 = .ok (.iaload, 1) := by decide +kernel
theorem dX7_shiftIn_14 : decode cX7_shiftIn 14 = .ok (.imul, 1) := by decide +kernel
theorem dX7_shiftIn_15 : decode cX7_shiftIn 15 = .ok (.iadd, 1) := by decide +kernel
theorem dX7_shiftIn_16 : decode cX7_shiftIn 16 = .ok (.invokevirtual 146, 3) := by decide +kernel
theorem dX7_shiftIn_19 : decode cX7_shiftIn 19 = .ok (.ireturn, 1) := by decide +kernel
theorem dX7_nights_0 : decode cX7_nights 0 = .ok (.aload_n 0, 1) := by decide +kernel
theorem dX7_nights_1 : decode cX7_nights 1 = .ok (.getfield 138, 3) := by decide +kernel
theorem dX7_nights_4 : decode cX7_nights 4 = .ok (.ifCond .ne 6, 3) := by decide +kernel
theorem dX7_nights_7 : decode cX7_nights 7 = .ok (.ldc 145, 2) := by decide +kernel
theorem dX7_nights_9 : decode cX7_nights 9 = .ok (.ireturn, 1) := by decide +kernel
theorem dX7_nights_10 : decode cX7_nights 10 = .ok (.iload_n 1, 1) := by decide +kernel
theorem dX7_nights_11 : decode cX7_nights 11 = .ok (.i2l, 1) := by decide +kernel
theorem dX7_nights_12 : decode cX7_nights 12 = .ok (.lconst 1, 1) := by decide +kernel
theorem dX7_nights_13 : decode cX7_nights 13 = .ok (.ldc2_w 149, 3) := by decide +kernel
theorem dX7_nights_16 : decode cX7_nights 16 = .ok (.invokestatic 57, 3) := by decide +kernel
theorem dX7_nights_19 : decode cX7_nights 19 = .ok (.ifCond .ne 6, 3) := by decide +kernel
theorem dX7_nights_22 : decode cX7_nights 22 = .ok (.ldc 67, 2) := by decide +kernel
theorem dX7_nights_24 : decode cX7_nights 24 = .ok (.ireturn, 1) := by decide +kernel
theorem dX7_nights_25 : decode cX7_nights 25 = .ok (.aload_n 0, 1) := by decide +kernel
theorem dX7_nights_26 : decode cX7_nights 26 = .ok (.getfield 19, 3) := by decide +kernel
theorem dX7_nights_29 : decode cX7_nights 29 = .ok (.iconst 5, 1) := by decide +kernel
theorem dX7_nights_30 : decode cX7_nights 30 = .ok (.iaload, 1) := by decide +kernel
theorem dX7_nights_31 : decode cX7_nights 31 = .ok (.iload_n 1, 1) := by decide +kernel
theorem dX7_nights_32 : decode cX7_nights 32 = .ok (.iadd, 1) := by decide +kernel
theorem dX7_nights_33 : decode cX7_nights 33 = .ok (.sipush 999, 3) := by decide +kernel
theorem dX7_nights_36 : decode cX7_nights 36 = .ok (.if_icmp .le 6, 3) := by decide +kernel
theorem dX7_nights_39 : decode cX7_nights 39 = .ok (.ldc 84, 2) := by decide +kernel
theorem dX7_nights_41 : decode cX7_nights 41 = .ok (.ireturn, 1) := by decide +kernel
theorem dX7_nights_42 : decode cX7_nights 42 = .ok (.iconst 0, 1) := by decide +kernel
theorem dX7_nights_43 : decode cX7_nights 43 = .ok (.istore_n 2, 1) := by decide +kernel
theorem dX7_nights_44 : decode cX7_nights 44 = .ok (.iload_n 2, 1) := by decide +kernel
theorem dX7_nights_45 : decode cX7_nights 45 = .ok (.iload_n 1, 1) := by decide +kernel
theorem dX7_nights_46 : decode cX7_nights 46 = .ok (.if_icmp .ge 34, 3) := by decide +kernel
theorem dX7_nights_49 : decode cX7_nights 49 = .ok (.aload_n 0, 1) := by decide +kernel
theorem dX7_nights_50 : decode cX7_nights 50 = .ok (.invokevirtual 151, 3) := by decide +kernel
theorem dX7_nights_53 : decode cX7_nights 53 = .ok (.aload_n 0, 1) := by decide +kernel
theorem dX7_nights_54 : decode cX7_nights 54 = .ok (.getfield 19, 3) := by decide +kernel
theorem dX7_nights_57 : decode cX7_nights 57 = .ok (.iconst 2, 1) := by decide +kernel
theorem dX7_nights_58 : decode cX7_nights 58 = .ok (.aload_n 0, 1) := by decide +kernel
theorem dX7_nights_59 : decode cX7_nights 59 = .ok (.iconst 1, 1) := by decide +kernel
theorem dX7_nights_60 : decode cX7_nights 60 = .ok (.invokevirtual 154, 3) := by decide +kernel
theorem dX7_nights_63 : decode cX7_nights 63 = .ok (.iastore, 1) := by decide +kernel
theorem dX7_nights_64 : decode cX7_nights 64 = .ok (.aload_n 0, 1) := by decide +kernel
theorem dX7_nights_65 : decode cX7_nights 65 = .ok (.getfield 19, 3) := by decide +kernel
theorem dX7_nights_68 : decode cX7_nights 68 = .ok (.iconst 5, 1) := by decide +kernel
theorem dX7_nights_69 : decode cX7_nights 69 = .ok (.dup2, 1) := by decide +kernel
theorem dX7_nights_70 : decode cX7_nights 70 = .ok (.iaload, 1) := by decide +kernel
theorem dX7_nights_71 : decode cX7_nights 71 = .ok (.iconst 1, 1) := by decide +kernel
theorem dX7_nights_72 : decode cX7_nights 72 = .ok (.iadd, 1) := by decide +kernel
theorem dX7_nights_73 : decode cX7_nights 73 = .ok (.iastore, 1) := by decide +kernel
theorem dX7_nights_74 : decode cX7_nights 74 = .ok (.iinc 2 1, 3) := by decide +kernel
theorem dX7_nights_77 : decode cX7_nights 77 = .ok (.goto (-33), 3) := by decide +kernel
theorem dX7_nights_80 : decode cX7_nights 80 = .ok (.aload_n 0, 1) := by decide +kernel
theorem dX7_nights_81 : decode cX7_nights 81 = .ok (.getfield 19, 3) := by decide +kernel
theorem dX7_nights_84 : decode cX7_nights 84 = .ok (.iconst 2, 1) := by decide +kernel
theorem dX7_nights_85 : decode cX7_nights 85 = .ok (.iaload, 1) := by decide +kernel
theorem dX7_nights_86 : decode cX7_nights 86 = .ok (.ireturn, 1) := by decide +kernel
theorem dX7_thunder_0 : decode cX7_thunder 0 = .ok (.aload_n 0, 1) := by decide +kernel
theorem dX7_thunder_1 : decode cX7_thunder 1 = .ok (.getfield 138, 3) := by decide +kernel
theorem dX7_thunder_4 : decode cX7_thunder 4 = .ok (.ifCond .ne 6, 3) := by decide +kernel
theorem dX7_thunder_7 : decode cX7_thunder 7 = .ok (.ldc 145, 2) := by decide +kernel
theorem dX7_thunder_9 : decode cX7_thunder 9 = .ok (.ireturn, 1) := by decide +kernel
theorem dX7_thunder_10 : decode cX7_thunder 10 = .ok (.iload_n 1, 1) := by decide +kernel
theorem dX7_thunder_11 : decode cX7_thunder 11 = .ok (.i2l, 1) := by decide +kernel
theorem dX7_thunder_12 : decode cX7_thunder 12 = .ok (.lconst 1, 1) := by decide +kernel
theorem dX7_thunder_13 : decode cX7_thunder 13 = .ok (.ldc2_w 157, 3) := by decide +kernel
theorem dX7_thunder_16 : decode cX7_thunder 16 = .ok (.invokestatic 57, 3) := by decide +kernel
theorem dX7_thunder_19 : decode cX7_thunder 19 = .ok (.ifCond .ne 6, 3) := by decide +kernel
theorem dX7_thunder_22 : decode cX7_thunder 22 = .ok (.ldc 67, 2) := by decide +kernel
theorem dX7_thunder_24 : decode cX7_thunder 24 = .ok (.ireturn, 1) := by decide +kernel
theorem dX7_thunder_25 : decode cX7_thunder 25 = .ok (.aload_n 0, 1) := by decide +kernel
theorem dX7_thunder_26 : decode cX7_thunder 26 = .ok (.invokevirtual 151, 3) := by decide +kernel
theorem dX7_thunder_29 : decode cX7_thunder 29 = .ok (.aload_n 0, 1) := by decide +kernel
theorem dX7_thunder_30 : decode cX7_thunder 30 = .ok (.getfield 19, 3) := by decide +kernel
theorem dX7_thunder_33 : decode cX7_thunder 33 = .ok (.iconst 2, 1) := by decide +kernel
theorem dX7_thunder_34 : decode cX7_thunder 34 = .ok (.aload_n 0, 1) := by decide +kernel
theorem dX7_thunder_35 : decode cX7_thunder 35 = .ok (.aload_n 0, 1) := by decide +kernel
theorem dX7_thunder_36 : decode cX7_thunder 36 = .ok (.getfield 19, 3) := by decide +kernel
theorem dX7_thunder_39 : decode cX7_thunder 39 = .ok (.iconst 2, 1) := by decide +kernel
theorem dX7_thunder_40 : decode cX7_thunder 40 = .ok (.iaload, 1) := by decide +kernel
theorem dX7_thunder_41 : decode cX7_thunder 41 = .ok (.iload_n 1, 1) := by decide +kernel
theorem dX7_thunder_42 : decode cX7_thunder 42 = .ok (.iadd, 1) := by decide +kernel
theorem dX7_thunder_43 : decode cX7_thunder 43 = .ok (.invokevirtual 146, 3) := by decide +kernel
theorem dX7_thunder_46 : decode cX7_thunder 46 = .ok (.iastore, 1) := by decide +kernel
theorem dX7_thunder_47 : decode cX7_thunder 47 = .ok (.aload_n 0, 1) := by decide +kernel
theorem dX7_thunder_48 : decode cX7_thunder 48 = .ok (.getfield 19, 3) := by decide +kernel
theorem dX7_thunder_51 : decode cX7_thunder 51 = .ok (.iconst 2, 1) := by decide +kernel
theorem dX7_thunder_52 : decode cX7_thunder 52 = .ok (.iaload, 1) := by decide +kernel
theorem dX7_thunder_53 : decode cX7_thunder 53 = .ok (.ireturn, 1) := by decide +kernel
theorem dX7_tune_0 : decode cX7_tune 0 = .ok (.aload_n 0, 1) := by decide +kernel
theorem dX7_tune_1 : decode cX7_tune 1 = .ok (.getfield 138, 3) := by decide +kernel
theorem dX7_tune_4 : decode cX7_tune 4 = .ok (.ifCond .ne 6, 3) := by decide +kernel
theorem dX7_tune_7 : decode cX7_tune 7 = .ok (.ldc 145, 2) := by decide +kernel
theorem dX7_tune_9 : decode cX7_tune 9 = .ok (.ireturn, 1) := by decide +kernel
theorem dX7_tune_10 : decode cX7_tune 10 = .ok (.aload_n 0, 1) := by decide +kernel
theorem dX7_tune_11 : decode cX7_tune 11 = .ok (.invokevirtual 151, 3) := by decide +kernel
theorem dX7_tune_14 : decode cX7_tune 14 = .ok (.aload_n 0, 1) := by decide +kernel
theorem dX7_tune_15 : decode cX7_tune 15 = .ok (.getfield 19, 3) := by decide +kernel
theorem dX7_tune_18 : decode cX7_tune 18 = .ok (.iconst 2, 1) := by decide +kernel
theorem dX7_tune_19 : decode cX7_tune 19 = .ok (.iaload, 1) := by decide +kernel
theorem dX7_tune_20 : decode cX7_tune 20 = .ok (.istore_n 1, 1) := by decide +kernel
theorem dX7_tune_21 : decode cX7_tune 21 = .ok (.aload_n 0, 1) := by decide +kernel
theorem dX7_tune_22 : decode cX7_tune 22 = .ok (.getfield 19, 3) := by decide +kernel
theorem dX7_tune_25 : decode cX7_tune 25 = .ok (.iconst 2, 1) := by decide +kernel
theorem dX7_tune_26 : decode cX7_tune 26 = .ok (.iconst 0, 1) := by decide +kernel
theorem dX7_tune_27 : decode cX7_tune 27 = .ok (.iastore, 1) := by decide +kernel
theorem dX7_tune_28 : decode cX7_tune 28 = .ok (.iload_n 1, 1) := by decide +kernel
theorem dX7_tune_29 : decode cX7_tune 29 = .ok (.ireturn, 1) := by decide +kernel
theorem dX7_isPupil_0 : decode cX7_isPupil 0 = .ok (.iload_n 1, 1) := by decide +kernel
theorem dX7_isPupil_1 : decode cX7_isPupil 1 = .ok (.i2l, 1) := by decide +kernel
theorem dX7_isPupil_2 : decode cX7_isPupil 2 = .ok (.lconst 0, 1) := by decide +kernel
theorem dX7_isPupil_3 : decode cX7_isPupil 3 = .ok (.aload_n 0, 1) := by decide +kernel
theorem dX7_isPupil_4 : decode cX7_isPupil 4 = .ok (.getfield 19, 3) := by decide +kernel
theorem dX7_isPupil_7 : decode cX7_isPupil 7 = .ok (.iconst 4, 1) := by decide +kernel
theorem dX7_isPupil_8 : decode cX7_isPupil 8 = .ok (.iaload, 1) := by decide +kernel
theorem dX7_isPupil_9 : decode cX7_isPupil 9 = .ok (.iconst 1, 1) := by decide +kernel
theorem dX7_isPupil_10 : decode cX7_isPupil 10 = .ok (.isub, 1) := by decide +kernel
theorem dX7_isPupil_11 : decode cX7_isPupil 11 = .ok (.i2l, 1) := by decide +kernel
theorem dX7_isPupil_12 : decode cX7_isPupil 12 = .ok (.invokestatic 57, 3) := by decide +kernel
theorem dX7_isPupil_15 : decode cX7_isPupil 15 = .ok (.ireturn, 1) := by decide +kernel
theorem dX7_isPiece_0 : decode cX7_isPiece 0 = .ok (.iload_n 1, 1) := by decide +kernel
theorem dX7_isPiece_1 : decode cX7_isPiece 1 = .ok (.i2l, 1) := by decide +kernel
theorem dX7_isPiece_2 : decode cX7_isPiece 2 = .ok (.lconst 0, 1) := by decide +kernel
theorem dX7_isPiece_3 : decode cX7_isPiece 3 = .ok (.aload_n 0, 1) := by decide +kernel
theorem dX7_isPiece_4 : decode cX7_isPiece 4 = .ok (.getfield 19, 3) := by decide +kernel
theorem dX7_isPiece_7 : decode cX7_isPiece 7 = .ok (.iconst 3, 1) := by decide +kernel
theorem dX7_isPiece_8 : decode cX7_isPiece 8 = .ok (.iaload, 1) := by decide +kernel
theorem dX7_isPiece_9 : decode cX7_isPiece 9 = .ok (.iconst 1, 1) := by decide +kernel
theorem dX7_isPiece_10 : decode cX7_isPiece 10 = .ok (.isub, 1) := by decide +kernel
theorem dX7_isPiece_11 : decode cX7_isPiece 11 = .ok (.i2l, 1) := by decide +kernel
theorem dX7_isPiece_12 : decode cX7_isPiece 12 = .ok (.invokestatic 57, 3) := by decide +kernel
theorem dX7_isPiece_15 : decode cX7_isPiece 15 = .ok (.ireturn, 1) := by decide +kernel
theorem dX7_learn_0 : decode cX7_learn 0 = .ok (.aload_n 0, 1) := by decide +kernel
theorem dX7_learn_1 : decode cX7_learn 1 = .ok (.iload_n 1, 1) := by decide +kernel
theorem dX7_learn_2 : decode cX7_learn 2 = .ok (.invokevirtual 159, 3) := by decide +kernel
theorem dX7_learn_5 : decode cX7_learn 5 = .ok (.ifCond .ne 6, 3) := by decide +kernel
theorem dX7_learn_8 : decode cX7_learn 8 = .ok (.ldc 67, 2) := by decide +kernel
theorem dX7_learn_10 : decode cX7_learn 10 = .ok (.ireturn, 1) := by decide +kernel
theorem dX7_learn_11 : decode cX7_learn 11 = .ok (.aload_n 0, 1) := by decide +kernel
theorem dX7_learn_12 : decode cX7_learn 12 = .ok (.invokevirtual 151, 3) := by decide +kernel
theorem dX7_learn_15 : decode cX7_learn 15 = .ok (.aload_n 0, 1) := by decide +kernel
theorem dX7_learn_16 : decode cX7_learn 16 = .ok (.getfield 19, 3) := by decide +kernel
theorem dX7_learn_19 : decode cX7_learn 19 = .ok (.bipush 47, 2) := by decide +kernel
theorem dX7_learn_21 : decode cX7_learn 21 = .ok (.iload_n 1, 1) := by decide +kernel
theorem dX7_learn_22 : decode cX7_learn 22 = .ok (.iadd, 1) := by decide +kernel
theorem dX7_learn_23 : decode cX7_learn 23 = .ok (.iaload, 1) := by decide +kernel
theorem dX7_learn_24 : decode cX7_learn 24 = .ok (.istore_n 2, 1) := by decide +kernel
theorem dX7_learn_25 : decode cX7_learn 25 = .ok (.aload_n 0, 1) := by decide +kernel
theorem dX7_learn_26 : decode cX7_learn 26 = .ok (.getfield 19, 3) := by decide +kernel
theorem dX7_learn_29 : decode cX7_learn 29 = .ok (.bipush 47, 2) := by decide +kernel
theorem dX7_learn_31 : decode cX7_learn 31 = .ok (.iload_n 1, 1) := by decide +kernel
theorem dX7_learn_32 : decode cX7_learn 32 = .ok (.iadd, 1) := by decide +kernel
theorem dX7_learn_33 : decode cX7_learn 33 = .ok (.aload_n 0, 1) := by decide +kernel
theorem dX7_learn_34 : decode cX7_learn 34 = .ok (.getfield 19, 3) := by decide +kernel
theorem dX7_learn_37 : decode cX7_learn 37 = .ok (.iconst 2, 1) := by decide +kernel
theorem dX7_learn_38 : decode cX7_learn 38 = .ok (.iaload, 1) := by decide +kernel
theorem dX7_learn_39 : decode cX7_learn 39 = .ok (.iastore, 1) := by decide +kernel
theorem dX7_learn_40 : decode cX7_learn 40 = .ok (.iload_n 2, 1) := by decide +kernel
theorem dX7_learn_41 : decode cX7_learn 41 = .ok (.ireturn, 1) := by decide +kernel
theorem dX7_piece_0 : decode cX7_piece 0 = .ok (.aload_n 0, 1) := by decide +kernel
theorem dX7_piece_1 : decode cX7_piece 1 = .ok (.iload_n 1, 1) := by decide +kernel
theorem dX7_piece_2 : decode cX7_piece 2 = .ok (.invokevirtual 162, 3) := by decide +kernel
theorem dX7_piece_5 : decode cX7_piece 5 = .ok (.ifCond .eq 8, 3) := by decide +kernel
theorem dX7_piece_8 : decode cX7_piece 8 = .ok (.iload_n 2, 1) := by decide +kernel
theorem dX7_piece_9 : decode cX7_piece 9 = .ok (.iconst (-1), 1) := by decide +kernel
theorem dX7_piece_10 : decode cX7_piece 10 = .ok (.if_icmp .ge 6, 3) := by decide +kernel
theorem dX7_piece_13 : decode cX7_piece 13 = .ok (.ldc 67, 2) := by decide +kernel
theorem dX7_piece_15 : decode cX7_piece 15 = .ok (.ireturn, 1) := by decide +kernel
theorem dX7_piece_16 : decode cX7_piece 16 = .ok (.aload_n 0, 1) := by decide +kernel
theorem dX7_piece_17 : decode cX7_piece 17 = .ok (.getfield 19, 3) := by decide +kernel
theorem dX7_piece_20 : decode cX7_piece 20 = .ok (.bipush 6, 2) := by decide +kernel
theorem dX7_piece_22 : decode cX7_piece 22 = .ok (.iload_n 1, 1) := by decide +kernel
theorem dX7_piece_23 : decode cX7_piece 23 = .ok (.iadd, 1) := by decide +kernel
theorem dX7_piece_24 : decode cX7_piece 24 = .ok (.iaload, 1) := by decide +kernel
theorem dX7_piece_25 : decode cX7_piece 25 = .ok (.istore_n 3, 1) := by decide +kernel
theorem dX7_piece_26 : decode cX7_piece 26 = .ok (.iload_n 2, 1) := by decide +kernel
theorem dX7_piece_27 : decode cX7_piece 27 = .ok (.ifCond .ge 7, 3) := by decide +kernel
theorem dX7_piece_30 : decode cX7_piece 30 = .ok (.iload_n 3, 1) := by decide +kernel
theorem dX7_piece_31 : decode cX7_piece 31 = .ok (.goto 27, 3) := by decide +kernel
theorem dX7_piece_34 : decode cX7_piece 34 = .ok (.iload_n 2, 1) := by decide +kernel
theorem dX7_piece_35 : decode cX7_piece 35 = .ok (.iload_n 3, 1) := by decide +kernel
theorem dX7_piece_36 : decode cX7_piece 36 = .ok (.if_icmp .ge 20, 3) := by decide +kernel
theorem dX7_piece_39 : decode cX7_piece 39 = .ok (.aload_n 0, 1) := by decide +kernel
theorem dX7_piece_40 : decode cX7_piece 40 = .ok (.getfield 19, 3) := by decide +kernel
theorem dX7_piece_43 : decode cX7_piece 43 = .ok (.bipush 10, 2) := by decide +kernel
theorem dX7_piece_45 : decode cX7_piece 45 = .ok (.bipush 8, 2) := by decide +kernel
theorem dX7_piece_47 : decode cX7_piece 47 = .ok (.iload_n 1, 1) := by decide +kernel
theorem dX7_piece_48 : decode cX7_piece 48 = .ok (.imul, 1) := by decide +kernel
theorem dX7_piece_49 : decode cX7_piece 49 = .ok (.iadd, 1) := by decide +kernel
theorem dX7_piece_50 : decode cX7_piece 50 = .ok (.iload_n 2, 1) := by decide +kernel
theorem dX7_piece_51 : decode cX7_piece 51 = .ok (.iadd, 1) := by decide +kernel
theorem dX7_piece_52 : decode cX7_piece 52 = .ok (.iaload, 1) := by decide +kernel
theorem dX7_piece_53 : decode cX7_piece 53 = .ok (.goto 5, 3) := by decide +kernel
theorem dX7_piece_56 : decode cX7_piece 56 = .ok (.ldc 165, 2) := by decide +kernel
theorem dX7_piece_58 : decode cX7_piece 58 = .ok (.ireturn, 1) := by decide +kernel
theorem dX7_biasBy_0 : decode cX7_biasBy 0 = .ok (.iload_n 1, 1) := by decide +kernel
theorem dX7_biasBy_1 : decode cX7_biasBy 1 = .ok (.iconst 1, 1) := by decide +kernel
theorem dX7_biasBy_2 : decode cX7_biasBy 2 = .ok (.if_icmp .ne 7, 3) := by decide +kernel
theorem dX7_biasBy_5 : decode cX7_biasBy 5 = .ok (.iload_n 2, 1) := by decide +kernel
theorem dX7_biasBy_6 : decode cX7_biasBy 6 = .ok (.goto 45, 3) := by decide +kernel
theorem dX7_biasBy_9 : decode cX7_biasBy 9 = .ok (.iload_n 1, 1) := by decide +kernel
theorem dX7_biasBy_10 : decode cX7_biasBy 10 = .ok (.iconst 2, 1) := by decide +kernel
theorem dX7_biasBy_11 : decode cX7_biasBy 11 = .ok (.if_icmp .ne 16, 3) := by decide +kernel
theorem dX7_biasBy_14 : decode cX7_biasBy 14 = .ok (.iload_n 2, 1) := by decide +kernel
theorem dX7_biasBy_15 : decode cX7_biasBy 15 = .ok (.iconst 2, 1) := by decide +kernel
theorem dX7_biasBy_16 : decode cX7_biasBy 16 = .ok (.aload_n 0, 1) := by decide +kernel
theorem dX7_biasBy_17 : decode cX7_biasBy 17 = .ok (.getfield 19, 3) := by decide +kernel
theorem dX7_biasBy_20 : decode cX7_biasBy 20 = .ok (.iconst 1, 1) := by decide +kernel
theorem dX7_biasBy_21 : decode cX7_biasBy 21 = .ok (.iaload, 1) := by decide +kernel
theorem dX7_biasBy_22 : decode cX7_biasBy 22 = .ok (.imul, 1) := by decide +kernel
theorem dX7_biasBy_23 : decode cX7_biasBy 23 = .ok (.iadd, 1) := by decide +kernel
theorem dX7_biasBy_24 : decode cX7_biasBy 24 = .ok (.goto 27, 3) := by decide +kernel
theorem dX7_biasBy_27 : decode cX7_biasBy 27 = .ok (.iload_n 1, 1) := by decide +kernel
theorem dX7_biasBy_28 : decode cX7_biasBy 28 = .ok (.iconst 3, 1) := by decide +kernel
theorem dX7_biasBy_29 : decode cX7_biasBy 29 = .ok (.if_icmp .ne 9, 3) := by decide +kernel
theorem dX7_biasBy_32 : decode cX7_biasBy 32 = .ok (.iload_n 2, 1) := by decide +kernel
theorem dX7_biasBy_33 : decode cX7_biasBy 33 = .ok (.iconst 2, 1) := by decide +kernel
theorem dX7_biasBy_34 : decode cX7_biasBy 34 = .ok (.isub, 1) := by decide +kernel
theorem dX7_biasBy_35 : decode cX7_biasBy 35 = .ok (.goto 16, 3) := by decide +kernel
theorem dX7_biasBy_38 : decode cX7_biasBy 38 = .ok (.iload_n 1, 1) := by decide +kernel
theorem dX7_biasBy_39 : decode cX7_biasBy 39 = .ok (.iconst 4, 1) := by decide +kernel
theorem dX7_biasBy_40 : decode cX7_biasBy 40 = .ok (.if_icmp .ne 8, 3) := by decide +kernel
theorem dX7_biasBy_43 : decode cX7_biasBy 43 = .ok (.iload_n 2, 1) := by decide +kernel
theorem dX7_biasBy_44 : decode cX7_biasBy 44 = .ok (.ineg, 1) := by decide +kernel
theorem dX7_biasBy_45 : decode cX7_biasBy 45 = .ok (.goto 6, 3) := by decide +kernel
theorem dX7_biasBy_48 : decode cX7_biasBy 48 = .ok (.iconst 1, 1) := by decide +kernel
theorem dX7_biasBy_49 : decode cX7_biasBy 49 = .ok (.iload_n 2, 1) := by decide +kernel
theorem dX7_biasBy_50 : decode cX7_biasBy 50 = .ok (.isub, 1) := by decide +kernel
theorem dX7_biasBy_51 : decode cX7_biasBy 51 = .ok (.istore_n 3, 1) := by decide +kernel
theorem dX7_biasBy_52 : decode cX7_biasBy 52 = .ok (.aload_n 0, 1) := by decide +kernel
theorem dX7_biasBy_53 : decode cX7_biasBy 53 = .ok (.iload_n 3, 1) := by decide +kernel
theorem dX7_biasBy_54 : decode cX7_biasBy 54 = .ok (.invokevirtual 146, 3) := by decide +kernel
theorem dX7_biasBy_57 : decode cX7_biasBy 57 = .ok (.ireturn, 1) := by decide +kernel
theorem dX7_biasOf_0 : decode cX7_biasOf 0 = .ok (.aload_n 0, 1) := by decide +kernel
theorem dX7_biasOf_1 : decode cX7_biasOf 1 = .ok (.aload_n 0, 1) := by decide +kernel
theorem dX7_biasOf_2 : decode cX7_biasOf 2 = .ok (.getfield 19, 3) := by decide +kernel
theorem dX7_biasOf_5 : decode cX7_biasOf 5 = .ok (.bipush 42, 2) := by decide +kernel
theorem dX7_biasOf_7 : decode cX7_biasOf 7 = .ok (.iload_n 1, 1) := by decide +kernel
theorem dX7_biasOf_8 : decode cX7_biasOf 8 = .ok (.iadd, 1) := by decide +kernel
theorem dX7_biasOf_9 : decode cX7_biasOf 9 = .ok (.iaload, 1) := by decide +kernel
theorem dX7_biasOf_10 : decode cX7_biasOf 10 = .ok (.aload_n 0, 1) := by decide +kernel
theorem dX7_biasOf_11 : decode cX7_biasOf 11 = .ok (.getfield 19, 3) := by decide +kernel
theorem dX7_biasOf_14 : decode cX7_biasOf 14 = .ok (.bipush 47, 2) := by decide +kernel
theorem dX7_biasOf_16 : decode cX7_biasOf 16 = .ok (.iload_n 1, 1) := by decide +kernel
theorem dX7_biasOf_17 : decode cX7_biasOf 17 = .ok (.iadd, 1) := by decide +kernel
theorem dX7_biasOf_18 : decode cX7_biasOf 18 = .ok (.iaload, 1) := by decide +kernel
theorem dX7_biasOf_19 : decode cX7_biasOf 19 = .ok (.invokevirtual 166, 3) := by decide +kernel
theorem dX7_biasOf_22 : decode cX7_biasOf 22 = .ok (.ireturn, 1) := by decide +kernel
theorem dX7_pupil_0 : decode cX7_pupil 0 = .ok (.aload_n 0, 1) := by decide +kernel
theorem dX7_pupil_1 : decode cX7_pupil 1 = .ok (.iload_n 1, 1) := by decide +kernel
theorem dX7_pupil_2 : decode cX7_pupil 2 = .ok (.invokevirtual 159, 3) := by decide +kernel
theorem dX7_pupil_5 : decode cX7_pupil 5 = .ok (.ifCond .ne 6, 3) := by decide +kernel
theorem dX7_pupil_8 : decode cX7_pupil 8 = .ok (.ldc 67, 2) := by decide +kernel
theorem dX7_pupil_10 : decode cX7_pupil 10 = .ok (.ireturn, 1) := by decide +kernel
theorem dX7_pupil_11 : decode cX7_pupil 11 = .ok (.iload_n 2, 1) := by decide +kernel
theorem dX7_pupil_12 : decode cX7_pupil 12 = .ok (.tableswitch 78 0 3 #[32, 42, 52, 58], 32) := by decide +kernel
theorem dX7_pupil_44 : decode cX7_pupil 44 = .ok (.aload_n 0, 1) := by decide +kernel
theorem dX7_pupil_45 : decode cX7_pupil 45 = .ok (.getfield 19, 3) := by decide +kernel
theorem dX7_pupil_48 : decode cX7_pupil 48 = .ok (.bipush 47, 2) := by decide +kernel
theorem dX7_pupil_50 : decode cX7_pupil 50 = .ok (.iload_n 1, 1) := by decide +kernel
theorem dX7_pupil_51 : decode cX7_pupil 51 = .ok (.iadd, 1) := by decide +kernel
theorem dX7_pupil_52 : decode cX7_pupil 52 = .ok (.iaload, 1) := by decide +kernel
theorem dX7_pupil_53 : decode cX7_pupil 53 = .ok (.ireturn, 1) := by decide +kernel
theorem dX7_pupil_54 : decode cX7_pupil 54 = .ok (.aload_n 0, 1) := by decide +kernel
theorem dX7_pupil_55 : decode cX7_pupil 55 = .ok (.getfield 19, 3) := by decide +kernel
theorem dX7_pupil_58 : decode cX7_pupil 58 = .ok (.bipush 52, 2) := by decide +kernel
theorem dX7_pupil_60 : decode cX7_pupil 60 = .ok (.iload_n 1, 1) := by decide +kernel
theorem dX7_pupil_61 : decode cX7_pupil 61 = .ok (.iadd, 1) := by decide +kernel
theorem dX7_pupil_62 : decode cX7_pupil 62 = .ok (.iaload, 1) := by decide +kernel
theorem dX7_pupil_63 : decode cX7_pupil 63 = .ok (.ireturn, 1) := by decide +kernel
theorem dX7_pupil_64 : decode cX7_pupil 64 = .ok (.aload_n 0, 1) := by decide +kernel
theorem dX7_pupil_65 : decode cX7_pupil 65 = .ok (.iload_n 1, 1) := by decide +kernel
theorem dX7_pupil_66 : decode cX7_pupil 66 = .ok (.invokevirtual 169, 3) := by decide +kernel
theorem dX7_pupil_69 : decode cX7_pupil 69 = .ok (.ireturn, 1) := by decide +kernel
theorem dX7_pupil_70 : decode cX7_pupil 70 = .ok (.aload_n 0, 1) := by decide +kernel
theorem dX7_pupil_71 : decode cX7_pupil 71 = .ok (.iload_n 1, 1) := by decide +kernel
theorem dX7_pupil_72 : decode cX7_pupil 72 = .ok (.invokevirtual 169, 3) := by decide +kernel
theorem dX7_pupil_75 : decode cX7_pupil 75 = .ok (.aload_n 0, 1) := by decide +kernel
theorem dX7_pupil_76 : decode cX7_pupil 76 = .ok (.getfield 19, 3) := by decide +kernel
theorem dX7_pupil_79 : decode cX7_pupil 79 = .ok (.iconst 2, 1) := by decide +kernel
theorem dX7_pupil_80 : decode cX7_pupil 80 = .ok (.iaload, 1) := by decide +kernel
theorem dX7_pupil_81 : decode cX7_pupil 81 = .ok (.if_icmp .ne 7, 3) := by decide +kernel
theorem dX7_pupil_84 : decode cX7_pupil 84 = .ok (.iconst 1, 1) := by decide +kernel
theorem dX7_pupil_85 : decode cX7_pupil 85 = .ok (.goto 4, 3) := by decide +kernel
theorem dX7_pupil_88 : decode cX7_pupil 88 = .ok (.iconst 0, 1) := by decide +kernel
theorem dX7_pupil_89 : decode cX7_pupil 89 = .ok (.ireturn, 1) := by decide +kernel
theorem dX7_pupil_90 : decode cX7_pupil 90 = .ok (.ldc 67, 2) := by decide +kernel
theorem dX7_pupil_92 : decode cX7_pupil 92 = .ok (.ireturn, 1) := by decide +kernel
theorem dX7_reaches_0 : decode cX7_reaches 0 = .ok (.aload_n 0, 1) := by decide +kernel
theorem dX7_reaches_1 : decode cX7_reaches 1 = .ok (.bipush 12, 2) := by decide +kernel
theorem dX7_reaches_3 : decode cX7_reaches 3 = .ok (.putfield 172, 3) := by decide +kernel
theorem dX7_reaches_6 : decode cX7_reaches 6 = .ok (.aload_n 0, 1) := by decide +kernel
theorem dX7_reaches_7 : decode cX7_reaches 7 = .ok (.iconst (-1), 1) := by decide +kernel
theorem dX7_reaches_8 : decode cX7_reaches 8 = .ok (.putfield 175, 3) := by decide +kernel
theorem dX7_reaches_11 : decode cX7_reaches 11 = .ok (.iconst 0, 1) := by decide +kernel
theorem dX7_reaches_12 : decode cX7_reaches 12 = .ok (.istore_n 3, 1) := by decide +kernel
theorem dX7_reaches_13 : decode cX7_reaches 13 = .ok (.iload_n 3, 1) := by decide +kernel
theorem dX7_reaches_14 : decode cX7_reaches 14 = .ok (.aload_n 0, 1) := by decide +kernel
theorem dX7_reaches_15 : decode cX7_reaches 15 = .ok (.getfield 19, 3) := by decide +kernel
theorem dX7_reaches_18 : decode cX7_reaches 18 = .ok (.bipush 6, 2) := by decide +kernel
theorem dX7_reaches_20 : decode cX7_reaches 20 = .ok (.iload_n 2, 1) := by decide +kernel
theorem dX7_reaches_21 : decode cX7_reaches 21 = .ok (.iadd, 1) := by decide +kernel
theorem dX7_reaches_22 : decode cX7_reaches 22 = .ok (.iaload, 1) := by decide +kernel
theorem dX7_reaches_23 : decode cX7_reaches 23 = .ok (.if_icmp .ge 79, 3) := by decide +kernel
theorem dX7_reaches_26 : decode cX7_reaches 26 = .ok (.aload_n 0, 1) := by decide +kernel
theorem dX7_reaches_27 : decode cX7_reaches 27 = .ok (.aload_n 0, 1) := by decide +kernel
theorem dX7_reaches_28 : decode cX7_reaches 28 = .ok (.getfield 19, 3) := by decide +kernel
theorem dX7_reaches_31 : decode cX7_reaches 31 = .ok (.bipush 10, 2) := by decide +kernel
theorem dX7_reaches_33 : decode cX7_reaches 33 = .ok (.bipush 8, 2) := by decide +kernel
theorem dX7_reaches_35 : decode cX7_reaches 35 = .ok (.iload_n 2, 1) := by decide +kernel
theorem dX7_reaches_36 : decode cX7_reaches 36 = .ok (.imul, 1) := by decide +kernel
theorem dX7_reaches_37 : decode cX7_reaches 37 = .ok (.iadd, 1) := by decide +kernel
theorem dX7_reaches_38 : decode cX7_reaches 38 = .ok (.iload_n 3, 1) := by decide +kernel
theorem dX7_reaches_39 : decode cX7_reaches 39 = .ok (.iadd, 1) := by decide +kernel
theorem dX7_reaches_40 : decode cX7_reaches 40 = .ok (.iaload, 1) := by decide +kernel
theorem dX7_reaches_41 : decode cX7_reaches 41 = .ok (.aload_n 0, 1) := by decide +kernel
theorem dX7_reaches_42 : decode cX7_reaches 42 = .ok (.iload_n 1, 1) := by decide +kernel
theorem dX7_reaches_43 : decode cX7_reaches 43 = .ok (.invokevirtual 169, 3) := by decide +kernel
theorem dX7_reaches_46 : decode cX7_reaches 46 = .ok (.isub, 1) := by decide +kernel
theorem dX7_reaches_47 : decode cX7_reaches 47 = .ok (.invokevirtual 146, 3) := by decide +kernel
theorem dX7_reaches_50 : decode cX7_reaches 50 = .ok (.istore 4, 2) := by decide +kernel
theorem dX7_reaches_52 : decode cX7_reaches 52 = .ok (.aload_n 0, 1) := by decide +kernel
theorem dX7_reaches_53 : decode cX7_reaches 53 = .ok (.iload 4, 2) := by decide +kernel
theorem dX7_reaches_55 : decode cX7_reaches 55 = .ok (.aload_n 0, 1) := by decide +kernel
theorem dX7_reaches_56 : decode cX7_reaches 56 = .ok (.getfield 172, 3) := by decide +kernel
theorem dX7_reaches_59 : decode cX7_reaches 59 = .ok (.if_icmp .ge 8, 3) := by decide +kernel
theorem dX7_reaches_62 : decode cX7_reaches 62 = .ok (.iload 4, 2) := by decide +kernel
theorem dX7_reaches_64 : decode cX7_reaches 64 = .ok (.goto 7, 3) := by decide +kernel
theorem dX7_reaches_67 : decode cX7_reaches 67 = .ok (.aload_n 0, 1) := by decide +kernel
theorem dX7_reaches_68 : decode cX7_reaches 68 = .ok (.getfield 172, 3) := by decide +kernel
theorem dX7_reaches_71 : decode cX7_reaches 71 = .ok (.putfield 172, 3) := by decide +kernel
theorem dX7_reaches_74 : decode cX7_reaches 74 = .ok (.aload_n 0, 1) := by decide +kernel
theorem dX7_reaches_75 : decode cX7_reaches 75 = .ok (.iload 4, 2) := by decide +kernel
theorem dX7_reaches_77 : decode cX7_reaches 77 = .ok (.aload_n 0, 1) := by decide +kernel
theorem dX7_reaches_78 : decode cX7_reaches 78 = .ok (.getfield 175, 3) := by decide +kernel
theorem dX7_reaches_81 : decode cX7_reaches 81 = .ok (.if_icmp .le 8, 3) := by decide +kernel
theorem dX7_reaches_84 : decode cX7_reaches 84 = .ok (.iload 4, 2) := by decide +kernel
theorem dX7_reaches_86 : decode cX7_reaches 86 = .ok (.goto 7, 3) := by decide +kernel
theorem dX7_reaches_89 : decode cX7_reaches 89 = .ok (.aload_n 0, 1) := by decide +kernel
theorem dX7_reaches_90 : decode cX7_reaches 90 = .ok (.getfield 175, 3) := by decide +kernel
theorem dX7_reaches_93 : decode cX7_reaches 93 = .ok (.putfield 175, 3) := by decide +kernel
theorem dX7_reaches_96 : decode cX7_reaches 96 = .ok (.iinc 3 1, 3) := by decide +kernel
theorem dX7_reaches_99 : decode cX7_reaches 99 = .ok (.goto (-86), 3) := by decide +kernel
theorem dX7_reaches_102 : decode cX7_reaches 102 = .ok (.aload_n 0, 1) := by decide +kernel
theorem dX7_reaches_103 : decode cX7_reaches 103 = .ok (.getfield 175, 3) := by decide +kernel
theorem dX7_reaches_106 : decode cX7_reaches 106 = .ok (.aload_n 0, 1) := by decide +kernel
theorem dX7_reaches_107 : decode cX7_reaches 107 = .ok (.getfield 172, 3) := by decide +kernel
theorem dX7_reaches_110 : decode cX7_reaches 110 = .ok (.isub, 1) := by decide +kernel
theorem dX7_reaches_111 : decode cX7_reaches 111 = .ok (.aload_n 0, 1) := by decide +kernel
theorem dX7_reaches_112 : decode cX7_reaches 112 = .ok (.getfield 19, 3) := by decide +kernel
theorem dX7_reaches_115 : decode cX7_reaches 115 = .ok (.bipush 52, 2) := by decide +kernel
theorem dX7_reaches_117 : decode cX7_reaches 117 = .ok (.iload_n 1, 1) := by decide +kernel
theorem dX7_reaches_118 : decode cX7_reaches 118 = .ok (.iadd, 1) := by decide +kernel
theorem dX7_reaches_119 : decode cX7_reaches 119 = .ok (.iaload, 1) := by decide +kernel
theorem dX7_reaches_120 : decode cX7_reaches 120 = .ok (.if_icmp .ge 7, 3) := by decide +kernel
theorem dX7_reaches_123 : decode cX7_reaches 123 = .ok (.iconst 1, 1) := by decide +kernel
theorem dX7_reaches_124 : decode cX7_reaches 124 = .ok (.goto 4, 3) := by decide +kernel
theorem dX7_reaches_127 : decode cX7_reaches 127 = .ok (.iconst 0, 1) := by decide +kernel
theorem dX7_reaches_128 : decode cX7_reaches 128 = .ok (.ireturn, 1) := by decide +kernel
theorem dX7_plays_0 : decode cX7_plays 0 = .ok (.aload_n 0, 1) := by decide +kernel
theorem dX7_plays_1 : decode cX7_plays 1 = .ok (.iload_n 1, 1) := by decide +kernel
theorem dX7_plays_2 : decode cX7_plays 2 = .ok (.invokevirtual 159, 3) := by decide +kernel
theorem dX7_plays_5 : decode cX7_plays 5 = .ok (.ifCond .eq 23, 3) := by decide +kernel
theorem dX7_plays_8 : decode cX7_plays 8 = .ok (.aload_n 0, 1) := by decide +kernel
theorem dX7_plays_9 : decode cX7_plays 9 = .ok (.iload_n 2, 1) := by decide +kernel
theorem dX7_plays_10 : decode cX7_plays 10 = .ok (.invokevirtual 162, 3) := by decide +kernel
theorem dX7_plays_13 : decode cX7_plays 13 = .ok (.ifCond .eq 15, 3) := by decide +kernel
theorem dX7_plays_16 : decode cX7_plays 16 = .ok (.iload_n 3, 1) := by decide +kernel
theorem dX7_plays_17 : decode cX7_plays 17 = .ok (.i2l, 1) := by decide +kernel
theorem dX7_plays_18 : decode cX7_plays 18 = .ok (.lconst 0, 1) := by decide +kernel
theorem dX7_plays_19 : decode cX7_plays 19 = .ok (.ldc2_w 65, 3) := by decide +kernel
theorem dX7_plays_22 : decode cX7_plays 22 = .ok (.invokestatic 57, 3) := by decide +kernel
theorem dX7_plays_25 : decode cX7_plays 25 = .ok (.ifCond .ne 6, 3) := by decide +kernel
theorem dX7_plays_28 : decode cX7_plays 28 = .ok (.ldc 67, 2) := by decide +kernel
theorem dX7_plays_30 : decode cX7_plays 30 = .ok (.ireturn, 1) := by decide +kernel
theorem dX7_plays_31 : decode cX7_plays 31 = .ok (.aload_n 0, 1) := by decide +kernel
theorem dX7_plays_32 : decode cX7_plays 32 = .ok (.iload_n 1, 1) := by decide +kernel
theorem dX7_plays_33 : decode cX7_plays 33 = .ok (.iload_n 2, 1) := by decide +kernel
theorem dX7_plays_34 : decode cX7_plays 34 = .ok (.invokevirtual 178, 3) := by decide +kernel
theorem dX7_plays_37 : decode cX7_plays 37 = .ok (.istore 4, 2) := by decide +kernel
theorem dX7_plays_39 : decode cX7_plays 39 = .ok (.iload_n 3, 1) := by decide +kernel
theorem dX7_plays_40 : decode cX7_plays 40 = .ok (.ifCond .ne 16, 3) := by decide +kernel
theorem dX7_plays_43 : decode cX7_plays 43 = .ok (.iload 4, 2) := by decide +kernel
theorem dX7_plays_45 : decode cX7_plays 45 = .ok (.ifCond .eq 7, 3) := by decide +kernel
theorem dX7_plays_48 : decode cX7_plays 48 = .ok (.iconst 1, 1) := by decide +kernel
theorem dX7_plays_49 : decode cX7_plays 49 = .ok (.goto 23, 3) := by decide +kernel
theorem dX7_plays_52 : decode cX7_plays 52 = .ok (.iconst 0, 1) := by decide +kernel
theorem dX7_plays_53 : decode cX7_plays 53 = .ok (.goto 19, 3) := by decide +kernel
theorem dX7_plays_56 : decode cX7_plays 56 = .ok (.iload_n 3, 1) := by decide +kernel
theorem dX7_plays_57 : decode cX7_plays 57 = .ok (.iconst 1, 1) := by decide +kernel
theorem dX7_plays_58 : decode cX7_plays 58 = .ok (.if_icmp .ne 10, 3) := by decide +kernel
theorem dX7_plays_61 : decode cX7_plays 61 = .ok (.aload_n 0, 1) := by decide +kernel
theorem dX7_plays_62 : decode cX7_plays 62 = .ok (.getfield 172, 3) := by decide +kernel
theorem dX7_plays_65 : decode cX7_plays 65 = .ok (.goto 7, 3) := by decide +kernel
theorem dX7_plays_68 : decode cX7_plays 68 = .ok (.aload_n 0, 1) := by decide +kernel
theorem dX7_plays_69 : decode cX7_plays 69 = .ok (.getfield 175, 3) := by decide +kernel
theorem dX7_plays_72 : decode cX7_plays 72 = .ok (.ireturn, 1) := by decide +kernel
theorem dX7_heardBy_0 : decode cX7_heardBy 0 = .ok (.aload_n 0, 1) := by decide +kernel
theorem dX7_heardBy_1 : decode cX7_heardBy 1 = .ok (.aload_n 0, 1) := by decide +kernel
theorem dX7_heardBy_2 : decode cX7_heardBy 2 = .ok (.getfield 19, 3) := by decide +kernel
theorem dX7_heardBy_5 : decode cX7_heardBy 5 = .ok (.bipush 10, 2) := by decide +kernel
theorem dX7_heardBy_7 : decode cX7_heardBy 7 = .ok (.bipush 8, 2) := by decide +kernel
theorem dX7_heardBy_9 : decode cX7_heardBy 9 = .ok (.iload_n 2, 1) := by decide +kernel
theorem dX7_heardBy_10 : decode cX7_heardBy 10 = .ok (.imul, 1) := by decide +kernel
theorem dX7_heardBy_11 : decode cX7_heardBy 11 = .ok (.iadd, 1) := by decide +kernel
theorem dX7_heardBy_12 : decode cX7_heardBy 12 = .ok (.iload_n 3, 1) := by decide +kernel
theorem dX7_heardBy_13 : decode cX7_heardBy 13 = .ok (.iadd, 1) := by decide +kernel
theorem dX7_heardBy_14 : decode cX7_heardBy 14 = .ok (.iaload, 1) := by decide +kernel
theorem dX7_heardBy_15 : decode cX7_heardBy 15 = .ok (.iload_n 1, 1) := by decide +kernel
theorem dX7_heardBy_16 : decode cX7_heardBy 16 = .ok (.isub, 1) := by decide +kernel
theorem dX7_heardBy_17 : decode cX7_heardBy 17 = .ok (.aload_n 0, 1) := by decide +kernel
theorem dX7_heardBy_18 : decode cX7_heardBy 18 = .ok (.getfield 19, 3) := by decide +kernel
theorem dX7_heardBy_21 : decode cX7_heardBy 21 = .ok (.iconst 2, 1) := by decide +kernel
theorem dX7_heardBy_22 : decode cX7_heardBy 22 = .ok (.iaload, 1) := by decide +kernel
theorem dX7_heardBy_23 : decode cX7_heardBy 23 = .ok (.iadd, 1) := by decide +kernel
theorem dX7_heardBy_24 : decode cX7_heardBy 24 = .ok (.invokevirtual 146, 3) := by decide +kernel
theorem dX7_heardBy_27 : decode cX7_heardBy 27 = .ok (.ireturn, 1) := by decide +kernel
theorem dX7_heard_0 : decode cX7_heard 0 = .ok (.aload_n 0, 1) := by decide +kernel
theorem dX7_heard_1 : decode cX7_heard 1 = .ok (.iload_n 1, 1) := by decide +kernel
theorem dX7_heard_2 : decode cX7_heard 2 = .ok (.invokevirtual 159, 3) := by decide +kernel
theorem dX7_heard_5 : decode cX7_heard 5 = .ok (.ifCond .eq 32, 3) := by decide +kernel
theorem dX7_heard_8 : decode cX7_heard 8 = .ok (.aload_n 0, 1) := by decide +kernel
theorem dX7_heard_9 : decode cX7_heard 9 = .ok (.iload_n 2, 1) := by decide +kernel
theorem dX7_heard_10 : decode cX7_heard 10 = .ok (.invokevirtual 162, 3) := by decide +kernel
theorem dX7_heard_13 : decode cX7_heard 13 = .ok (.ifCond .eq 24, 3) := by decide +kernel
theorem dX7_heard_16 : decode cX7_heard 16 = .ok (.iload_n 3, 1) := by decide +kernel
theorem dX7_heard_17 : decode cX7_heard 17 = .ok (.i2l, 1) := by decide +kernel
theorem dX7_heard_18 : decode cX7_heard 18 = .ok (.lconst 0, 1) := by decide +kernel
theorem dX7_heard_19 : decode cX7_heard 19 = .ok (.aload_n 0, 1) := by decide +kernel
theorem dX7_heard_20 : decode cX7_heard 20 = .ok (.getfield 19, 3) := by decide +kernel
theorem dX7_heard_23 : decode cX7_heard 23 = .ok (.bipush 6, 2) := by decide +kernel
theorem dX7_heard_25 : decode cX7_heard 25 = .ok (.iload_n 2, 1) := by decide +kernel
theorem dX7_heard_26 : decode cX7_heard 26 = .ok (.iadd, 1) := by decide +kernel
theorem dX7_heard_27 : decode cX7_heard 27 = .ok (.iaload, 1) := by decide +kernel
theorem dX7_heard_28 : decode cX7_heard 28 = .ok (.iconst 1, 1) := by decide +kernel
theorem dX7_heard_29 : decode cX7_heard 29 = .ok (.isub, 1) := by decide +kernel
theorem dX7_heard_30 : decode cX7_heard 30 = .ok (.i2l, 1) := by decide +kernel
theorem dX7_heard_31 : decode cX7_heard 31 = .ok (.invokestatic 57, 3) := by decide +kernel
theorem dX7_heard_34 : decode cX7_heard 34 = .ok (.ifCond .ne 6, 3) := by decide +kernel
theorem dX7_heard_37 : decode cX7_heard 37 = .ok (.ldc 67, 2) := by decide +kernel
theorem dX7_heard_39 : decode cX7_heard 39 = .ok (.ireturn, 1) := by decide +kernel
theorem dX7_heard_40 : decode cX7_heard 40 = .ok (.aload_n 0, 1) := by decide +kernel
theorem dX7_heard_41 : decode cX7_heard 41 = .ok (.aload_n 0, 1) := by decide +kernel
theorem dX7_heard_42 : decode cX7_heard 42 = .ok (.iload_n 1, 1) := by decide +kernel
theorem dX7_heard_43 : decode cX7_heard 43 = .ok (.invokevirtual 169, 3) := by decide +kernel
theorem dX7_heard_46 : decode cX7_heard 46 = .ok (.iload_n 2, 1) := by decide +kernel
theorem dX7_heard_47 : decode cX7_heard 47 = .ok (.iload_n 3, 1) := by decide +kernel
theorem dX7_heard_48 : decode cX7_heard 48 = .ok (.invokevirtual 182, 3) := by decide +kernel
theorem dX7_heard_51 : decode cX7_heard 51 = .ok (.ireturn, 1) := by decide +kernel
theorem dX7_strike_0 : decode cX7_strike 0 = .ok (.aload_n 0, 1) := by decide +kernel
theorem dX7_strike_1 : decode cX7_strike 1 = .ok (.getfield 138, 3) := by decide +kernel
theorem dX7_strike_4 : decode cX7_strike 4 = .ok (.ifCond .ne 6, 3) := by decide +kernel
theorem dX7_strike_7 : decode cX7_strike 7 = .ok (.ldc 145, 2) := by decide +kernel
theorem dX7_strike_9 : decode cX7_strike 9 = .ok (.ireturn, 1) := by decide +kernel
theorem dX7_strike_10 : decode cX7_strike 10 = .ok (.iload_n 1, 1) := by decide +kernel
theorem dX7_strike_11 : decode cX7_strike 11 = .ok (.i2l, 1) := by decide +kernel
theorem dX7_strike_12 : decode cX7_strike 12 = .ok (.lconst 0, 1) := by decide +kernel
theorem dX7_strike_13 : decode cX7_strike 13 = .ok (.aload_n 0, 1) := by decide +kernel
theorem dX7_strike_14 : decode cX7_strike 14 = .ok (.getfield 19, 3) := by decide +kernel
theorem dX7_strike_17 : decode cX7_strike 17 = .ok (.iconst 0, 1) := by decide +kernel
theorem dX7_strike_18 : decode cX7_strike 18 = .ok (.iaload, 1) := by decide +kernel
theorem dX7_strike_19 : decode cX7_strike 19 = .ok (.iconst 1, 1) := by decide +kernel
theorem dX7_strike_20 : decode cX7_strike 20 = .ok (.isub, 1) := by decide +kernel
theorem dX7_strike_21 : decode cX7_strike 21 = .ok (.i2l, 1) := by decide +kernel
theorem dX7_strike_22 : decode cX7_strike 22 = .ok (.invokestatic 57, 3) := by decide +kernel
theorem dX7_strike_25 : decode cX7_strike 25 = .ok (.ifCond .eq 18, 3) := by decide +kernel
theorem dX7_strike_28 : decode cX7_strike 28 = .ok (.aload_n 0, 1) := by decide +kernel
theorem dX7_strike_29 : decode cX7_strike 29 = .ok (.iload_n 1, 1) := by decide +kernel
theorem dX7_strike_30 : decode cX7_strike 30 = .ok (.aload_n 0, 1) := by decide +kernel
theorem dX7_strike_31 : decode cX7_strike 31 = .ok (.getfield 19, 3) := by decide +kernel
theorem dX7_strike_34 : decode cX7_strike 34 = .ok (.iconst 2, 1) := by decide +kernel
theorem dX7_strike_35 : decode cX7_strike 35 = .ok (.iaload, 1) := by decide +kernel
theorem dX7_strike_36 : decode cX7_strike 36 = .ok (.iadd, 1) := by decide +kernel
theorem dX7_strike_37 : decode cX7_strike 37 = .ok (.invokevirtual 146, 3) := by decide +kernel
theorem dX7_strike_40 : decode cX7_strike 40 = .ok (.goto 5, 3) := by decide +kernel
theorem dX7_strike_43 : decode cX7_strike 43 = .ok (.ldc 67, 2) := by decide +kernel
theorem dX7_strike_45 : decode cX7_strike 45 = .ok (.ireturn, 1) := by decide +kernel
theorem dX7_soonBy_0 : decode cX7_soonBy 0 = .ok (.iconst 0, 1) := by decide +kernel
theorem dX7_soonBy_1 : decode cX7_soonBy 1 = .ok (.istore_n 3, 1) := by decide +kernel
theorem dX7_soonBy_2 : decode cX7_soonBy 2 = .ok (.iload_n 3, 1) := by decide +kernel
theorem dX7_soonBy_3 : decode cX7_soonBy 3 = .ok (.bipush 60, 2) := by decide +kernel
theorem dX7_soonBy_5 : decode cX7_soonBy 5 = .ok (.if_icmp .gt 25, 3) := by decide +kernel
theorem dX7_soonBy_8 : decode cX7_soonBy 8 = .ok (.aload_n 0, 1) := by decide +kernel
theorem dX7_soonBy_9 : decode cX7_soonBy 9 = .ok (.iload_n 3, 1) := by decide +kernel
theorem dX7_soonBy_10 : decode cX7_soonBy 10 = .ok (.invokevirtual 154, 3) := by decide +kernel
theorem dX7_soonBy_13 : decode cX7_soonBy 13 = .ok (.iload_n 1, 1) := by decide +kernel
theorem dX7_soonBy_14 : decode cX7_soonBy 14 = .ok (.if_icmp .ne 10, 3) := by decide +kernel
theorem dX7_soonBy_17 : decode cX7_soonBy 17 = .ok (.iload_n 1, 1) := by decide +kernel
theorem dX7_soonBy_18 : decode cX7_soonBy 18 = .ok (.iload_n 2, 1) := by decide +kernel
theorem dX7_soonBy_19 : decode cX7_soonBy 19 = .ok (.if_icmp .ne 5, 3) := by decide +kernel
theorem dX7_soonBy_22 : decode cX7_soonBy 22 = .ok (.iload_n 3, 1) := by decide +kernel
theorem dX7_soonBy_23 : decode cX7_soonBy 23 = .ok (.ireturn, 1) := by decide +kernel
theorem dX7_soonBy_24 : decode cX7_soonBy 24 = .ok (.iinc 3 1, 3) := by decide +kernel
theorem dX7_soonBy_27 : decode cX7_soonBy 27 = .ok (.goto (-25), 3) := by decide +kernel
theorem dX7_soonBy_30 : decode cX7_soonBy 30 = .ok (.ldc 165, 2) := by decide +kernel
theorem dX7_soonBy_32 : decode cX7_soonBy 32 = .ok (.ireturn, 1) := by decide +kernel
theorem dX7_soon_0 : decode cX7_soon 0 = .ok (.aload_n 0, 1) := by decide +kernel
theorem dX7_soon_1 : decode cX7_soon 1 = .ok (.iload_n 1, 1) := by decide +kernel
theorem dX7_soon_2 : decode cX7_soon 2 = .ok (.invokevirtual 159, 3) := by decide +kernel
theorem dX7_soon_5 : decode cX7_soon 5 = .ok (.ifCond .eq 20, 3) := by decide +kernel
theorem dX7_soon_8 : decode cX7_soon 8 = .ok (.aload_n 0, 1) := by decide +kernel
theorem dX7_soon_9 : decode cX7_soon 9 = .ok (.aload_n 0, 1) := by decide +kernel
theorem dX7_soon_10 : decode cX7_soon 10 = .ok (.iload_n 1, 1) := by decide +kernel
theorem dX7_soon_11 : decode cX7_soon 11 = .ok (.invokevirtual 169, 3) := by decide +kernel
theorem dX7_soon_14 : decode cX7_soon 14 = .ok (.aload_n 0, 1) := by decide +kernel
theorem dX7_soon_15 : decode cX7_soon 15 = .ok (.iload_n 1, 1) := by decide +kernel
theorem dX7_soon_16 : decode cX7_soon 16 = .ok (.invokevirtual 169, 3) := by decide +kernel
theorem dX7_soon_19 : decode cX7_soon 19 = .ok (.invokevirtual 186, 3) := by decide +kernel
theorem dX7_soon_22 : decode cX7_soon 22 = .ok (.goto 5, 3) := by decide +kernel
theorem dX7_soon_25 : decode cX7_soon 25 = .ok (.ldc 67, 2) := by decide +kernel
theorem dX7_soon_27 : decode cX7_soon 27 = .ok (.ireturn, 1) := by decide +kernel
theorem dX7_together_0 : decode cX7_together 0 = .ok (.aload_n 0, 1) := by decide +kernel
theorem dX7_together_1 : decode cX7_together 1 = .ok (.iload_n 1, 1) := by decide +kernel
theorem dX7_together_2 : decode cX7_together 2 = .ok (.invokevirtual 159, 3) := by decide +kernel
theorem dX7_together_5 : decode cX7_together 5 = .ok (.ifCond .eq 33, 3) := by decide +kernel
theorem dX7_together_8 : decode cX7_together 8 = .ok (.aload_n 0, 1) := by decide +kernel
theorem dX7_together_9 : decode cX7_together 9 = .ok (.iload_n 2, 1) := by decide +kernel
theorem dX7_together_10 : decode cX7_together 10 = .ok (.invokevirtual 159, 3) := by decide +kernel
theorem dX7_together_13 : decode cX7_together 13 = .ok (.ifCond .eq 25, 3) := by decide +kernel
theorem dX7_together_16 : decode cX7_together 16 = .ok (.iload_n 1, 1) := by decide +kernel
theorem dX7_together_17 : decode cX7_together 17 = .ok (.iload_n 2, 1) := by decide +kernel
theorem dX7_together_18 : decode cX7_together 18 = .ok (.if_icmp .eq 20, 3) := by decide +kernel
theorem dX7_together_21 : decode cX7_together 21 = .ok (.aload_n 0, 1) := by decide +kernel
theorem dX7_together_22 : decode cX7_together 22 = .ok (.aload_n 0, 1) := by decide +kernel
theorem dX7_together_23 : decode cX7_together 23 = .ok (.iload_n 1, 1) := by decide +kernel
theorem dX7_together_24 : decode cX7_together 24 = .ok (.invokevirtual 169, 3) := by decide +kernel
theorem dX7_together_27 : decode cX7_together 27 = .ok (.aload_n 0, 1) := by decide +kernel
theorem dX7_together_28 : decode cX7_together 28 = .ok (.iload_n 2, 1) := by decide +kernel
theorem dX7_together_29 : decode cX7_together 29 = .ok (.invokevirtual 169, 3) := by decide +kernel
theorem dX7_together_32 : decode cX7_together 32 = .ok (.invokevirtual 186, 3) := by decide +kernel
theorem dX7_together_35 : decode cX7_together 35 = .ok (.goto 5, 3) := by decide +kernel
theorem dX7_together_38 : decode cX7_together 38 = .ok (.ldc 67, 2) := by decide +kernel
theorem dX7_together_40 : decode cX7_together 40 = .ok (.ireturn, 1) := by decide +kernel
theorem dX7_itself_0 : decode cX7_itself 0 = .ok (.aload_n 0, 1) := by decide +kernel
theorem dX7_itself_1 : decode cX7_itself 1 = .ok (.getfield 138, 3) := by decide +kernel
theorem dX7_itself_4 : decode cX7_itself 4 = .ok (.ifCond .eq 12, 3) := by decide +kernel
theorem dX7_itself_7 : decode cX7_itself 7 = .ok (.aload_n 0, 1) := by decide +kernel
theorem dX7_itself_8 : decode cX7_itself 8 = .ok (.iconst 0, 1) := by decide +kernel
theorem dX7_itself_9 : decode cX7_itself 9 = .ok (.iconst 0, 1) := by decide +kernel
theorem dX7_itself_10 : decode cX7_itself 10 = .ok (.invokevirtual 186, 3) := by decide +kernel
theorem dX7_itself_13 : decode cX7_itself 13 = .ok (.goto 5, 3) := by decide +kernel
theorem dX7_itself_16 : decode cX7_itself 16 = .ok (.ldc 145, 2) := by decide +kernel
theorem dX7_itself_18 : decode cX7_itself 18 = .ok (.ireturn, 1) := by decide +kernel
theorem dX7_nightsOf_0 : decode cX7_nightsOf 0 = .ok (.aload_n 0, 1) := by decide +kernel
theorem dX7_nightsOf_1 : decode cX7_nightsOf 1 = .ok (.iload_n 1, 1) := by decide +kernel
theorem dX7_nightsOf_2 : decode cX7_nightsOf 2 = .ok (.invokevirtual 159, 3) := by decide +kernel
theorem dX7_nightsOf_5 : decode cX7_nightsOf 5 = .ok (.ifCond .eq 15, 3) := by decide +kernel
theorem dX7_nightsOf_8 : decode cX7_nightsOf 8 = .ok (.iload_n 2, 1) := by decide +kernel
theorem dX7_nightsOf_9 : decode cX7_nightsOf 9 = .ok (.i2l, 1) := by decide +kernel
theorem dX7_nightsOf_10 : decode cX7_nightsOf 10 = .ok (.lconst 1, 1) := by decide +kernel
theorem dX7_nightsOf_11 : decode cX7_nightsOf 11 = .ok (.ldc2_w 149, 3) := by decide +kernel
theorem dX7_nightsOf_14 : decode cX7_nightsOf 14 = .ok (.invokestatic 57, 3) := by decide +kernel
theorem dX7_nightsOf_17 : decode cX7_nightsOf 17 = .ok (.ifCond .ne 6, 3) := by decide +kernel
theorem dX7_nightsOf_20 : decode cX7_nightsOf 20 = .ok (.ldc 67, 2) := by decide +kernel
theorem dX7_nightsOf_22 : decode cX7_nightsOf 22 = .ok (.ireturn, 1) := by decide +kernel
theorem dX7_nightsOf_23 : decode cX7_nightsOf 23 = .ok (.iconst 0, 1) := by decide +kernel
theorem dX7_nightsOf_24 : decode cX7_nightsOf 24 = .ok (.istore_n 3, 1) := by decide +kernel
theorem dX7_nightsOf_25 : decode cX7_nightsOf 25 = .ok (.iconst 0, 1) := by decide +kernel
theorem dX7_nightsOf_26 : decode cX7_nightsOf 26 = .ok (.istore 4, 2) := by decide +kernel
theorem dX7_nightsOf_28 : decode cX7_nightsOf 28 = .ok (.iload 4, 2) := by decide +kernel
theorem dX7_nightsOf_30 : decode cX7_nightsOf 30 = .ok (.iload_n 2, 1) := by decide +kernel
theorem dX7_nightsOf_31 : decode cX7_nightsOf 31 = .ok (.if_icmp .ge 34, 3) := by decide +kernel
theorem dX7_nightsOf_34 : decode cX7_nightsOf 34 = .ok (.iload_n 3, 1) := by decide +kernel
theorem dX7_nightsOf_35 : decode cX7_nightsOf 35 = .ok (.aload_n 0, 1) := by decide +kernel
theorem dX7_nightsOf_36 : decode cX7_nightsOf 36 = .ok (.iload 4, 2) := by decide +kernel
theorem dX7_nightsOf_38 : decode cX7_nightsOf 38 = .ok (.invokevirtual 154, 3) := by decide +kernel
theorem dX7_nightsOf_41 : decode cX7_nightsOf 41 = .ok (.aload_n 0, 1) := by decide +kernel
theorem dX7_nightsOf_42 : decode cX7_nightsOf 42 = .ok (.iload_n 1, 1) := by decide +kernel
theorem dX7_nightsOf_43 : decode cX7_nightsOf 43 = .ok (.invokevirtual 169, 3) := by decide +kernel
theorem dX7_nightsOf_46 : decode cX7_nightsOf 46 = .ok (.if_icmp .ne 10, 3) := by decide +kernel
theorem dX7_nightsOf_49 : decode cX7_nightsOf 49 = .ok (.iconst 1, 1) := by decide +kernel
theorem dX7_nightsOf_50 : decode cX7_nightsOf 50 = .ok (.iload 4, 2) := by decide +kernel
theorem dX7_nightsOf_52 : decode cX7_nightsOf 52 = .ok (.ishl, 1) := by decide +kernel
theorem dX7_nightsOf_53 : decode cX7_nightsOf 53 = .ok (.goto 4, 3) := by decide +kernel
theorem dX7_nightsOf_56 : decode cX7_nightsOf 56 = .ok (.iconst 0, 1) := by decide +kernel
theorem dX7_nightsOf_57 : decode cX7_nightsOf 57 = .ok (.ior, 1) := by decide +kernel
theorem dX7_nightsOf_58 : decode cX7_nightsOf 58 = .ok (.istore_n 3, 1) := by decide +kernel
theorem dX7_nightsOf_59 : decode cX7_nightsOf 59 = .ok (.iinc 4 1, 3) := by decide +kernel
end
section
theorem dX7_nightsOf_62 : decode cX7_nightsOf 62 = .ok (.goto (-34), 3) := by decide +kernel
theorem dX7_nightsOf_65 : decode cX7_nightsOf 65 = .ok (.iload_n 3, 1) := by decide +kernel
theorem dX7_nightsOf_66 : decode cX7_nightsOf 66 = .ok (.ireturn, 1) := by decide +kernel
theorem dX7_lacks_0 : decode cX7_lacks 0 = .ok (.aload_n 0, 1) := by decide +kernel
theorem dX7_lacks_1 : decode cX7_lacks 1 = .ok (.getfield 13, 3) := by decide +kernel
theorem dX7_lacks_4 : decode cX7_lacks 4 = .ok (.iload_n 1, 1) := by decide +kernel
theorem dX7_lacks_5 : decode cX7_lacks 5 = .ok (.iaload, 1) := by decide +kernel
theorem dX7_lacks_6 : decode cX7_lacks 6 = .ok (.ifCond .ge 9, 3) := by decide +kernel
theorem dX7_lacks_9 : decode cX7_lacks 9 = .ok (.aload_n 0, 1) := by decide +kernel
theorem dX7_lacks_10 : decode cX7_lacks 10 = .ok (.iconst 1, 1) := by decide +kernel
theorem dX7_lacks_11 : decode cX7_lacks 11 = .ok (.invokevirtual 68, 3) := by decide +kernel
theorem dX7_lacks_14 : decode cX7_lacks 14 = .ok (.ireturn, 1) := by decide +kernel
theorem dX7_lacks_15 : decode cX7_lacks 15 = .ok (.iload_n 2, 1) := by decide +kernel
theorem dX7_lacks_16 : decode cX7_lacks 16 = .ok (.i2l, 1) := by decide +kernel
theorem dX7_lacks_17 : decode cX7_lacks 17 = .ok (.lconst 0, 1) := by decide +kernel
theorem dX7_lacks_18 : decode cX7_lacks 18 = .ok (.aload_n 0, 1) := by decide +kernel
theorem dX7_lacks_19 : decode cX7_lacks 19 = .ok (.getfield 13, 3) := by decide +kernel
theorem dX7_lacks_22 : decode cX7_lacks 22 = .ok (.iload_n 1, 1) := by decide +kernel
theorem dX7_lacks_23 : decode cX7_lacks 23 = .ok (.iaload, 1) := by decide +kernel
theorem dX7_lacks_24 : decode cX7_lacks 24 = .ok (.iload_n 3, 1) := by decide +kernel
theorem dX7_lacks_25 : decode cX7_lacks 25 = .ok (.isub, 1) := by decide +kernel
theorem dX7_lacks_26 : decode cX7_lacks 26 = .ok (.i2l, 1) := by decide +kernel
theorem dX7_lacks_27 : decode cX7_lacks 27 = .ok (.invokestatic 57, 3) := by decide +kernel
theorem dX7_lacks_30 : decode cX7_lacks 30 = .ok (.ifCond .eq 7, 3) := by decide +kernel
theorem dX7_lacks_33 : decode cX7_lacks 33 = .ok (.iconst 0, 1) := by decide +kernel
theorem dX7_lacks_34 : decode cX7_lacks 34 = .ok (.goto 8, 3) := by decide +kernel
theorem dX7_lacks_37 : decode cX7_lacks 37 = .ok (.aload_n 0, 1) := by decide +kernel
theorem dX7_lacks_38 : decode cX7_lacks 38 = .ok (.iconst 2, 1) := by decide +kernel
theorem dX7_lacks_39 : decode cX7_lacks 39 = .ok (.invokevirtual 68, 3) := by decide +kernel
theorem dX7_lacks_42 : decode cX7_lacks 42 = .ok (.ireturn, 1) := by decide +kernel
theorem dX7_struck_0 : decode cX7_struck 0 = .ok (.aload_n 0, 1) := by decide +kernel
theorem dX7_struck_1 : decode cX7_struck 1 = .ok (.getfield 138, 3) := by decide +kernel
theorem dX7_struck_4 : decode cX7_struck 4 = .ok (.ifCond .ne 6, 3) := by decide +kernel
theorem dX7_struck_7 : decode cX7_struck 7 = .ok (.ldc 145, 2) := by decide +kernel
theorem dX7_struck_9 : decode cX7_struck 9 = .ok (.ireturn, 1) := by decide +kernel
theorem dX7_struck_10 : decode cX7_struck 10 = .ok (.iload_n 1, 1) := by decide +kernel
theorem dX7_struck_11 : decode cX7_struck 11 = .ok (.invokestatic 61, 3) := by decide +kernel
theorem dX7_struck_14 : decode cX7_struck 14 = .ok (.ifCond .eq 26, 3) := by decide +kernel
theorem dX7_struck_17 : decode cX7_struck 17 = .ok (.iload_n 3, 1) := by decide +kernel
theorem dX7_struck_18 : decode cX7_struck 18 = .ok (.i2l, 1) := by decide +kernel
theorem dX7_struck_19 : decode cX7_struck 19 = .ok (.lconst 1, 1) := by decide +kernel
theorem dX7_struck_20 : decode cX7_struck 20 = .ok (.ldc2_w 189, 3) := by decide +kernel
theorem dX7_struck_23 : decode cX7_struck 23 = .ok (.invokestatic 57, 3) := by decide +kernel
theorem dX7_struck_26 : decode cX7_struck 26 = .ok (.ifCond .eq 14, 3) := by decide +kernel
theorem dX7_struck_29 : decode cX7_struck 29 = .ok (.iload 4, 2) := by decide +kernel
theorem dX7_struck_31 : decode cX7_struck 31 = .ok (.i2l, 1) := by decide +kernel
theorem dX7_struck_32 : decode cX7_struck 32 = .ok (.lconst 0, 1) := by decide +kernel
theorem dX7_struck_33 : decode cX7_struck 33 = .ok (.lconst 1, 1) := by decide +kernel
theorem dX7_struck_34 : decode cX7_struck 34 = .ok (.invokestatic 57, 3) := by decide +kernel
theorem dX7_struck_37 : decode cX7_struck 37 = .ok (.ifCond .ne 6, 3) := by decide +kernel
theorem dX7_struck_40 : decode cX7_struck 40 = .ok (.ldc 67, 2) := by decide +kernel
theorem dX7_struck_42 : decode cX7_struck 42 = .ok (.ireturn, 1) := by decide +kernel
theorem dX7_struck_43 : decode cX7_struck 43 = .ok (.aload_n 0, 1) := by decide +kernel
theorem dX7_struck_44 : decode cX7_struck 44 = .ok (.iload_n 1, 1) := by decide +kernel
theorem dX7_struck_45 : decode cX7_struck 45 = .ok (.iload_n 2, 1) := by decide +kernel
theorem dX7_struck_46 : decode cX7_struck 46 = .ok (.iconst 2, 1) := by decide +kernel
theorem dX7_struck_47 : decode cX7_struck 47 = .ok (.iload_n 3, 1) := by decide +kernel
theorem dX7_struck_48 : decode cX7_struck 48 = .ok (.imul, 1) := by decide +kernel
theorem dX7_struck_49 : decode cX7_struck 49 = .ok (.invokevirtual 191, 3) := by decide +kernel
theorem dX7_struck_52 : decode cX7_struck 52 = .ok (.istore 5, 2) := by decide +kernel
theorem dX7_struck_54 : decode cX7_struck 54 = .ok (.iload 5, 2) := by decide +kernel
theorem dX7_struck_56 : decode cX7_struck 56 = .ok (.ifCond .ge 6, 3) := by decide +kernel
theorem dX7_struck_59 : decode cX7_struck 59 = .ok (.iload 5, 2) := by decide +kernel
theorem dX7_struck_61 : decode cX7_struck 61 = .ok (.ireturn, 1) := by decide +kernel
theorem dX7_struck_62 : decode cX7_struck 62 = .ok (.iconst 0, 1) := by decide +kernel
theorem dX7_struck_63 : decode cX7_struck 63 = .ok (.istore 6, 2) := by decide +kernel
theorem dX7_struck_65 : decode cX7_struck 65 = .ok (.iconst 0, 1) := by decide +kernel
theorem dX7_struck_66 : decode cX7_struck 66 = .ok (.istore 7, 2) := by decide +kernel
theorem dX7_struck_68 : decode cX7_struck 68 = .ok (.iload 7, 2) := by decide +kernel
theorem dX7_struck_70 : decode cX7_struck 70 = .ok (.aload_n 0, 1) := by decide +kernel
theorem dX7_struck_71 : decode cX7_struck 71 = .ok (.getfield 19, 3) := by decide +kernel
theorem dX7_struck_74 : decode cX7_struck 74 = .ok (.iconst 0, 1) := by decide +kernel
theorem dX7_struck_75 : decode cX7_struck 75 = .ok (.iaload, 1) := by decide +kernel
theorem dX7_struck_76 : decode cX7_struck 76 = .ok (.if_icmp .ge 140, 3) := by decide +kernel
theorem dX7_struck_79 : decode cX7_struck 79 = .ok (.iconst 0, 1) := by decide +kernel
theorem dX7_struck_80 : decode cX7_struck 80 = .ok (.istore 8, 2) := by decide +kernel
theorem dX7_struck_82 : decode cX7_struck 82 = .ok (.iconst 0, 1) := by decide +kernel
theorem dX7_struck_83 : decode cX7_struck 83 = .ok (.istore 9, 2) := by decide +kernel
theorem dX7_struck_85 : decode cX7_struck 85 = .ok (.iload 9, 2) := by decide +kernel
theorem dX7_struck_87 : decode cX7_struck 87 = .ok (.iload_n 3, 1) := by decide +kernel
theorem dX7_struck_88 : decode cX7_struck 88 = .ok (.if_icmp .ge 102, 3) := by decide +kernel
theorem dX7_struck_91 : decode cX7_struck 91 = .ok (.aload_n 0, 1) := by decide +kernel
theorem dX7_struck_92 : decode cX7_struck 92 = .ok (.getfield 16, 3) := by decide +kernel
theorem dX7_struck_95 : decode cX7_struck 95 = .ok (.bipush 40, 2) := by decide +kernel
theorem dX7_struck_97 : decode cX7_struck 97 = .ok (.iload_n 1, 1) := by decide +kernel
theorem dX7_struck_98 : decode cX7_struck 98 = .ok (.imul, 1) := by decide +kernel
theorem dX7_struck_99 : decode cX7_struck 99 = .ok (.iload_n 2, 1) := by decide +kernel
theorem dX7_struck_100 : decode cX7_struck 100 = .ok (.iadd, 1) := by decide +kernel
theorem dX7_struck_101 : decode cX7_struck 101 = .ok (.iconst 2, 1) := by decide +kernel
theorem dX7_struck_102 : decode cX7_struck 102 = .ok (.iload 9, 2) := by decide +kernel
theorem dX7_struck_104 : decode cX7_struck 104 = .ok (.imul, 1) := by decide +kernel
theorem dX7_struck_105 : decode cX7_struck 105 = .ok (.iadd, 1) := by decide +kernel
theorem dX7_struck_106 : decode cX7_struck 106 = .ok (.iaload, 1) := by decide +kernel
theorem dX7_struck_107 : decode cX7_struck 107 = .ok (.istore 10, 2) := by decide +kernel
theorem dX7_struck_109 : decode cX7_struck 109 = .ok (.aload_n 0, 1) := by decide +kernel
theorem dX7_struck_110 : decode cX7_struck 110 = .ok (.getfield 16, 3) := by decide +kernel
theorem dX7_struck_113 : decode cX7_struck 113 = .ok (.bipush 40, 2) := by decide +kernel
theorem dX7_struck_115 : decode cX7_struck 115 = .ok (.iload_n 1, 1) := by decide +kernel
theorem dX7_struck_116 : decode cX7_struck 116 = .ok (.imul, 1) := by decide +kernel
theorem dX7_struck_117 : decode cX7_struck 117 = .ok (.iload_n 2, 1) := by decide +kernel
theorem dX7_struck_118 : decode cX7_struck 118 = .ok (.iadd, 1) := by decide +kernel
theorem dX7_struck_119 : decode cX7_struck 119 = .ok (.iconst 2, 1) := by decide +kernel
theorem dX7_struck_120 : decode cX7_struck 120 = .ok (.iload 9, 2) := by decide +kernel
theorem dX7_struck_122 : decode cX7_struck 122 = .ok (.imul, 1) := by decide +kernel
theorem dX7_struck_123 : decode cX7_struck 123 = .ok (.iadd, 1) := by decide +kernel
theorem dX7_struck_124 : decode cX7_struck 124 = .ok (.iconst 1, 1) := by decide +kernel
theorem dX7_struck_125 : decode cX7_struck 125 = .ok (.iadd, 1) := by decide +kernel
theorem dX7_struck_126 : decode cX7_struck 126 = .ok (.iaload, 1) := by decide +kernel
theorem dX7_struck_127 : decode cX7_struck 127 = .ok (.istore 11, 2) := by decide +kernel
theorem dX7_struck_129 : decode cX7_struck 129 = .ok (.iload 10, 2) := by decide +kernel
theorem dX7_struck_131 : decode cX7_struck 131 = .ok (.i2l, 1) := by decide +kernel
theorem dX7_struck_132 : decode cX7_struck 132 = .ok (.lconst 0, 1) := by decide +kernel
theorem dX7_struck_133 : decode cX7_struck 133 = .ok (.aload_n 0, 1) := by decide +kernel
theorem dX7_struck_134 : decode cX7_struck 134 = .ok (.getfield 19, 3) := by decide +kernel
theorem dX7_struck_137 : decode cX7_struck 137 = .ok (.iconst 0, 1) := by decide +kernel
theorem dX7_struck_138 : decode cX7_struck 138 = .ok (.iaload, 1) := by decide +kernel
theorem dX7_struck_139 : decode cX7_struck 139 = .ok (.iconst 1, 1) := by decide +kernel
theorem dX7_struck_140 : decode cX7_struck 140 = .ok (.isub, 1) := by decide +kernel
theorem dX7_struck_141 : decode cX7_struck 141 = .ok (.i2l, 1) := by decide +kernel
theorem dX7_struck_142 : decode cX7_struck 142 = .ok (.invokestatic 57, 3) := by decide +kernel
theorem dX7_struck_145 : decode cX7_struck 145 = .ok (.ifCond .eq 21, 3) := by decide +kernel
theorem dX7_struck_148 : decode cX7_struck 148 = .ok (.iload 11, 2) := by decide +kernel
theorem dX7_struck_150 : decode cX7_struck 150 = .ok (.aload_n 0, 1) := by decide +kernel
theorem dX7_struck_151 : decode cX7_struck 151 = .ok (.iload 10, 2) := by decide +kernel
theorem dX7_struck_153 : decode cX7_struck 153 = .ok (.iload 7, 2) := by decide +kernel
theorem dX7_struck_155 : decode cX7_struck 155 = .ok (.iadd, 1) := by decide +kernel
theorem dX7_struck_156 : decode cX7_struck 156 = .ok (.invokevirtual 146, 3) := by decide +kernel
theorem dX7_struck_159 : decode cX7_struck 159 = .ok (.if_icmp .ne 7, 3) := by decide +kernel
theorem dX7_struck_162 : decode cX7_struck 162 = .ok (.iconst 1, 1) := by decide +kernel
theorem dX7_struck_163 : decode cX7_struck 163 = .ok (.goto 4, 3) := by decide +kernel
theorem dX7_struck_166 : decode cX7_struck 166 = .ok (.iconst 0, 1) := by decide +kernel
theorem dX7_struck_167 : decode cX7_struck 167 = .ok (.istore 12, 2) := by decide +kernel
theorem dX7_struck_169 : decode cX7_struck 169 = .ok (.iload 8, 2) := by decide +kernel
theorem dX7_struck_171 : decode cX7_struck 171 = .ok (.iload 12, 2) := by decide +kernel
theorem dX7_struck_173 : decode cX7_struck 173 = .ok (.ifCond .eq 7, 3) := by decide +kernel
theorem dX7_struck_176 : decode cX7_struck 176 = .ok (.iconst 0, 1) := by decide +kernel
theorem dX7_struck_177 : decode cX7_struck 177 = .ok (.goto 4, 3) := by decide +kernel
theorem dX7_struck_180 : decode cX7_struck 180 = .ok (.iconst 1, 1) := by decide +kernel
theorem dX7_struck_181 : decode cX7_struck 181 = .ok (.iadd, 1) := by decide +kernel
theorem dX7_struck_182 : decode cX7_struck 182 = .ok (.istore 8, 2) := by decide +kernel
theorem dX7_struck_184 : decode cX7_struck 184 = .ok (.iinc 9 1, 3) := by decide +kernel
theorem dX7_struck_187 : decode cX7_struck 187 = .ok (.goto (-102), 3) := by decide +kernel
theorem dX7_struck_190 : decode cX7_struck 190 = .ok (.iload 6, 2) := by decide +kernel
theorem dX7_struck_192 : decode cX7_struck 192 = .ok (.iload 8, 2) := by decide +kernel
theorem dX7_struck_194 : decode cX7_struck 194 = .ok (.iload 4, 2) := by decide +kernel
theorem dX7_struck_196 : decode cX7_struck 196 = .ok (.if_icmp .gt 10, 3) := by decide +kernel
theorem dX7_struck_199 : decode cX7_struck 199 = .ok (.iconst 1, 1) := by decide +kernel
theorem dX7_struck_200 : decode cX7_struck 200 = .ok (.iload 7, 2) := by decide +kernel
theorem dX7_struck_202 : decode cX7_struck 202 = .ok (.ishl, 1) := by decide +kernel
theorem dX7_struck_203 : decode cX7_struck 203 = .ok (.goto 4, 3) := by decide +kernel
theorem dX7_struck_206 : decode cX7_struck 206 = .ok (.iconst 0, 1) := by decide +kernel
theorem dX7_struck_207 : decode cX7_struck 207 = .ok (.ior, 1) := by decide +kernel
theorem dX7_struck_208 : decode cX7_struck 208 = .ok (.istore 6, 2) := by decide +kernel
theorem dX7_struck_210 : decode cX7_struck 210 = .ok (.iinc 7 1, 3) := by decide +kernel
theorem dX7_struck_213 : decode cX7_struck 213 = .ok (.goto (-145), 3) := by decide +kernel
theorem dX7_struck_216 : decode cX7_struck 216 = .ok (.aload_n 0, 1) := by decide +kernel
theorem dX7_struck_217 : decode cX7_struck 217 = .ok (.iload 6, 2) := by decide +kernel
theorem dX7_struck_219 : decode cX7_struck 219 = .ok (.invokevirtual 72, 3) := by decide +kernel
theorem dX7_struck_222 : decode cX7_struck 222 = .ok (.ireturn, 1) := by decide +kernel
theorem dX7_isLesson_0 : decode cX7_isLesson 0 = .ok (.iconst 1, 1) := by decide +kernel
theorem dX7_isLesson_1 : decode cX7_isLesson 1 = .ok (.istore_n 3, 1) := by decide +kernel
theorem dX7_isLesson_2 : decode cX7_isLesson 2 = .ok (.iconst 0, 1) := by decide +kernel
theorem dX7_isLesson_3 : decode cX7_isLesson 3 = .ok (.istore 4, 2) := by decide +kernel
theorem dX7_isLesson_5 : decode cX7_isLesson 5 = .ok (.iload 4, 2) := by decide +kernel
theorem dX7_isLesson_7 : decode cX7_isLesson 7 = .ok (.bipush 24, 2) := by decide +kernel
theorem dX7_isLesson_9 : decode cX7_isLesson 9 = .ok (.if_icmp .ge 127, 3) := by decide +kernel
theorem dX7_isLesson_12 : decode cX7_isLesson 12 = .ok (.iload_n 1, 1) := by decide +kernel
theorem dX7_isLesson_13 : decode cX7_isLesson 13 = .ok (.iload 4, 2) := by decide +kernel
theorem dX7_isLesson_15 : decode cX7_isLesson 15 = .ok (.invokestatic 194, 3) := by decide +kernel
theorem dX7_isLesson_18 : decode cX7_isLesson 18 = .ok (.ifCond .ne 7, 3) := by decide +kernel
theorem dX7_isLesson_21 : decode cX7_isLesson 21 = .ok (.iconst 1, 1) := by decide +kernel
theorem dX7_isLesson_22 : decode cX7_isLesson 22 = .ok (.goto 4, 3) := by decide +kernel
theorem dX7_isLesson_25 : decode cX7_isLesson 25 = .ok (.iconst 0, 1) := by decide +kernel
theorem dX7_isLesson_26 : decode cX7_isLesson 26 = .ok (.istore 5, 2) := by decide +kernel
theorem dX7_isLesson_28 : decode cX7_isLesson 28 = .ok (.iconst 0, 1) := by decide +kernel
theorem dX7_isLesson_29 : decode cX7_isLesson 29 = .ok (.istore 6, 2) := by decide +kernel
theorem dX7_isLesson_31 : decode cX7_isLesson 31 = .ok (.iload 6, 2) := by decide +kernel
theorem dX7_isLesson_33 : decode cX7_isLesson 33 = .ok (.aload_n 0, 1) := by decide +kernel
theorem dX7_isLesson_34 : decode cX7_isLesson 34 = .ok (.getfield 19, 3) := by decide +kernel
theorem dX7_isLesson_37 : decode cX7_isLesson 37 = .ok (.iconst 4, 1) := by decide +kernel
theorem dX7_isLesson_38 : decode cX7_isLesson 38 = .ok (.iaload, 1) := by decide +kernel
theorem dX7_isLesson_39 : decode cX7_isLesson 39 = .ok (.if_icmp .ge 76, 3) := by decide +kernel
theorem dX7_isLesson_42 : decode cX7_isLesson 42 = .ok (.iload_n 2, 1) := by decide +kernel
theorem dX7_isLesson_43 : decode cX7_isLesson 43 = .ok (.iload 6, 2) := by decide +kernel
theorem dX7_isLesson_45 : decode cX7_isLesson 45 = .ok (.invokestatic 194, 3) := by decide +kernel
theorem dX7_isLesson_48 : decode cX7_isLesson 48 = .ok (.ifCond .eq 12, 3) := by decide +kernel
theorem dX7_isLesson_51 : decode cX7_isLesson 51 = .ok (.aload_n 0, 1) := by decide +kernel
theorem dX7_isLesson_52 : decode cX7_isLesson 52 = .ok (.getfield 19, 3) := by decide +kernel
theorem dX7_isLesson_55 : decode cX7_isLesson 55 = .ok (.iconst 2, 1) := by decide +kernel
theorem dX7_isLesson_56 : decode cX7_isLesson 56 = .ok (.iaload, 1) := by decide +kernel
theorem dX7_isLesson_57 : decode cX7_isLesson 57 = .ok (.goto 13, 3) := by decide +kernel
theorem dX7_isLesson_60 : decode cX7_isLesson 60 = .ok (.aload_n 0, 1) := by decide +kernel
theorem dX7_isLesson_61 : decode cX7_isLesson 61 = .ok (.getfield 19, 3) := by decide +kernel
theorem dX7_isLesson_64 : decode cX7_isLesson 64 = .ok (.bipush 47, 2) := by decide +kernel
theorem dX7_isLesson_66 : decode cX7_isLesson 66 = .ok (.iload 6, 2) := by decide +kernel
theorem dX7_isLesson_68 : decode cX7_isLesson 68 = .ok (.iadd, 1) := by decide +kernel
theorem dX7_isLesson_69 : decode cX7_isLesson 69 = .ok (.iaload, 1) := by decide +kernel
theorem dX7_isLesson_70 : decode cX7_isLesson 70 = .ok (.istore 7, 2) := by decide +kernel
theorem dX7_isLesson_72 : decode cX7_isLesson 72 = .ok (.iload 5, 2) := by decide +kernel
theorem dX7_isLesson_74 : decode cX7_isLesson 74 = .ok (.ifCond .ne 28, 3) := by decide +kernel
theorem dX7_isLesson_77 : decode cX7_isLesson 77 = .ok (.aload_n 0, 1) := by decide +kernel
theorem dX7_isLesson_78 : decode cX7_isLesson 78 = .ok (.aload_n 0, 1) := by decide +kernel
theorem dX7_isLesson_79 : decode cX7_isLesson 79 = .ok (.getfield 19, 3) := by decide +kernel
theorem dX7_isLesson_82 : decode cX7_isLesson 82 = .ok (.bipush 42, 2) := by decide +kernel
theorem dX7_isLesson_84 : decode cX7_isLesson 84 = .ok (.iload 6, 2) := by decide +kernel
theorem dX7_isLesson_86 : decode cX7_isLesson 86 = .ok (.iadd, 1) := by decide +kernel
theorem dX7_isLesson_87 : decode cX7_isLesson 87 = .ok (.iaload, 1) := by decide +kernel
theorem dX7_isLesson_88 : decode cX7_isLesson 88 = .ok (.iload 7, 2) := by decide +kernel
theorem dX7_isLesson_90 : decode cX7_isLesson 90 = .ok (.invokevirtual 166, 3) := by decide +kernel
theorem dX7_isLesson_93 : decode cX7_isLesson 93 = .ok (.aload_n 0, 1) := by decide +kernel
theorem dX7_isLesson_94 : decode cX7_isLesson 94 = .ok (.iload 4, 2) := by decide +kernel
theorem dX7_isLesson_96 : decode cX7_isLesson 96 = .ok (.invokevirtual 154, 3) := by decide +kernel
theorem dX7_isLesson_99 : decode cX7_isLesson 99 = .ok (.if_icmp .ne 7, 3) := by decide +kernel
theorem dX7_isLesson_102 : decode cX7_isLesson 102 = .ok (.iconst 1, 1) := by decide +kernel
theorem dX7_isLesson_103 : decode cX7_isLesson 103 = .ok (.goto 4, 3) := by decide +kernel
theorem dX7_isLesson_106 : decode cX7_isLesson 106 = .ok (.iconst 0, 1) := by decide +kernel
theorem dX7_isLesson_107 : decode cX7_isLesson 107 = .ok (.istore 5, 2) := by decide +kernel
theorem dX7_isLesson_109 : decode cX7_isLesson 109 = .ok (.iinc 6 1, 3) := by decide +kernel
theorem dX7_isLesson_112 : decode cX7_isLesson 112 = .ok (.goto (-81), 3) := by decide +kernel
theorem dX7_isLesson_115 : decode cX7_isLesson 115 = .ok (.iload_n 3, 1) := by decide +kernel
theorem dX7_isLesson_116 : decode cX7_isLesson 116 = .ok (.ifCond .eq 12, 3) := by decide +kernel
theorem dX7_isLesson_119 : decode cX7_isLesson 119 = .ok (.iload 5, 2) := by decide +kernel
theorem dX7_isLesson_121 : decode cX7_isLesson 121 = .ok (.ifCond .eq 7, 3) := by decide +kernel
theorem dX7_isLesson_124 : decode cX7_isLesson 124 = .ok (.iconst 1, 1) := by decide +kernel
theorem dX7_isLesson_125 : decode cX7_isLesson 125 = .ok (.goto 4, 3) := by decide +kernel
theorem dX7_isLesson_128 : decode cX7_isLesson 128 = .ok (.iconst 0, 1) := by decide +kernel
theorem dX7_isLesson_129 : decode cX7_isLesson 129 = .ok (.istore_n 3, 1) := by decide +kernel
theorem dX7_isLesson_130 : decode cX7_isLesson 130 = .ok (.iinc 4 1, 3) := by decide +kernel
theorem dX7_isLesson_133 : decode cX7_isLesson 133 = .ok (.goto (-128), 3) := by decide +kernel
theorem dX7_isLesson_136 : decode cX7_isLesson 136 = .ok (.iload_n 3, 1) := by decide +kernel
theorem dX7_isLesson_137 : decode cX7_isLesson 137 = .ok (.ireturn, 1) := by decide +kernel
theorem dX7_lessons_0 : decode cX7_lessons 0 = .ok (.aload_n 0, 1) := by decide +kernel
theorem dX7_lessons_1 : decode cX7_lessons 1 = .ok (.getfield 138, 3) := by decide +kernel
theorem dX7_lessons_4 : decode cX7_lessons 4 = .ok (.ifCond .ne 6, 3) := by decide +kernel
theorem dX7_lessons_7 : decode cX7_lessons 7 = .ok (.ldc 145, 2) := by decide +kernel
theorem dX7_lessons_9 : decode cX7_lessons 9 = .ok (.ireturn, 1) := by decide +kernel
theorem dX7_lessons_10 : decode cX7_lessons 10 = .ok (.iload_n 1, 1) := by decide +kernel
theorem dX7_lessons_11 : decode cX7_lessons 11 = .ok (.i2l, 1) := by decide +kernel
theorem dX7_lessons_12 : decode cX7_lessons 12 = .ok (.lconst 0, 1) := by decide +kernel
theorem dX7_lessons_13 : decode cX7_lessons 13 = .ok (.ldc2_w 197, 3) := by decide +kernel
theorem dX7_lessons_16 : decode cX7_lessons 16 = .ok (.invokestatic 57, 3) := by decide +kernel
theorem dX7_lessons_19 : decode cX7_lessons 19 = .ok (.ifCond .eq 13, 3) := by decide +kernel
theorem dX7_lessons_22 : decode cX7_lessons 22 = .ok (.iload_n 2, 1) := by decide +kernel
theorem dX7_lessons_23 : decode cX7_lessons 23 = .ok (.i2l, 1) := by decide +kernel
theorem dX7_lessons_24 : decode cX7_lessons 24 = .ok (.lconst 0, 1) := by decide +kernel
theorem dX7_lessons_25 : decode cX7_lessons 25 = .ok (.lconst 1, 1) := by decide +kernel
theorem dX7_lessons_26 : decode cX7_lessons 26 = .ok (.invokestatic 57, 3) := by decide +kernel
theorem dX7_lessons_29 : decode cX7_lessons 29 = .ok (.ifCond .ne 6, 3) := by decide +kernel
theorem dX7_lessons_32 : decode cX7_lessons 32 = .ok (.ldc 67, 2) := by decide +kernel
theorem dX7_lessons_34 : decode cX7_lessons 34 = .ok (.ireturn, 1) := by decide +kernel
theorem dX7_lessons_35 : decode cX7_lessons 35 = .ok (.iconst (-1), 1) := by decide +kernel
theorem dX7_lessons_36 : decode cX7_lessons 36 = .ok (.istore_n 3, 1) := by decide +kernel
theorem dX7_lessons_37 : decode cX7_lessons 37 = .ok (.iconst 0, 1) := by decide +kernel
theorem dX7_lessons_38 : decode cX7_lessons 38 = .ok (.istore 4, 2) := by decide +kernel
theorem dX7_lessons_40 : decode cX7_lessons 40 = .ok (.iload 4, 2) := by decide +kernel
theorem dX7_lessons_42 : decode cX7_lessons 42 = .ok (.iconst 1, 1) := by decide +kernel
theorem dX7_lessons_43 : decode cX7_lessons 43 = .ok (.aload_n 0, 1) := by decide +kernel
theorem dX7_lessons_44 : decode cX7_lessons 44 = .ok (.getfield 19, 3) := by decide +kernel
theorem dX7_lessons_47 : decode cX7_lessons 47 = .ok (.iconst 4, 1) := by decide +kernel
theorem dX7_lessons_48 : decode cX7_lessons 48 = .ok (.iaload, 1) := by decide +kernel
theorem dX7_lessons_49 : decode cX7_lessons 49 = .ok (.ishl, 1) := by decide +kernel
theorem dX7_lessons_50 : decode cX7_lessons 50 = .ok (.if_icmp .ge 42, 3) := by decide +kernel
theorem dX7_lessons_53 : decode cX7_lessons 53 = .ok (.iload_n 3, 1) := by decide +kernel
theorem dX7_lessons_54 : decode cX7_lessons 54 = .ok (.ifCond .lt 15, 3) := by decide +kernel
theorem dX7_lessons_57 : decode cX7_lessons 57 = .ok (.iload 4, 2) := by decide +kernel
theorem dX7_lessons_59 : decode cX7_lessons 59 = .ok (.invokestatic 199, 3) := by decide +kernel
theorem dX7_lessons_62 : decode cX7_lessons 62 = .ok (.iload_n 3, 1) := by decide +kernel
theorem dX7_lessons_63 : decode cX7_lessons 63 = .ok (.invokestatic 199, 3) := by decide +kernel
theorem dX7_lessons_66 : decode cX7_lessons 66 = .ok (.if_icmp .ge 20, 3) := by decide +kernel
theorem dX7_lessons_69 : decode cX7_lessons 69 = .ok (.aload_n 0, 1) := by decide +kernel
theorem dX7_lessons_70 : decode cX7_lessons 70 = .ok (.iload_n 1, 1) := by decide +kernel
theorem dX7_lessons_71 : decode cX7_lessons 71 = .ok (.iload 4, 2) := by decide +kernel
theorem dX7_lessons_73 : decode cX7_lessons 73 = .ok (.invokevirtual 202, 3) := by decide +kernel
theorem dX7_lessons_76 : decode cX7_lessons 76 = .ok (.ifCond .eq 8, 3) := by decide +kernel
theorem dX7_lessons_79 : decode cX7_lessons 79 = .ok (.iload 4, 2) := by decide +kernel
theorem dX7_lessons_81 : decode cX7_lessons 81 = .ok (.goto 4, 3) := by decide +kernel
theorem dX7_lessons_84 : decode cX7_lessons 84 = .ok (.iload_n 3, 1) := by decide +kernel
theorem dX7_lessons_85 : decode cX7_lessons 85 = .ok (.istore_n 3, 1) := by decide +kernel
theorem dX7_lessons_86 : decode cX7_lessons 86 = .ok (.iinc 4 1, 3) := by decide +kernel
theorem dX7_lessons_89 : decode cX7_lessons 89 = .ok (.goto (-49), 3) := by decide +kernel
theorem dX7_lessons_92 : decode cX7_lessons 92 = .ok (.iload_n 3, 1) := by decide +kernel
theorem dX7_lessons_93 : decode cX7_lessons 93 = .ok (.ifCond .ge 8, 3) := by decide +kernel
theorem dX7_lessons_96 : decode cX7_lessons 96 = .ok (.ldc 165, 2) := by decide +kernel
theorem dX7_lessons_98 : decode cX7_lessons 98 = .ok (.goto 15, 3) := by decide +kernel
theorem dX7_lessons_101 : decode cX7_lessons 101 = .ok (.iload_n 2, 1) := by decide +kernel
theorem dX7_lessons_102 : decode cX7_lessons 102 = .ok (.ifCond .ne 10, 3) := by decide +kernel
theorem dX7_lessons_105 : decode cX7_lessons 105 = .ok (.iload_n 3, 1) := by decide +kernel
theorem dX7_lessons_106 : decode cX7_lessons 106 = .ok (.invokestatic 199, 3) := by decide +kernel
theorem dX7_lessons_109 : decode cX7_lessons 109 = .ok (.goto 4, 3) := by decide +kernel
theorem dX7_lessons_112 : decode cX7_lessons 112 = .ok (.iload_n 3, 1) := by decide +kernel
theorem dX7_lessons_113 : decode cX7_lessons 113 = .ok (.ireturn, 1) := by decide +kernel
theorem dX7_isNight_0 : decode cX7_isNight 0 = .ok (.iconst 0, 1) := by decide +kernel
theorem dX7_isNight_1 : decode cX7_isNight 1 = .ok (.istore_n 3, 1) := by decide +kernel
theorem dX7_isNight_2 : decode cX7_isNight 2 = .ok (.iconst 0, 1) := by decide +kernel
theorem dX7_isNight_3 : decode cX7_isNight 3 = .ok (.istore 4, 2) := by decide +kernel
theorem dX7_isNight_5 : decode cX7_isNight 5 = .ok (.iload 4, 2) := by decide +kernel
theorem dX7_isNight_7 : decode cX7_isNight 7 = .ok (.aload_n 0, 1) := by decide +kernel
theorem dX7_isNight_8 : decode cX7_isNight 8 = .ok (.getfield 19, 3) := by decide +kernel
theorem dX7_isNight_11 : decode cX7_isNight 11 = .ok (.iconst 4, 1) := by decide +kernel
theorem dX7_isNight_12 : decode cX7_isNight 12 = .ok (.iaload, 1) := by decide +kernel
theorem dX7_isNight_13 : decode cX7_isNight 13 = .ok (.if_icmp .ge 43, 3) := by decide +kernel
theorem dX7_isNight_16 : decode cX7_isNight 16 = .ok (.iload_n 3, 1) := by decide +kernel
theorem dX7_isNight_17 : decode cX7_isNight 17 = .ok (.ifCond .ne 27, 3) := by decide +kernel
theorem dX7_isNight_20 : decode cX7_isNight 20 = .ok (.aload_n 0, 1) := by decide +kernel
theorem dX7_isNight_21 : decode cX7_isNight 21 = .ok (.iload_n 2, 1) := by decide +kernel
theorem dX7_isNight_22 : decode cX7_isNight 22 = .ok (.invokevirtual 154, 3) := by decide +kernel
theorem dX7_isNight_25 : decode cX7_isNight 25 = .ok (.aload_n 0, 1) := by decide +kernel
theorem dX7_isNight_26 : decode cX7_isNight 26 = .ok (.iload 4, 2) := by decide +kernel
theorem dX7_isNight_28 : decode cX7_isNight 28 = .ok (.invokevirtual 169, 3) := by decide +kernel
theorem dX7_isNight_31 : decode cX7_isNight 31 = .ok (.if_icmp .ne 17, 3) := by decide +kernel
theorem dX7_isNight_34 : decode cX7_isNight 34 = .ok (.aload_n 0, 1) := by decide +kernel
theorem dX7_isNight_35 : decode cX7_isNight 35 = .ok (.iload 4, 2) := by decide +kernel
theorem dX7_isNight_37 : decode cX7_isNight 37 = .ok (.iload_n 1, 1) := by decide +kernel
theorem dX7_isNight_38 : decode cX7_isNight 38 = .ok (.invokevirtual 178, 3) := by decide +kernel
theorem dX7_isNight_41 : decode cX7_isNight 41 = .ok (.ifCond .eq 7, 3) := by decide +kernel
theorem dX7_isNight_44 : decode cX7_isNight 44 = .ok (.iconst 1, 1) := by decide +kernel
theorem dX7_isNight_45 : decode cX7_isNight 45 = .ok (.goto 4, 3) := by decide +kernel
theorem dX7_isNight_48 : decode cX7_isNight 48 = .ok (.iconst 0, 1) := by decide +kernel
theorem dX7_isNight_49 : decode cX7_isNight 49 = .ok (.istore_n 3, 1) := by decide +kernel
theorem dX7_isNight_50 : decode cX7_isNight 50 = .ok (.iinc 4 1, 3) := by decide +kernel
theorem dX7_isNight_53 : decode cX7_isNight 53 = .ok (.goto (-48), 3) := by decide +kernel
theorem dX7_isNight_56 : decode cX7_isNight 56 = .ok (.iload_n 3, 1) := by decide +kernel
theorem dX7_isNight_57 : decode cX7_isNight 57 = .ok (.ireturn, 1) := by decide +kernel
theorem dX7_programme_0 : decode cX7_programme 0 = .ok (.aload_n 0, 1) := by decide +kernel
theorem dX7_programme_1 : decode cX7_programme 1 = .ok (.getfield 138, 3) := by decide +kernel
theorem dX7_programme_4 : decode cX7_programme 4 = .ok (.ifCond .ne 6, 3) := by decide +kernel
theorem dX7_programme_7 : decode cX7_programme 7 = .ok (.ldc 145, 2) := by decide +kernel
theorem dX7_programme_9 : decode cX7_programme 9 = .ok (.ireturn, 1) := by decide +kernel
theorem dX7_programme_10 : decode cX7_programme 10 = .ok (.iload_n 1, 1) := by decide +kernel
theorem dX7_programme_11 : decode cX7_programme 11 = .ok (.i2l, 1) := by decide +kernel
theorem dX7_programme_12 : decode cX7_programme 12 = .ok (.lconst 1, 1) := by decide +kernel
theorem dX7_programme_13 : decode cX7_programme 13 = .ok (.ldc2_w 205, 3) := by decide +kernel
theorem dX7_programme_16 : decode cX7_programme 16 = .ok (.invokestatic 57, 3) := by decide +kernel
theorem dX7_programme_19 : decode cX7_programme 19 = .ok (.ifCond .eq 17, 3) := by decide +kernel
theorem dX7_programme_22 : decode cX7_programme 22 = .ok (.iload_n 2, 1) := by decide +kernel
theorem dX7_programme_23 : decode cX7_programme 23 = .ok (.i2l, 1) := by decide +kernel
theorem dX7_programme_24 : decode cX7_programme 24 = .ok (.ldc2_w 207, 3) := by decide +kernel
theorem dX7_programme_27 : decode cX7_programme 27 = .ok (.ldc2_w 209, 3) := by decide +kernel
theorem dX7_programme_30 : decode cX7_programme 30 = .ok (.invokestatic 57, 3) := by decide +kernel
theorem dX7_programme_33 : decode cX7_programme 33 = .ok (.ifCond .ne 6, 3) := by decide +kernel
theorem dX7_programme_36 : decode cX7_programme 36 = .ok (.ldc 67, 2) := by decide +kernel
theorem dX7_programme_38 : decode cX7_programme 38 = .ok (.ireturn, 1) := by decide +kernel
theorem dX7_programme_39 : decode cX7_programme 39 = .ok (.iconst 1, 1) := by decide +kernel
theorem dX7_programme_40 : decode cX7_programme 40 = .ok (.istore_n 3, 1) := by decide +kernel
theorem dX7_programme_41 : decode cX7_programme 41 = .ok (.iconst 0, 1) := by decide +kernel
theorem dX7_programme_42 : decode cX7_programme 42 = .ok (.istore 4, 2) := by decide +kernel
theorem dX7_programme_44 : decode cX7_programme 44 = .ok (.iload 4, 2) := by decide +kernel
theorem dX7_programme_46 : decode cX7_programme 46 = .ok (.aload_n 0, 1) := by decide +kernel
theorem dX7_programme_47 : decode cX7_programme 47 = .ok (.getfield 19, 3) := by decide +kernel
theorem dX7_programme_50 : decode cX7_programme 50 = .ok (.iconst 3, 1) := by decide +kernel
theorem dX7_programme_51 : decode cX7_programme 51 = .ok (.iaload, 1) := by decide +kernel
theorem dX7_programme_52 : decode cX7_programme 52 = .ok (.if_icmp .ge 13, 3) := by decide +kernel
theorem dX7_programme_55 : decode cX7_programme 55 = .ok (.iload_n 3, 1) := by decide +kernel
theorem dX7_programme_56 : decode cX7_programme 56 = .ok (.iload_n 1, 1) := by decide +kernel
theorem dX7_programme_57 : decode cX7_programme 57 = .ok (.imul, 1) := by decide +kernel
theorem dX7_programme_58 : decode cX7_programme 58 = .ok (.istore_n 3, 1) := by decide +kernel
theorem dX7_programme_59 : decode cX7_programme 59 = .ok (.iinc 4 1, 3) := by decide +kernel
theorem dX7_programme_62 : decode cX7_programme 62 = .ok (.goto (-18), 3) := by decide +kernel
theorem dX7_programme_65 : decode cX7_programme 65 = .ok (.iconst 0, 1) := by decide +kernel
theorem dX7_programme_66 : decode cX7_programme 66 = .ok (.istore 4, 2) := by decide +kernel
theorem dX7_programme_68 : decode cX7_programme 68 = .ok (.iconst 0, 1) := by decide +kernel
theorem dX7_programme_69 : decode cX7_programme 69 = .ok (.istore 5, 2) := by decide +kernel
theorem dX7_programme_71 : decode cX7_programme 71 = .ok (.iload_n 3, 1) := by decide +kernel
theorem dX7_programme_72 : decode cX7_programme 72 = .ok (.iconst 1, 1) := by decide +kernel
theorem dX7_programme_73 : decode cX7_programme 73 = .ok (.isub, 1) := by decide +kernel
theorem dX7_programme_74 : decode cX7_programme 74 = .ok (.istore 6, 2) := by decide +kernel
theorem dX7_programme_76 : decode cX7_programme 76 = .ok (.iload 6, 2) := by decide +kernel
theorem dX7_programme_78 : decode cX7_programme 78 = .ok (.ifCond .lt 123, 3) := by decide +kernel
theorem dX7_programme_81 : decode cX7_programme 81 = .ok (.iload 6, 2) := by decide +kernel
theorem dX7_programme_83 : decode cX7_programme 83 = .ok (.istore 7, 2) := by decide +kernel
theorem dX7_programme_85 : decode cX7_programme 85 = .ok (.iconst 0, 1) := by decide +kernel
theorem dX7_programme_86 : decode cX7_programme 86 = .ok (.istore 8, 2) := by decide +kernel
theorem dX7_programme_88 : decode cX7_programme 88 = .ok (.iconst 1, 1) := by decide +kernel
theorem dX7_programme_89 : decode cX7_programme 89 = .ok (.istore 9, 2) := by decide +kernel
theorem dX7_programme_91 : decode cX7_programme 91 = .ok (.aload_n 0, 1) := by decide +kernel
theorem dX7_programme_92 : decode cX7_programme 92 = .ok (.getfield 19, 3) := by decide +kernel
theorem dX7_programme_95 : decode cX7_programme 95 = .ok (.iconst 3, 1) := by decide +kernel
theorem dX7_programme_96 : decode cX7_programme 96 = .ok (.iaload, 1) := by decide +kernel
theorem dX7_programme_97 : decode cX7_programme 97 = .ok (.iconst 1, 1) := by decide +kernel
theorem dX7_programme_98 : decode cX7_programme 98 = .ok (.isub, 1) := by decide +kernel
theorem dX7_programme_99 : decode cX7_programme 99 = .ok (.istore 10, 2) := by decide +kernel
theorem dX7_programme_101 : decode cX7_programme 101 = .ok (.iload 10, 2) := by decide +kernel
theorem dX7_programme_103 : decode cX7_programme 103 = .ok (.ifCond .lt 63, 3) := by decide +kernel
theorem dX7_programme_106 : decode cX7_programme 106 = .ok (.iload 7, 2) := by decide +kernel
theorem dX7_programme_108 : decode cX7_programme 108 = .ok (.iload_n 1, 1) := by decide +kernel
theorem dX7_programme_109 : decode cX7_programme 109 = .ok (.irem, 1) := by decide +kernel
theorem dX7_programme_110 : decode cX7_programme 110 = .ok (.istore 11, 2) := by decide +kernel
theorem dX7_programme_112 : decode cX7_programme 112 = .ok (.iload 7, 2) := by decide +kernel
theorem dX7_programme_114 : decode cX7_programme 114 = .ok (.iload_n 1, 1) := by decide +kernel
theorem dX7_programme_115 : decode cX7_programme 115 = .ok (.idiv, 1) := by decide +kernel
theorem dX7_programme_116 : decode cX7_programme 116 = .ok (.istore 7, 2) := by decide +kernel
theorem dX7_programme_118 : decode cX7_programme 118 = .ok (.iload 9, 2) := by decide +kernel
theorem dX7_programme_120 : decode cX7_programme 120 = .ok (.ifCond .eq 28, 3) := by decide +kernel
theorem dX7_programme_123 : decode cX7_programme 123 = .ok (.iload 8, 2) := by decide +kernel
theorem dX7_programme_125 : decode cX7_programme 125 = .ok (.iload 11, 2) := by decide +kernel
theorem dX7_programme_127 : decode cX7_programme 127 = .ok (.invokestatic 194, 3) := by decide +kernel
theorem dX7_programme_130 : decode cX7_programme 130 = .ok (.ifCond .ne 18, 3) := by decide +kernel
theorem dX7_programme_133 : decode cX7_programme 133 = .ok (.aload_n 0, 1) := by decide +kernel
theorem dX7_programme_134 : decode cX7_programme 134 = .ok (.iload 10, 2) := by decide +kernel
theorem dX7_programme_136 : decode cX7_programme 136 = .ok (.iload 11, 2) := by decide +kernel
theorem dX7_programme_138 : decode cX7_programme 138 = .ok (.invokevirtual 211, 3) := by decide +kernel
theorem dX7_programme_141 : decode cX7_programme 141 = .ok (.ifCond .eq 7, 3) := by decide +kernel
theorem dX7_programme_144 : decode cX7_programme 144 = .ok (.iconst 1, 1) := by decide +kernel
theorem dX7_programme_145 : decode cX7_programme 145 = .ok (.goto 4, 3) := by decide +kernel
theorem dX7_programme_148 : decode cX7_programme 148 = .ok (.iconst 0, 1) := by decide +kernel
theorem dX7_programme_149 : decode cX7_programme 149 = .ok (.istore 9, 2) := by decide +kernel
theorem dX7_programme_151 : decode cX7_programme 151 = .ok (.iload 8, 2) := by decide +kernel
theorem dX7_programme_153 : decode cX7_programme 153 = .ok (.iconst 1, 1) := by decide +kernel
theorem dX7_programme_154 : decode cX7_programme 154 = .ok (.iload 11, 2) := by decide +kernel
theorem dX7_programme_156 : decode cX7_programme 156 = .ok (.ishl, 1) := by decide +kernel
theorem dX7_programme_157 : decode cX7_programme 157 = .ok (.ior, 1) := by decide +kernel
theorem dX7_programme_158 : decode cX7_programme 158 = .ok (.istore 8, 2) := by decide +kernel
theorem dX7_programme_160 : decode cX7_programme 160 = .ok (.iinc 10 (-1), 3) := by decide +kernel
theorem dX7_programme_163 : decode cX7_programme 163 = .ok (.goto (-62), 3) := by decide +kernel
theorem dX7_programme_166 : decode cX7_programme 166 = .ok (.iload 4, 2) := by decide +kernel
theorem dX7_programme_168 : decode cX7_programme 168 = .ok (.iload 9, 2) := by decide +kernel
theorem dX7_programme_170 : decode cX7_programme 170 = .ok (.ifCond .eq 7, 3) := by decide +kernel
theorem dX7_programme_173 : decode cX7_programme 173 = .ok (.iconst 1, 1) := by decide +kernel
theorem dX7_programme_174 : decode cX7_programme 174 = .ok (.goto 4, 3) := by decide +kernel
theorem dX7_programme_177 : decode cX7_programme 177 = .ok (.iconst 0, 1) := by decide +kernel
theorem dX7_programme_178 : decode cX7_programme 178 = .ok (.iadd, 1) := by decide +kernel
theorem dX7_programme_179 : decode cX7_programme 179 = .ok (.istore 4, 2) := by decide +kernel
theorem dX7_programme_181 : decode cX7_programme 181 = .ok (.iload 9, 2) := by decide +kernel
theorem dX7_programme_183 : decode cX7_programme 183 = .ok (.ifCond .eq 8, 3) := by decide +kernel
theorem dX7_programme_186 : decode cX7_programme 186 = .ok (.iload 6, 2) := by decide +kernel
theorem dX7_programme_188 : decode cX7_programme 188 = .ok (.goto 5, 3) := by decide +kernel
theorem dX7_programme_191 : decode cX7_programme 191 = .ok (.iload 5, 2) := by decide +kernel
theorem dX7_programme_193 : decode cX7_programme 193 = .ok (.istore 5, 2) := by decide +kernel
theorem dX7_programme_195 : decode cX7_programme 195 = .ok (.iinc 6 (-1), 3) := by decide +kernel
theorem dX7_programme_198 : decode cX7_programme 198 = .ok (.goto (-122), 3) := by decide +kernel
theorem dX7_programme_201 : decode cX7_programme 201 = .ok (.iload_n 2, 1) := by decide +kernel
theorem dX7_programme_202 : decode cX7_programme 202 = .ok (.ifCond .lt 18, 3) := by decide +kernel
theorem dX7_programme_205 : decode cX7_programme 205 = .ok (.iload 4, 2) := by decide +kernel
theorem dX7_programme_207 : decode cX7_programme 207 = .ok (.ifCond .eq 13, 3) := by decide +kernel
theorem dX7_programme_210 : decode cX7_programme 210 = .ok (.iload_n 2, 1) := by decide +kernel
theorem dX7_programme_211 : decode cX7_programme 211 = .ok (.aload_n 0, 1) := by decide +kernel
theorem dX7_programme_212 : decode cX7_programme 212 = .ok (.getfield 19, 3) := by decide +kernel
theorem dX7_programme_215 : decode cX7_programme 215 = .ok (.iconst 3, 1) := by decide +kernel
theorem dX7_programme_216 : decode cX7_programme 216 = .ok (.iaload, 1) := by decide +kernel
theorem dX7_programme_217 : decode cX7_programme 217 = .ok (.if_icmp .lt 15, 3) := by decide +kernel
theorem dX7_programme_220 : decode cX7_programme 220 = .ok (.iload_n 2, 1) := by decide +kernel
theorem dX7_programme_221 : decode cX7_programme 221 = .ok (.ifCond .ge 8, 3) := by decide +kernel
theorem dX7_programme_224 : decode cX7_programme 224 = .ok (.iload 4, 2) := by decide +kernel
theorem dX7_programme_226 : decode cX7_programme 226 = .ok (.goto 5, 3) := by decide +kernel
theorem dX7_programme_229 : decode cX7_programme 229 = .ok (.ldc 165, 2) := by decide +kernel
theorem dX7_programme_231 : decode cX7_programme 231 = .ok (.ireturn, 1) := by decide +kernel
theorem dX7_programme_232 : decode cX7_programme 232 = .ok (.aload_n 0, 1) := by decide +kernel
theorem dX7_programme_233 : decode cX7_programme 233 = .ok (.getfield 19, 3) := by decide +kernel
theorem dX7_programme_236 : decode cX7_programme 236 = .ok (.iconst 3, 1) := by decide +kernel
theorem dX7_programme_237 : decode cX7_programme 237 = .ok (.iaload, 1) := by decide +kernel
theorem dX7_programme_238 : decode cX7_programme 238 = .ok (.iconst 1, 1) := by decide +kernel
theorem dX7_programme_239 : decode cX7_programme 239 = .ok (.isub, 1) := by decide +kernel
theorem dX7_programme_240 : decode cX7_programme 240 = .ok (.istore 6, 2) := by decide +kernel
theorem dX7_programme_242 : decode cX7_programme 242 = .ok (.iload 6, 2) := by decide +kernel
theorem dX7_programme_244 : decode cX7_programme 244 = .ok (.iload_n 2, 1) := by decide +kernel
theorem dX7_programme_245 : decode cX7_programme 245 = .ok (.if_icmp .le 15, 3) := by decide +kernel
theorem dX7_programme_248 : decode cX7_programme 248 = .ok (.iload 5, 2) := by decide +kernel
theorem dX7_programme_250 : decode cX7_programme 250 = .ok (.iload_n 1, 1) := by decide +kernel
theorem dX7_programme_251 : decode cX7_programme 251 = .ok (.idiv, 1) := by decide +kernel
theorem dX7_programme_252 : decode cX7_programme 252 = .ok (.istore 5, 2) := by decide +kernel
theorem dX7_programme_254 : decode cX7_programme 254 = .ok (.iinc 6 (-1), 3) := by decide +kernel
theorem dX7_programme_257 : decode cX7_programme 257 = .ok (.goto (-15), 3) := by decide +kernel
theorem dX7_programme_260 : decode cX7_programme 260 = .ok (.iload 5, 2) := by decide +kernel
theorem dX7_programme_262 : decode cX7_programme 262 = .ok (.iload_n 1, 1) := by decide +kernel
theorem dX7_programme_263 : decode cX7_programme 263 = .ok (.irem, 1) := by decide +kernel
theorem dX7_programme_264 : decode cX7_programme 264 = .ok (.ireturn, 1) := by decide +kernel
theorem dX7_chords_0 : decode cX7_chords 0 = .ok (.aload_n 0, 1) := by decide +kernel
theorem dX7_chords_1 : decode cX7_chords 1 = .ok (.getfield 138, 3) := by decide +kernel
theorem dX7_chords_4 : decode cX7_chords 4 = .ok (.ifCond .ne 6, 3) := by decide +kernel
theorem dX7_chords_7 : decode cX7_chords 7 = .ok (.ldc 145, 2) := by decide +kernel
theorem dX7_chords_9 : decode cX7_chords 9 = .ok (.ireturn, 1) := by decide +kernel
theorem dX7_chords_10 : decode cX7_chords 10 = .ok (.iload_n 1, 1) := by decide +kernel
theorem dX7_chords_11 : decode cX7_chords 11 = .ok (.iconst (-1), 1) := by decide +kernel
theorem dX7_chords_12 : decode cX7_chords 12 = .ok (.if_icmp .ge 6, 3) := by decide +kernel
theorem dX7_chords_15 : decode cX7_chords 15 = .ok (.ldc 67, 2) := by decide +kernel
theorem dX7_chords_17 : decode cX7_chords 17 = .ok (.ireturn, 1) := by decide +kernel
theorem dX7_chords_18 : decode cX7_chords 18 = .ok (.iconst 0, 1) := by decide +kernel
theorem dX7_chords_19 : decode cX7_chords 19 = .ok (.istore_n 2, 1) := by decide +kernel
theorem dX7_chords_20 : decode cX7_chords 20 = .ok (.iconst 0, 1) := by decide +kernel
theorem dX7_chords_21 : decode cX7_chords 21 = .ok (.istore_n 3, 1) := by decide +kernel
theorem dX7_chords_22 : decode cX7_chords 22 = .ok (.iload_n 3, 1) := by decide +kernel
theorem dX7_chords_23 : decode cX7_chords 23 = .ok (.iconst 1, 1) := by decide +kernel
theorem dX7_chords_24 : decode cX7_chords 24 = .ok (.aload_n 0, 1) := by decide +kernel
theorem dX7_chords_25 : decode cX7_chords 25 = .ok (.getfield 19, 3) := by decide +kernel
theorem dX7_chords_28 : decode cX7_chords 28 = .ok (.iconst 0, 1) := by decide +kernel
theorem dX7_chords_29 : decode cX7_chords 29 = .ok (.iaload, 1) := by decide +kernel
theorem dX7_chords_30 : decode cX7_chords 30 = .ok (.ishl, 1) := by decide +kernel
theorem dX7_chords_31 : decode cX7_chords 31 = .ok (.if_icmp .ge 81, 3) := by decide +kernel
theorem dX7_chords_34 : decode cX7_chords 34 = .ok (.iconst 0, 1) := by decide +kernel
theorem dX7_chords_35 : decode cX7_chords 35 = .ok (.istore 4, 2) := by decide +kernel
theorem dX7_chords_37 : decode cX7_chords 37 = .ok (.iconst 0, 1) := by decide +kernel
theorem dX7_chords_38 : decode cX7_chords 38 = .ok (.istore 5, 2) := by decide +kernel
theorem dX7_chords_40 : decode cX7_chords 40 = .ok (.iload 5, 2) := by decide +kernel
theorem dX7_chords_42 : decode cX7_chords 42 = .ok (.aload_n 0, 1) := by decide +kernel
theorem dX7_chords_43 : decode cX7_chords 43 = .ok (.getfield 19, 3) := by decide +kernel
theorem dX7_chords_46 : decode cX7_chords 46 = .ok (.iconst 0, 1) := by decide +kernel
theorem dX7_chords_47 : decode cX7_chords 47 = .ok (.iaload, 1) := by decide +kernel
theorem dX7_chords_48 : decode cX7_chords 48 = .ok (.if_icmp .ge 42, 3) := by decide +kernel
theorem dX7_chords_51 : decode cX7_chords 51 = .ok (.iload 4, 2) := by decide +kernel
theorem dX7_chords_53 : decode cX7_chords 53 = .ok (.iload_n 3, 1) := by decide +kernel
theorem dX7_chords_54 : decode cX7_chords 54 = .ok (.iload 5, 2) := by decide +kernel
theorem dX7_chords_56 : decode cX7_chords 56 = .ok (.invokestatic 194, 3) := by decide +kernel
theorem dX7_chords_59 : decode cX7_chords 59 = .ok (.ifCond .eq 21, 3) := by decide +kernel
theorem dX7_chords_62 : decode cX7_chords 62 = .ok (.iconst 1, 1) := by decide +kernel
theorem dX7_chords_63 : decode cX7_chords 63 = .ok (.aload_n 0, 1) := by decide +kernel
theorem dX7_chords_64 : decode cX7_chords 64 = .ok (.iload 5, 2) := by decide +kernel
theorem dX7_chords_66 : decode cX7_chords 66 = .ok (.aload_n 0, 1) := by decide +kernel
theorem dX7_chords_67 : decode cX7_chords 67 = .ok (.getfield 19, 3) := by decide +kernel
theorem dX7_chords_70 : decode cX7_chords 70 = .ok (.iconst 1, 1) := by decide +kernel
theorem dX7_chords_71 : decode cX7_chords 71 = .ok (.iaload, 1) := by decide +kernel
theorem dX7_chords_72 : decode cX7_chords 72 = .ok (.iadd, 1) := by decide +kernel
theorem dX7_chords_73 : decode cX7_chords 73 = .ok (.invokevirtual 146, 3) := by decide +kernel
theorem dX7_chords_76 : decode cX7_chords 76 = .ok (.ishl, 1) := by decide +kernel
theorem dX7_chords_77 : decode cX7_chords 77 = .ok (.goto 4, 3) := by decide +kernel
theorem dX7_chords_80 : decode cX7_chords 80 = .ok (.iconst 0, 1) := by decide +kernel
theorem dX7_chords_81 : decode cX7_chords 81 = .ok (.ior, 1) := by decide +kernel
theorem dX7_chords_82 : decode cX7_chords 82 = .ok (.istore 4, 2) := by decide +kernel
theorem dX7_chords_84 : decode cX7_chords 84 = .ok (.iinc 5 1, 3) := by decide +kernel
theorem dX7_chords_87 : decode cX7_chords 87 = .ok (.goto (-47), 3) := by decide +kernel
theorem dX7_chords_90 : decode cX7_chords 90 = .ok (.iload 4, 2) := by decide +kernel
theorem dX7_chords_92 : decode cX7_chords 92 = .ok (.iload_n 3, 1) := by decide +kernel
theorem dX7_chords_93 : decode cX7_chords 93 = .ok (.if_icmp .ne 13, 3) := by decide +kernel
theorem dX7_chords_96 : decode cX7_chords 96 = .ok (.iload_n 2, 1) := by decide +kernel
theorem dX7_chords_97 : decode cX7_chords 97 = .ok (.iload_n 1, 1) := by decide +kernel
theorem dX7_chords_98 : decode cX7_chords 98 = .ok (.if_icmp .ne 5, 3) := by decide +kernel
theorem dX7_chords_101 : decode cX7_chords 101 = .ok (.iload_n 3, 1) := by decide +kernel
theorem dX7_chords_102 : decode cX7_chords 102 = .ok (.ireturn, 1) := by decide +kernel
theorem dX7_chords_103 : decode cX7_chords 103 = .ok (.iinc 2 1, 3) := by decide +kernel
theorem dX7_chords_106 : decode cX7_chords 106 = .ok (.iinc 3 1, 3) := by decide +kernel
theorem dX7_chords_109 : decode cX7_chords 109 = .ok (.goto (-87), 3) := by decide +kernel
theorem dX7_chords_112 : decode cX7_chords 112 = .ok (.iload_n 1, 1) := by decide +kernel
theorem dX7_chords_113 : decode cX7_chords 113 = .ok (.ifCond .ge 7, 3) := by decide +kernel
theorem dX7_chords_116 : decode cX7_chords 116 = .ok (.iload_n 2, 1) := by decide +kernel
theorem dX7_chords_117 : decode cX7_chords 117 = .ok (.goto 5, 3) := by decide +kernel
theorem dX7_chords_120 : decode cX7_chords 120 = .ok (.ldc 165, 2) := by decide +kernel
theorem dX7_chords_122 : decode cX7_chords 122 = .ok (.ireturn, 1) := by decide +kernel
theorem dX7_who_0 : decode cX7_who 0 = .ok (.aload_n 0, 1) := by decide +kernel
theorem dX7_who_1 : decode cX7_who 1 = .ok (.iload_n 1, 1) := by decide +kernel
theorem dX7_who_2 : decode cX7_who 2 = .ok (.invokevirtual 159, 3) := by decide +kernel
theorem dX7_who_5 : decode cX7_who 5 = .ok (.ifCond .eq 18, 3) := by decide +kernel
theorem dX7_who_8 : decode cX7_who 8 = .ok (.aload_n 0, 1) := by decide +kernel
theorem dX7_who_9 : decode cX7_who 9 = .ok (.iload_n 2, 1) := by decide +kernel
theorem dX7_who_10 : decode cX7_who 10 = .ok (.invokevirtual 162, 3) := by decide +kernel
theorem dX7_who_13 : decode cX7_who 13 = .ok (.ifCond .eq 10, 3) := by decide +kernel
theorem dX7_who_16 : decode cX7_who 16 = .ok (.iload_n 3, 1) := by decide +kernel
theorem dX7_who_17 : decode cX7_who 17 = .ok (.invokestatic 61, 3) := by decide +kernel
theorem dX7_who_20 : decode cX7_who 20 = .ok (.ifCond .ne 6, 3) := by decide +kernel
theorem dX7_who_23 : decode cX7_who 23 = .ok (.ldc 67, 2) := by decide +kernel
theorem dX7_who_25 : decode cX7_who 25 = .ok (.ireturn, 1) := by decide +kernel
theorem dX7_who_26 : decode cX7_who 26 = .ok (.aload_n 0, 1) := by decide +kernel
theorem dX7_who_27 : decode cX7_who 27 = .ok (.iload_n 3, 1) := by decide +kernel
theorem dX7_who_28 : decode cX7_who 28 = .ok (.iload 4, 2) := by decide +kernel
theorem dX7_who_30 : decode cX7_who 30 = .ok (.aload_n 0, 1) := by decide +kernel
theorem dX7_who_31 : decode cX7_who 31 = .ok (.getfield 19, 3) := by decide +kernel
theorem dX7_who_34 : decode cX7_who 34 = .ok (.bipush 6, 2) := by decide +kernel
theorem dX7_who_36 : decode cX7_who 36 = .ok (.iload_n 2, 1) := by decide +kernel
theorem dX7_who_37 : decode cX7_who 37 = .ok (.iadd, 1) := by decide +kernel
theorem dX7_who_38 : decode cX7_who 38 = .ok (.iaload, 1) := by decide +kernel
theorem dX7_who_39 : decode cX7_who 39 = .ok (.invokevirtual 191, 3) := by decide +kernel
theorem dX7_who_42 : decode cX7_who 42 = .ok (.istore 5, 2) := by decide +kernel
theorem dX7_who_44 : decode cX7_who 44 = .ok (.iload 5, 2) := by decide +kernel
theorem dX7_who_46 : decode cX7_who 46 = .ok (.ifCond .ge 6, 3) := by decide +kernel
theorem dX7_who_49 : decode cX7_who 49 = .ok (.iload 5, 2) := by decide +kernel
theorem dX7_who_51 : decode cX7_who 51 = .ok (.ireturn, 1) := by decide +kernel
theorem dX7_who_52 : decode cX7_who 52 = .ok (.iconst 0, 1) := by decide +kernel
theorem dX7_who_53 : decode cX7_who 53 = .ok (.istore 6, 2) := by decide +kernel
theorem dX7_who_55 : decode cX7_who 55 = .ok (.iconst 1, 1) := by decide +kernel
theorem dX7_who_56 : decode cX7_who 56 = .ok (.istore 7, 2) := by decide +kernel
theorem dX7_who_58 : decode cX7_who 58 = .ok (.iload 7, 2) := by decide +kernel
theorem dX7_who_60 : decode cX7_who 60 = .ok (.iconst 5, 1) := by decide +kernel
theorem dX7_who_61 : decode cX7_who 61 = .ok (.if_icmp .gt 109, 3) := by decide +kernel
theorem dX7_who_64 : decode cX7_who 64 = .ok (.aload_n 0, 1) := by decide +kernel
theorem dX7_who_65 : decode cX7_who 65 = .ok (.iload 7, 2) := by decide +kernel
theorem dX7_who_67 : decode cX7_who 67 = .ok (.aload_n 0, 1) := by decide +kernel
theorem dX7_who_68 : decode cX7_who 68 = .ok (.getfield 19, 3) := by decide +kernel
theorem dX7_who_71 : decode cX7_who 71 = .ok (.bipush 47, 2) := by decide +kernel
theorem dX7_who_73 : decode cX7_who 73 = .ok (.iload_n 1, 1) := by decide +kernel
theorem dX7_who_74 : decode cX7_who 74 = .ok (.iadd, 1) := by decide +kernel
theorem dX7_who_75 : decode cX7_who 75 = .ok (.iaload, 1) := by decide +kernel
theorem dX7_who_76 : decode cX7_who 76 = .ok (.invokevirtual 166, 3) := by decide +kernel
theorem dX7_who_79 : decode cX7_who 79 = .ok (.istore 8, 2) := by decide +kernel
theorem dX7_who_81 : decode cX7_who 81 = .ok (.iconst 1, 1) := by decide +kernel
theorem dX7_who_82 : decode cX7_who 82 = .ok (.istore 9, 2) := by decide +kernel
theorem dX7_who_84 : decode cX7_who 84 = .ok (.iconst 0, 1) := by decide +kernel
theorem dX7_who_85 : decode cX7_who 85 = .ok (.istore 10, 2) := by decide +kernel
theorem dX7_who_87 : decode cX7_who 87 = .ok (.iload 10, 2) := by decide +kernel
theorem dX7_who_89 : decode cX7_who 89 = .ok (.aload_n 0, 1) := by decide +kernel
theorem dX7_who_90 : decode cX7_who 90 = .ok (.getfield 19, 3) := by decide +kernel
theorem dX7_who_93 : decode cX7_who 93 = .ok (.bipush 6, 2) := by decide +kernel
theorem dX7_who_95 : decode cX7_who 95 = .ok (.iload_n 2, 1) := by decide +kernel
theorem dX7_who_96 : decode cX7_who 96 = .ok (.iadd, 1) := by decide +kernel
theorem dX7_who_97 : decode cX7_who 97 = .ok (.iaload, 1) := by decide +kernel
theorem dX7_who_98 : decode cX7_who 98 = .ok (.if_icmp .ge 48, 3) := by decide +kernel
theorem dX7_who_101 : decode cX7_who 101 = .ok (.iload 9, 2) := by decide +kernel
theorem dX7_who_103 : decode cX7_who 103 = .ok (.ifCond .eq 34, 3) := by decide +kernel
theorem dX7_who_106 : decode cX7_who 106 = .ok (.aload_n 0, 1) := by decide +kernel
theorem dX7_who_107 : decode cX7_who 107 = .ok (.getfield 16, 3) := by decide +kernel
theorem dX7_who_110 : decode cX7_who 110 = .ok (.bipush 40, 2) := by decide +kernel
theorem dX7_who_112 : decode cX7_who 112 = .ok (.iload_n 3, 1) := by decide +kernel
theorem dX7_who_113 : decode cX7_who 113 = .ok (.imul, 1) := by decide +kernel
theorem dX7_who_114 : decode cX7_who 114 = .ok (.iload 4, 2) := by decide +kernel
theorem dX7_who_116 : decode cX7_who 116 = .ok (.iadd, 1) := by decide +kernel
theorem dX7_who_117 : decode cX7_who 117 = .ok (.iload 10, 2) := by decide +kernel
theorem dX7_who_119 : decode cX7_who 119 = .ok (.iadd, 1) := by decide +kernel
theorem dX7_who_120 : decode cX7_who 120 = .ok (.iaload, 1) := by decide +kernel
theorem dX7_who_121 : decode cX7_who 121 = .ok (.aload_n 0, 1) := by decide +kernel
theorem dX7_who_122 : decode cX7_who 122 = .ok (.iload 8, 2) := by decide +kernel
theorem dX7_who_124 : decode cX7_who 124 = .ok (.iload_n 2, 1) := by decide +kernel
theorem dX7_who_125 : decode cX7_who 125 = .ok (.iload 10, 2) := by decide +kernel
theorem dX7_who_127 : decode cX7_who 127 = .ok (.invokevirtual 182, 3) := by decide +kernel
theorem dX7_who_130 : decode cX7_who 130 = .ok (.if_icmp .ne 7, 3) := by decide +kernel
theorem dX7_who_133 : decode cX7_who 133 = .ok (.iconst 1, 1) := by decide +kernel
theorem dX7_who_134 : decode cX7_who 134 = .ok (.goto 4, 3) := by decide +kernel
theorem dX7_who_137 : decode cX7_who 137 = .ok (.iconst 0, 1) := by decide +kernel
theorem dX7_who_138 : decode cX7_who 138 = .ok (.istore 9, 2) := by decide +kernel
theorem dX7_who_140 : decode cX7_who 140 = .ok (.iinc 10 1, 3) := by decide +kernel
theorem dX7_who_143 : decode cX7_who 143 = .ok (.goto (-56), 3) := by decide +kernel
theorem dX7_who_146 : decode cX7_who 146 = .ok (.iload 6, 2) := by decide +kernel
theorem dX7_who_148 : decode cX7_who 148 = .ok (.iload 9, 2) := by decide +kernel
theorem dX7_who_150 : decode cX7_who 150 = .ok (.ifCond .eq 10, 3) := by decide +kernel
theorem dX7_who_153 : decode cX7_who 153 = .ok (.iconst 1, 1) := by decide +kernel
theorem dX7_who_154 : decode cX7_who 154 = .ok (.iload 7, 2) := by decide +kernel
theorem dX7_who_156 : decode cX7_who 156 = .ok (.ishl, 1) := by decide +kernel
theorem dX7_who_157 : decode cX7_who 157 = .ok (.goto 4, 3) := by decide +kernel
theorem dX7_who_160 : decode cX7_who 160 = .ok (.iconst 0, 1) := by decide +kernel
theorem dX7_who_161 : decode cX7_who 161 = .ok (.ior, 1) := by decide +kernel
theorem dX7_who_162 : decode cX7_who 162 = .ok (.istore 6, 2) := by decide +kernel
theorem dX7_who_164 : decode cX7_who 164 = .ok (.iinc 7 1, 3) := by decide +kernel
theorem dX7_who_167 : decode cX7_who 167 = .ok (.goto (-109), 3) := by decide +kernel
theorem dX7_who_170 : decode cX7_who 170 = .ok (.aload_n 0, 1) := by decide +kernel
theorem dX7_who_171 : decode cX7_who 171 = .ok (.iload 6, 2) := by decide +kernel
theorem dX7_who_173 : decode cX7_who 173 = .ok (.invokevirtual 72, 3) := by decide +kernel
theorem dX7_who_176 : decode cX7_who 176 = .ok (.ireturn, 1) := by decide +kernel
theorem dX7_tunings_0 : decode cX7_tunings 0 = .ok (.aload_n 0, 1) := by decide +kernel
theorem dX7_tunings_1 : decode cX7_tunings 1 = .ok (.getfield 138, 3) := by decide +kernel
theorem dX7_tunings_4 : decode cX7_tunings 4 = .ok (.ifCond .ne 6, 3) := by decide +kernel
theorem dX7_tunings_7 : decode cX7_tunings 7 = .ok (.ldc 145, 2) := by decide +kernel
theorem dX7_tunings_9 : decode cX7_tunings 9 = .ok (.ireturn, 1) := by decide +kernel
theorem dX7_tunings_10 : decode cX7_tunings 10 = .ok (.iload_n 1, 1) := by decide +kernel
theorem dX7_tunings_11 : decode cX7_tunings 11 = .ok (.i2l, 1) := by decide +kernel
theorem dX7_tunings_12 : decode cX7_tunings 12 = .ok (.lconst 1, 1) := by decide +kernel
theorem dX7_tunings_13 : decode cX7_tunings 13 = .ok (.ldc2_w 214, 3) := by decide +kernel
theorem dX7_tunings_16 : decode cX7_tunings 16 = .ok (.invokestatic 57, 3) := by decide +kernel
theorem dX7_tunings_19 : decode cX7_tunings 19 = .ok (.ifCond .eq 15, 3) := by decide +kernel
theorem dX7_tunings_22 : decode cX7_tunings 22 = .ok (.iload_n 2, 1) := by decide +kernel
theorem dX7_tunings_23 : decode cX7_tunings 23 = .ok (.i2l, 1) := by decide +kernel
theorem dX7_tunings_24 : decode cX7_tunings 24 = .ok (.lconst 0, 1) := by decide +kernel
theorem dX7_tunings_25 : decode cX7_tunings 25 = .ok (.ldc2_w 157, 3) := by decide +kernel
theorem dX7_tunings_28 : decode cX7_tunings 28 = .ok (.invokestatic 57, 3) := by decide +kernel
theorem dX7_tunings_31 : decode cX7_tunings 31 = .ok (.ifCond .ne 6, 3) := by decide +kernel
theorem dX7_tunings_34 : decode cX7_tunings 34 = .ok (.ldc 67, 2) := by decide +kernel
theorem dX7_tunings_36 : decode cX7_tunings 36 = .ok (.ireturn, 1) := by decide +kernel
theorem dX7_tunings_37 : decode cX7_tunings 37 = .ok (.iconst 0, 1) := by decide +kernel
theorem dX7_tunings_38 : decode cX7_tunings 38 = .ok (.istore_n 3, 1) := by decide +kernel
theorem dX7_tunings_39 : decode cX7_tunings 39 = .ok (.iload_n 3, 1) := by decide +kernel
theorem dX7_tunings_40 : decode cX7_tunings 40 = .ok (.bipush 12, 2) := by decide +kernel
theorem dX7_tunings_42 : decode cX7_tunings 42 = .ok (.if_icmp .ge 32, 3) := by decide +kernel
theorem dX7_tunings_45 : decode cX7_tunings 45 = .ok (.aload_n 0, 1) := by decide +kernel
theorem dX7_tunings_46 : decode cX7_tunings 46 = .ok (.getfield 34, 3) := by decide +kernel
theorem dX7_tunings_49 : decode cX7_tunings 49 = .ok (.iload_n 3, 1) := by decide +kernel
theorem dX7_tunings_50 : decode cX7_tunings 50 = .ok (.iload_n 3, 1) := by decide +kernel
theorem dX7_tunings_51 : decode cX7_tunings 51 = .ok (.aload_n 0, 1) := by decide +kernel
theorem dX7_tunings_52 : decode cX7_tunings 52 = .ok (.getfield 19, 3) := by decide +kernel
theorem dX7_tunings_55 : decode cX7_tunings 55 = .ok (.iconst 2, 1) := by decide +kernel
theorem dX7_tunings_56 : decode cX7_tunings 56 = .ok (.iaload, 1) := by decide +kernel
theorem dX7_tunings_57 : decode cX7_tunings 57 = .ok (.if_icmp .ne 7, 3) := by decide +kernel
theorem dX7_tunings_60 : decode cX7_tunings 60 = .ok (.iconst 0, 1) := by decide +kernel
theorem dX7_tunings_61 : decode cX7_tunings 61 = .ok (.goto 6, 3) := by decide +kernel
theorem dX7_tunings_64 : decode cX7_tunings 64 = .ok (.sipush 999, 3) := by decide +kernel
theorem dX7_tunings_67 : decode cX7_tunings 67 = .ok (.iastore, 1) := by decide +kernel
theorem dX7_tunings_68 : decode cX7_tunings 68 = .ok (.iinc 3 1, 3) := by decide +kernel
theorem dX7_tunings_71 : decode cX7_tunings 71 = .ok (.goto (-32), 3) := by decide +kernel
theorem dX7_tunings_74 : decode cX7_tunings 74 = .ok (.iconst 0, 1) := by decide +kernel
theorem dX7_tunings_75 : decode cX7_tunings 75 = .ok (.istore_n 3, 1) := by decide +kernel
theorem dX7_tunings_76 : decode cX7_tunings 76 = .ok (.iload_n 3, 1) := by decide +kernel
theorem dX7_tunings_77 : decode cX7_tunings 77 = .ok (.iload_n 1, 1) := by decide +kernel
theorem dX7_tunings_78 : decode cX7_tunings 78 = .ok (.if_icmp .ge 189, 3) := by decide +kernel
theorem dX7_tunings_81 : decode cX7_tunings 81 = .ok (.iconst 0, 1) := by decide +kernel
theorem dX7_tunings_82 : decode cX7_tunings 82 = .ok (.istore 4, 2) := by decide +kernel
theorem dX7_tunings_84 : decode cX7_tunings 84 = .ok (.iload 4, 2) := by decide +kernel
theorem dX7_tunings_86 : decode cX7_tunings 86 = .ok (.bipush 12, 2) := by decide +kernel
theorem dX7_tunings_88 : decode cX7_tunings 88 = .ok (.if_icmp .ge 19, 3) := by decide +kernel
theorem dX7_tunings_91 : decode cX7_tunings 91 = .ok (.aload_n 0, 1) := by decide +kernel
theorem dX7_tunings_92 : decode cX7_tunings 92 = .ok (.getfield 37, 3) := by decide +kernel
theorem dX7_tunings_95 : decode cX7_tunings 95 = .ok (.iload 4, 2) := by decide +kernel
theorem dX7_tunings_97 : decode cX7_tunings 97 = .ok (.sipush 999, 3) := by decide +kernel
theorem dX7_tunings_100 : decode cX7_tunings 100 = .ok (.iastore, 1) := by decide +kernel
theorem dX7_tunings_101 : decode cX7_tunings 101 = .ok (.iinc 4 1, 3) := by decide +kernel
theorem dX7_tunings_104 : decode cX7_tunings 104 = .ok (.goto (-20), 3) := by decide +kernel
theorem dX7_tunings_107 : decode cX7_tunings 107 = .ok (.iconst 0, 1) := by decide +kernel
theorem dX7_tunings_108 : decode cX7_tunings 108 = .ok (.istore 4, 2) := by decide +kernel
theorem dX7_tunings_110 : decode cX7_tunings 110 = .ok (.iload 4, 2) := by decide +kernel
theorem dX7_tunings_112 : decode cX7_tunings 112 = .ok (.aload_n 0, 1) := by decide +kernel
theorem dX7_tunings_113 : decode cX7_tunings 113 = .ok (.getfield 19, 3) := by decide +kernel
theorem dX7_tunings_116 : decode cX7_tunings 116 = .ok (.iconst 0, 1) := by decide +kernel
theorem dX7_tunings_117 : decode cX7_tunings 117 = .ok (.iaload, 1) := by decide +kernel
theorem dX7_tunings_118 : decode cX7_tunings 118 = .ok (.if_icmp .ge 113, 3) := by decide +kernel
theorem dX7_tunings_121 : decode cX7_tunings 121 = .ok (.aload_n 0, 1) := by decide +kernel
theorem dX7_tunings_122 : decode cX7_tunings 122 = .ok (.iload 4, 2) := by decide +kernel
theorem dX7_tunings_124 : decode cX7_tunings 124 = .ok (.aload_n 0, 1) := by decide +kernel
theorem dX7_tunings_125 : decode cX7_tunings 125 = .ok (.getfield 19, 3) := by decide +kernel
theorem dX7_tunings_128 : decode cX7_tunings 128 = .ok (.iconst 1, 1) := by decide +kernel
theorem dX7_tunings_129 : decode cX7_tunings 129 = .ok (.iaload, 1) := by decide +kernel
theorem dX7_tunings_130 : decode cX7_tunings 130 = .ok (.iadd, 1) := by decide +kernel
theorem dX7_tunings_131 : decode cX7_tunings 131 = .ok (.invokevirtual 146, 3) := by decide +kernel
theorem dX7_tunings_134 : decode cX7_tunings 134 = .ok (.istore 5, 2) := by decide +kernel
theorem dX7_tunings_136 : decode cX7_tunings 136 = .ok (.aload_n 0, 1) := by decide +kernel
theorem dX7_tunings_137 : decode cX7_tunings 137 = .ok (.getfield 37, 3) := by decide +kernel
theorem dX7_tunings_140 : decode cX7_tunings 140 = .ok (.iload 5, 2) := by decide +kernel
theorem dX7_tunings_142 : decode cX7_tunings 142 = .ok (.iload 5, 2) := by decide +kernel
theorem dX7_tunings_144 : decode cX7_tunings 144 = .ok (.iload_n 2, 1) := by decide +kernel
theorem dX7_tunings_145 : decode cX7_tunings 145 = .ok (.if_icmp .gt 30, 3) := by decide +kernel
theorem dX7_tunings_148 : decode cX7_tunings 148 = .ok (.aload_n 0, 1) := by decide +kernel
theorem dX7_tunings_149 : decode cX7_tunings 149 = .ok (.getfield 34, 3) := by decide +kernel
theorem dX7_tunings_152 : decode cX7_tunings 152 = .ok (.iload 4, 2) := by decide +kernel
theorem dX7_tunings_154 : decode cX7_tunings 154 = .ok (.iaload, 1) := by decide +kernel
theorem dX7_tunings_155 : decode cX7_tunings 155 = .ok (.aload_n 0, 1) := by decide +kernel
theorem dX7_tunings_156 : decode cX7_tunings 156 = .ok (.getfield 37, 3) := by decide +kernel
theorem dX7_tunings_159 : decode cX7_tunings 159 = .ok (.iload 5, 2) := by decide +kernel
theorem dX7_tunings_161 : decode cX7_tunings 161 = .ok (.iaload, 1) := by decide +kernel
theorem dX7_tunings_162 : decode cX7_tunings 162 = .ok (.if_icmp .ge 13, 3) := by decide +kernel
theorem dX7_tunings_165 : decode cX7_tunings 165 = .ok (.aload_n 0, 1) := by decide +kernel
theorem dX7_tunings_166 : decode cX7_tunings 166 = .ok (.getfield 34, 3) := by decide +kernel
theorem dX7_tunings_169 : decode cX7_tunings 169 = .ok (.iload 4, 2) := by decide +kernel
theorem dX7_tunings_171 : decode cX7_tunings 171 = .ok (.iaload, 1) := by decide +kernel
theorem dX7_tunings_172 : decode cX7_tunings 172 = .ok (.goto 10, 3) := by decide +kernel
theorem dX7_tunings_175 : decode cX7_tunings 175 = .ok (.aload_n 0, 1) := by decide +kernel
theorem dX7_tunings_176 : decode cX7_tunings 176 = .ok (.getfield 37, 3) := by decide +kernel
theorem dX7_tunings_179 : decode cX7_tunings 179 = .ok (.iload 5, 2) := by decide +kernel
theorem dX7_tunings_181 : decode cX7_tunings 181 = .ok (.iaload, 1) := by decide +kernel
theorem dX7_tunings_182 : decode cX7_tunings 182 = .ok (.iastore, 1) := by decide +kernel
theorem dX7_tunings_183 : decode cX7_tunings 183 = .ok (.aload_n 0, 1) := by decide +kernel
theorem dX7_tunings_184 : decode cX7_tunings 184 = .ok (.getfield 37, 3) := by decide +kernel
theorem dX7_tunings_187 : decode cX7_tunings 187 = .ok (.iconst 0, 1) := by decide +kernel
theorem dX7_tunings_188 : decode cX7_tunings 188 = .ok (.aload_n 0, 1) := by decide +kernel
theorem dX7_tunings_189 : decode cX7_tunings 189 = .ok (.getfield 34, 3) := by decide +kernel
theorem dX7_tunings_192 : decode cX7_tunings 192 = .ok (.iload 4, 2) := by decide +kernel
theorem dX7_tunings_194 : decode cX7_tunings 194 = .ok (.iaload, 1) := by decide +kernel
theorem dX7_tunings_195 : decode cX7_tunings 195 = .ok (.iconst 1, 1) := by decide +kernel
theorem dX7_tunings_196 : decode cX7_tunings 196 = .ok (.iadd, 1) := by decide +kernel
theorem dX7_tunings_197 : decode cX7_tunings 197 = .ok (.aload_n 0, 1) := by decide +kernel
theorem dX7_tunings_198 : decode cX7_tunings 198 = .ok (.getfield 37, 3) := by decide +kernel
theorem dX7_tunings_201 : decode cX7_tunings 201 = .ok (.iconst 0, 1) := by decide +kernel
theorem dX7_tunings_202 : decode cX7_tunings 202 = .ok (.iaload, 1) := by decide +kernel
theorem dX7_tunings_203 : decode cX7_tunings 203 = .ok (.if_icmp .ge 15, 3) := by decide +kernel
theorem dX7_tunings_206 : decode cX7_tunings 206 = .ok (.aload_n 0, 1) := by decide +kernel
theorem dX7_tunings_207 : decode cX7_tunings 207 = .ok (.getfield 34, 3) := by decide +kernel
theorem dX7_tunings_210 : decode cX7_tunings 210 = .ok (.iload 4, 2) := by decide +kernel
theorem dX7_tunings_212 : decode cX7_tunings 212 = .ok (.iaload, 1) := by decide +kernel
theorem dX7_tunings_213 : decode cX7_tunings 213 = .ok (.iconst 1, 1) := by decide +kernel
theorem dX7_tunings_214 : decode cX7_tunings 214 = .ok (.iadd, 1) := by decide +kernel
theorem dX7_tunings_215 : decode cX7_tunings 215 = .ok (.goto 9, 3) := by decide +kernel
theorem dX7_tunings_218 : decode cX7_tunings 218 = .ok (.aload_n 0, 1) := by decide +kernel
theorem dX7_tunings_219 : decode cX7_tunings 219 = .ok (.getfield 37, 3) := by decide +kernel
theorem dX7_tunings_222 : decode cX7_tunings 222 = .ok (.iconst 0, 1) := by decide +kernel
theorem dX7_tunings_223 : decode cX7_tunings 223 = .ok (.iaload, 1) := by decide +kernel
theorem dX7_tunings_224 : decode cX7_tunings 224 = .ok (.iastore, 1) := by decide +kernel
theorem dX7_tunings_225 : decode cX7_tunings 225 = .ok (.iinc 4 1, 3) := by decide +kernel
theorem dX7_tunings_228 : decode cX7_tunings 228 = .ok (.goto (-118), 3) := by decide +kernel
theorem dX7_tunings_231 : decode cX7_tunings 231 = .ok (.iconst 0, 1) := by decide +kernel
theorem dX7_tunings_232 : decode cX7_tunings 232 = .ok (.istore 4, 2) := by decide +kernel
theorem dX7_tunings_234 : decode cX7_tunings 234 = .ok (.iload 4, 2) := by decide +kernel
theorem dX7_tunings_236 : decode cX7_tunings 236 = .ok (.bipush 12, 2) := by decide +kernel
theorem dX7_tunings_238 : decode cX7_tunings 238 = .ok (.if_icmp .ge 23, 3) := by decide +kernel
theorem dX7_tunings_241 : decode cX7_tunings 241 = .ok (.aload_n 0, 1) := by decide +kernel
theorem dX7_tunings_242 : decode cX7_tunings 242 = .ok (.getfield 34, 3) := by decide +kernel
theorem dX7_tunings_245 : decode cX7_tunings 245 = .ok (.iload 4, 2) := by decide +kernel
theorem dX7_tunings_247 : decode cX7_tunings 247 = .ok (.aload_n 0, 1) := by decide +kernel
theorem dX7_tunings_248 : decode cX7_tunings 248 = .ok (.getfield 37, 3) := by decide +kernel
theorem dX7_tunings_251 : decode cX7_tunings 251 = .ok (.iload 4, 2) := by decide +kernel
theorem dX7_tunings_253 : decode cX7_tunings 253 = .ok (.iaload, 1) := by decide +kernel
theorem dX7_tunings_254 : decode cX7_tunings 254 = .ok (.iastore, 1) := by decide +kernel
theorem dX7_tunings_255 : decode cX7_tunings 255 = .ok (.iinc 4 1, 3) := by decide +kernel
theorem dX7_tunings_258 : decode cX7_tunings 258 = .ok (.goto (-24), 3) := by decide +kernel
theorem dX7_tunings_261 : decode cX7_tunings 261 = .ok (.iinc 3 1, 3) := by decide +kernel
theorem dX7_tunings_264 : decode cX7_tunings 264 = .ok (.goto (-188), 3) := by decide +kernel
theorem dX7_tunings_267 : decode cX7_tunings 267 = .ok (.sipush 999, 3) := by decide +kernel
theorem dX7_tunings_270 : decode cX7_tunings 270 = .ok (.istore_n 3, 1) := by decide +kernel
theorem dX7_tunings_271 : decode cX7_tunings 271 = .ok (.iconst 0, 1) := by decide +kernel
theorem dX7_tunings_272 : decode cX7_tunings 272 = .ok (.istore 4, 2) := by decide +kernel
theorem dX7_tunings_274 : decode cX7_tunings 274 = .ok (.iload 4, 2) := by decide +kernel
theorem dX7_tunings_276 : decode cX7_tunings 276 = .ok (.bipush 12, 2) := by decide +kernel
theorem dX7_tunings_278 : decode cX7_tunings 278 = .ok (.if_icmp .ge 32, 3) := by decide +kernel
theorem dX7_tunings_281 : decode cX7_tunings 281 = .ok (.aload_n 0, 1) := by decide +kernel
theorem dX7_tunings_282 : decode cX7_tunings 282 = .ok (.getfield 34, 3) := by decide +kernel
theorem dX7_tunings_285 : decode cX7_tunings 285 = .ok (.iload 4, 2) := by decide +kernel
theorem dX7_tunings_287 : decode cX7_tunings 287 = .ok (.iaload, 1) := by decide +kernel
theorem dX7_tunings_288 : decode cX7_tunings 288 = .ok (.iload_n 3, 1) := by decide +kernel
theorem dX7_tunings_289 : decode cX7_tunings 289 = .ok (.if_icmp .ge 13, 3) := by decide +kernel
theorem dX7_tunings_292 : decode cX7_tunings 292 = .ok (.aload_n 0, 1) := by decide +kernel
theorem dX7_tunings_293 : decode cX7_tunings 293 = .ok (.getfield 34, 3) := by decide +kernel
theorem dX7_tunings_296 : decode cX7_tunings 296 = .ok (.iload 4, 2) := by decide +kernel
theorem dX7_tunings_298 : decode cX7_tunings 298 = .ok (.iaload, 1) := by decide +kernel
theorem dX7_tunings_299 : decode cX7_tunings 299 = .ok (.goto 4, 3) := by decide +kernel
theorem dX7_tunings_302 : decode cX7_tunings 302 = .ok (.iload_n 3, 1) := by decide +kernel
theorem dX7_tunings_303 : decode cX7_tunings 303 = .ok (.istore_n 3, 1) := by decide +kernel
theorem dX7_tunings_304 : decode cX7_tunings 304 = .ok (.iinc 4 1, 3) := by decide +kernel
theorem dX7_tunings_307 : decode cX7_tunings 307 = .ok (.goto (-33), 3) := by decide +kernel
theorem dX7_tunings_310 : decode cX7_tunings 310 = .ok (.iload_n 3, 1) := by decide +kernel
theorem dX7_tunings_311 : decode cX7_tunings 311 = .ok (.ireturn, 1) := by decide +kernel
theorem dX7_other_0 : decode cX7_other 0 = .ok (.aload_n 0, 1) := by decide +kernel
theorem dX7_other_1 : decode cX7_other 1 = .ok (.getfield 138, 3) := by decide +kernel
theorem dX7_other_4 : decode cX7_other 4 = .ok (.ifCond .ne 6, 3) := by decide +kernel
theorem dX7_other_7 : decode cX7_other 7 = .ok (.ldc 145, 2) := by decide +kernel
theorem dX7_other_9 : decode cX7_other 9 = .ok (.ireturn, 1) := by decide +kernel
theorem dX7_other_10 : decode cX7_other 10 = .ok (.iload_n 1, 1) := by decide +kernel
theorem dX7_other_11 : decode cX7_other 11 = .ok (.i2l, 1) := by decide +kernel
theorem dX7_other_12 : decode cX7_other 12 = .ok (.lconst 0, 1) := by decide +kernel
theorem dX7_other_13 : decode cX7_other 13 = .ok (.aload_n 0, 1) := by decide +kernel
theorem dX7_other_14 : decode cX7_other 14 = .ok (.getfield 19, 3) := by decide +kernel
theorem dX7_other_17 : decode cX7_other 17 = .ok (.iconst 0, 1) := by decide +kernel
theorem dX7_other_18 : decode cX7_other 18 = .ok (.iaload, 1) := by decide +kernel
theorem dX7_other_19 : decode cX7_other 19 = .ok (.iconst 1, 1) := by decide +kernel
theorem dX7_other_20 : decode cX7_other 20 = .ok (.isub, 1) := by decide +kernel
theorem dX7_other_21 : decode cX7_other 21 = .ok (.i2l, 1) := by decide +kernel
theorem dX7_other_22 : decode cX7_other 22 = .ok (.invokestatic 57, 3) := by decide +kernel
theorem dX7_other_25 : decode cX7_other 25 = .ok (.ifCond .eq 21, 3) := by decide +kernel
theorem dX7_other_28 : decode cX7_other 28 = .ok (.iload_n 2, 1) := by decide +kernel
theorem dX7_other_29 : decode cX7_other 29 = .ok (.i2l, 1) := by decide +kernel
theorem dX7_other_30 : decode cX7_other 30 = .ok (.lconst 0, 1) := by decide +kernel
theorem dX7_other_31 : decode cX7_other 31 = .ok (.aload_n 0, 1) := by decide +kernel
theorem dX7_other_32 : decode cX7_other 32 = .ok (.getfield 19, 3) := by decide +kernel
theorem dX7_other_35 : decode cX7_other 35 = .ok (.iconst 0, 1) := by decide +kernel
theorem dX7_other_36 : decode cX7_other 36 = .ok (.iaload, 1) := by decide +kernel
theorem dX7_other_37 : decode cX7_other 37 = .ok (.iconst 1, 1) := by decide +kernel
theorem dX7_other_38 : decode cX7_other 38 = .ok (.isub, 1) := by decide +kernel
theorem dX7_other_39 : decode cX7_other 39 = .ok (.i2l, 1) := by decide +kernel
theorem dX7_other_40 : decode cX7_other 40 = .ok (.invokestatic 57, 3) := by decide +kernel
theorem dX7_other_43 : decode cX7_other 43 = .ok (.ifCond .ne 6, 3) := by decide +kernel
theorem dX7_other_46 : decode cX7_other 46 = .ok (.ldc 67, 2) := by decide +kernel
theorem dX7_other_48 : decode cX7_other 48 = .ok (.ireturn, 1) := by decide +kernel
theorem dX7_other_49 : decode cX7_other 49 = .ok (.iconst 0, 1) := by decide +kernel
theorem dX7_other_50 : decode cX7_other 50 = .ok (.istore_n 3, 1) := by decide +kernel
theorem dX7_other_51 : decode cX7_other 51 = .ok (.iload_n 3, 1) := by decide +kernel
theorem dX7_other_52 : decode cX7_other 52 = .ok (.bipush 100, 2) := by decide +kernel
theorem dX7_other_54 : decode cX7_other 54 = .ok (.if_icmp .gt 28, 3) := by decide +kernel
theorem dX7_other_57 : decode cX7_other 57 = .ok (.aload_n 0, 1) := by decide +kernel
theorem dX7_other_58 : decode cX7_other 58 = .ok (.iload_n 3, 1) := by decide +kernel
theorem dX7_other_59 : decode cX7_other 59 = .ok (.invokevirtual 154, 3) := by decide +kernel
theorem dX7_other_62 : decode cX7_other 62 = .ok (.aload_n 0, 1) := by decide +kernel
theorem dX7_other_63 : decode cX7_other 63 = .ok (.iload_n 2, 1) := by decide +kernel
theorem dX7_other_64 : decode cX7_other 64 = .ok (.iload_n 3, 1) := by decide +kernel
theorem dX7_other_65 : decode cX7_other 65 = .ok (.iload_n 1, 1) := by decide +kernel
theorem dX7_other_66 : decode cX7_other 66 = .ok (.imul, 1) := by decide +kernel
theorem dX7_other_67 : decode cX7_other 67 = .ok (.iadd, 1) := by decide +kernel
theorem dX7_other_68 : decode cX7_other 68 = .ok (.invokevirtual 146, 3) := by decide +kernel
theorem dX7_other_71 : decode cX7_other 71 = .ok (.if_icmp .ne 5, 3) := by decide +kernel
theorem dX7_other_74 : decode cX7_other 74 = .ok (.iload_n 3, 1) := by decide +kernel
theorem dX7_other_75 : decode cX7_other 75 = .ok (.ireturn, 1) := by decide +kernel
theorem dX7_other_76 : decode cX7_other 76 = .ok (.iinc 3 1, 3) := by decide +kernel
theorem dX7_other_79 : decode cX7_other 79 = .ok (.goto (-28), 3) := by decide +kernel
theorem dX7_other_82 : decode cX7_other 82 = .ok (.ldc 165, 2) := by decide +kernel
theorem dX7_other_84 : decode cX7_other 84 = .ok (.ireturn, 1) := by decide +kernel
theorem dX7_thunderOdds_0 : decode cX7_thunderOdds 0 = .ok (.aload_n 0, 1) := by decide +kernel
theorem dX7_thunderOdds_1 : decode cX7_thunderOdds 1 = .ok (.iload_n 1, 1) := by decide +kernel
theorem dX7_thunderOdds_2 : decode cX7_thunderOdds 2 = .ok (.invokevirtual 159, 3) := by decide +kernel
theorem dX7_thunderOdds_5 : decode cX7_thunderOdds 5 = .ok (.ifCond .eq 38, 3) := by decide +kernel
theorem dX7_thunderOdds_8 : decode cX7_thunderOdds 8 = .ok (.iload_n 2, 1) := by decide +kernel
theorem dX7_thunderOdds_9 : decode cX7_thunderOdds 9 = .ok (.i2l, 1) := by decide +kernel
theorem dX7_thunderOdds_10 : decode cX7_thunderOdds 10 = .ok (.lconst 0, 1) := by decide +kernel
theorem dX7_thunderOdds_11 : decode cX7_thunderOdds 11 = .ok (.ldc2_w 216, 3) := by decide +kernel
theorem dX7_thunderOdds_14 : decode cX7_thunderOdds 14 = .ok (.invokestatic 57, 3) := by decide +kernel
theorem dX7_thunderOdds_17 : decode cX7_thunderOdds 17 = .ok (.ifCond .eq 26, 3) := by decide +kernel
theorem dX7_thunderOdds_20 : decode cX7_thunderOdds 20 = .ok (.iload_n 3, 1) := by decide +kernel
theorem dX7_thunderOdds_21 : decode cX7_thunderOdds 21 = .ok (.i2l, 1) := by decide +kernel
theorem dX7_thunderOdds_22 : decode cX7_thunderOdds 22 = .ok (.lconst 0, 1) := by decide +kernel
theorem dX7_thunderOdds_23 : decode cX7_thunderOdds 23 = .ok (.ldc2_w 205, 3) := by decide +kernel
theorem dX7_thunderOdds_26 : decode cX7_thunderOdds 26 = .ok (.invokestatic 57, 3) := by decide +kernel
theorem dX7_thunderOdds_29 : decode cX7_thunderOdds 29 = .ok (.ifCond .eq 14, 3) := by decide +kernel
theorem dX7_thunderOdds_32 : decode cX7_thunderOdds 32 = .ok (.iload 4, 2) := by decide +kernel
theorem dX7_thunderOdds_34 : decode cX7_thunderOdds 34 = .ok (.i2l, 1) := by decide +kernel
theorem dX7_thunderOdds_35 : decode cX7_thunderOdds 35 = .ok (.lconst 0, 1) := by decide +kernel
theorem dX7_thunderOdds_36 : decode cX7_thunderOdds 36 = .ok (.lconst 1, 1) := by decide +kernel
theorem dX7_thunderOdds_37 : decode cX7_thunderOdds 37 = .ok (.invokestatic 57, 3) := by decide +kernel
theorem dX7_thunderOdds_40 : decode cX7_thunderOdds 40 = .ok (.ifCond .ne 7, 3) := by decide +kernel
theorem dX7_thunderOdds_43 : decode cX7_thunderOdds 43 = .ok (.ldc2_w 218, 3) := by decide +kernel
theorem dX7_thunderOdds_46 : decode cX7_thunderOdds 46 = .ok (.lreturn, 1) := by decide +kernel
theorem dX7_thunderOdds_47 : decode cX7_thunderOdds 47 = .ok (.lconst 0, 1) := by decide +kernel
theorem dX7_thunderOdds_48 : decode cX7_thunderOdds 48 = .ok (.lstore 5, 2) := by decide +kernel
theorem dX7_thunderOdds_50 : decode cX7_thunderOdds 50 = .ok (.lconst 1, 1) := by decide +kernel
theorem dX7_thunderOdds_51 : decode cX7_thunderOdds 51 = .ok (.lstore 7, 2) := by decide +kernel
theorem dX7_thunderOdds_53 : decode cX7_thunderOdds 53 = .ok (.iconst 0, 1) := by decide +kernel
theorem dX7_thunderOdds_54 : decode cX7_thunderOdds 54 = .ok (.istore 9, 2) := by decide +kernel
theorem dX7_thunderOdds_56 : decode cX7_thunderOdds 56 = .ok (.iload 9, 2) := by decide +kernel
theorem dX7_thunderOdds_58 : decode cX7_thunderOdds 58 = .ok (.iload_n 3, 1) := by decide +kernel
theorem dX7_thunderOdds_59 : decode cX7_thunderOdds 59 = .ok (.if_icmp .ge 17, 3) := by decide +kernel
theorem dX7_thunderOdds_62 : decode cX7_thunderOdds 62 = .ok (.lload 7, 2) := by decide +kernel
theorem dX7_thunderOdds_64 : decode cX7_thunderOdds 64 = .ok (.ldc2_w 216, 3) := by decide +kernel
theorem dX7_thunderOdds_67 : decode cX7_thunderOdds 67 = .ok (.lmul, 1) := by decide +kernel
theorem dX7_thunderOdds_68 : decode cX7_thunderOdds 68 = .ok (.lstore 7, 2) := by decide +kernel
theorem dX7_thunderOdds_70 : decode cX7_thunderOdds 70 = .ok (.iinc 9 1, 3) := by decide +kernel
theorem dX7_thunderOdds_73 : decode cX7_thunderOdds 73 = .ok (.goto (-17), 3) := by decide +kernel
theorem dX7_thunderOdds_76 : decode cX7_thunderOdds 76 = .ok (.iconst 0, 1) := by decide +kernel
theorem dX7_thunderOdds_77 : decode cX7_thunderOdds 77 = .ok (.istore 9, 2) := by decide +kernel
theorem dX7_thunderOdds_79 : decode cX7_thunderOdds 79 = .ok (.iload 9, 2) := by decide +kernel
theorem dX7_thunderOdds_81 : decode cX7_thunderOdds 81 = .ok (.iconst 1, 1) := by decide +kernel
theorem dX7_thunderOdds_82 : decode cX7_thunderOdds 82 = .ok (.iload_n 3, 1) := by decide +kernel
theorem dX7_thunderOdds_83 : decode cX7_thunderOdds 83 = .ok (.ishl, 1) := by decide +kernel
theorem dX7_thunderOdds_84 : decode cX7_thunderOdds 84 = .ok (.if_icmp .ge 86, 3) := by decide +kernel
theorem dX7_thunderOdds_87 : decode cX7_thunderOdds 87 = .ok (.lconst 1, 1) := by decide +kernel
theorem dX7_thunderOdds_88 : decode cX7_thunderOdds 88 = .ok (.lstore 10, 2) := by decide +kernel
theorem dX7_thunderOdds_90 : decode cX7_thunderOdds 90 = .ok (.iconst 0, 1) := by decide +kernel
theorem dX7_thunderOdds_91 : decode cX7_thunderOdds 91 = .ok (.istore 12, 2) := by decide +kernel
theorem dX7_thunderOdds_93 : decode cX7_thunderOdds 93 = .ok (.iload 12, 2) := by decide +kernel
theorem dX7_thunderOdds_95 : decode cX7_thunderOdds 95 = .ok (.iload_n 3, 1) := by decide +kernel
theorem dX7_thunderOdds_96 : decode cX7_thunderOdds 96 = .ok (.if_icmp .ge 34, 3) := by decide +kernel
theorem dX7_thunderOdds_99 : decode cX7_thunderOdds 99 = .ok (.lload 10, 2) := by decide +kernel
theorem dX7_thunderOdds_101 : decode cX7_thunderOdds 101 = .ok (.iload 9, 2) := by decide +kernel
theorem dX7_thunderOdds_103 : decode cX7_thunderOdds 103 = .ok (.iload 12, 2) := by decide +kernel
theorem dX7_thunderOdds_105 : decode cX7_thunderOdds 105 = .ok (.invokestatic 194, 3) := by decide +kernel
theorem dX7_thunderOdds_108 : decode cX7_thunderOdds 108 = .ok (.ifCond .eq 8, 3) := by decide +kernel
theorem dX7_thunderOdds_111 : decode cX7_thunderOdds 111 = .ok (.iload_n 2, 1) := by decide +kernel
theorem dX7_thunderOdds_112 : decode cX7_thunderOdds 112 = .ok (.i2l, 1) := by decide +kernel
theorem dX7_thunderOdds_113 : decode cX7_thunderOdds 113 = .ok (.goto 8, 3) := by decide +kernel
theorem dX7_thunderOdds_116 : decode cX7_thunderOdds 116 = .ok (.bipush 10, 2) := by decide +kernel
theorem dX7_thunderOdds_118 : decode cX7_thunderOdds 118 = .ok (.iload_n 2, 1) := by decide +kernel
theorem dX7_thunderOdds_119 : decode cX7_thunderOdds 119 = .ok (.isub, 1) := by decide +kernel
theorem dX7_thunderOdds_120 : decode cX7_thunderOdds 120 = .ok (.i2l, 1) := by decide +kernel
theorem dX7_thunderOdds_121 : decode cX7_thunderOdds 121 = .ok (.lmul, 1) := by decide +kernel
theorem dX7_thunderOdds_122 : decode cX7_thunderOdds 122 = .ok (.lstore 10, 2) := by decide +kernel
theorem dX7_thunderOdds_124 : decode cX7_thunderOdds 124 = .ok (.iinc 12 1, 3) := by decide +kernel
theorem dX7_thunderOdds_127 : decode cX7_thunderOdds 127 = .ok (.goto (-34), 3) := by decide +kernel
theorem dX7_thunderOdds_130 : decode cX7_thunderOdds 130 = .ok (.lload 5, 2) := by decide +kernel
theorem dX7_thunderOdds_132 : decode cX7_thunderOdds 132 = .ok (.aload_n 0, 1) := by decide +kernel
theorem dX7_thunderOdds_133 : decode cX7_thunderOdds 133 = .ok (.aload_n 0, 1) := by decide +kernel
theorem dX7_thunderOdds_134 : decode cX7_thunderOdds 134 = .ok (.iload_n 3, 1) := by decide +kernel
theorem dX7_thunderOdds_135 : decode cX7_thunderOdds 135 = .ok (.invokevirtual 154, 3) := by decide +kernel
theorem dX7_thunderOdds_138 : decode cX7_thunderOdds 138 = .ok (.iload 9, 2) := by decide +kernel
theorem dX7_thunderOdds_140 : decode cX7_thunderOdds 140 = .ok (.invokestatic 199, 3) := by decide +kernel
theorem dX7_thunderOdds_143 : decode cX7_thunderOdds 143 = .ok (.iadd, 1) := by decide +kernel
theorem dX7_thunderOdds_144 : decode cX7_thunderOdds 144 = .ok (.invokevirtual 146, 3) := by decide +kernel
theorem dX7_thunderOdds_147 : decode cX7_thunderOdds 147 = .ok (.aload_n 0, 1) := by decide +kernel
theorem dX7_thunderOdds_148 : decode cX7_thunderOdds 148 = .ok (.iload_n 1, 1) := by decide +kernel
theorem dX7_thunderOdds_149 : decode cX7_thunderOdds 149 = .ok (.invokevirtual 169, 3) := by decide +kernel
theorem dX7_thunderOdds_152 : decode cX7_thunderOdds 152 = .ok (.if_icmp .ne 8, 3) := by decide +kernel
theorem dX7_thunderOdds_155 : decode cX7_thunderOdds 155 = .ok (.lload 10, 2) := by decide +kernel
theorem dX7_thunderOdds_157 : decode cX7_thunderOdds 157 = .ok (.goto 4, 3) := by decide +kernel
theorem dX7_thunderOdds_160 : decode cX7_thunderOdds 160 = .ok (.lconst 0, 1) := by decide +kernel
theorem dX7_thunderOdds_161 : decode cX7_thunderOdds 161 = .ok (.ladd, 1) := by decide +kernel
theorem dX7_thunderOdds_162 : decode cX7_thunderOdds 162 = .ok (.lstore 5, 2) := by decide +kernel
theorem dX7_thunderOdds_164 : decode cX7_thunderOdds 164 = .ok (.iinc 9 1, 3) := by decide +kernel
theorem dX7_thunderOdds_167 : decode cX7_thunderOdds 167 = .ok (.goto (-88), 3) := by decide +kernel
theorem dX7_thunderOdds_170 : decode cX7_thunderOdds 170 = .ok (.lload 5, 2) := by decide +kernel
theorem dX7_thunderOdds_172 : decode cX7_thunderOdds 172 = .ok (.lstore 9, 2) := by decide +kernel
theorem dX7_thunderOdds_174 : decode cX7_thunderOdds 174 = .ok (.lload 7, 2) := by decide +kernel
theorem dX7_thunderOdds_176 : decode cX7_thunderOdds 176 = .ok (.lstore 11, 2) := by decide +kernel
theorem dX7_thunderOdds_178 : decode cX7_thunderOdds 178 = .ok (.lload 11, 2) := by decide +kernel
theorem dX7_thunderOdds_180 : decode cX7_thunderOdds 180 = .ok (.lconst 0, 1) := by decide +kernel
theorem dX7_thunderOdds_181 : decode cX7_thunderOdds 181 = .ok (.lcmp, 1) := by decide +kernel
theorem dX7_thunderOdds_182 : decode cX7_thunderOdds 182 = .ok (.ifCond .eq 21, 3) := by decide +kernel
theorem dX7_thunderOdds_185 : decode cX7_thunderOdds 185 = .ok (.lload 9, 2) := by decide +kernel
theorem dX7_thunderOdds_187 : decode cX7_thunderOdds 187 = .ok (.lload 11, 2) := by decide +kernel
theorem dX7_thunderOdds_189 : decode cX7_thunderOdds 189 = .ok (.lrem, 1) := by decide +kernel
theorem dX7_thunderOdds_190 : decode cX7_thunderOdds 190 = .ok (.lstore 13, 2) := by decide +kernel
theorem dX7_thunderOdds_192 : decode cX7_thunderOdds 192 = .ok (.lload 11, 2) := by decide +kernel
theorem dX7_thunderOdds_194 : decode cX7_thunderOdds 194 = .ok (.lstore 9, 2) := by decide +kernel
theorem dX7_thunderOdds_196 : decode cX7_thunderOdds 196 = .ok (.lload 13, 2) := by decide +kernel
theorem dX7_thunderOdds_198 : decode cX7_thunderOdds 198 = .ok (.lstore 11, 2) := by decide +kernel
theorem dX7_thunderOdds_200 : decode cX7_thunderOdds 200 = .ok (.goto (-22), 3) := by decide +kernel
theorem dX7_thunderOdds_203 : decode cX7_thunderOdds 203 = .ok (.iload 4, 2) := by decide +kernel
theorem dX7_thunderOdds_205 : decode cX7_thunderOdds 205 = .ok (.ifCond .ne 11, 3) := by decide +kernel
theorem dX7_thunderOdds_208 : decode cX7_thunderOdds 208 = .ok (.lload 5, 2) := by decide +kernel
theorem dX7_thunderOdds_210 : decode cX7_thunderOdds 210 = .ok (.lload 9, 2) := by decide +kernel
theorem dX7_thunderOdds_212 : decode cX7_thunderOdds 212 = .ok (.ldiv, 1) := by decide +kernel
theorem dX7_thunderOdds_213 : decode cX7_thunderOdds 213 = .ok (.goto 8, 3) := by decide +kernel
theorem dX7_thunderOdds_216 : decode cX7_thunderOdds 216 = .ok (.lload 7, 2) := by decide +kernel
theorem dX7_thunderOdds_218 : decode cX7_thunderOdds 218 = .ok (.lload 9, 2) := by decide +kernel
theorem dX7_thunderOdds_220 : decode cX7_thunderOdds 220 = .ok (.ldiv, 1) := by decide +kernel
theorem dX7_thunderOdds_221 : decode cX7_thunderOdds 221 = .ok (.lreturn, 1) := by decide +kernel
theorem dX7_drawn_0 : decode cX7_drawn 0 = .ok (.aload_n 0, 1) := by decide +kernel
theorem dX7_drawn_1 : decode cX7_drawn 1 = .ok (.getfield 138, 3) := by decide +kernel
theorem dX7_drawn_4 : decode cX7_drawn 4 = .ok (.ifCond .ne 6, 3) := by decide +kernel
theorem dX7_drawn_7 : decode cX7_drawn 7 = .ok (.ldc 145, 2) := by decide +kernel
theorem dX7_drawn_9 : decode cX7_drawn 9 = .ok (.ireturn, 1) := by decide +kernel
theorem dX7_drawn_10 : decode cX7_drawn 10 = .ok (.iload_n 1, 1) := by decide +kernel
theorem dX7_drawn_11 : decode cX7_drawn 11 = .ok (.i2l, 1) := by decide +kernel
theorem dX7_drawn_12 : decode cX7_drawn 12 = .ok (.lconst 0, 1) := by decide +kernel
theorem dX7_drawn_13 : decode cX7_drawn 13 = .ok (.ldc2_w 214, 3) := by decide +kernel
theorem dX7_drawn_16 : decode cX7_drawn 16 = .ok (.invokestatic 57, 3) := by decide +kernel
theorem dX7_drawn_19 : decode cX7_drawn 19 = .ok (.ifCond .eq 25, 3) := by decide +kernel
theorem dX7_drawn_22 : decode cX7_drawn 22 = .ok (.iload_n 2, 1) := by decide +kernel
theorem dX7_drawn_23 : decode cX7_drawn 23 = .ok (.i2l, 1) := by decide +kernel
theorem dX7_drawn_24 : decode cX7_drawn 24 = .ok (.lconst 1, 1) := by decide +kernel
theorem dX7_drawn_25 : decode cX7_drawn 25 = .ok (.ldc2_w 220, 3) := by decide +kernel
theorem dX7_drawn_28 : decode cX7_drawn 28 = .ok (.invokestatic 57, 3) := by decide +kernel
theorem dX7_drawn_31 : decode cX7_drawn 31 = .ok (.ifCond .eq 13, 3) := by decide +kernel
theorem dX7_drawn_34 : decode cX7_drawn 34 = .ok (.iload_n 3, 1) := by decide +kernel
theorem dX7_drawn_35 : decode cX7_drawn 35 = .ok (.i2l, 1) := by decide +kernel
theorem dX7_drawn_36 : decode cX7_drawn 36 = .ok (.lconst 0, 1) := by decide +kernel
theorem dX7_drawn_37 : decode cX7_drawn 37 = .ok (.lconst 1, 1) := by decide +kernel
theorem dX7_drawn_38 : decode cX7_drawn 38 = .ok (.invokestatic 57, 3) := by decide +kernel
theorem dX7_drawn_41 : decode cX7_drawn 41 = .ok (.ifCond .ne 6, 3) := by decide +kernel
theorem dX7_drawn_44 : decode cX7_drawn 44 = .ok (.ldc 67, 2) := by decide +kernel
theorem dX7_drawn_46 : decode cX7_drawn 46 = .ok (.ireturn, 1) := by decide +kernel
theorem dX7_drawn_47 : decode cX7_drawn 47 = .ok (.iload_n 2, 1) := by decide +kernel
theorem dX7_drawn_48 : decode cX7_drawn 48 = .ok (.i2l, 1) := by decide +kernel
theorem dX7_drawn_49 : decode cX7_drawn 49 = .ok (.lstore 4, 2) := by decide +kernel
theorem dX7_drawn_51 : decode cX7_drawn 51 = .ok (.aload_n 0, 1) := by decide +kernel
theorem dX7_drawn_52 : decode cX7_drawn 52 = .ok (.getfield 19, 3) := by decide +kernel
theorem dX7_drawn_55 : decode cX7_drawn 55 = .ok (.iconst 2, 1) := by decide +kernel
theorem dX7_drawn_56 : decode cX7_drawn 56 = .ok (.iaload, 1) := by decide +kernel
theorem dX7_drawn_57 : decode cX7_drawn 57 = .ok (.istore 6, 2) := by decide +kernel
theorem dX7_drawn_59 : decode cX7_drawn 59 = .ok (.iconst 0, 1) := by decide +kernel
theorem dX7_drawn_60 : decode cX7_drawn 60 = .ok (.istore 7, 2) := by decide +kernel
theorem dX7_drawn_62 : decode cX7_drawn 62 = .ok (.iconst 0, 1) := by decide +kernel
theorem dX7_drawn_63 : decode cX7_drawn 63 = .ok (.istore 8, 2) := by decide +kernel
theorem dX7_drawn_65 : decode cX7_drawn 65 = .ok (.iload 8, 2) := by decide +kernel
theorem dX7_drawn_67 : decode cX7_drawn 67 = .ok (.iload_n 1, 1) := by decide +kernel
theorem dX7_drawn_68 : decode cX7_drawn 68 = .ok (.if_icmp .ge 128, 3) := by decide +kernel
theorem dX7_drawn_71 : decode cX7_drawn 71 = .ok (.lload 4, 2) := by decide +kernel
theorem dX7_drawn_73 : decode cX7_drawn 73 = .ok (.ldc2_w 222, 3) := by decide +kernel
theorem dX7_drawn_76 : decode cX7_drawn 76 = .ok (.lmul, 1) := by decide +kernel
theorem dX7_drawn_77 : decode cX7_drawn 77 = .ok (.ldc2_w 224, 3) := by decide +kernel
theorem dX7_drawn_80 : decode cX7_drawn 80 = .ok (.lrem, 1) := by decide +kernel
theorem dX7_drawn_81 : decode cX7_drawn 81 = .ok (.lstore 4, 2) := by decide +kernel
theorem dX7_drawn_83 : decode cX7_drawn 83 = .ok (.iload 6, 2) := by decide +kernel
theorem dX7_drawn_85 : decode cX7_drawn 85 = .ok (.lload 4, 2) := by decide +kernel
theorem dX7_drawn_87 : decode cX7_drawn 87 = .ok (.ldc2_w 226, 3) := by decide +kernel
theorem dX7_drawn_90 : decode cX7_drawn 90 = .ok (.lrem, 1) := by decide +kernel
theorem dX7_drawn_91 : decode cX7_drawn 91 = .ok (.lconst 0, 1) := by decide +kernel
theorem dX7_drawn_92 : decode cX7_drawn 92 = .ok (.lcmp, 1) := by decide +kernel
theorem dX7_drawn_93 : decode cX7_drawn 93 = .ok (.ifCond .ne 17, 3) := by decide +kernel
theorem dX7_drawn_96 : decode cX7_drawn 96 = .ok (.lload 4, 2) := by decide +kernel
theorem dX7_drawn_98 : decode cX7_drawn 98 = .ok (.aload_n 0, 1) := by decide +kernel
theorem dX7_drawn_99 : decode cX7_drawn 99 = .ok (.getfield 19, 3) := by decide +kernel
theorem dX7_drawn_102 : decode cX7_drawn 102 = .ok (.iconst 0, 1) := by decide +kernel
theorem dX7_drawn_103 : decode cX7_drawn 103 = .ok (.iaload, 1) := by decide +kernel
theorem dX7_drawn_104 : decode cX7_drawn 104 = .ok (.i2l, 1) := by decide +kernel
theorem dX7_drawn_105 : decode cX7_drawn 105 = .ok (.lrem, 1) := by decide +kernel
theorem dX7_drawn_106 : decode cX7_drawn 106 = .ok (.l2i, 1) := by decide +kernel
theorem dX7_drawn_107 : decode cX7_drawn 107 = .ok (.goto 4, 3) := by decide +kernel
theorem dX7_drawn_110 : decode cX7_drawn 110 = .ok (.iconst 0, 1) := by decide +kernel
theorem dX7_drawn_111 : decode cX7_drawn 111 = .ok (.iadd, 1) := by decide +kernel
theorem dX7_drawn_112 : decode cX7_drawn 112 = .ok (.istore 6, 2) := by decide +kernel
theorem dX7_drawn_114 : decode cX7_drawn 114 = .ok (.aload_n 0, 1) := by decide +kernel
theorem dX7_drawn_115 : decode cX7_drawn 115 = .ok (.iload 6, 2) := by decide +kernel
theorem dX7_drawn_117 : decode cX7_drawn 117 = .ok (.aload_n 0, 1) := by decide +kernel
theorem dX7_drawn_118 : decode cX7_drawn 118 = .ok (.getfield 19, 3) := by decide +kernel
theorem dX7_drawn_121 : decode cX7_drawn 121 = .ok (.iconst 1, 1) := by decide +kernel
theorem dX7_drawn_122 : decode cX7_drawn 122 = .ok (.iaload, 1) := by decide +kernel
theorem dX7_drawn_123 : decode cX7_drawn 123 = .ok (.iadd, 1) := by decide +kernel
theorem dX7_drawn_124 : decode cX7_drawn 124 = .ok (.invokevirtual 146, 3) := by decide +kernel
theorem dX7_drawn_127 : decode cX7_drawn 127 = .ok (.istore 6, 2) := by decide +kernel
theorem dX7_drawn_129 : decode cX7_drawn 129 = .ok (.iconst 0, 1) := by decide +kernel
theorem dX7_drawn_130 : decode cX7_drawn 130 = .ok (.istore 9, 2) := by decide +kernel
theorem dX7_drawn_132 : decode cX7_drawn 132 = .ok (.iconst 0, 1) := by decide +kernel
theorem dX7_drawn_133 : decode cX7_drawn 133 = .ok (.istore 10, 2) := by decide +kernel
theorem dX7_drawn_135 : decode cX7_drawn 135 = .ok (.iload 10, 2) := by decide +kernel
theorem dX7_drawn_137 : decode cX7_drawn 137 = .ok (.aload_n 0, 1) := by decide +kernel
theorem dX7_drawn_138 : decode cX7_drawn 138 = .ok (.getfield 19, 3) := by decide +kernel
theorem dX7_drawn_141 : decode cX7_drawn 141 = .ok (.iconst 4, 1) := by decide +kernel
theorem dX7_drawn_142 : decode cX7_drawn 142 = .ok (.iaload, 1) := by decide +kernel
theorem dX7_drawn_143 : decode cX7_drawn 143 = .ok (.if_icmp .ge 32, 3) := by decide +kernel
theorem dX7_drawn_146 : decode cX7_drawn 146 = .ok (.iload 9, 2) := by decide +kernel
theorem dX7_drawn_148 : decode cX7_drawn 148 = .ok (.ifCond .ne 14, 3) := by decide +kernel
theorem dX7_drawn_151 : decode cX7_drawn 151 = .ok (.aload_n 0, 1) := by decide +kernel
theorem dX7_drawn_152 : decode cX7_drawn 152 = .ok (.iload 10, 2) := by decide +kernel
theorem dX7_drawn_154 : decode cX7_drawn 154 = .ok (.invokevirtual 169, 3) := by decide +kernel
theorem dX7_drawn_157 : decode cX7_drawn 157 = .ok (.iload 6, 2) := by decide +kernel
theorem dX7_drawn_159 : decode cX7_drawn 159 = .ok (.if_icmp .ne 7, 3) := by decide +kernel
theorem dX7_drawn_162 : decode cX7_drawn 162 = .ok (.iconst 1, 1) := by decide +kernel
theorem dX7_drawn_163 : decode cX7_drawn 163 = .ok (.goto 4, 3) := by decide +kernel
theorem dX7_drawn_166 : decode cX7_drawn 166 = .ok (.iconst 0, 1) := by decide +kernel
theorem dX7_drawn_167 : decode cX7_drawn 167 = .ok (.istore 9, 2) := by decide +kernel
theorem dX7_drawn_169 : decode cX7_drawn 169 = .ok (.iinc 10 1, 3) := by decide +kernel
theorem dX7_drawn_172 : decode cX7_drawn 172 = .ok (.goto (-37), 3) := by decide +kernel
theorem dX7_drawn_175 : decode cX7_drawn 175 = .ok (.iload 7, 2) := by decide +kernel
theorem dX7_drawn_177 : decode cX7_drawn 177 = .ok (.iload 9, 2) := by decide +kernel
theorem dX7_drawn_179 : decode cX7_drawn 179 = .ok (.ifCond .eq 7, 3) := by decide +kernel
theorem dX7_drawn_182 : decode cX7_drawn 182 = .ok (.iconst 1, 1) := by decide +kernel
theorem dX7_drawn_183 : decode cX7_drawn 183 = .ok (.goto 4, 3) := by decide +kernel
theorem dX7_drawn_186 : decode cX7_drawn 186 = .ok (.iconst 0, 1) := by decide +kernel
theorem dX7_drawn_187 : decode cX7_drawn 187 = .ok (.iadd, 1) := by decide +kernel
theorem dX7_drawn_188 : decode cX7_drawn 188 = .ok (.istore 7, 2) := by decide +kernel
theorem dX7_drawn_190 : decode cX7_drawn 190 = .ok (.iinc 8 1, 3) := by decide +kernel
theorem dX7_drawn_193 : decode cX7_drawn 193 = .ok (.goto (-128), 3) := by decide +kernel
theorem dX7_drawn_196 : decode cX7_drawn 196 = .ok (.iload_n 3, 1) := by decide +kernel
theorem dX7_drawn_197 : decode cX7_drawn 197 = .ok (.ifCond .ne 8, 3) := by decide +kernel
theorem dX7_drawn_200 : decode cX7_drawn 200 = .ok (.iload 6, 2) := by decide +kernel
theorem dX7_drawn_202 : decode cX7_drawn 202 = .ok (.goto 5, 3) := by decide +kernel
theorem dX7_drawn_205 : decode cX7_drawn 205 = .ok (.iload 7, 2) := by decide +kernel
theorem dX7_drawn_207 : decode cX7_drawn 207 = .ok (.ireturn, 1) := by decide +kernel
theorem dX7_image_0 : decode cX7_image 0 = .ok (.iload_n 1, 1) := by decide +kernel
theorem dX7_image_1 : decode cX7_image 1 = .ok (.i2l, 1) := by decide +kernel
theorem dX7_image_2 : decode cX7_image 2 = .ok (.lconst 0, 1) := by decide +kernel
theorem dX7_image_3 : decode cX7_image 3 = .ok (.lconst 1, 1) := by decide +kernel
theorem dX7_image_4 : decode cX7_image 4 = .ok (.invokestatic 57, 3) := by decide +kernel
theorem dX7_image_7 : decode cX7_image 7 = .ok (.ifCond .ne 6, 3) := by decide +kernel
theorem dX7_image_10 : decode cX7_image 10 = .ok (.ldc 67, 2) := by decide +kernel
theorem dX7_image_12 : decode cX7_image 12 = .ok (.ireturn, 1) := by decide +kernel
theorem dX7_image_13 : decode cX7_image 13 = .ok (.aload_n 0, 1) := by decide +kernel
theorem dX7_image_14 : decode cX7_image 14 = .ok (.getfield 138, 3) := by decide +kernel
theorem dX7_image_17 : decode cX7_image 17 = .ok (.ifCond .ne 6, 3) := by decide +kernel
theorem dX7_image_20 : decode cX7_image 20 = .ok (.ldc 145, 2) := by decide +kernel
theorem dX7_image_22 : decode cX7_image 22 = .ok (.ireturn, 1) := by decide +kernel
theorem dX7_image_23 : decode cX7_image 23 = .ok (.iconst 0, 1) := by decide +kernel
theorem dX7_image_24 : decode cX7_image 24 = .ok (.istore_n 2, 1) := by decide +kernel
theorem dX7_image_25 : decode cX7_image 25 = .ok (.iload_n 2, 1) := by decide +kernel
theorem dX7_image_26 : decode cX7_image 26 = .ok (.bipush 57, 2) := by decide +kernel
theorem dX7_image_28 : decode cX7_image 28 = .ok (.if_icmp .ge 26, 3) := by decide +kernel
theorem dX7_image_31 : decode cX7_image 31 = .ok (.aload_n 0, 1) := by decide +kernel
theorem dX7_image_32 : decode cX7_image 32 = .ok (.getfield 44, 3) := by decide +kernel
theorem dX7_image_35 : decode cX7_image 35 = .ok (.bipush 57, 2) := by decide +kernel
theorem dX7_image_37 : decode cX7_image 37 = .ok (.iload_n 1, 1) := by decide +kernel
theorem dX7_image_38 : decode cX7_image 38 = .ok (.imul, 1) := by decide +kernel
theorem dX7_image_39 : decode cX7_image 39 = .ok (.iload_n 2, 1) := by decide +kernel
theorem dX7_image_40 : decode cX7_image 40 = .ok (.iadd, 1) := by decide +kernel
theorem dX7_image_41 : decode cX7_image 41 = .ok (.aload_n 0, 1) := by decide +kernel
theorem dX7_image_42 : decode cX7_image 42 = .ok (.getfield 19, 3) := by decide +kernel
theorem dX7_image_45 : decode cX7_image 45 = .ok (.iload_n 2, 1) := by decide +kernel
theorem dX7_image_46 : decode cX7_image 46 = .ok (.iaload, 1) := by decide +kernel
theorem dX7_image_47 : decode cX7_image 47 = .ok (.iastore, 1) := by decide +kernel
theorem dX7_image_48 : decode cX7_image 48 = .ok (.iinc 2 1, 3) := by decide +kernel
theorem dX7_image_51 : decode cX7_image 51 = .ok (.goto (-26), 3) := by decide +kernel
theorem dX7_image_54 : decode cX7_image 54 = .ok (.aload_n 0, 1) := by decide +kernel
theorem dX7_image_55 : decode cX7_image 55 = .ok (.getfield 40, 3) := by decide +kernel
theorem dX7_image_58 : decode cX7_image 58 = .ok (.iload_n 1, 1) := by decide +kernel
theorem dX7_image_59 : decode cX7_image 59 = .ok (.iconst 1, 1) := by decide +kernel
theorem dX7_image_60 : decode cX7_image 60 = .ok (.bastore, 1) := by decide +kernel
theorem dX7_image_61 : decode cX7_image 61 = .ok (.iconst 1, 1) := by decide +kernel
theorem dX7_image_62 : decode cX7_image 62 = .ok (.ireturn, 1) := by decide +kernel
theorem dX7_restore_0 : decode cX7_restore 0 = .ok (.iload_n 1, 1) := by decide +kernel
theorem dX7_restore_1 : decode cX7_restore 1 = .ok (.i2l, 1) := by decide +kernel
theorem dX7_restore_2 : decode cX7_restore 2 = .ok (.lconst 0, 1) := by decide +kernel
theorem dX7_restore_3 : decode cX7_restore 3 = .ok (.lconst 1, 1) := by decide +kernel
theorem dX7_restore_4 : decode cX7_restore 4 = .ok (.invokestatic 57, 3) := by decide +kernel
theorem dX7_restore_7 : decode cX7_restore 7 = .ok (.ifCond .ne 6, 3) := by decide +kernel
theorem dX7_restore_10 : decode cX7_restore 10 = .ok (.ldc 67, 2) := by decide +kernel
theorem dX7_restore_12 : decode cX7_restore 12 = .ok (.ireturn, 1) := by decide +kernel
theorem dX7_restore_13 : decode cX7_restore 13 = .ok (.aload_n 0, 1) := by decide +kernel
theorem dX7_restore_14 : decode cX7_restore 14 = .ok (.getfield 40, 3) := by decide +kernel
theorem dX7_restore_17 : decode cX7_restore 17 = .ok (.iload_n 1, 1) := by decide +kernel
theorem dX7_restore_18 : decode cX7_restore 18 = .ok (.baload, 1) := by decide +kernel
theorem dX7_restore_19 : decode cX7_restore 19 = .ok (.ifCond .ne 6, 3) := by decide +kernel
theorem dX7_restore_22 : decode cX7_restore 22 = .ok (.ldc 145, 2) := by decide +kernel
theorem dX7_restore_24 : decode cX7_restore 24 = .ok (.ireturn, 1) := by decide +kernel
theorem dX7_restore_25 : decode cX7_restore 25 = .ok (.iconst 0, 1) := by decide +kernel
theorem dX7_restore_26 : decode cX7_restore 26 = .ok (.istore_n 2, 1) := by decide +kernel
theorem dX7_restore_27 : decode cX7_restore 27 = .ok (.iload_n 2, 1) := by decide +kernel
theorem dX7_restore_28 : decode cX7_restore 28 = .ok (.bipush 57, 2) := by decide +kernel
theorem dX7_restore_30 : decode cX7_restore 30 = .ok (.if_icmp .ge 26, 3) := by decide +kernel
theorem dX7_restore_33 : decode cX7_restore 33 = .ok (.aload_n 0, 1) := by decide +kernel
theorem dX7_restore_34 : decode cX7_restore 34 = .ok (.getfield 19, 3) := by decide +kernel
theorem dX7_restore_37 : decode cX7_restore 37 = .ok (.iload_n 2, 1) := by decide +kernel
theorem dX7_restore_38 : decode cX7_restore 38 = .ok (.aload_n 0, 1) := by decide +kernel
theorem dX7_restore_39 : decode cX7_restore 39 = .ok (.getfield 44, 3) := by decide +kernel
theorem dX7_restore_42 : decode cX7_restore 42 = .ok (.bipush 57, 2) := by decide +kernel
theorem dX7_restore_44 : decode cX7_restore 44 = .ok (.iload_n 1, 1) := by decide +kernel
theorem dX7_restore_45 : decode cX7_restore 45 = .ok (.imul, 1) := by decide +kernel
theorem dX7_restore_46 : decode cX7_restore 46 = .ok (.iload_n 2, 1) := by decide +kernel
theorem dX7_restore_47 : decode cX7_restore 47 = .ok (.iadd, 1) := by decide +kernel
theorem dX7_restore_48 : decode cX7_restore 48 = .ok (.iaload, 1) := by decide +kernel
theorem dX7_restore_49 : decode cX7_restore 49 = .ok (.iastore, 1) := by decide +kernel
theorem dX7_restore_50 : decode cX7_restore 50 = .ok (.iinc 2 1, 3) := by decide +kernel
theorem dX7_restore_53 : decode cX7_restore 53 = .ok (.goto (-26), 3) := by decide +kernel
theorem dX7_restore_56 : decode cX7_restore 56 = .ok (.aload_n 0, 1) := by decide +kernel
theorem dX7_restore_57 : decode cX7_restore 57 = .ok (.iconst 0, 1) := by decide +kernel
theorem dX7_restore_58 : decode cX7_restore 58 = .ok (.putfield 142, 3) := by decide +kernel
theorem dX7_restore_61 : decode cX7_restore 61 = .ok (.iconst 1, 1) := by decide +kernel
theorem dX7_restore_62 : decode cX7_restore 62 = .ok (.ireturn, 1) := by decide +kernel
theorem dX7_kind_0 : decode cX7_kind 0 = .ok (.aload_n 0, 1) := by decide +kernel
theorem dX7_kind_1 : decode cX7_kind 1 = .ok (.iload_n 1, 1) := by decide +kernel
theorem dX7_kind_2 : decode cX7_kind 2 = .ok (.invokevirtual 159, 3) := by decide +kernel
theorem dX7_kind_5 : decode cX7_kind 5 = .ok (.ifCond .eq 15, 3) := by decide +kernel
theorem dX7_kind_8 : decode cX7_kind 8 = .ok (.aload_n 0, 1) := by decide +kernel
theorem dX7_kind_9 : decode cX7_kind 9 = .ok (.getfield 19, 3) := by decide +kernel
theorem dX7_kind_12 : decode cX7_kind 12 = .ok (.bipush 42, 2) := by decide +kernel
theorem dX7_kind_14 : decode cX7_kind 14 = .ok (.iload_n 1, 1) := by decide +kernel
theorem dX7_kind_15 : decode cX7_kind 15 = .ok (.iadd, 1) := by decide +kernel
theorem dX7_kind_16 : decode cX7_kind 16 = .ok (.iaload, 1) := by decide +kernel
theorem dX7_kind_17 : decode cX7_kind 17 = .ok (.goto 5, 3) := by decide +kernel
theorem dX7_kind_20 : decode cX7_kind 20 = .ok (.ldc 67, 2) := by decide +kernel
theorem dX7_kind_22 : decode cX7_kind 22 = .ok (.ireturn, 1) := by decide +kernel
theorem dX7_isKind_0 : decode cX7_isKind 0 = .ok (.iload_n 1, 1) := by decide +kernel
theorem dX7_isKind_1 : decode cX7_isKind 1 = .ok (.ifCond .eq 28, 3) := by decide +kernel
theorem dX7_isKind_4 : decode cX7_isKind 4 = .ok (.iload_n 0, 1) := by decide +kernel
theorem dX7_isKind_5 : decode cX7_isKind 5 = .ok (.iload_n 1, 1) := by decide +kernel
theorem dX7_isKind_6 : decode cX7_isKind 6 = .ok (.if_icmp .eq 23, 3) := by decide +kernel
theorem dX7_isKind_9 : decode cX7_isKind 9 = .ok (.iload_n 1, 1) := by decide +kernel
theorem dX7_isKind_10 : decode cX7_isKind 10 = .ok (.iconst 1, 1) := by decide +kernel
theorem dX7_isKind_11 : decode cX7_isKind 11 = .ok (.if_icmp .ne 8, 3) := by decide +kernel
theorem dX7_isKind_14 : decode cX7_isKind 14 = .ok (.iload_n 0, 1) := by decide +kernel
theorem dX7_isKind_15 : decode cX7_isKind 15 = .ok (.iconst 4, 1) := by decide +kernel
theorem dX7_isKind_16 : decode cX7_isKind 16 = .ok (.if_icmp .lt 13, 3) := by decide +kernel
theorem dX7_isKind_19 : decode cX7_isKind 19 = .ok (.iload_n 1, 1) := by decide +kernel
theorem dX7_isKind_20 : decode cX7_isKind 20 = .ok (.iconst 4, 1) := by decide +kernel
theorem dX7_isKind_21 : decode cX7_isKind 21 = .ok (.if_icmp .ne 12, 3) := by decide +kernel
theorem dX7_isKind_24 : decode cX7_isKind 24 = .ok (.iload_n 0, 1) := by decide +kernel
theorem dX7_isKind_25 : decode cX7_isKind 25 = .ok (.iconst 5, 1) := by decide +kernel
theorem dX7_isKind_26 : decode cX7_isKind 26 = .ok (.if_icmp .ne 7, 3) := by decide +kernel
theorem dX7_isKind_29 : decode cX7_isKind 29 = .ok (.iconst 1, 1) := by decide +kernel
theorem dX7_isKind_30 : decode cX7_isKind 30 = .ok (.goto 4, 3) := by decide +kernel
theorem dX7_isKind_33 : decode cX7_isKind 33 = .ok (.iconst 0, 1) := by decide +kernel
theorem dX7_isKind_34 : decode cX7_isKind 34 = .ok (.ireturn, 1) := by decide +kernel
theorem dX7_as_0 : decode cX7_as 0 = .ok (.aload_n 0, 1) := by decide +kernel
theorem dX7_as_1 : decode cX7_as 1 = .ok (.iload_n 1, 1) := by decide +kernel
theorem dX7_as_2 : decode cX7_as 2 = .ok (.invokevirtual 159, 3) := by decide +kernel
theorem dX7_as_5 : decode cX7_as 5 = .ok (.ifCond .eq 15, 3) := by decide +kernel
theorem dX7_as_8 : decode cX7_as 8 = .ok (.iload_n 2, 1) := by decide +kernel
theorem dX7_as_9 : decode cX7_as 9 = .ok (.i2l, 1) := by decide +kernel
end
section
theorem dX7_as_10 : decode cX7_as 10 = .ok (.lconst 0, 1) := by decide +kernel
theorem dX7_as_11 : decode cX7_as 11 = .ok (.ldc2_w 226, 3) := by decide +kernel
theorem dX7_as_14 : decode cX7_as 14 = .ok (.invokestatic 57, 3) := by decide +kernel
theorem dX7_as_17 : decode cX7_as 17 = .ok (.ifCond .ne 6, 3) := by decide +kernel
theorem dX7_as_20 : decode cX7_as 20 = .ok (.ldc 67, 2) := by decide +kernel
theorem dX7_as_22 : decode cX7_as 22 = .ok (.ireturn, 1) := by decide +kernel
theorem dX7_as_23 : decode cX7_as 23 = .ok (.aload_n 0, 1) := by decide +kernel
theorem dX7_as_24 : decode cX7_as 24 = .ok (.getfield 19, 3) := by decide +kernel
theorem dX7_as_27 : decode cX7_as 27 = .ok (.bipush 42, 2) := by decide +kernel
theorem dX7_as_29 : decode cX7_as 29 = .ok (.iload_n 1, 1) := by decide +kernel
theorem dX7_as_30 : decode cX7_as 30 = .ok (.iadd, 1) := by decide +kernel
theorem dX7_as_31 : decode cX7_as 31 = .ok (.iaload, 1) := by decide +kernel
theorem dX7_as_32 : decode cX7_as 32 = .ok (.iload_n 2, 1) := by decide +kernel
theorem dX7_as_33 : decode cX7_as 33 = .ok (.invokestatic 228, 3) := by decide +kernel
theorem dX7_as_36 : decode cX7_as 36 = .ok (.ifCond .eq 11, 3) := by decide +kernel
theorem dX7_as_39 : decode cX7_as 39 = .ok (.aload_n 0, 1) := by decide +kernel
theorem dX7_as_40 : decode cX7_as 40 = .ok (.iload_n 1, 1) := by decide +kernel
theorem dX7_as_41 : decode cX7_as 41 = .ok (.invokevirtual 72, 3) := by decide +kernel
theorem dX7_as_44 : decode cX7_as 44 = .ok (.goto 8, 3) := by decide +kernel
theorem dX7_as_47 : decode cX7_as 47 = .ok (.aload_n 0, 1) := by decide +kernel
theorem dX7_as_48 : decode cX7_as 48 = .ok (.iconst 3, 1) := by decide +kernel
theorem dX7_as_49 : decode cX7_as 49 = .ok (.invokevirtual 68, 3) := by decide +kernel
theorem dX7_as_52 : decode cX7_as 52 = .ok (.ireturn, 1) := by decide +kernel
theorem dX7_begin_0 : decode cX7_begin 0 = .ok (.aload_n 0, 1) := by decide +kernel
theorem dX7_begin_1 : decode cX7_begin 1 = .ok (.getfield 231, 3) := by decide +kernel
theorem dX7_begin_4 : decode cX7_begin 4 = .ok (.bipush 16, 2) := by decide +kernel
theorem dX7_begin_6 : decode cX7_begin 6 = .ok (.if_icmp .ge 23, 3) := by decide +kernel
theorem dX7_begin_9 : decode cX7_begin 9 = .ok (.aload_n 0, 1) := by decide +kernel
theorem dX7_begin_10 : decode cX7_begin 10 = .ok (.getfield 47, 3) := by decide +kernel
theorem dX7_begin_13 : decode cX7_begin 13 = .ok (.aload_n 0, 1) := by decide +kernel
theorem dX7_begin_14 : decode cX7_begin 14 = .ok (.getfield 231, 3) := by decide +kernel
theorem dX7_begin_17 : decode cX7_begin 17 = .ok (.iload_n 1, 1) := by decide +kernel
theorem dX7_begin_18 : decode cX7_begin 18 = .ok (.iastore, 1) := by decide +kernel
theorem dX7_begin_19 : decode cX7_begin 19 = .ok (.aload_n 0, 1) := by decide +kernel
theorem dX7_begin_20 : decode cX7_begin 20 = .ok (.dup, 1) := by decide +kernel
theorem dX7_begin_21 : decode cX7_begin 21 = .ok (.getfield 231, 3) := by decide +kernel
theorem dX7_begin_24 : decode cX7_begin 24 = .ok (.iconst 1, 1) := by decide +kernel
theorem dX7_begin_25 : decode cX7_begin 25 = .ok (.iadd, 1) := by decide +kernel
theorem dX7_begin_26 : decode cX7_begin 26 = .ok (.putfield 231, 3) := by decide +kernel
theorem dX7_begin_29 : decode cX7_begin 29 = .ok (.return_, 1) := by decide +kernel
theorem dX7_lent_0 : decode cX7_lent 0 = .ok (.aload_n 0, 1) := by decide +kernel
theorem dX7_lent_1 : decode cX7_lent 1 = .ok (.iload_n 2, 1) := by decide +kernel
theorem dX7_lent_2 : decode cX7_lent 2 = .ok (.invokevirtual 234, 3) := by decide +kernel
theorem dX7_lent_5 : decode cX7_lent 5 = .ok (.iload_n 2, 1) := by decide +kernel
theorem dX7_lent_6 : decode cX7_lent 6 = .ok (.bipush 10, 2) := by decide +kernel
theorem dX7_lent_8 : decode cX7_lent 8 = .ok (.if_icmp .ne 15, 3) := by decide +kernel
theorem dX7_lent_11 : decode cX7_lent 11 = .ok (.aload_n 0, 1) := by decide +kernel
theorem dX7_lent_12 : decode cX7_lent 12 = .ok (.getfield 19, 3) := by decide +kernel
theorem dX7_lent_15 : decode cX7_lent 15 = .ok (.bipush 52, 2) := by decide +kernel
theorem dX7_lent_17 : decode cX7_lent 17 = .ok (.iload_n 1, 1) := by decide +kernel
theorem dX7_lent_18 : decode cX7_lent 18 = .ok (.iadd, 1) := by decide +kernel
theorem dX7_lent_19 : decode cX7_lent 19 = .ok (.iaload, 1) := by decide +kernel
theorem dX7_lent_20 : decode cX7_lent 20 = .ok (.goto 4, 3) := by decide +kernel
theorem dX7_lent_23 : decode cX7_lent 23 = .ok (.iload_n 1, 1) := by decide +kernel
theorem dX7_lent_24 : decode cX7_lent 24 = .ok (.ireturn, 1) := by decide +kernel
theorem dX7_playerMark_0 : decode cX7_playerMark 0 = .ok (.aload_n 0, 1) := by decide +kernel
theorem dX7_playerMark_1 : decode cX7_playerMark 1 = .ok (.bipush 21, 2) := by decide +kernel
theorem dX7_playerMark_3 : decode cX7_playerMark 3 = .ok (.invokevirtual 234, 3) := by decide +kernel
theorem dX7_playerMark_6 : decode cX7_playerMark 6 = .ok (.aload_n 0, 1) := by decide +kernel
theorem dX7_playerMark_7 : decode cX7_playerMark 7 = .ok (.iload_n 1, 1) := by decide +kernel
theorem dX7_playerMark_8 : decode cX7_playerMark 8 = .ok (.bipush 20, 2) := by decide +kernel
theorem dX7_playerMark_10 : decode cX7_playerMark 10 = .ok (.invokevirtual 238, 3) := by decide +kernel
theorem dX7_playerMark_13 : decode cX7_playerMark 13 = .ok (.aload_n 0, 1) := by decide +kernel
theorem dX7_playerMark_14 : decode cX7_playerMark 14 = .ok (.getfield 19, 3) := by decide +kernel
theorem dX7_playerMark_17 : decode cX7_playerMark 17 = .ok (.bipush 47, 2) := by decide +kernel
theorem dX7_playerMark_19 : decode cX7_playerMark 19 = .ok (.iload_n 1, 1) := by decide +kernel
theorem dX7_playerMark_20 : decode cX7_playerMark 20 = .ok (.iadd, 1) := by decide +kernel
theorem dX7_playerMark_21 : decode cX7_playerMark 21 = .ok (.iaload, 1) := by decide +kernel
theorem dX7_playerMark_22 : decode cX7_playerMark 22 = .ok (.iadd, 1) := by decide +kernel
theorem dX7_playerMark_23 : decode cX7_playerMark 23 = .ok (.ireturn, 1) := by decide +kernel
theorem dX7_carrierSize_0 : decode cX7_carrierSize 0 = .ok (.aload_n 0, 1) := by decide +kernel
theorem dX7_carrierSize_1 : decode cX7_carrierSize 1 = .ok (.bipush 13, 2) := by decide +kernel
theorem dX7_carrierSize_3 : decode cX7_carrierSize 3 = .ok (.invokevirtual 234, 3) := by decide +kernel
theorem dX7_carrierSize_6 : decode cX7_carrierSize 6 = .ok (.aload_n 0, 1) := by decide +kernel
theorem dX7_carrierSize_7 : decode cX7_carrierSize 7 = .ok (.iload_n 1, 1) := by decide +kernel
theorem dX7_carrierSize_8 : decode cX7_carrierSize 8 = .ok (.bipush 10, 2) := by decide +kernel
theorem dX7_carrierSize_10 : decode cX7_carrierSize 10 = .ok (.invokevirtual 238, 3) := by decide +kernel
theorem dX7_carrierSize_13 : decode cX7_carrierSize 13 = .ok (.bipush 100, 2) := by decide +kernel
theorem dX7_carrierSize_15 : decode cX7_carrierSize 15 = .ok (.isub, 1) := by decide +kernel
theorem dX7_carrierSize_16 : decode cX7_carrierSize 16 = .ok (.ireturn, 1) := by decide +kernel
theorem dX7_sizeOfCarrier_0 : decode cX7_sizeOfCarrier 0 = .ok (.aload_n 0, 1) := by decide +kernel
theorem dX7_sizeOfCarrier_1 : decode cX7_sizeOfCarrier 1 = .ok (.getfield 19, 3) := by decide +kernel
theorem dX7_sizeOfCarrier_4 : decode cX7_sizeOfCarrier 4 = .ok (.bipush 42, 2) := by decide +kernel
theorem dX7_sizeOfCarrier_6 : decode cX7_sizeOfCarrier 6 = .ok (.iload_n 1, 1) := by decide +kernel
theorem dX7_sizeOfCarrier_7 : decode cX7_sizeOfCarrier 7 = .ok (.iadd, 1) := by decide +kernel
theorem dX7_sizeOfCarrier_8 : decode cX7_sizeOfCarrier 8 = .ok (.iaload, 1) := by decide +kernel
theorem dX7_sizeOfCarrier_9 : decode cX7_sizeOfCarrier 9 = .ok (.iconst 5, 1) := by decide +kernel
theorem dX7_sizeOfCarrier_10 : decode cX7_sizeOfCarrier 10 = .ok (.if_icmp .ne 17, 3) := by decide +kernel
theorem dX7_sizeOfCarrier_13 : decode cX7_sizeOfCarrier 13 = .ok (.aload_n 0, 1) := by decide +kernel
theorem dX7_sizeOfCarrier_14 : decode cX7_sizeOfCarrier 14 = .ok (.bipush 14, 2) := by decide +kernel
theorem dX7_sizeOfCarrier_16 : decode cX7_sizeOfCarrier 16 = .ok (.invokevirtual 234, 3) := by decide +kernel
theorem dX7_sizeOfCarrier_19 : decode cX7_sizeOfCarrier 19 = .ok (.iconst 2, 1) := by decide +kernel
theorem dX7_sizeOfCarrier_20 : decode cX7_sizeOfCarrier 20 = .ok (.aload_n 0, 1) := by decide +kernel
theorem dX7_sizeOfCarrier_21 : decode cX7_sizeOfCarrier 21 = .ok (.iload_n 1, 1) := by decide +kernel
theorem dX7_sizeOfCarrier_22 : decode cX7_sizeOfCarrier 22 = .ok (.invokevirtual 241, 3) := by decide +kernel
theorem dX7_sizeOfCarrier_25 : decode cX7_sizeOfCarrier 25 = .ok (.imul, 1) := by decide +kernel
theorem dX7_sizeOfCarrier_26 : decode cX7_sizeOfCarrier 26 = .ok (.ireturn, 1) := by decide +kernel
theorem dX7_sizeOfCarrier_27 : decode cX7_sizeOfCarrier 27 = .ok (.aload_n 0, 1) := by decide +kernel
theorem dX7_sizeOfCarrier_28 : decode cX7_sizeOfCarrier 28 = .ok (.iload_n 1, 1) := by decide +kernel
theorem dX7_sizeOfCarrier_29 : decode cX7_sizeOfCarrier 29 = .ok (.invokevirtual 241, 3) := by decide +kernel
theorem dX7_sizeOfCarrier_32 : decode cX7_sizeOfCarrier 32 = .ok (.ireturn, 1) := by decide +kernel
theorem dX7_markOf_0 : decode cX7_markOf 0 = .ok (.aload_n 0, 1) := by decide +kernel
theorem dX7_markOf_1 : decode cX7_markOf 1 = .ok (.getfield 19, 3) := by decide +kernel
theorem dX7_markOf_4 : decode cX7_markOf 4 = .ok (.bipush 42, 2) := by decide +kernel
theorem dX7_markOf_6 : decode cX7_markOf 6 = .ok (.iload_n 1, 1) := by decide +kernel
theorem dX7_markOf_7 : decode cX7_markOf 7 = .ok (.iadd, 1) := by decide +kernel
theorem dX7_markOf_8 : decode cX7_markOf 8 = .ok (.iaload, 1) := by decide +kernel
theorem dX7_markOf_9 : decode cX7_markOf 9 = .ok (.istore_n 2, 1) := by decide +kernel
theorem dX7_markOf_10 : decode cX7_markOf 10 = .ok (.iload_n 2, 1) := by decide +kernel
theorem dX7_markOf_11 : decode cX7_markOf 11 = .ok (.iconst 2, 1) := by decide +kernel
theorem dX7_markOf_12 : decode cX7_markOf 12 = .ok (.if_icmp .ne 17, 3) := by decide +kernel
theorem dX7_markOf_15 : decode cX7_markOf 15 = .ok (.aload_n 0, 1) := by decide +kernel
theorem dX7_markOf_16 : decode cX7_markOf 16 = .ok (.bipush 24, 2) := by decide +kernel
theorem dX7_markOf_18 : decode cX7_markOf 18 = .ok (.invokevirtual 234, 3) := by decide +kernel
theorem dX7_markOf_21 : decode cX7_markOf 21 = .ok (.iconst 2, 1) := by decide +kernel
theorem dX7_markOf_22 : decode cX7_markOf 22 = .ok (.aload_n 0, 1) := by decide +kernel
theorem dX7_markOf_23 : decode cX7_markOf 23 = .ok (.iload_n 1, 1) := by decide +kernel
theorem dX7_markOf_24 : decode cX7_markOf 24 = .ok (.invokevirtual 244, 3) := by decide +kernel
theorem dX7_markOf_27 : decode cX7_markOf 27 = .ok (.imul, 1) := by decide +kernel
theorem dX7_markOf_28 : decode cX7_markOf 28 = .ok (.ireturn, 1) := by decide +kernel
theorem dX7_markOf_29 : decode cX7_markOf 29 = .ok (.iload_n 2, 1) := by decide +kernel
theorem dX7_markOf_30 : decode cX7_markOf 30 = .ok (.iconst 3, 1) := by decide +kernel
theorem dX7_markOf_31 : decode cX7_markOf 31 = .ok (.if_icmp .ne 19, 3) := by decide +kernel
theorem dX7_markOf_34 : decode cX7_markOf 34 = .ok (.aload_n 0, 1) := by decide +kernel
theorem dX7_markOf_35 : decode cX7_markOf 35 = .ok (.bipush 22, 2) := by decide +kernel
theorem dX7_markOf_37 : decode cX7_markOf 37 = .ok (.invokevirtual 234, 3) := by decide +kernel
theorem dX7_markOf_40 : decode cX7_markOf 40 = .ok (.aload_n 0, 1) := by decide +kernel
theorem dX7_markOf_41 : decode cX7_markOf 41 = .ok (.iload_n 1, 1) := by decide +kernel
theorem dX7_markOf_42 : decode cX7_markOf 42 = .ok (.invokevirtual 244, 3) := by decide +kernel
theorem dX7_markOf_45 : decode cX7_markOf 45 = .ok (.sipush 1000, 3) := by decide +kernel
theorem dX7_markOf_48 : decode cX7_markOf 48 = .ok (.isub, 1) := by decide +kernel
theorem dX7_markOf_49 : decode cX7_markOf 49 = .ok (.ireturn, 1) := by decide +kernel
theorem dX7_markOf_50 : decode cX7_markOf 50 = .ok (.iload_n 2, 1) := by decide +kernel
theorem dX7_markOf_51 : decode cX7_markOf 51 = .ok (.iconst 1, 1) := by decide +kernel
theorem dX7_markOf_52 : decode cX7_markOf 52 = .ok (.if_icmp .ne 9, 3) := by decide +kernel
theorem dX7_markOf_55 : decode cX7_markOf 55 = .ok (.aload_n 0, 1) := by decide +kernel
theorem dX7_markOf_56 : decode cX7_markOf 56 = .ok (.iload_n 1, 1) := by decide +kernel
theorem dX7_markOf_57 : decode cX7_markOf 57 = .ok (.invokevirtual 244, 3) := by decide +kernel
theorem dX7_markOf_60 : decode cX7_markOf 60 = .ok (.ireturn, 1) := by decide +kernel
theorem dX7_markOf_61 : decode cX7_markOf 61 = .ok (.aload_n 0, 1) := by decide +kernel
theorem dX7_markOf_62 : decode cX7_markOf 62 = .ok (.bipush 23, 2) := by decide +kernel
theorem dX7_markOf_64 : decode cX7_markOf 64 = .ok (.invokevirtual 234, 3) := by decide +kernel
theorem dX7_markOf_67 : decode cX7_markOf 67 = .ok (.aload_n 0, 1) := by decide +kernel
theorem dX7_markOf_68 : decode cX7_markOf 68 = .ok (.iload_n 1, 1) := by decide +kernel
theorem dX7_markOf_69 : decode cX7_markOf 69 = .ok (.bipush 20, 2) := by decide +kernel
theorem dX7_markOf_71 : decode cX7_markOf 71 = .ok (.invokevirtual 238, 3) := by decide +kernel
theorem dX7_markOf_74 : decode cX7_markOf 74 = .ok (.istore_n 3, 1) := by decide +kernel
theorem dX7_markOf_75 : decode cX7_markOf 75 = .ok (.iload_n 3, 1) := by decide +kernel
theorem dX7_markOf_76 : decode cX7_markOf 76 = .ok (.aload_n 0, 1) := by decide +kernel
theorem dX7_markOf_77 : decode cX7_markOf 77 = .ok (.iload_n 1, 1) := by decide +kernel
theorem dX7_markOf_78 : decode cX7_markOf 78 = .ok (.invokevirtual 247, 3) := by decide +kernel
theorem dX7_markOf_81 : decode cX7_markOf 81 = .ok (.isub, 1) := by decide +kernel
theorem dX7_markOf_82 : decode cX7_markOf 82 = .ok (.ireturn, 1) := by decide +kernel
theorem dX7_playerSize_0 : decode cX7_playerSize 0 = .ok (.aload_n 0, 1) := by decide +kernel
theorem dX7_playerSize_1 : decode cX7_playerSize 1 = .ok (.bipush 11, 2) := by decide +kernel
theorem dX7_playerSize_3 : decode cX7_playerSize 3 = .ok (.invokevirtual 234, 3) := by decide +kernel
theorem dX7_playerSize_6 : decode cX7_playerSize 6 = .ok (.aload_n 0, 1) := by decide +kernel
theorem dX7_playerSize_7 : decode cX7_playerSize 7 = .ok (.iload_n 1, 1) := by decide +kernel
theorem dX7_playerSize_8 : decode cX7_playerSize 8 = .ok (.bipush 10, 2) := by decide +kernel
theorem dX7_playerSize_10 : decode cX7_playerSize 10 = .ok (.invokevirtual 238, 3) := by decide +kernel
theorem dX7_playerSize_13 : decode cX7_playerSize 13 = .ok (.istore_n 2, 1) := by decide +kernel
theorem dX7_playerSize_14 : decode cX7_playerSize 14 = .ok (.iload_n 2, 1) := by decide +kernel
theorem dX7_playerSize_15 : decode cX7_playerSize 15 = .ok (.aload_n 0, 1) := by decide +kernel
theorem dX7_playerSize_16 : decode cX7_playerSize 16 = .ok (.iload_n 1, 1) := by decide +kernel
theorem dX7_playerSize_17 : decode cX7_playerSize 17 = .ok (.invokevirtual 250, 3) := by decide +kernel
theorem dX7_playerSize_20 : decode cX7_playerSize 20 = .ok (.iadd, 1) := by decide +kernel
theorem dX7_playerSize_21 : decode cX7_playerSize 21 = .ok (.ireturn, 1) := by decide +kernel
theorem dX7_sizeOf_0 : decode cX7_sizeOf 0 = .ok (.aload_n 0, 1) := by decide +kernel
theorem dX7_sizeOf_1 : decode cX7_sizeOf 1 = .ok (.getfield 19, 3) := by decide +kernel
theorem dX7_sizeOf_4 : decode cX7_sizeOf 4 = .ok (.bipush 42, 2) := by decide +kernel
theorem dX7_sizeOf_6 : decode cX7_sizeOf 6 = .ok (.iload_n 1, 1) := by decide +kernel
theorem dX7_sizeOf_7 : decode cX7_sizeOf 7 = .ok (.iadd, 1) := by decide +kernel
theorem dX7_sizeOf_8 : decode cX7_sizeOf 8 = .ok (.iaload, 1) := by decide +kernel
theorem dX7_sizeOf_9 : decode cX7_sizeOf 9 = .ok (.istore_n 2, 1) := by decide +kernel
theorem dX7_sizeOf_10 : decode cX7_sizeOf 10 = .ok (.iload_n 2, 1) := by decide +kernel
theorem dX7_sizeOf_11 : decode cX7_sizeOf 11 = .ok (.iconst 2, 1) := by decide +kernel
theorem dX7_sizeOf_12 : decode cX7_sizeOf 12 = .ok (.if_icmp .ne 16, 3) := by decide +kernel
theorem dX7_sizeOf_15 : decode cX7_sizeOf 15 = .ok (.aload_n 0, 1) := by decide +kernel
theorem dX7_sizeOf_16 : decode cX7_sizeOf 16 = .ok (.bipush 12, 2) := by decide +kernel
theorem dX7_sizeOf_18 : decode cX7_sizeOf 18 = .ok (.invokevirtual 234, 3) := by decide +kernel
theorem dX7_sizeOf_21 : decode cX7_sizeOf 21 = .ok (.aload_n 0, 1) := by decide +kernel
theorem dX7_sizeOf_22 : decode cX7_sizeOf 22 = .ok (.iload_n 1, 1) := by decide +kernel
theorem dX7_sizeOf_23 : decode cX7_sizeOf 23 = .ok (.invokevirtual 253, 3) := by decide +kernel
theorem dX7_sizeOf_26 : decode cX7_sizeOf 26 = .ok (.ineg, 1) := by decide +kernel
theorem dX7_sizeOf_27 : decode cX7_sizeOf 27 = .ok (.ireturn, 1) := by decide +kernel
theorem dX7_sizeOf_28 : decode cX7_sizeOf 28 = .ok (.iload_n 2, 1) := by decide +kernel
theorem dX7_sizeOf_29 : decode cX7_sizeOf 29 = .ok (.iconst 4, 1) := by decide +kernel
theorem dX7_sizeOf_30 : decode cX7_sizeOf 30 = .ok (.if_icmp .lt 11, 3) := by decide +kernel
theorem dX7_sizeOf_33 : decode cX7_sizeOf 33 = .ok (.aload_n 0, 1) := by decide +kernel
theorem dX7_sizeOf_34 : decode cX7_sizeOf 34 = .ok (.iload_n 1, 1) := by decide +kernel
theorem dX7_sizeOf_35 : decode cX7_sizeOf 35 = .ok (.invokevirtual 247, 3) := by decide +kernel
theorem dX7_sizeOf_38 : decode cX7_sizeOf 38 = .ok (.goto 8, 3) := by decide +kernel
theorem dX7_sizeOf_41 : decode cX7_sizeOf 41 = .ok (.aload_n 0, 1) := by decide +kernel
theorem dX7_sizeOf_42 : decode cX7_sizeOf 42 = .ok (.iload_n 1, 1) := by decide +kernel
theorem dX7_sizeOf_43 : decode cX7_sizeOf 43 = .ok (.invokevirtual 253, 3) := by decide +kernel
theorem dX7_sizeOf_46 : decode cX7_sizeOf 46 = .ok (.ireturn, 1) := by decide +kernel
theorem dX7_ask_0 : decode cX7_ask 0 = .ok (.aload_n 0, 1) := by decide +kernel
theorem dX7_ask_1 : decode cX7_ask 1 = .ok (.iload_n 1, 1) := by decide +kernel
theorem dX7_ask_2 : decode cX7_ask 2 = .ok (.invokevirtual 159, 3) := by decide +kernel
theorem dX7_ask_5 : decode cX7_ask 5 = .ok (.ifCond .eq 13, 3) := by decide +kernel
theorem dX7_ask_8 : decode cX7_ask 8 = .ok (.iload_n 2, 1) := by decide +kernel
theorem dX7_ask_9 : decode cX7_ask 9 = .ok (.i2l, 1) := by decide +kernel
theorem dX7_ask_10 : decode cX7_ask 10 = .ok (.lconst 0, 1) := by decide +kernel
theorem dX7_ask_11 : decode cX7_ask 11 = .ok (.lconst 1, 1) := by decide +kernel
theorem dX7_ask_12 : decode cX7_ask 12 = .ok (.invokestatic 57, 3) := by decide +kernel
theorem dX7_ask_15 : decode cX7_ask 15 = .ok (.ifCond .ne 6, 3) := by decide +kernel
theorem dX7_ask_18 : decode cX7_ask 18 = .ok (.ldc 67, 2) := by decide +kernel
theorem dX7_ask_20 : decode cX7_ask 20 = .ok (.ireturn, 1) := by decide +kernel
theorem dX7_ask_21 : decode cX7_ask 21 = .ok (.aload_n 0, 1) := by decide +kernel
theorem dX7_ask_22 : decode cX7_ask 22 = .ok (.iconst 0, 1) := by decide +kernel
theorem dX7_ask_23 : decode cX7_ask 23 = .ok (.putfield 231, 3) := by decide +kernel
theorem dX7_ask_26 : decode cX7_ask 26 = .ok (.iload_n 2, 1) := by decide +kernel
theorem dX7_ask_27 : decode cX7_ask 27 = .ok (.ifCond .ne 11, 3) := by decide +kernel
theorem dX7_ask_30 : decode cX7_ask 30 = .ok (.aload_n 0, 1) := by decide +kernel
theorem dX7_ask_31 : decode cX7_ask 31 = .ok (.iload_n 1, 1) := by decide +kernel
theorem dX7_ask_32 : decode cX7_ask 32 = .ok (.invokevirtual 256, 3) := by decide +kernel
theorem dX7_ask_35 : decode cX7_ask 35 = .ok (.goto 8, 3) := by decide +kernel
theorem dX7_ask_38 : decode cX7_ask 38 = .ok (.aload_n 0, 1) := by decide +kernel
theorem dX7_ask_39 : decode cX7_ask 39 = .ok (.iload_n 1, 1) := by decide +kernel
theorem dX7_ask_40 : decode cX7_ask 40 = .ok (.invokevirtual 250, 3) := by decide +kernel
theorem dX7_ask_43 : decode cX7_ask 43 = .ok (.ireturn, 1) := by decide +kernel
theorem dX7_trace_0 : decode cX7_trace 0 = .ok (.iload_n 1, 1) := by decide +kernel
theorem dX7_trace_1 : decode cX7_trace 1 = .ok (.i2l, 1) := by decide +kernel
theorem dX7_trace_2 : decode cX7_trace 2 = .ok (.lconst 0, 1) := by decide +kernel
theorem dX7_trace_3 : decode cX7_trace 3 = .ok (.aload_n 0, 1) := by decide +kernel
theorem dX7_trace_4 : decode cX7_trace 4 = .ok (.getfield 231, 3) := by decide +kernel
theorem dX7_trace_7 : decode cX7_trace 7 = .ok (.iconst 1, 1) := by decide +kernel
theorem dX7_trace_8 : decode cX7_trace 8 = .ok (.isub, 1) := by decide +kernel
theorem dX7_trace_9 : decode cX7_trace 9 = .ok (.i2l, 1) := by decide +kernel
theorem dX7_trace_10 : decode cX7_trace 10 = .ok (.invokestatic 57, 3) := by decide +kernel
theorem dX7_trace_13 : decode cX7_trace 13 = .ok (.ifCond .eq 12, 3) := by decide +kernel
theorem dX7_trace_16 : decode cX7_trace 16 = .ok (.aload_n 0, 1) := by decide +kernel
theorem dX7_trace_17 : decode cX7_trace 17 = .ok (.getfield 47, 3) := by decide +kernel
theorem dX7_trace_20 : decode cX7_trace 20 = .ok (.iload_n 1, 1) := by decide +kernel
theorem dX7_trace_21 : decode cX7_trace 21 = .ok (.iaload, 1) := by decide +kernel
theorem dX7_trace_22 : decode cX7_trace 22 = .ok (.goto 5, 3) := by decide +kernel
theorem dX7_trace_25 : decode cX7_trace 25 = .ok (.ldc 165, 2) := by decide +kernel
theorem dX7_trace_27 : decode cX7_trace 27 = .ok (.ireturn, 1) := by decide +kernel
theorem dX7_count_0 : decode cX7_count 0 = .ok (.iconst 0, 1) := by decide +kernel
theorem dX7_count_1 : decode cX7_count 1 = .ok (.istore_n 2, 1) := by decide +kernel
theorem dX7_count_2 : decode cX7_count 2 = .ok (.iconst 0, 1) := by decide +kernel
theorem dX7_count_3 : decode cX7_count 3 = .ok (.istore_n 3, 1) := by decide +kernel
theorem dX7_count_4 : decode cX7_count 4 = .ok (.iload_n 3, 1) := by decide +kernel
theorem dX7_count_5 : decode cX7_count 5 = .ok (.bipush 8, 2) := by decide +kernel
theorem dX7_count_7 : decode cX7_count 7 = .ok (.if_icmp .ge 26, 3) := by decide +kernel
theorem dX7_count_10 : decode cX7_count 10 = .ok (.iload_n 2, 1) := by decide +kernel
theorem dX7_count_11 : decode cX7_count 11 = .ok (.aload_n 0, 1) := by decide +kernel
theorem dX7_count_12 : decode cX7_count 12 = .ok (.getfield 13, 3) := by decide +kernel
theorem dX7_count_15 : decode cX7_count 15 = .ok (.iload_n 3, 1) := by decide +kernel
theorem dX7_count_16 : decode cX7_count 16 = .ok (.iaload, 1) := by decide +kernel
theorem dX7_count_17 : decode cX7_count 17 = .ok (.ifCond .lt 7, 3) := by decide +kernel
theorem dX7_count_20 : decode cX7_count 20 = .ok (.iconst 1, 1) := by decide +kernel
theorem dX7_count_21 : decode cX7_count 21 = .ok (.goto 4, 3) := by decide +kernel
theorem dX7_count_24 : decode cX7_count 24 = .ok (.iconst 0, 1) := by decide +kernel
theorem dX7_count_25 : decode cX7_count 25 = .ok (.iadd, 1) := by decide +kernel
theorem dX7_count_26 : decode cX7_count 26 = .ok (.istore_n 2, 1) := by decide +kernel
theorem dX7_count_27 : decode cX7_count 27 = .ok (.iinc 3 1, 3) := by decide +kernel
theorem dX7_count_30 : decode cX7_count 30 = .ok (.goto (-26), 3) := by decide +kernel
theorem dX7_count_33 : decode cX7_count 33 = .ok (.iload_n 1, 1) := by decide +kernel
theorem dX7_count_34 : decode cX7_count 34 = .ok (.tableswitch 104 0 8 #[50, 52, 59, 66, 73, 80, 87, 94, 99], 50) := by decide +kernel
theorem dX7_count_84 : decode cX7_count 84 = .ok (.iload_n 2, 1) := by decide +kernel
theorem dX7_count_85 : decode cX7_count 85 = .ok (.ireturn, 1) := by decide +kernel
theorem dX7_count_86 : decode cX7_count 86 = .ok (.aload_n 0, 1) := by decide +kernel
theorem dX7_count_87 : decode cX7_count 87 = .ok (.getfield 19, 3) := by decide +kernel
theorem dX7_count_90 : decode cX7_count 90 = .ok (.iconst 0, 1) := by decide +kernel
theorem dX7_count_91 : decode cX7_count 91 = .ok (.iaload, 1) := by decide +kernel
theorem dX7_count_92 : decode cX7_count 92 = .ok (.ireturn, 1) := by decide +kernel
theorem dX7_count_93 : decode cX7_count 93 = .ok (.aload_n 0, 1) := by decide +kernel
theorem dX7_count_94 : decode cX7_count 94 = .ok (.getfield 19, 3) := by decide +kernel
theorem dX7_count_97 : decode cX7_count 97 = .ok (.iconst 1, 1) := by decide +kernel
theorem dX7_count_98 : decode cX7_count 98 = .ok (.iaload, 1) := by decide +kernel
theorem dX7_count_99 : decode cX7_count 99 = .ok (.ireturn, 1) := by decide +kernel
theorem dX7_count_100 : decode cX7_count 100 = .ok (.aload_n 0, 1) := by decide +kernel
theorem dX7_count_101 : decode cX7_count 101 = .ok (.getfield 19, 3) := by decide +kernel
theorem dX7_count_104 : decode cX7_count 104 = .ok (.iconst 2, 1) := by decide +kernel
theorem dX7_count_105 : decode cX7_count 105 = .ok (.iaload, 1) := by decide +kernel
theorem dX7_count_106 : decode cX7_count 106 = .ok (.ireturn, 1) := by decide +kernel
theorem dX7_count_107 : decode cX7_count 107 = .ok (.aload_n 0, 1) := by decide +kernel
theorem dX7_count_108 : decode cX7_count 108 = .ok (.getfield 19, 3) := by decide +kernel
theorem dX7_count_111 : decode cX7_count 111 = .ok (.iconst 3, 1) := by decide +kernel
theorem dX7_count_112 : decode cX7_count 112 = .ok (.iaload, 1) := by decide +kernel
theorem dX7_count_113 : decode cX7_count 113 = .ok (.ireturn, 1) := by decide +kernel
theorem dX7_count_114 : decode cX7_count 114 = .ok (.aload_n 0, 1) := by decide +kernel
theorem dX7_count_115 : decode cX7_count 115 = .ok (.getfield 19, 3) := by decide +kernel
theorem dX7_count_118 : decode cX7_count 118 = .ok (.iconst 4, 1) := by decide +kernel
theorem dX7_count_119 : decode cX7_count 119 = .ok (.iaload, 1) := by decide +kernel
theorem dX7_count_120 : decode cX7_count 120 = .ok (.ireturn, 1) := by decide +kernel
theorem dX7_count_121 : decode cX7_count 121 = .ok (.aload_n 0, 1) := by decide +kernel
theorem dX7_count_122 : decode cX7_count 122 = .ok (.getfield 19, 3) := by decide +kernel
theorem dX7_count_125 : decode cX7_count 125 = .ok (.iconst 5, 1) := by decide +kernel
theorem dX7_count_126 : decode cX7_count 126 = .ok (.iaload, 1) := by decide +kernel
theorem dX7_count_127 : decode cX7_count 127 = .ok (.ireturn, 1) := by decide +kernel
theorem dX7_count_128 : decode cX7_count 128 = .ok (.aload_n 0, 1) := by decide +kernel
theorem dX7_count_129 : decode cX7_count 129 = .ok (.getfield 142, 3) := by decide +kernel
theorem dX7_count_132 : decode cX7_count 132 = .ok (.ireturn, 1) := by decide +kernel
theorem dX7_count_133 : decode cX7_count 133 = .ok (.aload_n 0, 1) := by decide +kernel
theorem dX7_count_134 : decode cX7_count 134 = .ok (.getfield 81, 3) := by decide +kernel
theorem dX7_count_137 : decode cX7_count 137 = .ok (.ireturn, 1) := by decide +kernel
theorem dX7_count_138 : decode cX7_count 138 = .ok (.ldc 67, 2) := by decide +kernel
theorem dX7_count_140 : decode cX7_count 140 = .ok (.ireturn, 1) := by decide +kernel
theorem dX7_status_0 : decode cX7_status 0 = .ok (.aload_n 0, 1) := by decide +kernel
theorem dX7_status_1 : decode cX7_status 1 = .ok (.getfield 50, 3) := by decide +kernel
theorem dX7_status_4 : decode cX7_status 4 = .ok (.ireturn, 1) := by decide +kernel
theorem dJ6_bitCount_0f7a4_0 : decode cJ6_bitCount_0f7a4 0 = .ok (.iload_n 0, 1) := by decide +kernel
theorem dJ6_bitCount_0f7a4_1 : decode cJ6_bitCount_0f7a4 1 = .ok (.iload_n 0, 1) := by decide +kernel
theorem dJ6_bitCount_0f7a4_2 : decode cJ6_bitCount_0f7a4 2 = .ok (.iconst 1, 1) := by decide +kernel
theorem dJ6_bitCount_0f7a4_3 : decode cJ6_bitCount_0f7a4 3 = .ok (.iushr, 1) := by decide +kernel
theorem dJ6_bitCount_0f7a4_4 : decode cJ6_bitCount_0f7a4 4 = .ok (.ldc_w 265, 3) := by decide +kernel
theorem dJ6_bitCount_0f7a4_7 : decode cJ6_bitCount_0f7a4 7 = .ok (.iand, 1) := by decide +kernel
theorem dJ6_bitCount_0f7a4_8 : decode cJ6_bitCount_0f7a4 8 = .ok (.isub, 1) := by decide +kernel
theorem dJ6_bitCount_0f7a4_9 : decode cJ6_bitCount_0f7a4 9 = .ok (.istore_n 0, 1) := by decide +kernel
theorem dJ6_bitCount_0f7a4_10 : decode cJ6_bitCount_0f7a4 10 = .ok (.iload_n 0, 1) := by decide +kernel
theorem dJ6_bitCount_0f7a4_11 : decode cJ6_bitCount_0f7a4 11 = .ok (.ldc_w 266, 3) := by decide +kernel
theorem dJ6_bitCount_0f7a4_14 : decode cJ6_bitCount_0f7a4 14 = .ok (.iand, 1) := by decide +kernel
theorem dJ6_bitCount_0f7a4_15 : decode cJ6_bitCount_0f7a4 15 = .ok (.iload_n 0, 1) := by decide +kernel
theorem dJ6_bitCount_0f7a4_16 : decode cJ6_bitCount_0f7a4 16 = .ok (.iconst 2, 1) := by decide +kernel
theorem dJ6_bitCount_0f7a4_17 : decode cJ6_bitCount_0f7a4 17 = .ok (.iushr, 1) := by decide +kernel
theorem dJ6_bitCount_0f7a4_18 : decode cJ6_bitCount_0f7a4 18 = .ok (.ldc_w 266, 3) := by decide +kernel
theorem dJ6_bitCount_0f7a4_21 : decode cJ6_bitCount_0f7a4 21 = .ok (.iand, 1) := by decide +kernel
theorem dJ6_bitCount_0f7a4_22 : decode cJ6_bitCount_0f7a4 22 = .ok (.iadd, 1) := by decide +kernel
theorem dJ6_bitCount_0f7a4_23 : decode cJ6_bitCount_0f7a4 23 = .ok (.istore_n 0, 1) := by decide +kernel
theorem dJ6_bitCount_0f7a4_24 : decode cJ6_bitCount_0f7a4 24 = .ok (.iload_n 0, 1) := by decide +kernel
theorem dJ6_bitCount_0f7a4_25 : decode cJ6_bitCount_0f7a4 25 = .ok (.iload_n 0, 1) := by decide +kernel
theorem dJ6_bitCount_0f7a4_26 : decode cJ6_bitCount_0f7a4 26 = .ok (.iconst 4, 1) := by decide +kernel
theorem dJ6_bitCount_0f7a4_27 : decode cJ6_bitCount_0f7a4 27 = .ok (.iushr, 1) := by decide +kernel
theorem dJ6_bitCount_0f7a4_28 : decode cJ6_bitCount_0f7a4 28 = .ok (.iadd, 1) := by decide +kernel
theorem dJ6_bitCount_0f7a4_29 : decode cJ6_bitCount_0f7a4 29 = .ok (.ldc_w 267, 3) := by decide +kernel
theorem dJ6_bitCount_0f7a4_32 : decode cJ6_bitCount_0f7a4 32 = .ok (.iand, 1) := by decide +kernel
theorem dJ6_bitCount_0f7a4_33 : decode cJ6_bitCount_0f7a4 33 = .ok (.istore_n 0, 1) := by decide +kernel
theorem dJ6_bitCount_0f7a4_34 : decode cJ6_bitCount_0f7a4 34 = .ok (.iload_n 0, 1) := by decide +kernel
theorem dJ6_bitCount_0f7a4_35 : decode cJ6_bitCount_0f7a4 35 = .ok (.iload_n 0, 1) := by decide +kernel
theorem dJ6_bitCount_0f7a4_36 : decode cJ6_bitCount_0f7a4 36 = .ok (.bipush 8, 2) := by decide +kernel
theorem dJ6_bitCount_0f7a4_38 : decode cJ6_bitCount_0f7a4 38 = .ok (.iushr, 1) := by decide +kernel
theorem dJ6_bitCount_0f7a4_39 : decode cJ6_bitCount_0f7a4 39 = .ok (.iadd, 1) := by decide +kernel
theorem dJ6_bitCount_0f7a4_40 : decode cJ6_bitCount_0f7a4 40 = .ok (.istore_n 0, 1) := by decide +kernel
theorem dJ6_bitCount_0f7a4_41 : decode cJ6_bitCount_0f7a4 41 = .ok (.iload_n 0, 1) := by decide +kernel
theorem dJ6_bitCount_0f7a4_42 : decode cJ6_bitCount_0f7a4 42 = .ok (.iload_n 0, 1) := by decide +kernel
theorem dJ6_bitCount_0f7a4_43 : decode cJ6_bitCount_0f7a4 43 = .ok (.bipush 16, 2) := by decide +kernel
theorem dJ6_bitCount_0f7a4_45 : decode cJ6_bitCount_0f7a4 45 = .ok (.iushr, 1) := by decide +kernel
theorem dJ6_bitCount_0f7a4_46 : decode cJ6_bitCount_0f7a4 46 = .ok (.iadd, 1) := by decide +kernel
theorem dJ6_bitCount_0f7a4_47 : decode cJ6_bitCount_0f7a4 47 = .ok (.istore_n 0, 1) := by decide +kernel
theorem dJ6_bitCount_0f7a4_48 : decode cJ6_bitCount_0f7a4 48 = .ok (.iload_n 0, 1) := by decide +kernel
theorem dJ6_bitCount_0f7a4_49 : decode cJ6_bitCount_0f7a4 49 = .ok (.bipush 63, 2) := by decide +kernel
theorem dJ6_bitCount_0f7a4_51 : decode cJ6_bitCount_0f7a4 51 = .ok (.iand, 1) := by decide +kernel
theorem dJ6_bitCount_0f7a4_52 : decode cJ6_bitCount_0f7a4 52 = .ok (.ireturn, 1) := by decide +kernel
theorem dJ9_max_7cf53_0 : decode cJ9_max_7cf53 0 = .ok (.iload_n 0, 1) := by decide +kernel
theorem dJ9_max_7cf53_1 : decode cJ9_max_7cf53 1 = .ok (.iload_n 1, 1) := by decide +kernel
theorem dJ9_max_7cf53_2 : decode cJ9_max_7cf53 2 = .ok (.if_icmp .lt 7, 3) := by decide +kernel
theorem dJ9_max_7cf53_5 : decode cJ9_max_7cf53 5 = .ok (.iload_n 0, 1) := by decide +kernel
theorem dJ9_max_7cf53_6 : decode cJ9_max_7cf53 6 = .ok (.goto 4, 3) := by decide +kernel
theorem dJ9_max_7cf53_9 : decode cJ9_max_7cf53 9 = .ok (.iload_n 1, 1) := by decide +kernel
theorem dJ9_max_7cf53_10 : decode cJ9_max_7cf53 10 = .ok (.ireturn, 1) := by decide +kernel
theorem dJ9_min_7cf53_0 : decode cJ9_min_7cf53 0 = .ok (.iload_n 0, 1) := by decide +kernel
theorem dJ9_min_7cf53_1 : decode cJ9_min_7cf53 1 = .ok (.iload_n 1, 1) := by decide +kernel
theorem dJ9_min_7cf53_2 : decode cJ9_min_7cf53 2 = .ok (.if_icmp .gt 7, 3) := by decide +kernel
theorem dJ9_min_7cf53_5 : decode cJ9_min_7cf53 5 = .ok (.iload_n 0, 1) := by decide +kernel
theorem dJ9_min_7cf53_6 : decode cJ9_min_7cf53 6 = .ok (.goto 4, 3) := by decide +kernel
theorem dJ9_min_7cf53_9 : decode cJ9_min_7cf53 9 = .ok (.iload_n 1, 1) := by decide +kernel
theorem dJ9_min_7cf53_10 : decode cJ9_min_7cf53 10 = .ok (.ireturn, 1) := by decide +kernel
theorem dJ7_fill_53178_0 : decode cJ7_fill_53178 0 = .ok (.iconst 0, 1) := by decide +kernel
theorem dJ7_fill_53178_1 : decode cJ7_fill_53178 1 = .ok (.istore_n 2, 1) := by decide +kernel
theorem dJ7_fill_53178_2 : decode cJ7_fill_53178 2 = .ok (.aload_n 0, 1) := by decide +kernel
theorem dJ7_fill_53178_3 : decode cJ7_fill_53178 3 = .ok (.arraylength, 1) := by decide +kernel
theorem dJ7_fill_53178_4 : decode cJ7_fill_53178 4 = .ok (.istore_n 3, 1) := by decide +kernel
theorem dJ7_fill_53178_5 : decode cJ7_fill_53178 5 = .ok (.iload_n 2, 1) := by decide +kernel
theorem dJ7_fill_53178_6 : decode cJ7_fill_53178 6 = .ok (.iload_n 3, 1) := by decide +kernel
theorem dJ7_fill_53178_7 : decode cJ7_fill_53178 7 = .ok (.if_icmp .ge 13, 3) := by decide +kernel
theorem dJ7_fill_53178_10 : decode cJ7_fill_53178 10 = .ok (.aload_n 0, 1) := by decide +kernel
theorem dJ7_fill_53178_11 : decode cJ7_fill_53178 11 = .ok (.iload_n 2, 1) := by decide +kernel
theorem dJ7_fill_53178_12 : decode cJ7_fill_53178 12 = .ok (.iload_n 1, 1) := by decide +kernel
theorem dJ7_fill_53178_13 : decode cJ7_fill_53178 13 = .ok (.iastore, 1) := by decide +kernel
theorem dJ7_fill_53178_14 : decode cJ7_fill_53178 14 = .ok (.iinc 2 1, 3) := by decide +kernel
theorem dJ7_fill_53178_17 : decode cJ7_fill_53178 17 = .ok (.goto (-12), 3) := by decide +kernel
theorem dJ7_fill_53178_20 : decode cJ7_fill_53178 20 = .ok (.return_, 1) := by decide +kernel
theorem dL_law_0 : decode cL_law 0 = .ok (.new 7, 3) := by decide +kernel
theorem dL_law_3 : decode cL_law 3 = .ok (.dup, 1) := by decide +kernel
theorem dL_law_4 : decode cL_law 4 = .ok (.invokespecial 9, 3) := by decide +kernel
theorem dL_law_7 : decode cL_law 7 = .ok (.astore_n 1, 1) := by decide +kernel
theorem dL_law_8 : decode cL_law 8 = .ok (.new 10, 3) := by decide +kernel
theorem dL_law_11 : decode cL_law 11 = .ok (.dup, 1) := by decide +kernel
theorem dL_law_12 : decode cL_law 12 = .ok (.invokespecial 12, 3) := by decide +kernel
theorem dL_law_15 : decode cL_law 15 = .ok (.astore_n 2, 1) := by decide +kernel
theorem dL_law_16 : decode cL_law 16 = .ok (.iconst 0, 1) := by decide +kernel
theorem dL_law_17 : decode cL_law 17 = .ok (.istore_n 3, 1) := by decide +kernel
theorem dL_law_18 : decode cL_law 18 = .ok (.iload_n 3, 1) := by decide +kernel
theorem dL_law_19 : decode cL_law 19 = .ok (.aload_n 0, 1) := by decide +kernel
theorem dL_law_20 : decode cL_law 20 = .ok (.arraylength, 1) := by decide +kernel
theorem dL_law_21 : decode cL_law 21 = .ok (.bipush 6, 2) := by decide +kernel
theorem dL_law_23 : decode cL_law 23 = .ok (.isub, 1) := by decide +kernel
theorem dL_law_24 : decode cL_law 24 = .ok (.if_icmp .gt 1327, 3) := by decide +kernel
theorem dL_law_27 : decode cL_law 27 = .ok (.aload_n 0, 1) := by decide +kernel
theorem dL_law_28 : decode cL_law 28 = .ok (.iload_n 3, 1) := by decide +kernel
theorem dL_law_29 : decode cL_law 29 = .ok (.iaload, 1) := by decide +kernel
theorem dL_law_30 : decode cL_law 30 = .ok (.bipush 63, 2) := by decide +kernel
theorem dL_law_32 : decode cL_law 32 = .ok (.iand, 1) := by decide +kernel
theorem dL_law_33 : decode cL_law 33 = .ok (.tableswitch 1312 0 37 #[167, 210, 253, 316, 339, 362, 375, 388, 401, 424, 447, 460, 483, 516, 549, 592, 635, 658, 681, 714, 727, 760, 813, 846, 879, 902, 955, 988, 1021, 1075, 1118, 1141, 1164, 1187, 1220, 1253, 1276, 1299], 167) := by decide +kernel
theorem dL_law_200 : decode cL_law 200 = .ok (.aload_n 1, 1) := by decide +kernel
theorem dL_law_201 : decode cL_law 201 = .ok (.aload_n 0, 1) := by decide +kernel
theorem dL_law_202 : decode cL_law 202 = .ok (.iload_n 3, 1) := by decide +kernel
theorem dL_law_203 : decode cL_law 203 = .ok (.iconst 1, 1) := by decide +kernel
theorem dL_law_204 : decode cL_law 204 = .ok (.iadd, 1) := by decide +kernel
theorem dL_law_205 : decode cL_law 205 = .ok (.iaload, 1) := by decide +kernel
theorem dL_law_206 : decode cL_law 206 = .ok (.aload_n 0, 1) := by decide +kernel
theorem dL_law_207 : decode cL_law 207 = .ok (.iload_n 3, 1) := by decide +kernel
theorem dL_law_208 : decode cL_law 208 = .ok (.iconst 2, 1) := by decide +kernel
theorem dL_law_209 : decode cL_law 209 = .ok (.iadd, 1) := by decide +kernel
theorem dL_law_210 : decode cL_law 210 = .ok (.iaload, 1) := by decide +kernel
theorem dL_law_211 : decode cL_law 211 = .ok (.aload_n 0, 1) := by decide +kernel
theorem dL_law_212 : decode cL_law 212 = .ok (.iload_n 3, 1) := by decide +kernel
theorem dL_law_213 : decode cL_law 213 = .ok (.iconst 3, 1) := by decide +kernel
theorem dL_law_214 : decode cL_law 214 = .ok (.iadd, 1) := by decide +kernel
theorem dL_law_215 : decode cL_law 215 = .ok (.iaload, 1) := by decide +kernel
theorem dL_law_216 : decode cL_law 216 = .ok (.invokevirtual 13, 3) := by decide +kernel
theorem dL_law_219 : decode cL_law 219 = .ok (.aload_n 2, 1) := by decide +kernel
theorem dL_law_220 : decode cL_law 220 = .ok (.aload_n 0, 1) := by decide +kernel
theorem dL_law_221 : decode cL_law 221 = .ok (.iload_n 3, 1) := by decide +kernel
theorem dL_law_222 : decode cL_law 222 = .ok (.iconst 1, 1) := by decide +kernel
theorem dL_law_223 : decode cL_law 223 = .ok (.iadd, 1) := by decide +kernel
theorem dL_law_224 : decode cL_law 224 = .ok (.iaload, 1) := by decide +kernel
theorem dL_law_225 : decode cL_law 225 = .ok (.aload_n 0, 1) := by decide +kernel
theorem dL_law_226 : decode cL_law 226 = .ok (.iload_n 3, 1) := by decide +kernel
theorem dL_law_227 : decode cL_law 227 = .ok (.iconst 2, 1) := by decide +kernel
theorem dL_law_228 : decode cL_law 228 = .ok (.iadd, 1) := by decide +kernel
theorem dL_law_229 : decode cL_law 229 = .ok (.iaload, 1) := by decide +kernel
theorem dL_law_230 : decode cL_law 230 = .ok (.aload_n 0, 1) := by decide +kernel
theorem dL_law_231 : decode cL_law 231 = .ok (.iload_n 3, 1) := by decide +kernel
theorem dL_law_232 : decode cL_law 232 = .ok (.iconst 3, 1) := by decide +kernel
theorem dL_law_233 : decode cL_law 233 = .ok (.iadd, 1) := by decide +kernel
theorem dL_law_234 : decode cL_law 234 = .ok (.iaload, 1) := by decide +kernel
theorem dL_law_235 : decode cL_law 235 = .ok (.invokevirtual 17, 3) := by decide +kernel
theorem dL_law_238 : decode cL_law 238 = .ok (.if_icmp .eq 1107, 3) := by decide +kernel
theorem dL_law_241 : decode cL_law 241 = .ok (.iconst 0, 1) := by decide +kernel
theorem dL_law_242 : decode cL_law 242 = .ok (.ireturn, 1) := by decide +kernel
theorem dL_law_243 : decode cL_law 243 = .ok (.aload_n 1, 1) := by decide +kernel
theorem dL_law_244 : decode cL_law 244 = .ok (.aload_n 0, 1) := by decide +kernel
theorem dL_law_245 : decode cL_law 245 = .ok (.iload_n 3, 1) := by decide +kernel
theorem dL_law_246 : decode cL_law 246 = .ok (.iconst 1, 1) := by decide +kernel
theorem dL_law_247 : decode cL_law 247 = .ok (.iadd, 1) := by decide +kernel
theorem dL_law_248 : decode cL_law 248 = .ok (.iaload, 1) := by decide +kernel
theorem dL_law_249 : decode cL_law 249 = .ok (.aload_n 0, 1) := by decide +kernel
theorem dL_law_250 : decode cL_law 250 = .ok (.iload_n 3, 1) := by decide +kernel
theorem dL_law_251 : decode cL_law 251 = .ok (.iconst 2, 1) := by decide +kernel
theorem dL_law_252 : decode cL_law 252 = .ok (.iadd, 1) := by decide +kernel
theorem dL_law_253 : decode cL_law 253 = .ok (.iaload, 1) := by decide +kernel
theorem dL_law_254 : decode cL_law 254 = .ok (.aload_n 0, 1) := by decide +kernel
theorem dL_law_255 : decode cL_law 255 = .ok (.iload_n 3, 1) := by decide +kernel
theorem dL_law_256 : decode cL_law 256 = .ok (.iconst 3, 1) := by decide +kernel
theorem dL_law_257 : decode cL_law 257 = .ok (.iadd, 1) := by decide +kernel
theorem dL_law_258 : decode cL_law 258 = .ok (.iaload, 1) := by decide +kernel
theorem dL_law_259 : decode cL_law 259 = .ok (.invokevirtual 18, 3) := by decide +kernel
theorem dL_law_262 : decode cL_law 262 = .ok (.aload_n 2, 1) := by decide +kernel
theorem dL_law_263 : decode cL_law 263 = .ok (.aload_n 0, 1) := by decide +kernel
theorem dL_law_264 : decode cL_law 264 = .ok (.iload_n 3, 1) := by decide +kernel
theorem dL_law_265 : decode cL_law 265 = .ok (.iconst 1, 1) := by decide +kernel
theorem dL_law_266 : decode cL_law 266 = .ok (.iadd, 1) := by decide +kernel
theorem dL_law_267 : decode cL_law 267 = .ok (.iaload, 1) := by decide +kernel
theorem dL_law_268 : decode cL_law 268 = .ok (.aload_n 0, 1) := by decide +kernel
theorem dL_law_269 : decode cL_law 269 = .ok (.iload_n 3, 1) := by decide +kernel
theorem dL_law_270 : decode cL_law 270 = .ok (.iconst 2, 1) := by decide +kernel
theorem dL_law_271 : decode cL_law 271 = .ok (.iadd, 1) := by decide +kernel
theorem dL_law_272 : decode cL_law 272 = .ok (.iaload, 1) := by decide +kernel
theorem dL_law_273 : decode cL_law 273 = .ok (.aload_n 0, 1) := by decide +kernel
theorem dL_law_274 : decode cL_law 274 = .ok (.iload_n 3, 1) := by decide +kernel
theorem dL_law_275 : decode cL_law 275 = .ok (.iconst 3, 1) := by decide +kernel
theorem dL_law_276 : decode cL_law 276 = .ok (.iadd, 1) := by decide +kernel
theorem dL_law_277 : decode cL_law 277 = .ok (.iaload, 1) := by decide +kernel
theorem dL_law_278 : decode cL_law 278 = .ok (.invokevirtual 21, 3) := by decide +kernel
theorem dL_law_281 : decode cL_law 281 = .ok (.if_icmp .eq 1064, 3) := by decide +kernel
theorem dL_law_284 : decode cL_law 284 = .ok (.iconst 0, 1) := by decide +kernel
theorem dL_law_285 : decode cL_law 285 = .ok (.ireturn, 1) := by decide +kernel
theorem dL_law_286 : decode cL_law 286 = .ok (.aload_n 1, 1) := by decide +kernel
theorem dL_law_287 : decode cL_law 287 = .ok (.aload_n 0, 1) := by decide +kernel
theorem dL_law_288 : decode cL_law 288 = .ok (.iload_n 3, 1) := by decide +kernel
theorem dL_law_289 : decode cL_law 289 = .ok (.iconst 1, 1) := by decide +kernel
theorem dL_law_290 : decode cL_law 290 = .ok (.iadd, 1) := by decide +kernel
theorem dL_law_291 : decode cL_law 291 = .ok (.iaload, 1) := by decide +kernel
theorem dL_law_292 : decode cL_law 292 = .ok (.aload_n 0, 1) := by decide +kernel
theorem dL_law_293 : decode cL_law 293 = .ok (.iload_n 3, 1) := by decide +kernel
theorem dL_law_294 : decode cL_law 294 = .ok (.iconst 2, 1) := by decide +kernel
theorem dL_law_295 : decode cL_law 295 = .ok (.iadd, 1) := by decide +kernel
theorem dL_law_296 : decode cL_law 296 = .ok (.iaload, 1) := by decide +kernel
theorem dL_law_297 : decode cL_law 297 = .ok (.aload_n 0, 1) := by decide +kernel
theorem dL_law_298 : decode cL_law 298 = .ok (.iload_n 3, 1) := by decide +kernel
theorem dL_law_299 : decode cL_law 299 = .ok (.iconst 3, 1) := by decide +kernel
theorem dL_law_300 : decode cL_law 300 = .ok (.iadd, 1) := by decide +kernel
theorem dL_law_301 : decode cL_law 301 = .ok (.iaload, 1) := by decide +kernel
theorem dL_law_302 : decode cL_law 302 = .ok (.aload_n 0, 1) := by decide +kernel
theorem dL_law_303 : decode cL_law 303 = .ok (.iload_n 3, 1) := by decide +kernel
theorem dL_law_304 : decode cL_law 304 = .ok (.iconst 4, 1) := by decide +kernel
theorem dL_law_305 : decode cL_law 305 = .ok (.iadd, 1) := by decide +kernel
theorem dL_law_306 : decode cL_law 306 = .ok (.iaload, 1) := by decide +kernel
theorem dL_law_307 : decode cL_law 307 = .ok (.aload_n 0, 1) := by decide +kernel
theorem dL_law_308 : decode cL_law 308 = .ok (.iload_n 3, 1) := by decide +kernel
theorem dL_law_309 : decode cL_law 309 = .ok (.iconst 5, 1) := by decide +kernel
theorem dL_law_310 : decode cL_law 310 = .ok (.iadd, 1) := by decide +kernel
theorem dL_law_311 : decode cL_law 311 = .ok (.iaload, 1) := by decide +kernel
theorem dL_law_312 : decode cL_law 312 = .ok (.invokevirtual 22, 3) := by decide +kernel
theorem dL_law_315 : decode cL_law 315 = .ok (.aload_n 2, 1) := by decide +kernel
theorem dL_law_316 : decode cL_law 316 = .ok (.aload_n 0, 1) := by decide +kernel
theorem dL_law_317 : decode cL_law 317 = .ok (.iload_n 3, 1) := by decide +kernel
theorem dL_law_318 : decode cL_law 318 = .ok (.iconst 1, 1) := by decide +kernel
theorem dL_law_319 : decode cL_law 319 = .ok (.iadd, 1) := by decide +kernel
theorem dL_law_320 : decode cL_law 320 = .ok (.iaload, 1) := by decide +kernel
theorem dL_law_321 : decode cL_law 321 = .ok (.aload_n 0, 1) := by decide +kernel
theorem dL_law_322 : decode cL_law 322 = .ok (.iload_n 3, 1) := by decide +kernel
theorem dL_law_323 : decode cL_law 323 = .ok (.iconst 2, 1) := by decide +kernel
theorem dL_law_324 : decode cL_law 324 = .ok (.iadd, 1) := by decide +kernel
theorem dL_law_325 : decode cL_law 325 = .ok (.iaload, 1) := by decide +kernel
theorem dL_law_326 : decode cL_law 326 = .ok (.aload_n 0, 1) := by decide +kernel
theorem dL_law_327 : decode cL_law 327 = .ok (.iload_n 3, 1) := by decide +kernel
theorem dL_law_328 : decode cL_law 328 = .ok (.iconst 3, 1) := by decide +kernel
theorem dL_law_329 : decode cL_law 329 = .ok (.iadd, 1) := by decide +kernel
theorem dL_law_330 : decode cL_law 330 = .ok (.iaload, 1) := by decide +kernel
theorem dL_law_331 : decode cL_law 331 = .ok (.aload_n 0, 1) := by decide +kernel
theorem dL_law_332 : decode cL_law 332 = .ok (.iload_n 3, 1) := by decide +kernel
theorem dL_law_333 : decode cL_law 333 = .ok (.iconst 4, 1) := by decide +kernel
theorem dL_law_334 : decode cL_law 334 = .ok (.iadd, 1) := by decide +kernel
theorem dL_law_335 : decode cL_law 335 = .ok (.iaload, 1) := by decide +kernel
theorem dL_law_336 : decode cL_law 336 = .ok (.aload_n 0, 1) := by decide +kernel
theorem dL_law_337 : decode cL_law 337 = .ok (.iload_n 3, 1) := by decide +kernel
theorem dL_law_338 : decode cL_law 338 = .ok (.iconst 5, 1) := by decide +kernel
theorem dL_law_339 : decode cL_law 339 = .ok (.iadd, 1) := by decide +kernel
theorem dL_law_340 : decode cL_law 340 = .ok (.iaload, 1) := by decide +kernel
theorem dL_law_341 : decode cL_law 341 = .ok (.invokevirtual 26, 3) := by decide +kernel
theorem dL_law_344 : decode cL_law 344 = .ok (.if_icmp .eq 1001, 3) := by decide +kernel
theorem dL_law_347 : decode cL_law 347 = .ok (.iconst 0, 1) := by decide +kernel
theorem dL_law_348 : decode cL_law 348 = .ok (.ireturn, 1) := by decide +kernel
theorem dL_law_349 : decode cL_law 349 = .ok (.aload_n 1, 1) := by decide +kernel
theorem dL_law_350 : decode cL_law 350 = .ok (.aload_n 0, 1) := by decide +kernel
theorem dL_law_351 : decode cL_law 351 = .ok (.iload_n 3, 1) := by decide +kernel
theorem dL_law_352 : decode cL_law 352 = .ok (.iconst 1, 1) := by decide +kernel
theorem dL_law_353 : decode cL_law 353 = .ok (.iadd, 1) := by decide +kernel
theorem dL_law_354 : decode cL_law 354 = .ok (.iaload, 1) := by decide +kernel
theorem dL_law_355 : decode cL_law 355 = .ok (.invokevirtual 27, 3) := by decide +kernel
theorem dL_law_358 : decode cL_law 358 = .ok (.aload_n 2, 1) := by decide +kernel
theorem dL_law_359 : decode cL_law 359 = .ok (.aload_n 0, 1) := by decide +kernel
theorem dL_law_360 : decode cL_law 360 = .ok (.iload_n 3, 1) := by decide +kernel
theorem dL_law_361 : decode cL_law 361 = .ok (.iconst 1, 1) := by decide +kernel
theorem dL_law_362 : decode cL_law 362 = .ok (.iadd, 1) := by decide +kernel
theorem dL_law_363 : decode cL_law 363 = .ok (.iaload, 1) := by decide +kernel
theorem dL_law_364 : decode cL_law 364 = .ok (.invokevirtual 31, 3) := by decide +kernel
theorem dL_law_367 : decode cL_law 367 = .ok (.if_icmp .eq 978, 3) := by decide +kernel
theorem dL_law_370 : decode cL_law 370 = .ok (.iconst 0, 1) := by decide +kernel
theorem dL_law_371 : decode cL_law 371 = .ok (.ireturn, 1) := by decide +kernel
theorem dL_law_372 : decode cL_law 372 = .ok (.aload_n 1, 1) := by decide +kernel
theorem dL_law_373 : decode cL_law 373 = .ok (.aload_n 0, 1) := by decide +kernel
theorem dL_law_374 : decode cL_law 374 = .ok (.iload_n 3, 1) := by decide +kernel
theorem dL_law_375 : decode cL_law 375 = .ok (.iconst 1, 1) := by decide +kernel
theorem dL_law_376 : decode cL_law 376 = .ok (.iadd, 1) := by decide +kernel
theorem dL_law_377 : decode cL_law 377 = .ok (.iaload, 1) := by decide +kernel
theorem dL_law_378 : decode cL_law 378 = .ok (.invokevirtual 32, 3) := by decide +kernel
theorem dL_law_381 : decode cL_law 381 = .ok (.aload_n 2, 1) := by decide +kernel
theorem dL_law_382 : decode cL_law 382 = .ok (.aload_n 0, 1) := by decide +kernel
theorem dL_law_383 : decode cL_law 383 = .ok (.iload_n 3, 1) := by decide +kernel
theorem dL_law_384 : decode cL_law 384 = .ok (.iconst 1, 1) := by decide +kernel
theorem dL_law_385 : decode cL_law 385 = .ok (.iadd, 1) := by decide +kernel
theorem dL_law_386 : decode cL_law 386 = .ok (.iaload, 1) := by decide +kernel
theorem dL_law_387 : decode cL_law 387 = .ok (.invokevirtual 35, 3) := by decide +kernel
theorem dL_law_390 : decode cL_law 390 = .ok (.if_icmp .eq 955, 3) := by decide +kernel
theorem dL_law_393 : decode cL_law 393 = .ok (.iconst 0, 1) := by decide +kernel
theorem dL_law_394 : decode cL_law 394 = .ok (.ireturn, 1) := by decide +kernel
theorem dL_law_395 : decode cL_law 395 = .ok (.aload_n 1, 1) := by decide +kernel
theorem dL_law_396 : decode cL_law 396 = .ok (.invokevirtual 36, 3) := by decide +kernel
theorem dL_law_399 : decode cL_law 399 = .ok (.aload_n 2, 1) := by decide +kernel
theorem dL_law_400 : decode cL_law 400 = .ok (.invokevirtual 40, 3) := by decide +kernel
theorem dL_law_403 : decode cL_law 403 = .ok (.if_icmp .eq 942, 3) := by decide +kernel
theorem dL_law_406 : decode cL_law 406 = .ok (.iconst 0, 1) := by decide +kernel
theorem dL_law_407 : decode cL_law 407 = .ok (.ireturn, 1) := by decide +kernel
theorem dL_law_408 : decode cL_law 408 = .ok (.aload_n 1, 1) := by decide +kernel
theorem dL_law_409 : decode cL_law 409 = .ok (.invokevirtual 41, 3) := by decide +kernel
theorem dL_law_412 : decode cL_law 412 = .ok (.aload_n 2, 1) := by decide +kernel
theorem dL_law_413 : decode cL_law 413 = .ok (.invokevirtual 44, 3) := by decide +kernel
theorem dL_law_416 : decode cL_law 416 = .ok (.if_icmp .eq 929, 3) := by decide +kernel
theorem dL_law_419 : decode cL_law 419 = .ok (.iconst 0, 1) := by decide +kernel
theorem dL_law_420 : decode cL_law 420 = .ok (.ireturn, 1) := by decide +kernel
theorem dL_law_421 : decode cL_law 421 = .ok (.aload_n 1, 1) := by decide +kernel
theorem dL_law_422 : decode cL_law 422 = .ok (.invokevirtual 45, 3) := by decide +kernel
theorem dL_law_425 : decode cL_law 425 = .ok (.aload_n 2, 1) := by decide +kernel
theorem dL_law_426 : decode cL_law 426 = .ok (.invokevirtual 48, 3) := by decide +kernel
theorem dL_law_429 : decode cL_law 429 = .ok (.if_icmp .eq 916, 3) := by decide +kernel
theorem dL_law_432 : decode cL_law 432 = .ok (.iconst 0, 1) := by decide +kernel
theorem dL_law_433 : decode cL_law 433 = .ok (.ireturn, 1) := by decide +kernel
theorem dL_law_434 : decode cL_law 434 = .ok (.aload_n 1, 1) := by decide +kernel
theorem dL_law_435 : decode cL_law 435 = .ok (.aload_n 0, 1) := by decide +kernel
theorem dL_law_436 : decode cL_law 436 = .ok (.iload_n 3, 1) := by decide +kernel
theorem dL_law_437 : decode cL_law 437 = .ok (.iconst 1, 1) := by decide +kernel
theorem dL_law_438 : decode cL_law 438 = .ok (.iadd, 1) := by decide +kernel
theorem dL_law_439 : decode cL_law 439 = .ok (.iaload, 1) := by decide +kernel
theorem dL_law_440 : decode cL_law 440 = .ok (.invokevirtual 49, 3) := by decide +kernel
theorem dL_law_443 : decode cL_law 443 = .ok (.aload_n 2, 1) := by decide +kernel
theorem dL_law_444 : decode cL_law 444 = .ok (.aload_n 0, 1) := by decide +kernel
theorem dL_law_445 : decode cL_law 445 = .ok (.iload_n 3, 1) := by decide +kernel
theorem dL_law_446 : decode cL_law 446 = .ok (.iconst 1, 1) := by decide +kernel
theorem dL_law_447 : decode cL_law 447 = .ok (.iadd, 1) := by decide +kernel
theorem dL_law_448 : decode cL_law 448 = .ok (.iaload, 1) := by decide +kernel
theorem dL_law_449 : decode cL_law 449 = .ok (.invokevirtual 52, 3) := by decide +kernel
theorem dL_law_452 : decode cL_law 452 = .ok (.if_icmp .eq 893, 3) := by decide +kernel
theorem dL_law_455 : decode cL_law 455 = .ok (.iconst 0, 1) := by decide +kernel
theorem dL_law_456 : decode cL_law 456 = .ok (.ireturn, 1) := by decide +kernel
theorem dL_law_457 : decode cL_law 457 = .ok (.aload_n 1, 1) := by decide +kernel
theorem dL_law_458 : decode cL_law 458 = .ok (.aload_n 0, 1) := by decide +kernel
theorem dL_law_459 : decode cL_law 459 = .ok (.iload_n 3, 1) := by decide +kernel
theorem dL_law_460 : decode cL_law 460 = .ok (.iconst 1, 1) := by decide +kernel
theorem dL_law_461 : decode cL_law 461 = .ok (.iadd, 1) := by decide +kernel
theorem dL_law_462 : decode cL_law 462 = .ok (.iaload, 1) := by decide +kernel
theorem dL_law_463 : decode cL_law 463 = .ok (.invokevirtual 53, 3) := by decide +kernel
theorem dL_law_466 : decode cL_law 466 = .ok (.aload_n 2, 1) := by decide +kernel
theorem dL_law_467 : decode cL_law 467 = .ok (.aload_n 0, 1) := by decide +kernel
theorem dL_law_468 : decode cL_law 468 = .ok (.iload_n 3, 1) := by decide +kernel
theorem dL_law_469 : decode cL_law 469 = .ok (.iconst 1, 1) := by decide +kernel
theorem dL_law_470 : decode cL_law 470 = .ok (.iadd, 1) := by decide +kernel
theorem dL_law_471 : decode cL_law 471 = .ok (.iaload, 1) := by decide +kernel
theorem dL_law_472 : decode cL_law 472 = .ok (.invokevirtual 56, 3) := by decide +kernel
theorem dL_law_475 : decode cL_law 475 = .ok (.if_icmp .eq 870, 3) := by decide +kernel
theorem dL_law_478 : decode cL_law 478 = .ok (.iconst 0, 1) := by decide +kernel
theorem dL_law_479 : decode cL_law 479 = .ok (.ireturn, 1) := by decide +kernel
theorem dL_law_480 : decode cL_law 480 = .ok (.aload_n 1, 1) := by decide +kernel
theorem dL_law_481 : decode cL_law 481 = .ok (.invokevirtual 57, 3) := by decide +kernel
theorem dL_law_484 : decode cL_law 484 = .ok (.aload_n 2, 1) := by decide +kernel
theorem dL_law_485 : decode cL_law 485 = .ok (.invokevirtual 60, 3) := by decide +kernel
theorem dL_law_488 : decode cL_law 488 = .ok (.if_icmp .eq 857, 3) := by decide +kernel
theorem dL_law_491 : decode cL_law 491 = .ok (.iconst 0, 1) := by decide +kernel
theorem dL_law_492 : decode cL_law 492 = .ok (.ireturn, 1) := by decide +kernel
theorem dL_law_493 : decode cL_law 493 = .ok (.aload_n 1, 1) := by decide +kernel
theorem dL_law_494 : decode cL_law 494 = .ok (.aload_n 0, 1) := by decide +kernel
theorem dL_law_495 : decode cL_law 495 = .ok (.iload_n 3, 1) := by decide +kernel
theorem dL_law_496 : decode cL_law 496 = .ok (.iconst 1, 1) := by decide +kernel
theorem dL_law_497 : decode cL_law 497 = .ok (.iadd, 1) := by decide +kernel
theorem dL_law_498 : decode cL_law 498 = .ok (.iaload, 1) := by decide +kernel
theorem dL_law_499 : decode cL_law 499 = .ok (.invokevirtual 61, 3) := by decide +kernel
theorem dL_law_502 : decode cL_law 502 = .ok (.aload_n 2, 1) := by decide +kernel
theorem dL_law_503 : decode cL_law 503 = .ok (.aload_n 0, 1) := by decide +kernel
theorem dL_law_504 : decode cL_law 504 = .ok (.iload_n 3, 1) := by decide +kernel
theorem dL_law_505 : decode cL_law 505 = .ok (.iconst 1, 1) := by decide +kernel
theorem dL_law_506 : decode cL_law 506 = .ok (.iadd, 1) := by decide +kernel
theorem dL_law_507 : decode cL_law 507 = .ok (.iaload, 1) := by decide +kernel
theorem dL_law_508 : decode cL_law 508 = .ok (.invokevirtual 64, 3) := by decide +kernel
theorem dL_law_511 : decode cL_law 511 = .ok (.if_icmp .eq 834, 3) := by decide +kernel
theorem dL_law_514 : decode cL_law 514 = .ok (.iconst 0, 1) := by decide +kernel
theorem dL_law_515 : decode cL_law 515 = .ok (.ireturn, 1) := by decide +kernel
theorem dL_law_516 : decode cL_law 516 = .ok (.aload_n 1, 1) := by decide +kernel
theorem dL_law_517 : decode cL_law 517 = .ok (.aload_n 0, 1) := by decide +kernel
theorem dL_law_518 : decode cL_law 518 = .ok (.iload_n 3, 1) := by decide +kernel
theorem dL_law_519 : decode cL_law 519 = .ok (.iconst 1, 1) := by decide +kernel
theorem dL_law_520 : decode cL_law 520 = .ok (.iadd, 1) := by decide +kernel
theorem dL_law_521 : decode cL_law 521 = .ok (.iaload, 1) := by decide +kernel
theorem dL_law_522 : decode cL_law 522 = .ok (.aload_n 0, 1) := by decide +kernel
theorem dL_law_523 : decode cL_law 523 = .ok (.iload_n 3, 1) := by decide +kernel
theorem dL_law_524 : decode cL_law 524 = .ok (.iconst 2, 1) := by decide +kernel
theorem dL_law_525 : decode cL_law 525 = .ok (.iadd, 1) := by decide +kernel
theorem dL_law_526 : decode cL_law 526 = .ok (.iaload, 1) := by decide +kernel
theorem dL_law_527 : decode cL_law 527 = .ok (.invokevirtual 65, 3) := by decide +kernel
theorem dL_law_530 : decode cL_law 530 = .ok (.aload_n 2, 1) := by decide +kernel
theorem dL_law_531 : decode cL_law 531 = .ok (.aload_n 0, 1) := by decide +kernel
theorem dL_law_532 : decode cL_law 532 = .ok (.iload_n 3, 1) := by decide +kernel
theorem dL_law_533 : decode cL_law 533 = .ok (.iconst 1, 1) := by decide +kernel
theorem dL_law_534 : decode cL_law 534 = .ok (.iadd, 1) := by decide +kernel
theorem dL_law_535 : decode cL_law 535 = .ok (.iaload, 1) := by decide +kernel
theorem dL_law_536 : decode cL_law 536 = .ok (.aload_n 0, 1) := by decide +kernel
theorem dL_law_537 : decode cL_law 537 = .ok (.iload_n 3, 1) := by decide +kernel
theorem dL_law_538 : decode cL_law 538 = .ok (.iconst 2, 1) := by decide +kernel
theorem dL_law_539 : decode cL_law 539 = .ok (.iadd, 1) := by decide +kernel
theorem dL_law_540 : decode cL_law 540 = .ok (.iaload, 1) := by decide +kernel
theorem dL_law_541 : decode cL_law 541 = .ok (.invokevirtual 69, 3) := by decide +kernel
theorem dL_law_544 : decode cL_law 544 = .ok (.if_icmp .eq 801, 3) := by decide +kernel
theorem dL_law_547 : decode cL_law 547 = .ok (.iconst 0, 1) := by decide +kernel
theorem dL_law_548 : decode cL_law 548 = .ok (.ireturn, 1) := by decide +kernel
theorem dL_law_549 : decode cL_law 549 = .ok (.aload_n 1, 1) := by decide +kernel
theorem dL_law_550 : decode cL_law 550 = .ok (.aload_n 0, 1) := by decide +kernel
theorem dL_law_551 : decode cL_law 551 = .ok (.iload_n 3, 1) := by decide +kernel
theorem dL_law_552 : decode cL_law 552 = .ok (.iconst 1, 1) := by decide +kernel
theorem dL_law_553 : decode cL_law 553 = .ok (.iadd, 1) := by decide +kernel
theorem dL_law_554 : decode cL_law 554 = .ok (.iaload, 1) := by decide +kernel
theorem dL_law_555 : decode cL_law 555 = .ok (.aload_n 0, 1) := by decide +kernel
theorem dL_law_556 : decode cL_law 556 = .ok (.iload_n 3, 1) := by decide +kernel
theorem dL_law_557 : decode cL_law 557 = .ok (.iconst 2, 1) := by decide +kernel
theorem dL_law_558 : decode cL_law 558 = .ok (.iadd, 1) := by decide +kernel
theorem dL_law_559 : decode cL_law 559 = .ok (.iaload, 1) := by decide +kernel
theorem dL_law_560 : decode cL_law 560 = .ok (.invokevirtual 70, 3) := by decide +kernel
theorem dL_law_563 : decode cL_law 563 = .ok (.aload_n 2, 1) := by decide +kernel
theorem dL_law_564 : decode cL_law 564 = .ok (.aload_n 0, 1) := by decide +kernel
theorem dL_law_565 : decode cL_law 565 = .ok (.iload_n 3, 1) := by decide +kernel
theorem dL_law_566 : decode cL_law 566 = .ok (.iconst 1, 1) := by decide +kernel
theorem dL_law_567 : decode cL_law 567 = .ok (.iadd, 1) := by decide +kernel
theorem dL_law_568 : decode cL_law 568 = .ok (.iaload, 1) := by decide +kernel
theorem dL_law_569 : decode cL_law 569 = .ok (.aload_n 0, 1) := by decide +kernel
theorem dL_law_570 : decode cL_law 570 = .ok (.iload_n 3, 1) := by decide +kernel
theorem dL_law_571 : decode cL_law 571 = .ok (.iconst 2, 1) := by decide +kernel
theorem dL_law_572 : decode cL_law 572 = .ok (.iadd, 1) := by decide +kernel
theorem dL_law_573 : decode cL_law 573 = .ok (.iaload, 1) := by decide +kernel
theorem dL_law_574 : decode cL_law 574 = .ok (.invokevirtual 73, 3) := by decide +kernel
theorem dL_law_577 : decode cL_law 577 = .ok (.if_icmp .eq 768, 3) := by decide +kernel
theorem dL_law_580 : decode cL_law 580 = .ok (.iconst 0, 1) := by decide +kernel
theorem dL_law_581 : decode cL_law 581 = .ok (.ireturn, 1) := by decide +kernel
theorem dL_law_582 : decode cL_law 582 = .ok (.aload_n 1, 1) := by decide +kernel
theorem dL_law_583 : decode cL_law 583 = .ok (.aload_n 0, 1) := by decide +kernel
theorem dL_law_584 : decode cL_law 584 = .ok (.iload_n 3, 1) := by decide +kernel
theorem dL_law_585 : decode cL_law 585 = .ok (.iconst 1, 1) := by decide +kernel
theorem dL_law_586 : decode cL_law 586 = .ok (.iadd, 1) := by decide +kernel
theorem dL_law_587 : decode cL_law 587 = .ok (.iaload, 1) := by decide +kernel
theorem dL_law_588 : decode cL_law 588 = .ok (.aload_n 0, 1) := by decide +kernel
theorem dL_law_589 : decode cL_law 589 = .ok (.iload_n 3, 1) := by decide +kernel
theorem dL_law_590 : decode cL_law 590 = .ok (.iconst 2, 1) := by decide +kernel
theorem dL_law_591 : decode cL_law 591 = .ok (.iadd, 1) := by decide +kernel
theorem dL_law_592 : decode cL_law 592 = .ok (.iaload, 1) := by decide +kernel
theorem dL_law_593 : decode cL_law 593 = .ok (.aload_n 0, 1) := by decide +kernel
theorem dL_law_594 : decode cL_law 594 = .ok (.iload_n 3, 1) := by decide +kernel
theorem dL_law_595 : decode cL_law 595 = .ok (.iconst 3, 1) := by decide +kernel
theorem dL_law_596 : decode cL_law 596 = .ok (.iadd, 1) := by decide +kernel
theorem dL_law_597 : decode cL_law 597 = .ok (.iaload, 1) := by decide +kernel
theorem dL_law_598 : decode cL_law 598 = .ok (.invokevirtual 74, 3) := by decide +kernel
theorem dL_law_601 : decode cL_law 601 = .ok (.aload_n 2, 1) := by decide +kernel
theorem dL_law_602 : decode cL_law 602 = .ok (.aload_n 0, 1) := by decide +kernel
theorem dL_law_603 : decode cL_law 603 = .ok (.iload_n 3, 1) := by decide +kernel
theorem dL_law_604 : decode cL_law 604 = .ok (.iconst 1, 1) := by decide +kernel
theorem dL_law_605 : decode cL_law 605 = .ok (.iadd, 1) := by decide +kernel
theorem dL_law_606 : decode cL_law 606 = .ok (.iaload, 1) := by decide +kernel
theorem dL_law_607 : decode cL_law 607 = .ok (.aload_n 0, 1) := by decide +kernel
theorem dL_law_608 : decode cL_law 608 = .ok (.iload_n 3, 1) := by decide +kernel
theorem dL_law_609 : decode cL_law 609 = .ok (.iconst 2, 1) := by decide +kernel
theorem dL_law_610 : decode cL_law 610 = .ok (.iadd, 1) := by decide +kernel
theorem dL_law_611 : decode cL_law 611 = .ok (.iaload, 1) := by decide +kernel
theorem dL_law_612 : decode cL_law 612 = .ok (.aload_n 0, 1) := by decide +kernel
theorem dL_law_613 : decode cL_law 613 = .ok (.iload_n 3, 1) := by decide +kernel
theorem dL_law_614 : decode cL_law 614 = .ok (.iconst 3, 1) := by decide +kernel
theorem dL_law_615 : decode cL_law 615 = .ok (.iadd, 1) := by decide +kernel
theorem dL_law_616 : decode cL_law 616 = .ok (.iaload, 1) := by decide +kernel
theorem dL_law_617 : decode cL_law 617 = .ok (.invokevirtual 77, 3) := by decide +kernel
theorem dL_law_620 : decode cL_law 620 = .ok (.if_icmp .eq 725, 3) := by decide +kernel
theorem dL_law_623 : decode cL_law 623 = .ok (.iconst 0, 1) := by decide +kernel
theorem dL_law_624 : decode cL_law 624 = .ok (.ireturn, 1) := by decide +kernel
theorem dL_law_625 : decode cL_law 625 = .ok (.aload_n 1, 1) := by decide +kernel
theorem dL_law_626 : decode cL_law 626 = .ok (.aload_n 0, 1) := by decide +kernel
theorem dL_law_627 : decode cL_law 627 = .ok (.iload_n 3, 1) := by decide +kernel
theorem dL_law_628 : decode cL_law 628 = .ok (.iconst 1, 1) := by decide +kernel
theorem dL_law_629 : decode cL_law 629 = .ok (.iadd, 1) := by decide +kernel
theorem dL_law_630 : decode cL_law 630 = .ok (.iaload, 1) := by decide +kernel
theorem dL_law_631 : decode cL_law 631 = .ok (.aload_n 0, 1) := by decide +kernel
theorem dL_law_632 : decode cL_law 632 = .ok (.iload_n 3, 1) := by decide +kernel
theorem dL_law_633 : decode cL_law 633 = .ok (.iconst 2, 1) := by decide +kernel
theorem dL_law_634 : decode cL_law 634 = .ok (.iadd, 1) := by decide +kernel
theorem dL_law_635 : decode cL_law 635 = .ok (.iaload, 1) := by decide +kernel
theorem dL_law_636 : decode cL_law 636 = .ok (.aload_n 0, 1) := by decide +kernel
theorem dL_law_637 : decode cL_law 637 = .ok (.iload_n 3, 1) := by decide +kernel
theorem dL_law_638 : decode cL_law 638 = .ok (.iconst 3, 1) := by decide +kernel
theorem dL_law_639 : decode cL_law 639 = .ok (.iadd, 1) := by decide +kernel
theorem dL_law_640 : decode cL_law 640 = .ok (.iaload, 1) := by decide +kernel
theorem dL_law_641 : decode cL_law 641 = .ok (.invokevirtual 78, 3) := by decide +kernel
theorem dL_law_644 : decode cL_law 644 = .ok (.aload_n 2, 1) := by decide +kernel
theorem dL_law_645 : decode cL_law 645 = .ok (.aload_n 0, 1) := by decide +kernel
theorem dL_law_646 : decode cL_law 646 = .ok (.iload_n 3, 1) := by decide +kernel
theorem dL_law_647 : decode cL_law 647 = .ok (.iconst 1, 1) := by decide +kernel
theorem dL_law_648 : decode cL_law 648 = .ok (.iadd, 1) := by decide +kernel
theorem dL_law_649 : decode cL_law 649 = .ok (.iaload, 1) := by decide +kernel
theorem dL_law_650 : decode cL_law 650 = .ok (.aload_n 0, 1) := by decide +kernel
theorem dL_law_651 : decode cL_law 651 = .ok (.iload_n 3, 1) := by decide +kernel
theorem dL_law_652 : decode cL_law 652 = .ok (.iconst 2, 1) := by decide +kernel
theorem dL_law_653 : decode cL_law 653 = .ok (.iadd, 1) := by decide +kernel
theorem dL_law_654 : decode cL_law 654 = .ok (.iaload, 1) := by decide +kernel
theorem dL_law_655 : decode cL_law 655 = .ok (.aload_n 0, 1) := by decide +kernel
theorem dL_law_656 : decode cL_law 656 = .ok (.iload_n 3, 1) := by decide +kernel
theorem dL_law_657 : decode cL_law 657 = .ok (.iconst 3, 1) := by decide +kernel
theorem dL_law_658 : decode cL_law 658 = .ok (.iadd, 1) := by decide +kernel
theorem dL_law_659 : decode cL_law 659 = .ok (.iaload, 1) := by decide +kernel
theorem dL_law_660 : decode cL_law 660 = .ok (.invokevirtual 81, 3) := by decide +kernel
theorem dL_law_663 : decode cL_law 663 = .ok (.if_icmp .eq 682, 3) := by decide +kernel
theorem dL_law_666 : decode cL_law 666 = .ok (.iconst 0, 1) := by decide +kernel
theorem dL_law_667 : decode cL_law 667 = .ok (.ireturn, 1) := by decide +kernel
theorem dL_law_668 : decode cL_law 668 = .ok (.aload_n 1, 1) := by decide +kernel
theorem dL_law_669 : decode cL_law 669 = .ok (.aload_n 0, 1) := by decide +kernel
theorem dL_law_670 : decode cL_law 670 = .ok (.iload_n 3, 1) := by decide +kernel
theorem dL_law_671 : decode cL_law 671 = .ok (.iconst 1, 1) := by decide +kernel
theorem dL_law_672 : decode cL_law 672 = .ok (.iadd, 1) := by decide +kernel
theorem dL_law_673 : decode cL_law 673 = .ok (.iaload, 1) := by decide +kernel
theorem dL_law_674 : decode cL_law 674 = .ok (.invokevirtual 82, 3) := by decide +kernel
theorem dL_law_677 : decode cL_law 677 = .ok (.aload_n 2, 1) := by decide +kernel
theorem dL_law_678 : decode cL_law 678 = .ok (.aload_n 0, 1) := by decide +kernel
theorem dL_law_679 : decode cL_law 679 = .ok (.iload_n 3, 1) := by decide +kernel
theorem dL_law_680 : decode cL_law 680 = .ok (.iconst 1, 1) := by decide +kernel
theorem dL_law_681 : decode cL_law 681 = .ok (.iadd, 1) := by decide +kernel
theorem dL_law_682 : decode cL_law 682 = .ok (.iaload, 1) := by decide +kernel
theorem dL_law_683 : decode cL_law 683 = .ok (.invokevirtual 85, 3) := by decide +kernel
theorem dL_law_686 : decode cL_law 686 = .ok (.if_icmp .eq 659, 3) := by decide +kernel
theorem dL_law_689 : decode cL_law 689 = .ok (.iconst 0, 1) := by decide +kernel
theorem dL_law_690 : decode cL_law 690 = .ok (.ireturn, 1) := by decide +kernel
theorem dL_law_691 : decode cL_law 691 = .ok (.aload_n 1, 1) := by decide +kernel
theorem dL_law_692 : decode cL_law 692 = .ok (.aload_n 0, 1) := by decide +kernel
theorem dL_law_693 : decode cL_law 693 = .ok (.iload_n 3, 1) := by decide +kernel
theorem dL_law_694 : decode cL_law 694 = .ok (.iconst 1, 1) := by decide +kernel
theorem dL_law_695 : decode cL_law 695 = .ok (.iadd, 1) := by decide +kernel
theorem dL_law_696 : decode cL_law 696 = .ok (.iaload, 1) := by decide +kernel
theorem dL_law_697 : decode cL_law 697 = .ok (.invokevirtual 86, 3) := by decide +kernel
theorem dL_law_700 : decode cL_law 700 = .ok (.aload_n 2, 1) := by decide +kernel
theorem dL_law_701 : decode cL_law 701 = .ok (.aload_n 0, 1) := by decide +kernel
theorem dL_law_702 : decode cL_law 702 = .ok (.iload_n 3, 1) := by decide +kernel
theorem dL_law_703 : decode cL_law 703 = .ok (.iconst 1, 1) := by decide +kernel
theorem dL_law_704 : decode cL_law 704 = .ok (.iadd, 1) := by decide +kernel
theorem dL_law_705 : decode cL_law 705 = .ok (.iaload, 1) := by decide +kernel
theorem dL_law_706 : decode cL_law 706 = .ok (.invokevirtual 89, 3) := by decide +kernel
theorem dL_law_709 : decode cL_law 709 = .ok (.if_icmp .eq 636, 3) := by decide +kernel
theorem dL_law_712 : decode cL_law 712 = .ok (.iconst 0, 1) := by decide +kernel
theorem dL_law_713 : decode cL_law 713 = .ok (.ireturn, 1) := by decide +kernel
theorem dL_law_714 : decode cL_law 714 = .ok (.aload_n 1, 1) := by decide +kernel
theorem dL_law_715 : decode cL_law 715 = .ok (.aload_n 0, 1) := by decide +kernel
theorem dL_law_716 : decode cL_law 716 = .ok (.iload_n 3, 1) := by decide +kernel
theorem dL_law_717 : decode cL_law 717 = .ok (.iconst 1, 1) := by decide +kernel
theorem dL_law_718 : decode cL_law 718 = .ok (.iadd, 1) := by decide +kernel
theorem dL_law_719 : decode cL_law 719 = .ok (.iaload, 1) := by decide +kernel
theorem dL_law_720 : decode cL_law 720 = .ok (.aload_n 0, 1) := by decide +kernel
theorem dL_law_721 : decode cL_law 721 = .ok (.iload_n 3, 1) := by decide +kernel
theorem dL_law_722 : decode cL_law 722 = .ok (.iconst 2, 1) := by decide +kernel
theorem dL_law_723 : decode cL_law 723 = .ok (.iadd, 1) := by decide +kernel
theorem dL_law_724 : decode cL_law 724 = .ok (.iaload, 1) := by decide +kernel
theorem dL_law_725 : decode cL_law 725 = .ok (.invokevirtual 90, 3) := by decide +kernel
theorem dL_law_728 : decode cL_law 728 = .ok (.aload_n 2, 1) := by decide +kernel
theorem dL_law_729 : decode cL_law 729 = .ok (.aload_n 0, 1) := by decide +kernel
theorem dL_law_730 : decode cL_law 730 = .ok (.iload_n 3, 1) := by decide +kernel
theorem dL_law_731 : decode cL_law 731 = .ok (.iconst 1, 1) := by decide +kernel
theorem dL_law_732 : decode cL_law 732 = .ok (.iadd, 1) := by decide +kernel
theorem dL_law_733 : decode cL_law 733 = .ok (.iaload, 1) := by decide +kernel
theorem dL_law_734 : decode cL_law 734 = .ok (.aload_n 0, 1) := by decide +kernel
theorem dL_law_735 : decode cL_law 735 = .ok (.iload_n 3, 1) := by decide +kernel
theorem dL_law_736 : decode cL_law 736 = .ok (.iconst 2, 1) := by decide +kernel
theorem dL_law_737 : decode cL_law 737 = .ok (.iadd, 1) := by decide +kernel
theorem dL_law_738 : decode cL_law 738 = .ok (.iaload, 1) := by decide +kernel
theorem dL_law_739 : decode cL_law 739 = .ok (.invokevirtual 93, 3) := by decide +kernel
theorem dL_law_742 : decode cL_law 742 = .ok (.if_icmp .eq 603, 3) := by decide +kernel
theorem dL_law_745 : decode cL_law 745 = .ok (.iconst 0, 1) := by decide +kernel
theorem dL_law_746 : decode cL_law 746 = .ok (.ireturn, 1) := by decide +kernel
theorem dL_law_747 : decode cL_law 747 = .ok (.aload_n 1, 1) := by decide +kernel
theorem dL_law_748 : decode cL_law 748 = .ok (.invokevirtual 94, 3) := by decide +kernel
theorem dL_law_751 : decode cL_law 751 = .ok (.aload_n 2, 1) := by decide +kernel
theorem dL_law_752 : decode cL_law 752 = .ok (.invokevirtual 97, 3) := by decide +kernel
theorem dL_law_755 : decode cL_law 755 = .ok (.if_icmp .eq 590, 3) := by decide +kernel
theorem dL_law_758 : decode cL_law 758 = .ok (.iconst 0, 1) := by decide +kernel
theorem dL_law_759 : decode cL_law 759 = .ok (.ireturn, 1) := by decide +kernel
theorem dL_law_760 : decode cL_law 760 = .ok (.aload_n 1, 1) := by decide +kernel
theorem dL_law_761 : decode cL_law 761 = .ok (.aload_n 0, 1) := by decide +kernel
theorem dL_law_762 : decode cL_law 762 = .ok (.iload_n 3, 1) := by decide +kernel
theorem dL_law_763 : decode cL_law 763 = .ok (.iconst 1, 1) := by decide +kernel
theorem dL_law_764 : decode cL_law 764 = .ok (.iadd, 1) := by decide +kernel
theorem dL_law_765 : decode cL_law 765 = .ok (.iaload, 1) := by decide +kernel
theorem dL_law_766 : decode cL_law 766 = .ok (.aload_n 0, 1) := by decide +kernel
theorem dL_law_767 : decode cL_law 767 = .ok (.iload_n 3, 1) := by decide +kernel
theorem dL_law_768 : decode cL_law 768 = .ok (.iconst 2, 1) := by decide +kernel
theorem dL_law_769 : decode cL_law 769 = .ok (.iadd, 1) := by decide +kernel
theorem dL_law_770 : decode cL_law 770 = .ok (.iaload, 1) := by decide +kernel
theorem dL_law_771 : decode cL_law 771 = .ok (.invokevirtual 98, 3) := by decide +kernel
theorem dL_law_774 : decode cL_law 774 = .ok (.aload_n 2, 1) := by decide +kernel
theorem dL_law_775 : decode cL_law 775 = .ok (.aload_n 0, 1) := by decide +kernel
theorem dL_law_776 : decode cL_law 776 = .ok (.iload_n 3, 1) := by decide +kernel
theorem dL_law_777 : decode cL_law 777 = .ok (.iconst 1, 1) := by decide +kernel
theorem dL_law_778 : decode cL_law 778 = .ok (.iadd, 1) := by decide +kernel
theorem dL_law_779 : decode cL_law 779 = .ok (.iaload, 1) := by decide +kernel
theorem dL_law_780 : decode cL_law 780 = .ok (.aload_n 0, 1) := by decide +kernel
theorem dL_law_781 : decode cL_law 781 = .ok (.iload_n 3, 1) := by decide +kernel
theorem dL_law_782 : decode cL_law 782 = .ok (.iconst 2, 1) := by decide +kernel
theorem dL_law_783 : decode cL_law 783 = .ok (.iadd, 1) := by decide +kernel
theorem dL_law_784 : decode cL_law 784 = .ok (.iaload, 1) := by decide +kernel
theorem dL_law_785 : decode cL_law 785 = .ok (.invokevirtual 101, 3) := by decide +kernel
theorem dL_law_788 : decode cL_law 788 = .ok (.if_icmp .eq 557, 3) := by decide +kernel
theorem dL_law_791 : decode cL_law 791 = .ok (.iconst 0, 1) := by decide +kernel
theorem dL_law_792 : decode cL_law 792 = .ok (.ireturn, 1) := by decide +kernel
theorem dL_law_793 : decode cL_law 793 = .ok (.aload_n 1, 1) := by decide +kernel
theorem dL_law_794 : decode cL_law 794 = .ok (.aload_n 0, 1) := by decide +kernel
theorem dL_law_795 : decode cL_law 795 = .ok (.iload_n 3, 1) := by decide +kernel
theorem dL_law_796 : decode cL_law 796 = .ok (.iconst 1, 1) := by decide +kernel
theorem dL_law_797 : decode cL_law 797 = .ok (.iadd, 1) := by decide +kernel
theorem dL_law_798 : decode cL_law 798 = .ok (.iaload, 1) := by decide +kernel
theorem dL_law_799 : decode cL_law 799 = .ok (.aload_n 0, 1) := by decide +kernel
theorem dL_law_800 : decode cL_law 800 = .ok (.iload_n 3, 1) := by decide +kernel
theorem dL_law_801 : decode cL_law 801 = .ok (.iconst 2, 1) := by decide +kernel
theorem dL_law_802 : decode cL_law 802 = .ok (.iadd, 1) := by decide +kernel
theorem dL_law_803 : decode cL_law 803 = .ok (.iaload, 1) := by decide +kernel
theorem dL_law_804 : decode cL_law 804 = .ok (.aload_n 0, 1) := by decide +kernel
theorem dL_law_805 : decode cL_law 805 = .ok (.iload_n 3, 1) := by decide +kernel
theorem dL_law_806 : decode cL_law 806 = .ok (.iconst 3, 1) := by decide +kernel
theorem dL_law_807 : decode cL_law 807 = .ok (.iadd, 1) := by decide +kernel
theorem dL_law_808 : decode cL_law 808 = .ok (.iaload, 1) := by decide +kernel
theorem dL_law_809 : decode cL_law 809 = .ok (.aload_n 0, 1) := by decide +kernel
theorem dL_law_810 : decode cL_law 810 = .ok (.iload_n 3, 1) := by decide +kernel
theorem dL_law_811 : decode cL_law 811 = .ok (.iconst 4, 1) := by decide +kernel
theorem dL_law_812 : decode cL_law 812 = .ok (.iadd, 1) := by decide +kernel
theorem dL_law_813 : decode cL_law 813 = .ok (.iaload, 1) := by decide +kernel
theorem dL_law_814 : decode cL_law 814 = .ok (.invokevirtual 102, 3) := by decide +kernel
theorem dL_law_817 : decode cL_law 817 = .ok (.aload_n 2, 1) := by decide +kernel
theorem dL_law_818 : decode cL_law 818 = .ok (.aload_n 0, 1) := by decide +kernel
theorem dL_law_819 : decode cL_law 819 = .ok (.iload_n 3, 1) := by decide +kernel
theorem dL_law_820 : decode cL_law 820 = .ok (.iconst 1, 1) := by decide +kernel
theorem dL_law_821 : decode cL_law 821 = .ok (.iadd, 1) := by decide +kernel
theorem dL_law_822 : decode cL_law 822 = .ok (.iaload, 1) := by decide +kernel
theorem dL_law_823 : decode cL_law 823 = .ok (.aload_n 0, 1) := by decide +kernel
theorem dL_law_824 : decode cL_law 824 = .ok (.iload_n 3, 1) := by decide +kernel
theorem dL_law_825 : decode cL_law 825 = .ok (.iconst 2, 1) := by decide +kernel
theorem dL_law_826 : decode cL_law 826 = .ok (.iadd, 1) := by decide +kernel
theorem dL_law_827 : decode cL_law 827 = .ok (.iaload, 1) := by decide +kernel
theorem dL_law_828 : decode cL_law 828 = .ok (.aload_n 0, 1) := by decide +kernel
theorem dL_law_829 : decode cL_law 829 = .ok (.iload_n 3, 1) := by decide +kernel
theorem dL_law_830 : decode cL_law 830 = .ok (.iconst 3, 1) := by decide +kernel
theorem dL_law_831 : decode cL_law 831 = .ok (.iadd, 1) := by decide +kernel
theorem dL_law_832 : decode cL_law 832 = .ok (.iaload, 1) := by decide +kernel
theorem dL_law_833 : decode cL_law 833 = .ok (.aload_n 0, 1) := by decide +kernel
theorem dL_law_834 : decode cL_law 834 = .ok (.iload_n 3, 1) := by decide +kernel
theorem dL_law_835 : decode cL_law 835 = .ok (.iconst 4, 1) := by decide +kernel
theorem dL_law_836 : decode cL_law 836 = .ok (.iadd, 1) := by decide +kernel
theorem dL_law_837 : decode cL_law 837 = .ok (.iaload, 1) := by decide +kernel
theorem dL_law_838 : decode cL_law 838 = .ok (.invokevirtual 106, 3) := by decide +kernel
theorem dL_law_841 : decode cL_law 841 = .ok (.if_icmp .eq 504, 3) := by decide +kernel
theorem dL_law_844 : decode cL_law 844 = .ok (.iconst 0, 1) := by decide +kernel
theorem dL_law_845 : decode cL_law 845 = .ok (.ireturn, 1) := by decide +kernel
theorem dL_law_846 : decode cL_law 846 = .ok (.aload_n 1, 1) := by decide +kernel
theorem dL_law_847 : decode cL_law 847 = .ok (.aload_n 0, 1) := by decide +kernel
theorem dL_law_848 : decode cL_law 848 = .ok (.iload_n 3, 1) := by decide +kernel
theorem dL_law_849 : decode cL_law 849 = .ok (.iconst 1, 1) := by decide +kernel
theorem dL_law_850 : decode cL_law 850 = .ok (.iadd, 1) := by decide +kernel
theorem dL_law_851 : decode cL_law 851 = .ok (.iaload, 1) := by decide +kernel
theorem dL_law_852 : decode cL_law 852 = .ok (.aload_n 0, 1) := by decide +kernel
theorem dL_law_853 : decode cL_law 853 = .ok (.iload_n 3, 1) := by decide +kernel
theorem dL_law_854 : decode cL_law 854 = .ok (.iconst 2, 1) := by decide +kernel
theorem dL_law_855 : decode cL_law 855 = .ok (.iadd, 1) := by decide +kernel
theorem dL_law_856 : decode cL_law 856 = .ok (.iaload, 1) := by decide +kernel
theorem dL_law_857 : decode cL_law 857 = .ok (.invokevirtual 107, 3) := by decide +kernel
theorem dL_law_860 : decode cL_law 860 = .ok (.aload_n 2, 1) := by decide +kernel
theorem dL_law_861 : decode cL_law 861 = .ok (.aload_n 0, 1) := by decide +kernel
theorem dL_law_862 : decode cL_law 862 = .ok (.iload_n 3, 1) := by decide +kernel
theorem dL_law_863 : decode cL_law 863 = .ok (.iconst 1, 1) := by decide +kernel
theorem dL_law_864 : decode cL_law 864 = .ok (.iadd, 1) := by decide +kernel
theorem dL_law_865 : decode cL_law 865 = .ok (.iaload, 1) := by decide +kernel
theorem dL_law_866 : decode cL_law 866 = .ok (.aload_n 0, 1) := by decide +kernel
theorem dL_law_867 : decode cL_law 867 = .ok (.iload_n 3, 1) := by decide +kernel
theorem dL_law_868 : decode cL_law 868 = .ok (.iconst 2, 1) := by decide +kernel
theorem dL_law_869 : decode cL_law 869 = .ok (.iadd, 1) := by decide +kernel
theorem dL_law_870 : decode cL_law 870 = .ok (.iaload, 1) := by decide +kernel
theorem dL_law_871 : decode cL_law 871 = .ok (.invokevirtual 110, 3) := by decide +kernel
theorem dL_law_874 : decode cL_law 874 = .ok (.if_icmp .eq 471, 3) := by decide +kernel
theorem dL_law_877 : decode cL_law 877 = .ok (.iconst 0, 1) := by decide +kernel
theorem dL_law_878 : decode cL_law 878 = .ok (.ireturn, 1) := by decide +kernel
theorem dL_law_879 : decode cL_law 879 = .ok (.aload_n 1, 1) := by decide +kernel
theorem dL_law_880 : decode cL_law 880 = .ok (.aload_n 0, 1) := by decide +kernel
theorem dL_law_881 : decode cL_law 881 = .ok (.iload_n 3, 1) := by decide +kernel
theorem dL_law_882 : decode cL_law 882 = .ok (.iconst 1, 1) := by decide +kernel
theorem dL_law_883 : decode cL_law 883 = .ok (.iadd, 1) := by decide +kernel
theorem dL_law_884 : decode cL_law 884 = .ok (.iaload, 1) := by decide +kernel
theorem dL_law_885 : decode cL_law 885 = .ok (.aload_n 0, 1) := by decide +kernel
theorem dL_law_886 : decode cL_law 886 = .ok (.iload_n 3, 1) := by decide +kernel
theorem dL_law_887 : decode cL_law 887 = .ok (.iconst 2, 1) := by decide +kernel
theorem dL_law_888 : decode cL_law 888 = .ok (.iadd, 1) := by decide +kernel
theorem dL_law_889 : decode cL_law 889 = .ok (.iaload, 1) := by decide +kernel
theorem dL_law_890 : decode cL_law 890 = .ok (.invokevirtual 111, 3) := by decide +kernel
theorem dL_law_893 : decode cL_law 893 = .ok (.aload_n 2, 1) := by decide +kernel
theorem dL_law_894 : decode cL_law 894 = .ok (.aload_n 0, 1) := by decide +kernel
theorem dL_law_895 : decode cL_law 895 = .ok (.iload_n 3, 1) := by decide +kernel
theorem dL_law_896 : decode cL_law 896 = .ok (.iconst 1, 1) := by decide +kernel
theorem dL_law_897 : decode cL_law 897 = .ok (.iadd, 1) := by decide +kernel
theorem dL_law_898 : decode cL_law 898 = .ok (.iaload, 1) := by decide +kernel
theorem dL_law_899 : decode cL_law 899 = .ok (.aload_n 0, 1) := by decide +kernel
theorem dL_law_900 : decode cL_law 900 = .ok (.iload_n 3, 1) := by decide +kernel
theorem dL_law_901 : decode cL_law 901 = .ok (.iconst 2, 1) := by decide +kernel
theorem dL_law_902 : decode cL_law 902 = .ok (.iadd, 1) := by decide +kernel
theorem dL_law_903 : decode cL_law 903 = .ok (.iaload, 1) := by decide +kernel
theorem dL_law_904 : decode cL_law 904 = .ok (.invokevirtual 114, 3) := by decide +kernel
theorem dL_law_907 : decode cL_law 907 = .ok (.if_icmp .eq 438, 3) := by decide +kernel
theorem dL_law_910 : decode cL_law 910 = .ok (.iconst 0, 1) := by decide +kernel
theorem dL_law_911 : decode cL_law 911 = .ok (.ireturn, 1) := by decide +kernel
theorem dL_law_912 : decode cL_law 912 = .ok (.aload_n 1, 1) := by decide +kernel
theorem dL_law_913 : decode cL_law 913 = .ok (.aload_n 0, 1) := by decide +kernel
theorem dL_law_914 : decode cL_law 914 = .ok (.iload_n 3, 1) := by decide +kernel
theorem dL_law_915 : decode cL_law 915 = .ok (.iconst 1, 1) := by decide +kernel
theorem dL_law_916 : decode cL_law 916 = .ok (.iadd, 1) := by decide +kernel
theorem dL_law_917 : decode cL_law 917 = .ok (.iaload, 1) := by decide +kernel
theorem dL_law_918 : decode cL_law 918 = .ok (.invokevirtual 115, 3) := by decide +kernel
theorem dL_law_921 : decode cL_law 921 = .ok (.aload_n 2, 1) := by decide +kernel
theorem dL_law_922 : decode cL_law 922 = .ok (.aload_n 0, 1) := by decide +kernel
theorem dL_law_923 : decode cL_law 923 = .ok (.iload_n 3, 1) := by decide +kernel
theorem dL_law_924 : decode cL_law 924 = .ok (.iconst 1, 1) := by decide +kernel
theorem dL_law_925 : decode cL_law 925 = .ok (.iadd, 1) := by decide +kernel
theorem dL_law_926 : decode cL_law 926 = .ok (.iaload, 1) := by decide +kernel
theorem dL_law_927 : decode cL_law 927 = .ok (.invokevirtual 118, 3) := by decide +kernel
theorem dL_law_930 : decode cL_law 930 = .ok (.if_icmp .eq 415, 3) := by decide +kernel
theorem dL_law_933 : decode cL_law 933 = .ok (.iconst 0, 1) := by decide +kernel
theorem dL_law_934 : decode cL_law 934 = .ok (.ireturn, 1) := by decide +kernel
theorem dL_law_935 : decode cL_law 935 = .ok (.aload_n 1, 1) := by decide +kernel
theorem dL_law_936 : decode cL_law 936 = .ok (.aload_n 0, 1) := by decide +kernel
theorem dL_law_937 : decode cL_law 937 = .ok (.iload_n 3, 1) := by decide +kernel
theorem dL_law_938 : decode cL_law 938 = .ok (.iconst 1, 1) := by decide +kernel
theorem dL_law_939 : decode cL_law 939 = .ok (.iadd, 1) := by decide +kernel
theorem dL_law_940 : decode cL_law 940 = .ok (.iaload, 1) := by decide +kernel
theorem dL_law_941 : decode cL_law 941 = .ok (.aload_n 0, 1) := by decide +kernel
theorem dL_law_942 : decode cL_law 942 = .ok (.iload_n 3, 1) := by decide +kernel
theorem dL_law_943 : decode cL_law 943 = .ok (.iconst 2, 1) := by decide +kernel
theorem dL_law_944 : decode cL_law 944 = .ok (.iadd, 1) := by decide +kernel
theorem dL_law_945 : decode cL_law 945 = .ok (.iaload, 1) := by decide +kernel
theorem dL_law_946 : decode cL_law 946 = .ok (.aload_n 0, 1) := by decide +kernel
theorem dL_law_947 : decode cL_law 947 = .ok (.iload_n 3, 1) := by decide +kernel
theorem dL_law_948 : decode cL_law 948 = .ok (.iconst 3, 1) := by decide +kernel
theorem dL_law_949 : decode cL_law 949 = .ok (.iadd, 1) := by decide +kernel
theorem dL_law_950 : decode cL_law 950 = .ok (.iaload, 1) := by decide +kernel
theorem dL_law_951 : decode cL_law 951 = .ok (.aload_n 0, 1) := by decide +kernel
theorem dL_law_952 : decode cL_law 952 = .ok (.iload_n 3, 1) := by decide +kernel
theorem dL_law_953 : decode cL_law 953 = .ok (.iconst 4, 1) := by decide +kernel
theorem dL_law_954 : decode cL_law 954 = .ok (.iadd, 1) := by decide +kernel
theorem dL_law_955 : decode cL_law 955 = .ok (.iaload, 1) := by decide +kernel
theorem dL_law_956 : decode cL_law 956 = .ok (.invokevirtual 119, 3) := by decide +kernel
theorem dL_law_959 : decode cL_law 959 = .ok (.aload_n 2, 1) := by decide +kernel
theorem dL_law_960 : decode cL_law 960 = .ok (.aload_n 0, 1) := by decide +kernel
theorem dL_law_961 : decode cL_law 961 = .ok (.iload_n 3, 1) := by decide +kernel
theorem dL_law_962 : decode cL_law 962 = .ok (.iconst 1, 1) := by decide +kernel
theorem dL_law_963 : decode cL_law 963 = .ok (.iadd, 1) := by decide +kernel
theorem dL_law_964 : decode cL_law 964 = .ok (.iaload, 1) := by decide +kernel
theorem dL_law_965 : decode cL_law 965 = .ok (.aload_n 0, 1) := by decide +kernel
theorem dL_law_966 : decode cL_law 966 = .ok (.iload_n 3, 1) := by decide +kernel
theorem dL_law_967 : decode cL_law 967 = .ok (.iconst 2, 1) := by decide +kernel
theorem dL_law_968 : decode cL_law 968 = .ok (.iadd, 1) := by decide +kernel
theorem dL_law_969 : decode cL_law 969 = .ok (.iaload, 1) := by decide +kernel
theorem dL_law_970 : decode cL_law 970 = .ok (.aload_n 0, 1) := by decide +kernel
theorem dL_law_971 : decode cL_law 971 = .ok (.iload_n 3, 1) := by decide +kernel
theorem dL_law_972 : decode cL_law 972 = .ok (.iconst 3, 1) := by decide +kernel
theorem dL_law_973 : decode cL_law 973 = .ok (.iadd, 1) := by decide +kernel
theorem dL_law_974 : decode cL_law 974 = .ok (.iaload, 1) := by decide +kernel
theorem dL_law_975 : decode cL_law 975 = .ok (.aload_n 0, 1) := by decide +kernel
theorem dL_law_976 : decode cL_law 976 = .ok (.iload_n 3, 1) := by decide +kernel
theorem dL_law_977 : decode cL_law 977 = .ok (.iconst 4, 1) := by decide +kernel
theorem dL_law_978 : decode cL_law 978 = .ok (.iadd, 1) := by decide +kernel
theorem dL_law_979 : decode cL_law 979 = .ok (.iaload, 1) := by decide +kernel
theorem dL_law_980 : decode cL_law 980 = .ok (.invokevirtual 122, 3) := by decide +kernel
theorem dL_law_983 : decode cL_law 983 = .ok (.if_icmp .eq 362, 3) := by decide +kernel
theorem dL_law_986 : decode cL_law 986 = .ok (.iconst 0, 1) := by decide +kernel
theorem dL_law_987 : decode cL_law 987 = .ok (.ireturn, 1) := by decide +kernel
theorem dL_law_988 : decode cL_law 988 = .ok (.aload_n 1, 1) := by decide +kernel
theorem dL_law_989 : decode cL_law 989 = .ok (.aload_n 0, 1) := by decide +kernel
theorem dL_law_990 : decode cL_law 990 = .ok (.iload_n 3, 1) := by decide +kernel
theorem dL_law_991 : decode cL_law 991 = .ok (.iconst 1, 1) := by decide +kernel
theorem dL_law_992 : decode cL_law 992 = .ok (.iadd, 1) := by decide +kernel
theorem dL_law_993 : decode cL_law 993 = .ok (.iaload, 1) := by decide +kernel
theorem dL_law_994 : decode cL_law 994 = .ok (.aload_n 0, 1) := by decide +kernel
theorem dL_law_995 : decode cL_law 995 = .ok (.iload_n 3, 1) := by decide +kernel
theorem dL_law_996 : decode cL_law 996 = .ok (.iconst 2, 1) := by decide +kernel
theorem dL_law_997 : decode cL_law 997 = .ok (.iadd, 1) := by decide +kernel
theorem dL_law_998 : decode cL_law 998 = .ok (.iaload, 1) := by decide +kernel
theorem dL_law_999 : decode cL_law 999 = .ok (.invokevirtual 123, 3) := by decide +kernel
theorem dL_law_1002 : decode cL_law 1002 = .ok (.aload_n 2, 1) := by decide +kernel
theorem dL_law_1003 : decode cL_law 1003 = .ok (.aload_n 0, 1) := by decide +kernel
theorem dL_law_1004 : decode cL_law 1004 = .ok (.iload_n 3, 1) := by decide +kernel
theorem dL_law_1005 : decode cL_law 1005 = .ok (.iconst 1, 1) := by decide +kernel
theorem dL_law_1006 : decode cL_law 1006 = .ok (.iadd, 1) := by decide +kernel
theorem dL_law_1007 : decode cL_law 1007 = .ok (.iaload, 1) := by decide +kernel
theorem dL_law_1008 : decode cL_law 1008 = .ok (.aload_n 0, 1) := by decide +kernel
theorem dL_law_1009 : decode cL_law 1009 = .ok (.iload_n 3, 1) := by decide +kernel
theorem dL_law_1010 : decode cL_law 1010 = .ok (.iconst 2, 1) := by decide +kernel
theorem dL_law_1011 : decode cL_law 1011 = .ok (.iadd, 1) := by decide +kernel
theorem dL_law_1012 : decode cL_law 1012 = .ok (.iaload, 1) := by decide +kernel
theorem dL_law_1013 : decode cL_law 1013 = .ok (.invokevirtual 126, 3) := by decide +kernel
theorem dL_law_1016 : decode cL_law 1016 = .ok (.if_icmp .eq 329, 3) := by decide +kernel
theorem dL_law_1019 : decode cL_law 1019 = .ok (.iconst 0, 1) := by decide +kernel
theorem dL_law_1020 : decode cL_law 1020 = .ok (.ireturn, 1) := by decide +kernel
theorem dL_law_1021 : decode cL_law 1021 = .ok (.aload_n 1, 1) := by decide +kernel
theorem dL_law_1022 : decode cL_law 1022 = .ok (.aload_n 0, 1) := by decide +kernel
theorem dL_law_1023 : decode cL_law 1023 = .ok (.iload_n 3, 1) := by decide +kernel
theorem dL_law_1024 : decode cL_law 1024 = .ok (.iconst 1, 1) := by decide +kernel
theorem dL_law_1025 : decode cL_law 1025 = .ok (.iadd, 1) := by decide +kernel
theorem dL_law_1026 : decode cL_law 1026 = .ok (.iaload, 1) := by decide +kernel
theorem dL_law_1027 : decode cL_law 1027 = .ok (.aload_n 0, 1) := by decide +kernel
theorem dL_law_1028 : decode cL_law 1028 = .ok (.iload_n 3, 1) := by decide +kernel
theorem dL_law_1029 : decode cL_law 1029 = .ok (.iconst 2, 1) := by decide +kernel
theorem dL_law_1030 : decode cL_law 1030 = .ok (.iadd, 1) := by decide +kernel
theorem dL_law_1031 : decode cL_law 1031 = .ok (.iaload, 1) := by decide +kernel
theorem dL_law_1032 : decode cL_law 1032 = .ok (.invokevirtual 127, 3) := by decide +kernel
theorem dL_law_1035 : decode cL_law 1035 = .ok (.aload_n 2, 1) := by decide +kernel
theorem dL_law_1036 : decode cL_law 1036 = .ok (.aload_n 0, 1) := by decide +kernel
theorem dL_law_1037 : decode cL_law 1037 = .ok (.iload_n 3, 1) := by decide +kernel
theorem dL_law_1038 : decode cL_law 1038 = .ok (.iconst 1, 1) := by decide +kernel
theorem dL_law_1039 : decode cL_law 1039 = .ok (.iadd, 1) := by decide +kernel
theorem dL_law_1040 : decode cL_law 1040 = .ok (.iaload, 1) := by decide +kernel
theorem dL_law_1041 : decode cL_law 1041 = .ok (.aload_n 0, 1) := by decide +kernel
theorem dL_law_1042 : decode cL_law 1042 = .ok (.iload_n 3, 1) := by decide +kernel
theorem dL_law_1043 : decode cL_law 1043 = .ok (.iconst 2, 1) := by decide +kernel
theorem dL_law_1044 : decode cL_law 1044 = .ok (.iadd, 1) := by decide +kernel
theorem dL_law_1045 : decode cL_law 1045 = .ok (.iaload, 1) := by decide +kernel
theorem dL_law_1046 : decode cL_law 1046 = .ok (.invokevirtual 130, 3) := by decide +kernel
theorem dL_law_1049 : decode cL_law 1049 = .ok (.if_icmp .eq 296, 3) := by decide +kernel
theorem dL_law_1052 : decode cL_law 1052 = .ok (.iconst 0, 1) := by decide +kernel
theorem dL_law_1053 : decode cL_law 1053 = .ok (.ireturn, 1) := by decide +kernel
theorem dL_law_1054 : decode cL_law 1054 = .ok (.aload_n 1, 1) := by decide +kernel
theorem dL_law_1055 : decode cL_law 1055 = .ok (.aload_n 0, 1) := by decide +kernel
theorem dL_law_1056 : decode cL_law 1056 = .ok (.iload_n 3, 1) := by decide +kernel
theorem dL_law_1057 : decode cL_law 1057 = .ok (.iconst 1, 1) := by decide +kernel
theorem dL_law_1058 : decode cL_law 1058 = .ok (.iadd, 1) := by decide +kernel
theorem dL_law_1059 : decode cL_law 1059 = .ok (.iaload, 1) := by decide +kernel
theorem dL_law_1060 : decode cL_law 1060 = .ok (.aload_n 0, 1) := by decide +kernel
theorem dL_law_1061 : decode cL_law 1061 = .ok (.iload_n 3, 1) := by decide +kernel
theorem dL_law_1062 : decode cL_law 1062 = .ok (.iconst 2, 1) := by decide +kernel
theorem dL_law_1063 : decode cL_law 1063 = .ok (.iadd, 1) := by decide +kernel
theorem dL_law_1064 : decode cL_law 1064 = .ok (.iaload, 1) := by decide +kernel
theorem dL_law_1065 : decode cL_law 1065 = .ok (.aload_n 0, 1) := by decide +kernel
theorem dL_law_1066 : decode cL_law 1066 = .ok (.iload_n 3, 1) := by decide +kernel
theorem dL_law_1067 : decode cL_law 1067 = .ok (.iconst 3, 1) := by decide +kernel
theorem dL_law_1068 : decode cL_law 1068 = .ok (.iadd, 1) := by decide +kernel
theorem dL_law_1069 : decode cL_law 1069 = .ok (.iaload, 1) := by decide +kernel
theorem dL_law_1070 : decode cL_law 1070 = .ok (.aload_n 0, 1) := by decide +kernel
theorem dL_law_1071 : decode cL_law 1071 = .ok (.iload_n 3, 1) := by decide +kernel
theorem dL_law_1072 : decode cL_law 1072 = .ok (.iconst 4, 1) := by decide +kernel
theorem dL_law_1073 : decode cL_law 1073 = .ok (.iadd, 1) := by decide +kernel
theorem dL_law_1074 : decode cL_law 1074 = .ok (.iaload, 1) := by decide +kernel
theorem dL_law_1075 : decode cL_law 1075 = .ok (.invokevirtual 131, 3) := by decide +kernel
theorem dL_law_1078 : decode cL_law 1078 = .ok (.aload_n 2, 1) := by decide +kernel
theorem dL_law_1079 : decode cL_law 1079 = .ok (.aload_n 0, 1) := by decide +kernel
theorem dL_law_1080 : decode cL_law 1080 = .ok (.iload_n 3, 1) := by decide +kernel
theorem dL_law_1081 : decode cL_law 1081 = .ok (.iconst 1, 1) := by decide +kernel
theorem dL_law_1082 : decode cL_law 1082 = .ok (.iadd, 1) := by decide +kernel
theorem dL_law_1083 : decode cL_law 1083 = .ok (.iaload, 1) := by decide +kernel
theorem dL_law_1084 : decode cL_law 1084 = .ok (.aload_n 0, 1) := by decide +kernel
theorem dL_law_1085 : decode cL_law 1085 = .ok (.iload_n 3, 1) := by decide +kernel
theorem dL_law_1086 : decode cL_law 1086 = .ok (.iconst 2, 1) := by decide +kernel
theorem dL_law_1087 : decode cL_law 1087 = .ok (.iadd, 1) := by decide +kernel
theorem dL_law_1088 : decode cL_law 1088 = .ok (.iaload, 1) := by decide +kernel
theorem dL_law_1089 : decode cL_law 1089 = .ok (.aload_n 0, 1) := by decide +kernel
theorem dL_law_1090 : decode cL_law 1090 = .ok (.iload_n 3, 1) := by decide +kernel
theorem dL_law_1091 : decode cL_law 1091 = .ok (.iconst 3, 1) := by decide +kernel
theorem dL_law_1092 : decode cL_law 1092 = .ok (.iadd, 1) := by decide +kernel
theorem dL_law_1093 : decode cL_law 1093 = .ok (.iaload, 1) := by decide +kernel
theorem dL_law_1094 : decode cL_law 1094 = .ok (.aload_n 0, 1) := by decide +kernel
theorem dL_law_1095 : decode cL_law 1095 = .ok (.iload_n 3, 1) := by decide +kernel
theorem dL_law_1096 : decode cL_law 1096 = .ok (.iconst 4, 1) := by decide +kernel
theorem dL_law_1097 : decode cL_law 1097 = .ok (.iadd, 1) := by decide +kernel
theorem dL_law_1098 : decode cL_law 1098 = .ok (.iaload, 1) := by decide +kernel
theorem dL_law_1099 : decode cL_law 1099 = .ok (.invokevirtual 135, 3) := by decide +kernel
theorem dL_law_1102 : decode cL_law 1102 = .ok (.lcmp, 1) := by decide +kernel
theorem dL_law_1103 : decode cL_law 1103 = .ok (.ifCond .eq 242, 3) := by decide +kernel
theorem dL_law_1106 : decode cL_law 1106 = .ok (.iconst 0, 1) := by decide +kernel
theorem dL_law_1107 : decode cL_law 1107 = .ok (.ireturn, 1) := by decide +kernel
theorem dL_law_1108 : decode cL_law 1108 = .ok (.aload_n 1, 1) := by decide +kernel
theorem dL_law_1109 : decode cL_law 1109 = .ok (.aload_n 0, 1) := by decide +kernel
theorem dL_law_1110 : decode cL_law 1110 = .ok (.iload_n 3, 1) := by decide +kernel
theorem dL_law_1111 : decode cL_law 1111 = .ok (.iconst 1, 1) := by decide +kernel
theorem dL_law_1112 : decode cL_law 1112 = .ok (.iadd, 1) := by decide +kernel
theorem dL_law_1113 : decode cL_law 1113 = .ok (.iaload, 1) := by decide +kernel
theorem dL_law_1114 : decode cL_law 1114 = .ok (.aload_n 0, 1) := by decide +kernel
theorem dL_law_1115 : decode cL_law 1115 = .ok (.iload_n 3, 1) := by decide +kernel
theorem dL_law_1116 : decode cL_law 1116 = .ok (.iconst 2, 1) := by decide +kernel
theorem dL_law_1117 : decode cL_law 1117 = .ok (.iadd, 1) := by decide +kernel
theorem dL_law_1118 : decode cL_law 1118 = .ok (.iaload, 1) := by decide +kernel
theorem dL_law_1119 : decode cL_law 1119 = .ok (.aload_n 0, 1) := by decide +kernel
theorem dL_law_1120 : decode cL_law 1120 = .ok (.iload_n 3, 1) := by decide +kernel
theorem dL_law_1121 : decode cL_law 1121 = .ok (.iconst 3, 1) := by decide +kernel
theorem dL_law_1122 : decode cL_law 1122 = .ok (.iadd, 1) := by decide +kernel
theorem dL_law_1123 : decode cL_law 1123 = .ok (.iaload, 1) := by decide +kernel
theorem dL_law_1124 : decode cL_law 1124 = .ok (.invokevirtual 136, 3) := by decide +kernel
theorem dL_law_1127 : decode cL_law 1127 = .ok (.aload_n 2, 1) := by decide +kernel
theorem dL_law_1128 : decode cL_law 1128 = .ok (.aload_n 0, 1) := by decide +kernel
theorem dL_law_1129 : decode cL_law 1129 = .ok (.iload_n 3, 1) := by decide +kernel
theorem dL_law_1130 : decode cL_law 1130 = .ok (.iconst 1, 1) := by decide +kernel
theorem dL_law_1131 : decode cL_law 1131 = .ok (.iadd, 1) := by decide +kernel
theorem dL_law_1132 : decode cL_law 1132 = .ok (.iaload, 1) := by decide +kernel
theorem dL_law_1133 : decode cL_law 1133 = .ok (.aload_n 0, 1) := by decide +kernel
theorem dL_law_1134 : decode cL_law 1134 = .ok (.iload_n 3, 1) := by decide +kernel
theorem dL_law_1135 : decode cL_law 1135 = .ok (.iconst 2, 1) := by decide +kernel
theorem dL_law_1136 : decode cL_law 1136 = .ok (.iadd, 1) := by decide +kernel
theorem dL_law_1137 : decode cL_law 1137 = .ok (.iaload, 1) := by decide +kernel
theorem dL_law_1138 : decode cL_law 1138 = .ok (.aload_n 0, 1) := by decide +kernel
theorem dL_law_1139 : decode cL_law 1139 = .ok (.iload_n 3, 1) := by decide +kernel
theorem dL_law_1140 : decode cL_law 1140 = .ok (.iconst 3, 1) := by decide +kernel
theorem dL_law_1141 : decode cL_law 1141 = .ok (.iadd, 1) := by decide +kernel
theorem dL_law_1142 : decode cL_law 1142 = .ok (.iaload, 1) := by decide +kernel
theorem dL_law_1143 : decode cL_law 1143 = .ok (.invokevirtual 139, 3) := by decide +kernel
theorem dL_law_1146 : decode cL_law 1146 = .ok (.if_icmp .eq 199, 3) := by decide +kernel
theorem dL_law_1149 : decode cL_law 1149 = .ok (.iconst 0, 1) := by decide +kernel
theorem dL_law_1150 : decode cL_law 1150 = .ok (.ireturn, 1) := by decide +kernel
theorem dL_law_1151 : decode cL_law 1151 = .ok (.aload_n 1, 1) := by decide +kernel
theorem dL_law_1152 : decode cL_law 1152 = .ok (.aload_n 0, 1) := by decide +kernel
theorem dL_law_1153 : decode cL_law 1153 = .ok (.iload_n 3, 1) := by decide +kernel
theorem dL_law_1154 : decode cL_law 1154 = .ok (.iconst 1, 1) := by decide +kernel
theorem dL_law_1155 : decode cL_law 1155 = .ok (.iadd, 1) := by decide +kernel
theorem dL_law_1156 : decode cL_law 1156 = .ok (.iaload, 1) := by decide +kernel
theorem dL_law_1157 : decode cL_law 1157 = .ok (.invokevirtual 140, 3) := by decide +kernel
theorem dL_law_1160 : decode cL_law 1160 = .ok (.aload_n 2, 1) := by decide +kernel
theorem dL_law_1161 : decode cL_law 1161 = .ok (.aload_n 0, 1) := by decide +kernel
theorem dL_law_1162 : decode cL_law 1162 = .ok (.iload_n 3, 1) := by decide +kernel
theorem dL_law_1163 : decode cL_law 1163 = .ok (.iconst 1, 1) := by decide +kernel
theorem dL_law_1164 : decode cL_law 1164 = .ok (.iadd, 1) := by decide +kernel
theorem dL_law_1165 : decode cL_law 1165 = .ok (.iaload, 1) := by decide +kernel
theorem dL_law_1166 : decode cL_law 1166 = .ok (.invokevirtual 143, 3) := by decide +kernel
theorem dL_law_1169 : decode cL_law 1169 = .ok (.if_icmp .eq 176, 3) := by decide +kernel
theorem dL_law_1172 : decode cL_law 1172 = .ok (.iconst 0, 1) := by decide +kernel
theorem dL_law_1173 : decode cL_law 1173 = .ok (.ireturn, 1) := by decide +kernel
theorem dL_law_1174 : decode cL_law 1174 = .ok (.aload_n 1, 1) := by decide +kernel
theorem dL_law_1175 : decode cL_law 1175 = .ok (.aload_n 0, 1) := by decide +kernel
theorem dL_law_1176 : decode cL_law 1176 = .ok (.iload_n 3, 1) := by decide +kernel
theorem dL_law_1177 : decode cL_law 1177 = .ok (.iconst 1, 1) := by decide +kernel
theorem dL_law_1178 : decode cL_law 1178 = .ok (.iadd, 1) := by decide +kernel
theorem dL_law_1179 : decode cL_law 1179 = .ok (.iaload, 1) := by decide +kernel
theorem dL_law_1180 : decode cL_law 1180 = .ok (.invokevirtual 144, 3) := by decide +kernel
theorem dL_law_1183 : decode cL_law 1183 = .ok (.aload_n 2, 1) := by decide +kernel
theorem dL_law_1184 : decode cL_law 1184 = .ok (.aload_n 0, 1) := by decide +kernel
theorem dL_law_1185 : decode cL_law 1185 = .ok (.iload_n 3, 1) := by decide +kernel
theorem dL_law_1186 : decode cL_law 1186 = .ok (.iconst 1, 1) := by decide +kernel
theorem dL_law_1187 : decode cL_law 1187 = .ok (.iadd, 1) := by decide +kernel
theorem dL_law_1188 : decode cL_law 1188 = .ok (.iaload, 1) := by decide +kernel
theorem dL_law_1189 : decode cL_law 1189 = .ok (.invokevirtual 147, 3) := by decide +kernel
theorem dL_law_1192 : decode cL_law 1192 = .ok (.if_icmp .eq 153, 3) := by decide +kernel
theorem dL_law_1195 : decode cL_law 1195 = .ok (.iconst 0, 1) := by decide +kernel
end
section
theorem dL_law_1196 : decode cL_law 1196 = .ok (.ireturn, 1) := by decide +kernel
theorem dL_law_1197 : decode cL_law 1197 = .ok (.aload_n 1, 1) := by decide +kernel
theorem dL_law_1198 : decode cL_law 1198 = .ok (.aload_n 0, 1) := by decide +kernel
theorem dL_law_1199 : decode cL_law 1199 = .ok (.iload_n 3, 1) := by decide +kernel
theorem dL_law_1200 : decode cL_law 1200 = .ok (.iconst 1, 1) := by decide +kernel
theorem dL_law_1201 : decode cL_law 1201 = .ok (.iadd, 1) := by decide +kernel
theorem dL_law_1202 : decode cL_law 1202 = .ok (.iaload, 1) := by decide +kernel
theorem dL_law_1203 : decode cL_law 1203 = .ok (.invokevirtual 148, 3) := by decide +kernel
theorem dL_law_1206 : decode cL_law 1206 = .ok (.aload_n 2, 1) := by decide +kernel
theorem dL_law_1207 : decode cL_law 1207 = .ok (.aload_n 0, 1) := by decide +kernel
theorem dL_law_1208 : decode cL_law 1208 = .ok (.iload_n 3, 1) := by decide +kernel
theorem dL_law_1209 : decode cL_law 1209 = .ok (.iconst 1, 1) := by decide +kernel
theorem dL_law_1210 : decode cL_law 1210 = .ok (.iadd, 1) := by decide +kernel
theorem dL_law_1211 : decode cL_law 1211 = .ok (.iaload, 1) := by decide +kernel
theorem dL_law_1212 : decode cL_law 1212 = .ok (.invokevirtual 151, 3) := by decide +kernel
theorem dL_law_1215 : decode cL_law 1215 = .ok (.if_icmp .eq 130, 3) := by decide +kernel
theorem dL_law_1218 : decode cL_law 1218 = .ok (.iconst 0, 1) := by decide +kernel
theorem dL_law_1219 : decode cL_law 1219 = .ok (.ireturn, 1) := by decide +kernel
theorem dL_law_1220 : decode cL_law 1220 = .ok (.aload_n 1, 1) := by decide +kernel
theorem dL_law_1221 : decode cL_law 1221 = .ok (.aload_n 0, 1) := by decide +kernel
theorem dL_law_1222 : decode cL_law 1222 = .ok (.iload_n 3, 1) := by decide +kernel
theorem dL_law_1223 : decode cL_law 1223 = .ok (.iconst 1, 1) := by decide +kernel
theorem dL_law_1224 : decode cL_law 1224 = .ok (.iadd, 1) := by decide +kernel
theorem dL_law_1225 : decode cL_law 1225 = .ok (.iaload, 1) := by decide +kernel
theorem dL_law_1226 : decode cL_law 1226 = .ok (.aload_n 0, 1) := by decide +kernel
theorem dL_law_1227 : decode cL_law 1227 = .ok (.iload_n 3, 1) := by decide +kernel
theorem dL_law_1228 : decode cL_law 1228 = .ok (.iconst 2, 1) := by decide +kernel
theorem dL_law_1229 : decode cL_law 1229 = .ok (.iadd, 1) := by decide +kernel
theorem dL_law_1230 : decode cL_law 1230 = .ok (.iaload, 1) := by decide +kernel
theorem dL_law_1231 : decode cL_law 1231 = .ok (.invokevirtual 152, 3) := by decide +kernel
theorem dL_law_1234 : decode cL_law 1234 = .ok (.aload_n 2, 1) := by decide +kernel
theorem dL_law_1235 : decode cL_law 1235 = .ok (.aload_n 0, 1) := by decide +kernel
theorem dL_law_1236 : decode cL_law 1236 = .ok (.iload_n 3, 1) := by decide +kernel
theorem dL_law_1237 : decode cL_law 1237 = .ok (.iconst 1, 1) := by decide +kernel
theorem dL_law_1238 : decode cL_law 1238 = .ok (.iadd, 1) := by decide +kernel
theorem dL_law_1239 : decode cL_law 1239 = .ok (.iaload, 1) := by decide +kernel
theorem dL_law_1240 : decode cL_law 1240 = .ok (.aload_n 0, 1) := by decide +kernel
theorem dL_law_1241 : decode cL_law 1241 = .ok (.iload_n 3, 1) := by decide +kernel
theorem dL_law_1242 : decode cL_law 1242 = .ok (.iconst 2, 1) := by decide +kernel
theorem dL_law_1243 : decode cL_law 1243 = .ok (.iadd, 1) := by decide +kernel
theorem dL_law_1244 : decode cL_law 1244 = .ok (.iaload, 1) := by decide +kernel
theorem dL_law_1245 : decode cL_law 1245 = .ok (.invokevirtual 155, 3) := by decide +kernel
theorem dL_law_1248 : decode cL_law 1248 = .ok (.if_icmp .eq 97, 3) := by decide +kernel
theorem dL_law_1251 : decode cL_law 1251 = .ok (.iconst 0, 1) := by decide +kernel
theorem dL_law_1252 : decode cL_law 1252 = .ok (.ireturn, 1) := by decide +kernel
theorem dL_law_1253 : decode cL_law 1253 = .ok (.aload_n 1, 1) := by decide +kernel
theorem dL_law_1254 : decode cL_law 1254 = .ok (.aload_n 0, 1) := by decide +kernel
theorem dL_law_1255 : decode cL_law 1255 = .ok (.iload_n 3, 1) := by decide +kernel
theorem dL_law_1256 : decode cL_law 1256 = .ok (.iconst 1, 1) := by decide +kernel
theorem dL_law_1257 : decode cL_law 1257 = .ok (.iadd, 1) := by decide +kernel
theorem dL_law_1258 : decode cL_law 1258 = .ok (.iaload, 1) := by decide +kernel
theorem dL_law_1259 : decode cL_law 1259 = .ok (.aload_n 0, 1) := by decide +kernel
theorem dL_law_1260 : decode cL_law 1260 = .ok (.iload_n 3, 1) := by decide +kernel
theorem dL_law_1261 : decode cL_law 1261 = .ok (.iconst 2, 1) := by decide +kernel
theorem dL_law_1262 : decode cL_law 1262 = .ok (.iadd, 1) := by decide +kernel
theorem dL_law_1263 : decode cL_law 1263 = .ok (.iaload, 1) := by decide +kernel
theorem dL_law_1264 : decode cL_law 1264 = .ok (.invokevirtual 156, 3) := by decide +kernel
theorem dL_law_1267 : decode cL_law 1267 = .ok (.aload_n 2, 1) := by decide +kernel
theorem dL_law_1268 : decode cL_law 1268 = .ok (.aload_n 0, 1) := by decide +kernel
theorem dL_law_1269 : decode cL_law 1269 = .ok (.iload_n 3, 1) := by decide +kernel
theorem dL_law_1270 : decode cL_law 1270 = .ok (.iconst 1, 1) := by decide +kernel
theorem dL_law_1271 : decode cL_law 1271 = .ok (.iadd, 1) := by decide +kernel
theorem dL_law_1272 : decode cL_law 1272 = .ok (.iaload, 1) := by decide +kernel
theorem dL_law_1273 : decode cL_law 1273 = .ok (.aload_n 0, 1) := by decide +kernel
theorem dL_law_1274 : decode cL_law 1274 = .ok (.iload_n 3, 1) := by decide +kernel
theorem dL_law_1275 : decode cL_law 1275 = .ok (.iconst 2, 1) := by decide +kernel
theorem dL_law_1276 : decode cL_law 1276 = .ok (.iadd, 1) := by decide +kernel
theorem dL_law_1277 : decode cL_law 1277 = .ok (.iaload, 1) := by decide +kernel
theorem dL_law_1278 : decode cL_law 1278 = .ok (.invokevirtual 159, 3) := by decide +kernel
theorem dL_law_1281 : decode cL_law 1281 = .ok (.if_icmp .eq 64, 3) := by decide +kernel
theorem dL_law_1284 : decode cL_law 1284 = .ok (.iconst 0, 1) := by decide +kernel
theorem dL_law_1285 : decode cL_law 1285 = .ok (.ireturn, 1) := by decide +kernel
theorem dL_law_1286 : decode cL_law 1286 = .ok (.aload_n 1, 1) := by decide +kernel
theorem dL_law_1287 : decode cL_law 1287 = .ok (.aload_n 0, 1) := by decide +kernel
theorem dL_law_1288 : decode cL_law 1288 = .ok (.iload_n 3, 1) := by decide +kernel
theorem dL_law_1289 : decode cL_law 1289 = .ok (.iconst 1, 1) := by decide +kernel
theorem dL_law_1290 : decode cL_law 1290 = .ok (.iadd, 1) := by decide +kernel
theorem dL_law_1291 : decode cL_law 1291 = .ok (.iaload, 1) := by decide +kernel
theorem dL_law_1292 : decode cL_law 1292 = .ok (.invokevirtual 160, 3) := by decide +kernel
theorem dL_law_1295 : decode cL_law 1295 = .ok (.aload_n 2, 1) := by decide +kernel
theorem dL_law_1296 : decode cL_law 1296 = .ok (.aload_n 0, 1) := by decide +kernel
theorem dL_law_1297 : decode cL_law 1297 = .ok (.iload_n 3, 1) := by decide +kernel
theorem dL_law_1298 : decode cL_law 1298 = .ok (.iconst 1, 1) := by decide +kernel
theorem dL_law_1299 : decode cL_law 1299 = .ok (.iadd, 1) := by decide +kernel
theorem dL_law_1300 : decode cL_law 1300 = .ok (.iaload, 1) := by decide +kernel
theorem dL_law_1301 : decode cL_law 1301 = .ok (.invokevirtual 163, 3) := by decide +kernel
theorem dL_law_1304 : decode cL_law 1304 = .ok (.if_icmp .eq 41, 3) := by decide +kernel
theorem dL_law_1307 : decode cL_law 1307 = .ok (.iconst 0, 1) := by decide +kernel
theorem dL_law_1308 : decode cL_law 1308 = .ok (.ireturn, 1) := by decide +kernel
theorem dL_law_1309 : decode cL_law 1309 = .ok (.aload_n 1, 1) := by decide +kernel
theorem dL_law_1310 : decode cL_law 1310 = .ok (.aload_n 0, 1) := by decide +kernel
theorem dL_law_1311 : decode cL_law 1311 = .ok (.iload_n 3, 1) := by decide +kernel
theorem dL_law_1312 : decode cL_law 1312 = .ok (.iconst 1, 1) := by decide +kernel
theorem dL_law_1313 : decode cL_law 1313 = .ok (.iadd, 1) := by decide +kernel
theorem dL_law_1314 : decode cL_law 1314 = .ok (.iaload, 1) := by decide +kernel
theorem dL_law_1315 : decode cL_law 1315 = .ok (.invokevirtual 164, 3) := by decide +kernel
theorem dL_law_1318 : decode cL_law 1318 = .ok (.aload_n 2, 1) := by decide +kernel
theorem dL_law_1319 : decode cL_law 1319 = .ok (.aload_n 0, 1) := by decide +kernel
theorem dL_law_1320 : decode cL_law 1320 = .ok (.iload_n 3, 1) := by decide +kernel
theorem dL_law_1321 : decode cL_law 1321 = .ok (.iconst 1, 1) := by decide +kernel
theorem dL_law_1322 : decode cL_law 1322 = .ok (.iadd, 1) := by decide +kernel
theorem dL_law_1323 : decode cL_law 1323 = .ok (.iaload, 1) := by decide +kernel
theorem dL_law_1324 : decode cL_law 1324 = .ok (.invokevirtual 167, 3) := by decide +kernel
theorem dL_law_1327 : decode cL_law 1327 = .ok (.if_icmp .eq 18, 3) := by decide +kernel
theorem dL_law_1330 : decode cL_law 1330 = .ok (.iconst 0, 1) := by decide +kernel
theorem dL_law_1331 : decode cL_law 1331 = .ok (.ireturn, 1) := by decide +kernel
theorem dL_law_1332 : decode cL_law 1332 = .ok (.aload_n 1, 1) := by decide +kernel
theorem dL_law_1333 : decode cL_law 1333 = .ok (.invokevirtual 168, 3) := by decide +kernel
theorem dL_law_1336 : decode cL_law 1336 = .ok (.aload_n 2, 1) := by decide +kernel
theorem dL_law_1337 : decode cL_law 1337 = .ok (.invokevirtual 171, 3) := by decide +kernel
theorem dL_law_1340 : decode cL_law 1340 = .ok (.if_icmp .eq 5, 3) := by decide +kernel
theorem dL_law_1343 : decode cL_law 1343 = .ok (.iconst 0, 1) := by decide +kernel
theorem dL_law_1344 : decode cL_law 1344 = .ok (.ireturn, 1) := by decide +kernel
theorem dL_law_1345 : decode cL_law 1345 = .ok (.iinc 3 6, 3) := by decide +kernel
theorem dL_law_1348 : decode cL_law 1348 = .ok (.goto (-1330), 3) := by decide +kernel
theorem dL_law_1351 : decode cL_law 1351 = .ok (.iconst 1, 1) := by decide +kernel
theorem dL_law_1352 : decode cL_law 1352 = .ok (.ireturn, 1) := by decide +kernel
end
section
def kT : List Cond := lw_tbl.filter goodWord
theorem kT_of {w : Cond} (h : w ∈ lw_tbl) (hg : goodWord w = true) : w ∈ kT := List.mem_filter.mpr ⟨h, hg⟩
theorem kg_all {w : Cond} (h : w ∈ kT) : goodWord w = true := (List.mem_filter.mp h).2
theorem kT_in {w : Cond} (h : w ∈ kT) : w ∈ lw_tbl := (List.mem_filter.mp h).1
theorem mu_1 {w : Cond} (h : w ∈ tables_1_1) : w ∈ lw_tbl := List.mem_append_right _ (List.mem_append_left _ h)
theorem mt_1 {w : Cond} (h : w ∈ tables_1_1) (hg : goodWord w = true) : w ∈ kT := kT_of (List.mem_append_right _ (List.mem_append_left _ h)) hg
theorem mu_2 {w : Cond} (h : w ∈ tables_1_2) : w ∈ lw_tbl := List.mem_append_right _ (List.mem_append_right _ (List.mem_append_left _ h))
theorem mt_2 {w : Cond} (h : w ∈ tables_1_2) (hg : goodWord w = true) : w ∈ kT := kT_of (List.mem_append_right _ (List.mem_append_right _ (List.mem_append_left _ h))) hg
theorem mu_3 {w : Cond} (h : w ∈ tables_1_3) : w ∈ lw_tbl := List.mem_append_right _ (List.mem_append_right _ (List.mem_append_right _ (List.mem_append_left _ h)))
theorem mt_3 {w : Cond} (h : w ∈ tables_1_3) (hg : goodWord w = true) : w ∈ kT := kT_of (List.mem_append_right _ (List.mem_append_right _ (List.mem_append_right _ (List.mem_append_left _ h)))) hg
theorem mu_4 {w : Cond} (h : w ∈ tables_1_4) : w ∈ lw_tbl := List.mem_append_right _ (List.mem_append_right _ (List.mem_append_right _ (List.mem_append_right _ (List.mem_append_left _ h))))
theorem mt_4 {w : Cond} (h : w ∈ tables_1_4) (hg : goodWord w = true) : w ∈ kT := kT_of (List.mem_append_right _ (List.mem_append_right _ (List.mem_append_right _ (List.mem_append_right _ (List.mem_append_left _ h))))) hg
theorem mu_5 {w : Cond} (h : w ∈ tables_1_5) : w ∈ lw_tbl := List.mem_append_right _ (List.mem_append_right _ (List.mem_append_right _ (List.mem_append_right _ (List.mem_append_right _ (h)))))
theorem mt_5 {w : Cond} (h : w ∈ tables_1_5) (hg : goodWord w = true) : w ∈ kT := kT_of (List.mem_append_right _ (List.mem_append_right _ (List.mem_append_right _ (List.mem_append_right _ (List.mem_append_right _ (h)))))) hg
theorem wn_L : Cond.initialized RL ∈ kT := mt_1 (List.mem_of_getElem? (i := 0) rfl) rfl
theorem wn_X6 : Cond.initialized RX6 ∈ kT := mt_1 (List.mem_of_getElem? (i := 1) rfl) rfl
theorem wn_X4 : Cond.initialized RX4 ∈ kT := mt_1 (List.mem_of_getElem? (i := 2) rfl) rfl
theorem wn_X3 : Cond.initialized RX3 ∈ kT := mt_1 (List.mem_of_getElem? (i := 3) rfl) rfl
theorem wn_X5 : Cond.initialized RX5 ∈ kT := mt_1 (List.mem_of_getElem? (i := 4) rfl) rfl
theorem wn_X0 : Cond.initialized RX0 ∈ kT := mt_1 (List.mem_of_getElem? (i := 5) rfl) rfl
theorem wn_X2 : Cond.initialized RX2 ∈ kT := mt_1 (List.mem_of_getElem? (i := 6) rfl) rfl
theorem wn_X1 : Cond.initialized RX1 ∈ kT := mt_1 (List.mem_of_getElem? (i := 7) rfl) rfl
theorem wn_X7 : Cond.initialized RX7 ∈ kT := mt_1 (List.mem_of_getElem? (i := 8) rfl) rfl
theorem wn_J7 : Cond.initialized RJ7 ∈ kT := mt_1 (List.mem_of_getElem? (i := 9) rfl) rfl
theorem wn_J10 : Cond.initialized RJ10 ∈ kT := mt_1 (List.mem_of_getElem? (i := 10) rfl) rfl
theorem wn_J9 : Cond.initialized RJ9 ∈ kT := mt_1 (List.mem_of_getElem? (i := 11) rfl) rfl
theorem wn_J6 : Cond.initialized RJ6 ∈ kT := mt_1 (List.mem_of_getElem? (i := 12) rfl) rfl
theorem lc_L_7 : Cond.classLink RL 7 RX6 ∈ kT := mt_1 (List.mem_of_getElem? (i := 13) rfl) rfl
theorem wa_X6 : Cond.instantiable RX6 9 ∈ kT := mt_1 (List.mem_of_getElem? (i := 14) rfl) rfl
theorem lm_L_9 : Cond.methodLink RL 9 yX6_init ∈ kT := mt_1 (List.mem_of_getElem? (i := 15) rfl) rfl
theorem wi_X6_init : Cond.instanceMethod yX6_init ∈ kT := mt_1 (List.mem_of_getElem? (i := 16) rfl) rfl
theorem wc_X6_init : Cond.code yX6_init cX6_init 2 none ∈ kT := mt_1 (List.mem_of_getElem? (i := 17) rfl) rfl
theorem lm_X6_1 : Cond.methodLink RX6 1 objectInit ∈ kT := mt_1 (List.mem_of_getElem? (i := 18) rfl) rfl
theorem wi_O_init : Cond.instanceMethod objectInit ∈ kT := mt_1 (List.mem_of_getElem? (i := 19) rfl) rfl
theorem wc_O_init : Cond.code objectInit object_method_1_code 1 none ∈ kT := mt_1 (List.mem_of_getElem? (i := 20) rfl) rfl
theorem lc_X6_9 : Cond.classLink RX6 9 RX4 ∈ kT := mt_1 (List.mem_of_getElem? (i := 21) rfl) rfl
theorem wo_Row : Cond.arrayOver (.object "KeyDrift$Row") ∈ lw_tbl := mu_1 (List.mem_of_getElem? (i := 22) rfl)
theorem wa_X4 : Cond.instantiable RX4 3 ∈ kT := mt_1 (List.mem_of_getElem? (i := 23) rfl) rfl
theorem lmn_X6_15 : Cond.methodLinkNest RX6 15 yX4_init "KeyDrift" ∈ lw_tbl := mu_1 (List.mem_of_getElem? (i := 24) rfl)
theorem wi_X4_init : Cond.instanceMethod yX4_init ∈ kT := mt_1 (List.mem_of_getElem? (i := 25) rfl) rfl
theorem wc_X4_init : Cond.code yX4_init cX4_init 1 none ∈ kT := mt_1 (List.mem_of_getElem? (i := 26) rfl) rfl
theorem lm_X4_1 : Cond.methodLink RX4 1 objectInit ∈ kT := mt_1 (List.mem_of_getElem? (i := 27) rfl) rfl
theorem lf_X4_9 : Cond.fieldLink RX4 9 "KeyDrift$Row" "items" "[I" ∈ kT := mt_1 (List.mem_of_getElem? (i := 28) rfl) rfl
theorem lf_X6_95 : Cond.fieldLink RX6 95 "KeyDrift$Row" "items" "[I" ∈ kT := mt_1 (List.mem_of_getElem? (i := 29) rfl) rfl
theorem lf_X4_13 : Cond.fieldLink RX4 13 "KeyDrift$Row" "lane" "I" ∈ kT := mt_1 (List.mem_of_getElem? (i := 30) rfl) rfl
theorem lf_X6_91 : Cond.fieldLink RX6 91 "KeyDrift$Row" "lane" "I" ∈ kT := mt_1 (List.mem_of_getElem? (i := 31) rfl) rfl
theorem lf_X4_23 : Cond.fieldLink RX4 23 "KeyDrift$Row" "length" "I" ∈ kT := mt_1 (List.mem_of_getElem? (i := 32) rfl) rfl
theorem lf_X6_105 : Cond.fieldLink RX6 105 "KeyDrift$Row" "length" "I" ∈ kT := mt_1 (List.mem_of_getElem? (i := 33) rfl) rfl
theorem wy_int : Cond.arrayClass .int ∈ kT := mt_1 (List.mem_of_getElem? (i := 41) rfl) rfl
theorem lc_X6_16 : Cond.classLink RX6 16 RX3 ∈ kT := mt_1 (List.mem_of_getElem? (i := 42) rfl) rfl
theorem wo_Hall : Cond.arrayOver (.object "KeyDrift$Hall") ∈ lw_tbl := mu_1 (List.mem_of_getElem? (i := 43) rfl)
theorem wa_X3 : Cond.instantiable RX3 11 ∈ kT := mt_1 (List.mem_of_getElem? (i := 44) rfl) rfl
theorem lmn_X6_22 : Cond.methodLinkNest RX6 22 yX3_init "KeyDrift" ∈ lw_tbl := mu_1 (List.mem_of_getElem? (i := 45) rfl)
theorem wi_X3_init : Cond.instanceMethod yX3_init ∈ kT := mt_1 (List.mem_of_getElem? (i := 46) rfl) rfl
theorem wc_X3_init : Cond.code yX3_init cX3_init 1 none ∈ kT := mt_1 (List.mem_of_getElem? (i := 47) rfl) rfl
theorem lm_X3_3 : Cond.methodLink RX3 3 objectInit ∈ kT := mt_1 (List.mem_of_getElem? (i := 48) rfl) rfl
theorem lf_X3_11 : Cond.fieldLink RX3 11 "KeyDrift$Hall" "lengths" "[I" ∈ kT := mt_1 (List.mem_of_getElem? (i := 49) rfl) rfl
theorem lf_X5_81 : Cond.fieldLink RX5 81 "KeyDrift$Hall" "lengths" "[I" ∈ kT := mt_1 (List.mem_of_getElem? (i := 50) rfl) rfl
theorem lf_X6_174 : Cond.fieldLink RX6 174 "KeyDrift$Hall" "lengths" "[I" ∈ kT := mt_1 (List.mem_of_getElem? (i := 51) rfl) rfl
theorem lf_X2_110 : Cond.fieldLink RX2 110 "KeyDrift$Hall" "lengths" "[I" ∈ kT := mt_1 (List.mem_of_getElem? (i := 52) rfl) rfl
theorem lf_X3_15 : Cond.fieldLink RX3 15 "KeyDrift$Hall" "strings" "[I" ∈ kT := mt_1 (List.mem_of_getElem? (i := 53) rfl) rfl
theorem lf_X5_74 : Cond.fieldLink RX5 74 "KeyDrift$Hall" "strings" "[I" ∈ kT := mt_1 (List.mem_of_getElem? (i := 54) rfl) rfl
theorem lf_X3_18 : Cond.fieldLink RX3 18 "KeyDrift$Hall" "kinds" "[I" ∈ kT := mt_1 (List.mem_of_getElem? (i := 55) rfl) rfl
theorem lf_X2_46 : Cond.fieldLink RX2 46 "KeyDrift$Hall" "kinds" "[I" ∈ kT := mt_1 (List.mem_of_getElem? (i := 56) rfl) rfl
theorem lf_X5_91 : Cond.fieldLink RX5 91 "KeyDrift$Hall" "kinds" "[I" ∈ kT := mt_1 (List.mem_of_getElem? (i := 57) rfl) rfl
theorem lf_X6_266 : Cond.fieldLink RX6 266 "KeyDrift$Hall" "kinds" "[I" ∈ kT := mt_1 (List.mem_of_getElem? (i := 58) rfl) rfl
theorem lf_X3_21 : Cond.fieldLink RX3 21 "KeyDrift$Hall" "learnt" "[I" ∈ kT := mt_1 (List.mem_of_getElem? (i := 59) rfl) rfl
theorem lf_X0_32 : Cond.fieldLink RX0 32 "KeyDrift$Hall" "learnt" "[I" ∈ kT := mt_1 (List.mem_of_getElem? (i := 60) rfl) rfl
theorem lf_X5_98 : Cond.fieldLink RX5 98 "KeyDrift$Hall" "learnt" "[I" ∈ kT := mt_1 (List.mem_of_getElem? (i := 61) rfl) rfl
theorem lf_X6_168 : Cond.fieldLink RX6 168 "KeyDrift$Hall" "learnt" "[I" ∈ kT := mt_1 (List.mem_of_getElem? (i := 62) rfl) rfl
theorem lf_X2_103 : Cond.fieldLink RX2 103 "KeyDrift$Hall" "learnt" "[I" ∈ kT := mt_1 (List.mem_of_getElem? (i := 63) rfl) rfl
theorem lf_X3_24 : Cond.fieldLink RX3 24 "KeyDrift$Hall" "spans" "[I" ∈ kT := mt_1 (List.mem_of_getElem? (i := 64) rfl) rfl
theorem lf_X5_101 : Cond.fieldLink RX5 101 "KeyDrift$Hall" "spans" "[I" ∈ kT := mt_1 (List.mem_of_getElem? (i := 65) rfl) rfl
theorem lf_X6_181 : Cond.fieldLink RX6 181 "KeyDrift$Hall" "spans" "[I" ∈ kT := mt_1 (List.mem_of_getElem? (i := 66) rfl) rfl
theorem lf_X3_27 : Cond.fieldLink RX3 27 "KeyDrift$Hall" "keys" "I" ∈ kT := mt_1 (List.mem_of_getElem? (i := 67) rfl) rfl
theorem lf_X2_32 : Cond.fieldLink RX2 32 "KeyDrift$Hall" "keys" "I" ∈ kT := mt_1 (List.mem_of_getElem? (i := 68) rfl) rfl
theorem lf_X5_48 : Cond.fieldLink RX5 48 "KeyDrift$Hall" "keys" "I" ∈ kT := mt_1 (List.mem_of_getElem? (i := 69) rfl) rfl
theorem lf_X6_199 : Cond.fieldLink RX6 199 "KeyDrift$Hall" "keys" "I" ∈ kT := mt_1 (List.mem_of_getElem? (i := 70) rfl) rfl
theorem lf_X3_37 : Cond.fieldLink RX3 37 "KeyDrift$Hall" "drift" "I" ∈ kT := mt_1 (List.mem_of_getElem? (i := 71) rfl) rfl
theorem lf_X5_51 : Cond.fieldLink RX5 51 "KeyDrift$Hall" "drift" "I" ∈ kT := mt_1 (List.mem_of_getElem? (i := 72) rfl) rfl
theorem lf_X2_96 : Cond.fieldLink RX2 96 "KeyDrift$Hall" "drift" "I" ∈ kT := mt_1 (List.mem_of_getElem? (i := 73) rfl) rfl
theorem lf_X6_290 : Cond.fieldLink RX6 290 "KeyDrift$Hall" "drift" "I" ∈ kT := mt_1 (List.mem_of_getElem? (i := 74) rfl) rfl
theorem lf_X0_37 : Cond.fieldLink RX0 37 "KeyDrift$Hall" "shift" "I" ∈ kT := mt_1 (List.mem_of_getElem? (i := 75) rfl) rfl
theorem lf_X3_40 : Cond.fieldLink RX3 40 "KeyDrift$Hall" "shift" "I" ∈ kT := mt_1 (List.mem_of_getElem? (i := 76) rfl) rfl
theorem lf_X2_49 : Cond.fieldLink RX2 49 "KeyDrift$Hall" "shift" "I" ∈ kT := mt_1 (List.mem_of_getElem? (i := 77) rfl) rfl
theorem lf_X5_54 : Cond.fieldLink RX5 54 "KeyDrift$Hall" "shift" "I" ∈ kT := mt_1 (List.mem_of_getElem? (i := 78) rfl) rfl
theorem lf_X6_152 : Cond.fieldLink RX6 152 "KeyDrift$Hall" "shift" "I" ∈ kT := mt_1 (List.mem_of_getElem? (i := 79) rfl) rfl
theorem lf_X0_40 : Cond.fieldLink RX0 40 "KeyDrift$Hall" "night" "I" ∈ kT := mt_1 (List.mem_of_getElem? (i := 80) rfl) rfl
theorem lf_X3_43 : Cond.fieldLink RX3 43 "KeyDrift$Hall" "night" "I" ∈ kT := mt_1 (List.mem_of_getElem? (i := 81) rfl) rfl
theorem lf_X5_57 : Cond.fieldLink RX5 57 "KeyDrift$Hall" "night" "I" ∈ kT := mt_1 (List.mem_of_getElem? (i := 82) rfl) rfl
theorem lf_X6_149 : Cond.fieldLink RX6 149 "KeyDrift$Hall" "night" "I" ∈ kT := mt_1 (List.mem_of_getElem? (i := 83) rfl) rfl
theorem lf_X3_31 : Cond.fieldLink RX3 31 "KeyDrift$Hall" "pieces" "I" ∈ kT := mt_1 (List.mem_of_getElem? (i := 84) rfl) rfl
theorem lf_X5_60 : Cond.fieldLink RX5 60 "KeyDrift$Hall" "pieces" "I" ∈ kT := mt_1 (List.mem_of_getElem? (i := 85) rfl) rfl
theorem lf_X2_77 : Cond.fieldLink RX2 77 "KeyDrift$Hall" "pieces" "I" ∈ kT := mt_1 (List.mem_of_getElem? (i := 86) rfl) rfl
theorem lf_X6_293 : Cond.fieldLink RX6 293 "KeyDrift$Hall" "pieces" "I" ∈ kT := mt_1 (List.mem_of_getElem? (i := 87) rfl) rfl
theorem lf_X3_34 : Cond.fieldLink RX3 34 "KeyDrift$Hall" "pupils" "I" ∈ kT := mt_1 (List.mem_of_getElem? (i := 88) rfl) rfl
theorem lf_X2_43 : Cond.fieldLink RX2 43 "KeyDrift$Hall" "pupils" "I" ∈ kT := mt_1 (List.mem_of_getElem? (i := 89) rfl) rfl
theorem lf_X6_133 : Cond.fieldLink RX6 133 "KeyDrift$Hall" "pupils" "I" ∈ kT := mt_1 (List.mem_of_getElem? (i := 90) rfl) rfl
theorem lf_X5_84 : Cond.fieldLink RX5 84 "KeyDrift$Hall" "pupils" "I" ∈ kT := mt_1 (List.mem_of_getElem? (i := 91) rfl) rfl
theorem lc_X6_23 : Cond.classLink RX6 23 RX5 ∈ kT := mt_1 (List.mem_of_getElem? (i := 115) rfl) rfl
theorem wa_X5 : Cond.instantiable RX5 6 ∈ kT := mt_1 (List.mem_of_getElem? (i := 116) rfl) rfl
theorem lmn_X6_25 : Cond.methodLinkNest RX6 25 yX5_init "KeyDrift" ∈ lw_tbl := mu_1 (List.mem_of_getElem? (i := 117) rfl)
theorem wi_X5_init : Cond.instanceMethod yX5_init ∈ kT := mt_1 (List.mem_of_getElem? (i := 118) rfl) rfl
theorem wc_X5_init : Cond.code yX5_init cX5_init 1 none ∈ kT := mt_1 (List.mem_of_getElem? (i := 119) rfl) rfl
theorem lm_X5_3 : Cond.methodLink RX5 3 objectInit ∈ kT := mt_1 (List.mem_of_getElem? (i := 120) rfl) rfl
theorem lf_X5_11 : Cond.fieldLink RX5 11 "KeyDrift$Tape" "bytes" "[I" ∈ kT := mt_1 (List.mem_of_getElem? (i := 121) rfl) rfl
theorem lf_X5_19 : Cond.fieldLink RX5 19 "KeyDrift$Tape" "place" "I" ∈ kT := mt_1 (List.mem_of_getElem? (i := 122) rfl) rfl
theorem lf_X5_22 : Cond.fieldLink RX5 22 "KeyDrift$Tape" "foundFault" "I" ∈ kT := mt_1 (List.mem_of_getElem? (i := 123) rfl) rfl
theorem lf_X5_15 : Cond.fieldLink RX5 15 "KeyDrift$Tape" "size" "I" ∈ kT := mt_1 (List.mem_of_getElem? (i := 124) rfl) rfl
theorem lf_X6_296 : Cond.fieldLink RX6 296 "KeyDrift$Tape" "size" "I" ∈ kT := mt_1 (List.mem_of_getElem? (i := 125) rfl) rfl
theorem lf_X6_126 : Cond.fieldLink RX6 126 "KeyDrift$Tape" "foundAt" "I" ∈ kT := mt_1 (List.mem_of_getElem? (i := 126) rfl) rfl
theorem lf_X5_113 : Cond.fieldLink RX5 113 "KeyDrift$Tape" "foundAt" "I" ∈ kT := mt_1 (List.mem_of_getElem? (i := 127) rfl) rfl
theorem lf_X6_136 : Cond.fieldLink RX6 136 "KeyDrift$Tape" "latestFault" "I" ∈ kT := mt_1 (List.mem_of_getElem? (i := 128) rfl) rfl
theorem lf_X5_116 : Cond.fieldLink RX5 116 "KeyDrift$Tape" "latestFault" "I" ∈ kT := mt_1 (List.mem_of_getElem? (i := 129) rfl) rfl
theorem lc_X6_37 : Cond.classLink RX6 37 RX0 ∈ kT := mt_1 (List.mem_of_getElem? (i := 143) rfl) rfl
theorem wa_X0 : Cond.instantiable RX0 5 ∈ kT := mt_1 (List.mem_of_getElem? (i := 144) rfl) rfl
theorem lmn_X6_39 : Cond.methodLinkNest RX6 39 yX0_init "KeyDrift" ∈ lw_tbl := mu_1 (List.mem_of_getElem? (i := 145) rfl)
theorem wi_X0_init : Cond.instanceMethod yX0_init ∈ kT := mt_1 (List.mem_of_getElem? (i := 146) rfl) rfl
theorem wc_X0_init : Cond.code yX0_init cX0_init 1 none ∈ kT := mt_1 (List.mem_of_getElem? (i := 147) rfl) rfl
theorem lm_X0_1 : Cond.methodLink RX0 1 objectInit ∈ kT := mt_1 (List.mem_of_getElem? (i := 148) rfl) rfl
theorem lf_X0_9 : Cond.fieldLink RX0 9 "KeyDrift$Acts" "sorts" "[I" ∈ kT := mt_1 (List.mem_of_getElem? (i := 149) rfl) rfl
theorem lf_X0_13 : Cond.fieldLink RX0 13 "KeyDrift$Acts" "pupils" "[I" ∈ kT := mt_1 (List.mem_of_getElem? (i := 150) rfl) rfl
theorem lf_X0_16 : Cond.fieldLink RX0 16 "KeyDrift$Acts" "before" "[I" ∈ kT := mt_1 (List.mem_of_getElem? (i := 151) rfl) rfl
theorem lf_X0_23 : Cond.fieldLink RX0 23 "KeyDrift$Acts" "next" "I" ∈ kT := mt_1 (List.mem_of_getElem? (i := 152) rfl) rfl
theorem lf_X0_19 : Cond.fieldLink RX0 19 "KeyDrift$Acts" "kept" "I" ∈ kT := mt_1 (List.mem_of_getElem? (i := 153) rfl) rfl
theorem lf_X6_139 : Cond.fieldLink RX6 139 "KeyDrift$Acts" "kept" "I" ∈ kT := mt_1 (List.mem_of_getElem? (i := 154) rfl) rfl
theorem lc_X6_44 : Cond.classLink RX6 44 RX2 ∈ kT := mt_1 (List.mem_of_getElem? (i := 166) rfl) rfl
theorem wa_X2 : Cond.instantiable RX2 4 ∈ kT := mt_1 (List.mem_of_getElem? (i := 167) rfl) rfl
theorem lm_X6_46 : Cond.methodLink RX6 46 yX2_init ∈ kT := mt_1 (List.mem_of_getElem? (i := 168) rfl) rfl
theorem wi_X2_init : Cond.instanceMethod yX2_init ∈ kT := mt_1 (List.mem_of_getElem? (i := 169) rfl) rfl
theorem wc_X2_init : Cond.code yX2_init cX2_init 2 none ∈ kT := mt_1 (List.mem_of_getElem? (i := 170) rfl) rfl
theorem lm_X2_3 : Cond.methodLink RX2 3 objectInit ∈ kT := mt_1 (List.mem_of_getElem? (i := 171) rfl) rfl
theorem lf_X2_23 : Cond.fieldLink RX2 23 "KeyDrift$Foretold" "hall" "LKeyDrift$Hall;" ∈ kT := mt_1 (List.mem_of_getElem? (i := 172) rfl) rfl
theorem lf_X2_11 : Cond.fieldLink RX2 11 "KeyDrift$Foretold" "untaughtNights" "[I" ∈ kT := mt_1 (List.mem_of_getElem? (i := 173) rfl) rfl
theorem lf_X2_17 : Cond.fieldLink RX2 17 "KeyDrift$Foretold" "taughtNights" "[I" ∈ kT := mt_1 (List.mem_of_getElem? (i := 174) rfl) rfl
theorem lf_X2_20 : Cond.fieldLink RX2 20 "KeyDrift$Foretold" "pieceNights" "[I" ∈ kT := mt_1 (List.mem_of_getElem? (i := 175) rfl) rfl
theorem lc_X6_53 : Cond.classLink RX6 53 RX1 ∈ kT := mt_1 (List.mem_of_getElem? (i := 185) rfl) rfl
theorem wa_X1 : Cond.instantiable RX1 6 ∈ kT := mt_1 (List.mem_of_getElem? (i := 186) rfl) rfl
theorem lmn_X6_55 : Cond.methodLinkNest RX6 55 yX1_init "KeyDrift" ∈ lw_tbl := mu_1 (List.mem_of_getElem? (i := 187) rfl)
theorem wi_X1_init : Cond.instanceMethod yX1_init ∈ kT := mt_1 (List.mem_of_getElem? (i := 188) rfl) rfl
theorem wc_X1_init : Cond.code yX1_init cX1_init 1 none ∈ kT := mt_1 (List.mem_of_getElem? (i := 189) rfl) rfl
theorem lm_X1_3 : Cond.methodLink RX1 3 objectInit ∈ kT := mt_1 (List.mem_of_getElem? (i := 190) rfl) rfl
theorem lf_X1_11 : Cond.fieldLink RX1 11 "KeyDrift$Asked" "bodies" "[I" ∈ kT := mt_1 (List.mem_of_getElem? (i := 191) rfl) rfl
theorem lf_X6_284 : Cond.fieldLink RX6 284 "KeyDrift$Asked" "bodies" "[I" ∈ kT := mt_1 (List.mem_of_getElem? (i := 192) rfl) rfl
theorem lf_X1_31 : Cond.fieldLink RX1 31 "KeyDrift$Asked" "left" "I" ∈ kT := mt_1 (List.mem_of_getElem? (i := 193) rfl) rfl
theorem lf_X6_281 : Cond.fieldLink RX6 281 "KeyDrift$Asked" "left" "I" ∈ kT := mt_1 (List.mem_of_getElem? (i := 194) rfl) rfl
theorem lf_X1_18 : Cond.fieldLink RX1 18 "KeyDrift$Asked" "number" "I" ∈ kT := mt_1 (List.mem_of_getElem? (i := 195) rfl) rfl
theorem lf_X1_22 : Cond.fieldLink RX1 22 "KeyDrift$Asked" "sort" "I" ∈ kT := mt_1 (List.mem_of_getElem? (i := 196) rfl) rfl
theorem lf_X1_25 : Cond.fieldLink RX1 25 "KeyDrift$Asked" "learnt" "I" ∈ kT := mt_1 (List.mem_of_getElem? (i := 197) rfl) rfl
theorem lf_X1_28 : Cond.fieldLink RX1 28 "KeyDrift$Asked" "span" "I" ∈ kT := mt_1 (List.mem_of_getElem? (i := 198) rfl) rfl
theorem lf_X6_11 : Cond.fieldLink RX6 11 "KeyDrift" "rows" "[LKeyDrift$Row;" ∈ kT := mt_1 (List.mem_of_getElem? (i := 212) rfl) rfl
theorem lf_X6_26 : Cond.fieldLink RX6 26 "KeyDrift" "tape" "LKeyDrift$Tape;" ∈ kT := mt_1 (List.mem_of_getElem? (i := 213) rfl) rfl
theorem lf_X6_30 : Cond.fieldLink RX6 30 "KeyDrift" "now" "LKeyDrift$Hall;" ∈ kT := mt_1 (List.mem_of_getElem? (i := 214) rfl) rfl
theorem lf_X6_34 : Cond.fieldLink RX6 34 "KeyDrift" "spare" "LKeyDrift$Hall;" ∈ kT := mt_1 (List.mem_of_getElem? (i := 215) rfl) rfl
theorem lf_X6_18 : Cond.fieldLink RX6 18 "KeyDrift" "images" "[LKeyDrift$Hall;" ∈ kT := mt_1 (List.mem_of_getElem? (i := 216) rfl) rfl
theorem lf_X6_40 : Cond.fieldLink RX6 40 "KeyDrift" "acts" "LKeyDrift$Acts;" ∈ kT := mt_1 (List.mem_of_getElem? (i := 217) rfl) rfl
theorem lf_X6_49 : Cond.fieldLink RX6 49 "KeyDrift" "foretold" "LKeyDrift$Foretold;" ∈ kT := mt_1 (List.mem_of_getElem? (i := 218) rfl) rfl
theorem lf_X6_56 : Cond.fieldLink RX6 56 "KeyDrift" "asked" "LKeyDrift$Asked;" ∈ kT := mt_1 (List.mem_of_getElem? (i := 219) rfl) rfl
theorem lf_X6_299 : Cond.fieldLink RX6 299 "KeyDrift" "latestFinding" "I" ∈ kT := mt_1 (List.mem_of_getElem? (i := 220) rfl) rfl
theorem lm_L_13 : Cond.methodLink RL 13 yX6_row ∈ kT := mt_2 (List.mem_of_getElem? (i := 0) rfl) rfl
theorem wi_X6_row : Cond.instanceMethod yX6_row ∈ kT := mt_2 (List.mem_of_getElem? (i := 1) rfl) rfl
theorem ws_X6_row : Cond.selects RX6 yX6_row yX6_row ∈ kT := mt_2 (List.mem_of_getElem? (i := 2) rfl) rfl
theorem wc_X6_row : Cond.code yX6_row cX6_row 4 (some .int) ∈ kT := mt_2 (List.mem_of_getElem? (i := 3) rfl) rfl
theorem lm_X6_60 : Cond.methodLink RX6 60 yX6_isRow ∈ kT := mt_2 (List.mem_of_getElem? (i := 4) rfl) rfl
theorem wt_X6_isRow : Cond.static yX6_isRow ∈ kT := mt_2 (List.mem_of_getElem? (i := 5) rfl) rfl
theorem wc_X6_isRow : Cond.code yX6_isRow cX6_isRow 1 (some .boolean) ∈ kT := mt_2 (List.mem_of_getElem? (i := 6) rfl) rfl
theorem lm_X6_64 : Cond.methodLink RX6 64 yX4_isLane ∈ kT := mt_2 (List.mem_of_getElem? (i := 7) rfl) rfl
theorem wt_X4_isLane : Cond.static yX4_isLane ∈ kT := mt_2 (List.mem_of_getElem? (i := 8) rfl) rfl
theorem wc_X4_isLane : Cond.code yX4_isLane cX4_isLane 1 (some .boolean) ∈ kT := mt_2 (List.mem_of_getElem? (i := 9) rfl) rfl
theorem lk_X6_67 : Cond.constant RX6 67 (-1000001) ∈ kT := mt_2 (List.mem_of_getElem? (i := 10) rfl) rfl
theorem lm_X6_68 : Cond.methodLink RX6 68 yX6_found ∈ kT := mt_2 (List.mem_of_getElem? (i := 11) rfl) rfl
theorem wi_X6_found : Cond.instanceMethod yX6_found ∈ kT := mt_2 (List.mem_of_getElem? (i := 13) rfl) rfl
theorem wc_X6_found : Cond.code yX6_found cX6_found 2 (some .int) ∈ kT := mt_2 (List.mem_of_getElem? (i := 14) rfl) rfl
theorem lk_X6_302 : Cond.constant RX6 302 (-1000010) ∈ kT := mt_2 (List.mem_of_getElem? (i := 15) rfl) rfl
theorem lm_X6_72 : Cond.methodLink RX6 72 yX4_begin ∈ kT := mt_2 (List.mem_of_getElem? (i := 16) rfl) rfl
theorem wi_X4_begin : Cond.instanceMethod yX4_begin ∈ kT := mt_2 (List.mem_of_getElem? (i := 17) rfl) rfl
theorem ws_X4_begin : Cond.selects RX4 yX4_begin yX4_begin ∈ kT := mt_2 (List.mem_of_getElem? (i := 18) rfl) rfl
theorem wc_X4_begin : Cond.code yX4_begin cX4_begin 3 none ∈ kT := mt_2 (List.mem_of_getElem? (i := 19) rfl) rfl
theorem lm_X4_17 : Cond.methodLink RX4 17 yJ7_fill_53178 ∈ kT := mt_2 (List.mem_of_getElem? (i := 20) rfl) rfl
theorem wt_J7_fill_53178 : Cond.static yJ7_fill_53178 ∈ kT := mt_2 (List.mem_of_getElem? (i := 21) rfl) rfl
theorem wc_J7_fill_53178 : Cond.code yJ7_fill_53178 cJ7_fill_53178 4 none ∈ kT := mt_2 (List.mem_of_getElem? (i := 22) rfl) rfl
theorem lm_X6_76 : Cond.methodLink RX6 76 yX6_fine ∈ kT := mt_2 (List.mem_of_getElem? (i := 23) rfl) rfl
theorem wi_X6_fine : Cond.instanceMethod yX6_fine ∈ kT := mt_2 (List.mem_of_getElem? (i := 25) rfl) rfl
theorem wc_X6_fine : Cond.code yX6_fine cX6_fine 2 (some .int) ∈ kT := mt_2 (List.mem_of_getElem? (i := 26) rfl) rfl
theorem lm_L_18 : Cond.methodLink RL 18 yX6_set ∈ kT := mt_2 (List.mem_of_getElem? (i := 27) rfl) rfl
theorem wi_X6_set : Cond.instanceMethod yX6_set ∈ kT := mt_2 (List.mem_of_getElem? (i := 28) rfl) rfl
theorem ws_X6_set : Cond.selects RX6 yX6_set yX6_set ∈ kT := mt_2 (List.mem_of_getElem? (i := 29) rfl) rfl
theorem wc_X6_set : Cond.code yX6_set cX6_set 4 (some .int) ∈ kT := mt_2 (List.mem_of_getElem? (i := 30) rfl) rfl
theorem lm_X6_79 : Cond.methodLink RX6 79 yX4_isMissing ∈ kT := mt_2 (List.mem_of_getElem? (i := 31) rfl) rfl
theorem wi_X4_isMissing : Cond.instanceMethod yX4_isMissing ∈ kT := mt_2 (List.mem_of_getElem? (i := 32) rfl) rfl
theorem ws_X4_isMissing : Cond.selects RX4 yX4_isMissing yX4_isMissing ∈ kT := mt_2 (List.mem_of_getElem? (i := 33) rfl) rfl
theorem wc_X4_isMissing : Cond.code yX4_isMissing cX4_isMissing 1 (some .boolean) ∈ kT := mt_2 (List.mem_of_getElem? (i := 34) rfl) rfl
theorem lm_X6_83 : Cond.methodLink RX6 83 yX4_hasPlaces ∈ kT := mt_2 (List.mem_of_getElem? (i := 35) rfl) rfl
theorem wi_X4_hasPlaces : Cond.instanceMethod yX4_hasPlaces ∈ kT := mt_2 (List.mem_of_getElem? (i := 36) rfl) rfl
theorem ws_X4_hasPlaces : Cond.selects RX4 yX4_hasPlaces yX4_hasPlaces ∈ kT := mt_2 (List.mem_of_getElem? (i := 37) rfl) rfl
theorem wc_X4_hasPlaces : Cond.code yX4_hasPlaces cX4_hasPlaces 3 (some .boolean) ∈ kT := mt_2 (List.mem_of_getElem? (i := 38) rfl) rfl
theorem lm_X6_87 : Cond.methodLink RX6 87 yX4_put ∈ kT := mt_2 (List.mem_of_getElem? (i := 39) rfl) rfl
theorem wi_X4_put : Cond.instanceMethod yX4_put ∈ kT := mt_2 (List.mem_of_getElem? (i := 40) rfl) rfl
theorem ws_X4_put : Cond.selects RX4 yX4_put yX4_put ∈ kT := mt_2 (List.mem_of_getElem? (i := 41) rfl) rfl
theorem wc_X4_put : Cond.code yX4_put cX4_put 3 (some .int) ∈ kT := mt_2 (List.mem_of_getElem? (i := 42) rfl) rfl
theorem lm_X4_26 : Cond.methodLink RX4 26 yX4_lowestBits ∈ kT := mt_2 (List.mem_of_getElem? (i := 43) rfl) rfl
theorem wi_X4_lowestBits : Cond.instanceMethod yX4_lowestBits ∈ kT := mt_2 (List.mem_of_getElem? (i := 45) rfl) rfl
theorem wc_X4_lowestBits : Cond.code yX4_lowestBits cX4_lowestBits 2 (some .int) ∈ kT := mt_2 (List.mem_of_getElem? (i := 46) rfl) rfl
theorem lm_L_22 : Cond.methodLink RL 22 yX6_copy ∈ kT := mt_2 (List.mem_of_getElem? (i := 47) rfl) rfl
theorem wi_X6_copy : Cond.instanceMethod yX6_copy ∈ kT := mt_2 (List.mem_of_getElem? (i := 48) rfl) rfl
theorem ws_X6_copy : Cond.selects RX6 yX6_copy yX6_copy ∈ kT := mt_2 (List.mem_of_getElem? (i := 49) rfl) rfl
theorem wc_X6_copy : Cond.code yX6_copy cX6_copy 6 (some .int) ∈ kT := mt_2 (List.mem_of_getElem? (i := 50) rfl) rfl
theorem lm_X6_99 : Cond.methodLink RX6 99 ⟨"java/lang/System", "arraycopy", "(Ljava/lang/Object;ILjava/lang/Object;II)V"⟩ ∈ kT := mt_2 (List.mem_of_getElem? (i := 51) rfl) rfl
theorem wt_O_arraycopy : Cond.static ⟨"java/lang/System", "arraycopy", "(Ljava/lang/Object;ILjava/lang/Object;II)V"⟩ ∈ kT := mt_2 (List.mem_of_getElem? (i := 52) rfl) rfl
theorem wv_O_arraycopy : Cond.native ⟨"java/lang/System", "arraycopy", "(Ljava/lang/Object;ILjava/lang/Object;II)V"⟩ ∈ kT := mt_2 (List.mem_of_getElem? (i := 53) rfl) rfl
theorem lm_L_27 : Cond.methodLink RL 27 yX6_drop ∈ kT := mt_2 (List.mem_of_getElem? (i := 54) rfl) rfl
theorem wi_X6_drop : Cond.instanceMethod yX6_drop ∈ kT := mt_2 (List.mem_of_getElem? (i := 55) rfl) rfl
theorem ws_X6_drop : Cond.selects RX6 yX6_drop yX6_drop ∈ kT := mt_2 (List.mem_of_getElem? (i := 56) rfl) rfl
theorem wc_X6_drop : Cond.code yX6_drop cX6_drop 3 (some .int) ∈ kT := mt_2 (List.mem_of_getElem? (i := 57) rfl) rfl
theorem lm_X6_108 : Cond.methodLink RX6 108 yX4_lose ∈ kT := mt_2 (List.mem_of_getElem? (i := 58) rfl) rfl
theorem wi_X4_lose : Cond.instanceMethod yX4_lose ∈ kT := mt_2 (List.mem_of_getElem? (i := 59) rfl) rfl
theorem ws_X4_lose : Cond.selects RX4 yX4_lose yX4_lose ∈ kT := mt_2 (List.mem_of_getElem? (i := 60) rfl) rfl
theorem wc_X4_lose : Cond.code yX4_lose cX4_lose 1 none ∈ kT := mt_2 (List.mem_of_getElem? (i := 61) rfl) rfl
theorem lm_L_32 : Cond.methodLink RL 32 yX6_feed ∈ kT := mt_2 (List.mem_of_getElem? (i := 62) rfl) rfl
theorem wi_X6_feed : Cond.instanceMethod yX6_feed ∈ kT := mt_2 (List.mem_of_getElem? (i := 63) rfl) rfl
theorem ws_X6_feed : Cond.selects RX6 yX6_feed yX6_feed ∈ kT := mt_2 (List.mem_of_getElem? (i := 64) rfl) rfl
theorem wc_X6_feed : Cond.code yX6_feed cX6_feed 2 (some .int) ∈ kT := mt_2 (List.mem_of_getElem? (i := 65) rfl) rfl
theorem lm_X6_111 : Cond.methodLink RX6 111 yX5_isFull ∈ kT := mt_2 (List.mem_of_getElem? (i := 66) rfl) rfl
theorem wi_X5_isFull : Cond.instanceMethod yX5_isFull ∈ kT := mt_2 (List.mem_of_getElem? (i := 67) rfl) rfl
theorem ws_X5_isFull : Cond.selects RX5 yX5_isFull yX5_isFull ∈ kT := mt_2 (List.mem_of_getElem? (i := 68) rfl) rfl
theorem wc_X5_isFull : Cond.code yX5_isFull cX5_isFull 1 (some .boolean) ∈ kT := mt_2 (List.mem_of_getElem? (i := 69) rfl) rfl
theorem lk_X6_114 : Cond.constant RX6 114 (-1000003) ∈ kT := mt_2 (List.mem_of_getElem? (i := 70) rfl) rfl
theorem lm_X6_115 : Cond.methodLink RX6 115 yX5_append ∈ kT := mt_2 (List.mem_of_getElem? (i := 71) rfl) rfl
theorem wi_X5_append : Cond.instanceMethod yX5_append ∈ kT := mt_2 (List.mem_of_getElem? (i := 72) rfl) rfl
theorem ws_X5_append : Cond.selects RX5 yX5_append yX5_append ∈ kT := mt_2 (List.mem_of_getElem? (i := 73) rfl) rfl
theorem wc_X5_append : Cond.code yX5_append cX5_append 2 (some .int) ∈ kT := mt_2 (List.mem_of_getElem? (i := 74) rfl) rfl
theorem lm_L_36 : Cond.methodLink RL 36 yX6_hall ∈ kT := mt_2 (List.mem_of_getElem? (i := 75) rfl) rfl
theorem wi_X6_hall : Cond.instanceMethod yX6_hall ∈ kT := mt_2 (List.mem_of_getElem? (i := 76) rfl) rfl
theorem ws_X6_hall : Cond.selects RX6 yX6_hall yX6_hall ∈ kT := mt_2 (List.mem_of_getElem? (i := 77) rfl) rfl
theorem wc_X6_hall : Cond.code yX6_hall cX6_hall 2 (some .int) ∈ kT := mt_2 (List.mem_of_getElem? (i := 78) rfl) rfl
theorem lm_X6_118 : Cond.methodLink RX6 118 yX5_readInto ∈ kT := mt_2 (List.mem_of_getElem? (i := 79) rfl) rfl
theorem wi_X5_readInto : Cond.instanceMethod yX5_readInto ∈ kT := mt_2 (List.mem_of_getElem? (i := 80) rfl) rfl
theorem ws_X5_readInto : Cond.selects RX5 yX5_readInto yX5_readInto ∈ kT := mt_2 (List.mem_of_getElem? (i := 81) rfl) rfl
theorem wc_X5_readInto : Cond.code yX5_readInto cX5_readInto 2 (some .boolean) ∈ kT := mt_2 (List.mem_of_getElem? (i := 82) rfl) rfl
theorem lm_X5_25 : Cond.methodLink RX5 25 yX5_readLaw ∈ kT := mt_2 (List.mem_of_getElem? (i := 83) rfl) rfl
theorem wi_X5_readLaw : Cond.instanceMethod yX5_readLaw ∈ kT := mt_2 (List.mem_of_getElem? (i := 85) rfl) rfl
theorem wc_X5_readLaw : Cond.code yX5_readLaw cX5_readLaw 2 none ∈ kT := mt_2 (List.mem_of_getElem? (i := 86) rfl) rfl
theorem lm_X5_39 : Cond.methodLink RX5 39 yX5_takeByte ∈ kT := mt_2 (List.mem_of_getElem? (i := 87) rfl) rfl
theorem wi_X5_takeByte : Cond.instanceMethod yX5_takeByte ∈ kT := mt_2 (List.mem_of_getElem? (i := 89) rfl) rfl
theorem wc_X5_takeByte : Cond.code yX5_takeByte cX5_takeByte 2 none ∈ kT := mt_2 (List.mem_of_getElem? (i := 90) rfl) rfl
theorem lm_X5_63 : Cond.methodLink RX5 63 yX5_sees ∈ kT := mt_2 (List.mem_of_getElem? (i := 91) rfl) rfl
theorem wi_X5_sees : Cond.instanceMethod yX5_sees ∈ kT := mt_2 (List.mem_of_getElem? (i := 93) rfl) rfl
theorem wc_X5_sees : Cond.code yX5_sees cX5_sees 2 (some .boolean) ∈ kT := mt_2 (List.mem_of_getElem? (i := 94) rfl) rfl
theorem lm_X5_77 : Cond.methodLink RX5 77 yX5_byteHere ∈ kT := mt_2 (List.mem_of_getElem? (i := 95) rfl) rfl
theorem wi_X5_byteHere : Cond.instanceMethod yX5_byteHere ∈ kT := mt_2 (List.mem_of_getElem? (i := 97) rfl) rfl
theorem wc_X5_byteHere : Cond.code yX5_byteHere cX5_byteHere 1 (some .int) ∈ kT := mt_2 (List.mem_of_getElem? (i := 98) rfl) rfl
theorem lm_X5_107 : Cond.methodLink RX5 107 yX5_byteAt ∈ kT := mt_2 (List.mem_of_getElem? (i := 99) rfl) rfl
theorem wi_X5_byteAt : Cond.instanceMethod yX5_byteAt ∈ kT := mt_2 (List.mem_of_getElem? (i := 101) rfl) rfl
theorem wc_X5_byteAt : Cond.code yX5_byteAt cX5_byteAt 2 (some .int) ∈ kT := mt_2 (List.mem_of_getElem? (i := 102) rfl) rfl
theorem lm_X5_35 : Cond.methodLink RX5 35 yX5_refuse ∈ kT := mt_2 (List.mem_of_getElem? (i := 103) rfl) rfl
theorem wi_X5_refuse : Cond.instanceMethod yX5_refuse ∈ kT := mt_2 (List.mem_of_getElem? (i := 105) rfl) rfl
theorem wc_X5_refuse : Cond.code yX5_refuse cX5_refuse 2 none ∈ kT := mt_2 (List.mem_of_getElem? (i := 106) rfl) rfl
theorem lm_X5_44 : Cond.methodLink RX5 44 yX5_takeNumber ∈ kT := mt_2 (List.mem_of_getElem? (i := 107) rfl) rfl
theorem wi_X5_takeNumber : Cond.instanceMethod yX5_takeNumber ∈ kT := mt_2 (List.mem_of_getElem? (i := 109) rfl) rfl
theorem wc_X5_takeNumber : Cond.code yX5_takeNumber cX5_takeNumber 6 (some .int) ∈ kT := mt_2 (List.mem_of_getElem? (i := 110) rfl) rfl
theorem lm_X5_104 : Cond.methodLink RX5 104 yX5_figuresHere ∈ kT := mt_2 (List.mem_of_getElem? (i := 111) rfl) rfl
theorem wi_X5_figuresHere : Cond.instanceMethod yX5_figuresHere ∈ kT := mt_2 (List.mem_of_getElem? (i := 113) rfl) rfl
theorem wc_X5_figuresHere : Cond.code yX5_figuresHere cX5_figuresHere 2 (some .int) ∈ kT := mt_2 (List.mem_of_getElem? (i := 114) rfl) rfl
theorem lm_X5_110 : Cond.methodLink RX5 110 yX5_isFigure ∈ kT := mt_2 (List.mem_of_getElem? (i := 115) rfl) rfl
theorem wt_X5_isFigure : Cond.static yX5_isFigure ∈ kT := mt_2 (List.mem_of_getElem? (i := 116) rfl) rfl
theorem wc_X5_isFigure : Cond.code yX5_isFigure cX5_isFigure 1 (some .boolean) ∈ kT := mt_2 (List.mem_of_getElem? (i := 117) rfl) rfl
theorem lm_X5_29 : Cond.methodLink RX5 29 yX5_readPieces ∈ kT := mt_2 (List.mem_of_getElem? (i := 118) rfl) rfl
theorem wi_X5_readPieces : Cond.instanceMethod yX5_readPieces ∈ kT := mt_2 (List.mem_of_getElem? (i := 120) rfl) rfl
theorem wc_X5_readPieces : Cond.code yX5_readPieces cX5_readPieces 3 none ∈ kT := mt_2 (List.mem_of_getElem? (i := 121) rfl) rfl
theorem lm_X5_67 : Cond.methodLink RX5 67 yX5_readStrings ∈ kT := mt_2 (List.mem_of_getElem? (i := 122) rfl) rfl
theorem wi_X5_readStrings : Cond.instanceMethod yX5_readStrings ∈ kT := mt_2 (List.mem_of_getElem? (i := 124) rfl) rfl
theorem wc_X5_readStrings : Cond.code yX5_readStrings cX5_readStrings 4 none ∈ kT := mt_2 (List.mem_of_getElem? (i := 125) rfl) rfl
theorem lm_X5_71 : Cond.methodLink RX5 71 yX5_seesString ∈ kT := mt_2 (List.mem_of_getElem? (i := 126) rfl) rfl
theorem wi_X5_seesString : Cond.instanceMethod yX5_seesString ∈ kT := mt_2 (List.mem_of_getElem? (i := 128) rfl) rfl
theorem wc_X5_seesString : Cond.code yX5_seesString cX5_seesString 3 (some .boolean) ∈ kT := mt_2 (List.mem_of_getElem? (i := 129) rfl) rfl
theorem lm_X5_32 : Cond.methodLink RX5 32 yX5_readPupils ∈ kT := mt_2 (List.mem_of_getElem? (i := 130) rfl) rfl
theorem wi_X5_readPupils : Cond.instanceMethod yX5_readPupils ∈ kT := mt_2 (List.mem_of_getElem? (i := 132) rfl) rfl
theorem wc_X5_readPupils : Cond.code yX5_readPupils cX5_readPupils 3 none ∈ kT := mt_2 (List.mem_of_getElem? (i := 133) rfl) rfl
theorem lm_X5_87 : Cond.methodLink RX5 87 yX5_seesSort ∈ kT := mt_2 (List.mem_of_getElem? (i := 134) rfl) rfl
theorem wi_X5_seesSort : Cond.instanceMethod yX5_seesSort ∈ kT := mt_2 (List.mem_of_getElem? (i := 136) rfl) rfl
theorem wc_X5_seesSort : Cond.code yX5_seesSort cX5_seesSort 1 (some .boolean) ∈ kT := mt_2 (List.mem_of_getElem? (i := 137) rfl) rfl
theorem lm_X5_94 : Cond.methodLink RX5 94 yX5_kindOfSort ∈ kT := mt_2 (List.mem_of_getElem? (i := 138) rfl) rfl
theorem wt_X5_kindOfSort : Cond.static yX5_kindOfSort ∈ kT := mt_2 (List.mem_of_getElem? (i := 139) rfl) rfl
theorem wc_X5_kindOfSort : Cond.code yX5_kindOfSort cX5_kindOfSort 1 (some .int) ∈ kT := mt_2 (List.mem_of_getElem? (i := 140) rfl) rfl
theorem lm_X6_122 : Cond.methodLink RX6 122 yX5_clear ∈ kT := mt_2 (List.mem_of_getElem? (i := 141) rfl) rfl
theorem wi_X5_clear : Cond.instanceMethod yX5_clear ∈ kT := mt_2 (List.mem_of_getElem? (i := 142) rfl) rfl
theorem ws_X5_clear : Cond.selects RX5 yX5_clear yX5_clear ∈ kT := mt_2 (List.mem_of_getElem? (i := 143) rfl) rfl
theorem wc_X5_clear : Cond.code yX5_clear cX5_clear 1 none ∈ kT := mt_2 (List.mem_of_getElem? (i := 144) rfl) rfl
theorem lk_X6_125 : Cond.constant RX6 125 (-1000100) ∈ kT := mt_2 (List.mem_of_getElem? (i := 145) rfl) rfl
theorem lm_X6_129 : Cond.methodLink RX6 129 yX3_become ∈ kT := mt_2 (List.mem_of_getElem? (i := 146) rfl) rfl
theorem wi_X3_become : Cond.instanceMethod yX3_become ∈ kT := mt_2 (List.mem_of_getElem? (i := 147) rfl) rfl
theorem ws_X3_become : Cond.selects RX3 yX3_become yX3_become ∈ kT := mt_2 (List.mem_of_getElem? (i := 148) rfl) rfl
theorem wc_X3_become : Cond.code yX3_become cX3_become 2 none ∈ kT := mt_2 (List.mem_of_getElem? (i := 149) rfl) rfl
theorem lm_X3_46 : Cond.methodLink RX3 46 ⟨"java/lang/System", "arraycopy", "(Ljava/lang/Object;ILjava/lang/Object;II)V"⟩ ∈ kT := mt_2 (List.mem_of_getElem? (i := 150) rfl) rfl
theorem lm_X6_132 : Cond.methodLink RX6 132 yX0_clear ∈ kT := mt_2 (List.mem_of_getElem? (i := 151) rfl) rfl
theorem wi_X0_clear : Cond.instanceMethod yX0_clear ∈ kT := mt_2 (List.mem_of_getElem? (i := 152) rfl) rfl
theorem ws_X0_clear : Cond.selects RX0 yX0_clear yX0_clear ∈ kT := mt_2 (List.mem_of_getElem? (i := 153) rfl) rfl
theorem wc_X0_clear : Cond.code yX0_clear cX0_clear 1 none ∈ kT := mt_2 (List.mem_of_getElem? (i := 154) rfl) rfl
theorem lm_L_41 : Cond.methodLink RL 41 yX6_fault ∈ kT := mt_2 (List.mem_of_getElem? (i := 155) rfl) rfl
theorem wi_X6_fault : Cond.instanceMethod yX6_fault ∈ kT := mt_2 (List.mem_of_getElem? (i := 156) rfl) rfl
theorem ws_X6_fault : Cond.selects RX6 yX6_fault yX6_fault ∈ kT := mt_2 (List.mem_of_getElem? (i := 157) rfl) rfl
theorem wc_X6_fault : Cond.code yX6_fault cX6_fault 1 (some .int) ∈ kT := mt_2 (List.mem_of_getElem? (i := 158) rfl) rfl
theorem lm_L_45 : Cond.methodLink RL 45 yX6_undo ∈ kT := mt_2 (List.mem_of_getElem? (i := 159) rfl) rfl
theorem wi_X6_undo : Cond.instanceMethod yX6_undo ∈ kT := mt_2 (List.mem_of_getElem? (i := 160) rfl) rfl
theorem ws_X6_undo : Cond.selects RX6 yX6_undo yX6_undo ∈ kT := mt_2 (List.mem_of_getElem? (i := 161) rfl) rfl
theorem wc_X6_undo : Cond.code yX6_undo cX6_undo 1 (some .int) ∈ kT := mt_2 (List.mem_of_getElem? (i := 162) rfl) rfl
theorem lk_X6_142 : Cond.constant RX6 142 (-1000002) ∈ kT := mt_2 (List.mem_of_getElem? (i := 163) rfl) rfl
theorem lm_X6_143 : Cond.methodLink RX6 143 yX0_takeBack ∈ kT := mt_2 (List.mem_of_getElem? (i := 164) rfl) rfl
theorem wi_X0_takeBack : Cond.instanceMethod yX0_takeBack ∈ kT := mt_2 (List.mem_of_getElem? (i := 165) rfl) rfl
theorem ws_X0_takeBack : Cond.selects RX0 yX0_takeBack yX0_takeBack ∈ kT := mt_2 (List.mem_of_getElem? (i := 166) rfl) rfl
theorem wc_X0_takeBack : Cond.code yX0_takeBack cX0_takeBack 2 none ∈ kT := mt_2 (List.mem_of_getElem? (i := 167) rfl) rfl
theorem lm_L_49 : Cond.methodLink RL 49 yX6_nights ∈ kT := mt_2 (List.mem_of_getElem? (i := 168) rfl) rfl
theorem wi_X6_nights : Cond.instanceMethod yX6_nights ∈ kT := mt_2 (List.mem_of_getElem? (i := 169) rfl) rfl
theorem ws_X6_nights : Cond.selects RX6 yX6_nights yX6_nights ∈ kT := mt_2 (List.mem_of_getElem? (i := 170) rfl) rfl
theorem wc_X6_nights : Cond.code yX6_nights cX6_nights 3 (some .int) ∈ kT := mt_2 (List.mem_of_getElem? (i := 171) rfl) rfl
theorem lm_X6_146 : Cond.methodLink RX6 146 yX3_isTold ∈ kT := mt_2 (List.mem_of_getElem? (i := 172) rfl) rfl
theorem wi_X3_isTold : Cond.instanceMethod yX3_isTold ∈ kT := mt_2 (List.mem_of_getElem? (i := 173) rfl) rfl
theorem ws_X3_isTold : Cond.selects RX3 yX3_isTold yX3_isTold ∈ kT := mt_2 (List.mem_of_getElem? (i := 174) rfl) rfl
theorem wc_X3_isTold : Cond.code yX3_isTold cX3_isTold 1 (some .boolean) ∈ kT := mt_2 (List.mem_of_getElem? (i := 175) rfl) rfl
theorem lm_X6_155 : Cond.methodLink RX6 155 yX0_keep ∈ kT := mt_2 (List.mem_of_getElem? (i := 176) rfl) rfl
theorem wi_X0_keep : Cond.instanceMethod yX0_keep ∈ kT := mt_2 (List.mem_of_getElem? (i := 177) rfl) rfl
theorem ws_X0_keep : Cond.selects RX0 yX0_keep yX0_keep ∈ kT := mt_2 (List.mem_of_getElem? (i := 178) rfl) rfl
theorem wc_X0_keep : Cond.code yX0_keep cX0_keep 4 none ∈ kT := mt_2 (List.mem_of_getElem? (i := 179) rfl) rfl
theorem lm_X0_26 : Cond.methodLink RX0 26 yJ9_min_7cf53 ∈ kT := mt_2 (List.mem_of_getElem? (i := 180) rfl) rfl
theorem wt_J9_min_7cf53 : Cond.static yJ9_min_7cf53 ∈ kT := mt_2 (List.mem_of_getElem? (i := 181) rfl) rfl
theorem wc_J9_min_7cf53 : Cond.code yJ9_min_7cf53 cJ9_min_7cf53 2 (some .int) ∈ kT := mt_2 (List.mem_of_getElem? (i := 182) rfl) rfl
theorem lm_X6_159 : Cond.methodLink RX6 159 yX3_shiftBehind ∈ kT := mt_2 (List.mem_of_getElem? (i := 183) rfl) rfl
theorem wi_X3_shiftBehind : Cond.instanceMethod yX3_shiftBehind ∈ kT := mt_2 (List.mem_of_getElem? (i := 184) rfl) rfl
theorem ws_X3_shiftBehind : Cond.selects RX3 yX3_shiftBehind yX3_shiftBehind ∈ kT := mt_2 (List.mem_of_getElem? (i := 185) rfl) rfl
theorem wc_X3_shiftBehind : Cond.code yX3_shiftBehind cX3_shiftBehind 2 (some .int) ∈ kT := mt_2 (List.mem_of_getElem? (i := 186) rfl) rfl
theorem lm_X3_52 : Cond.methodLink RX3 52 yX3_around ∈ kT := mt_2 (List.mem_of_getElem? (i := 187) rfl) rfl
theorem wi_X3_around : Cond.instanceMethod yX3_around ∈ kT := mt_2 (List.mem_of_getElem? (i := 188) rfl) rfl
theorem ws_X3_around : Cond.selects RX3 yX3_around yX3_around ∈ kT := mt_2 (List.mem_of_getElem? (i := 189) rfl) rfl
theorem wc_X3_around : Cond.code yX3_around cX3_around 3 (some .int) ∈ kT := mt_2 (List.mem_of_getElem? (i := 190) rfl) rfl
theorem lm_L_53 : Cond.methodLink RL 53 yX6_thunder ∈ kT := mt_2 (List.mem_of_getElem? (i := 191) rfl) rfl
theorem wi_X6_thunder : Cond.instanceMethod yX6_thunder ∈ kT := mt_2 (List.mem_of_getElem? (i := 192) rfl) rfl
theorem ws_X6_thunder : Cond.selects RX6 yX6_thunder yX6_thunder ∈ kT := mt_2 (List.mem_of_getElem? (i := 193) rfl) rfl
theorem wc_X6_thunder : Cond.code yX6_thunder cX6_thunder 2 (some .int) ∈ kT := mt_2 (List.mem_of_getElem? (i := 194) rfl) rfl
theorem lm_X6_162 : Cond.methodLink RX6 162 yX3_around ∈ kT := mt_2 (List.mem_of_getElem? (i := 195) rfl) rfl
theorem lm_L_57 : Cond.methodLink RL 57 yX6_tune ∈ kT := mt_2 (List.mem_of_getElem? (i := 196) rfl) rfl
theorem wi_X6_tune : Cond.instanceMethod yX6_tune ∈ kT := mt_2 (List.mem_of_getElem? (i := 197) rfl) rfl
theorem ws_X6_tune : Cond.selects RX6 yX6_tune yX6_tune ∈ kT := mt_2 (List.mem_of_getElem? (i := 198) rfl) rfl
theorem wc_X6_tune : Cond.code yX6_tune cX6_tune 2 (some .int) ∈ kT := mt_2 (List.mem_of_getElem? (i := 199) rfl) rfl
theorem lm_L_61 : Cond.methodLink RL 61 yX6_learn ∈ kT := mt_2 (List.mem_of_getElem? (i := 200) rfl) rfl
theorem wi_X6_learn : Cond.instanceMethod yX6_learn ∈ kT := mt_2 (List.mem_of_getElem? (i := 201) rfl) rfl
theorem ws_X6_learn : Cond.selects RX6 yX6_learn yX6_learn ∈ kT := mt_2 (List.mem_of_getElem? (i := 202) rfl) rfl
theorem wc_X6_learn : Cond.code yX6_learn cX6_learn 3 (some .int) ∈ kT := mt_2 (List.mem_of_getElem? (i := 203) rfl) rfl
theorem lm_X6_165 : Cond.methodLink RX6 165 yX3_hasPupil ∈ kT := mt_2 (List.mem_of_getElem? (i := 204) rfl) rfl
theorem wi_X3_hasPupil : Cond.instanceMethod yX3_hasPupil ∈ kT := mt_2 (List.mem_of_getElem? (i := 205) rfl) rfl
theorem ws_X3_hasPupil : Cond.selects RX3 yX3_hasPupil yX3_hasPupil ∈ kT := mt_2 (List.mem_of_getElem? (i := 206) rfl) rfl
theorem wc_X3_hasPupil : Cond.code yX3_hasPupil cX3_hasPupil 2 (some .boolean) ∈ kT := mt_2 (List.mem_of_getElem? (i := 207) rfl) rfl
theorem lm_L_65 : Cond.methodLink RL 65 yX6_piece ∈ kT := mt_2 (List.mem_of_getElem? (i := 208) rfl) rfl
theorem wi_X6_piece : Cond.instanceMethod yX6_piece ∈ kT := mt_2 (List.mem_of_getElem? (i := 209) rfl) rfl
theorem ws_X6_piece : Cond.selects RX6 yX6_piece yX6_piece ∈ kT := mt_2 (List.mem_of_getElem? (i := 210) rfl) rfl
theorem wc_X6_piece : Cond.code yX6_piece cX6_piece 3 (some .int) ∈ kT := mt_2 (List.mem_of_getElem? (i := 211) rfl) rfl
theorem lm_X6_171 : Cond.methodLink RX6 171 yX3_hasPiece ∈ kT := mt_2 (List.mem_of_getElem? (i := 212) rfl) rfl
theorem wi_X3_hasPiece : Cond.instanceMethod yX3_hasPiece ∈ kT := mt_2 (List.mem_of_getElem? (i := 213) rfl) rfl
theorem ws_X3_hasPiece : Cond.selects RX3 yX3_hasPiece yX3_hasPiece ∈ kT := mt_2 (List.mem_of_getElem? (i := 214) rfl) rfl
theorem wc_X3_hasPiece : Cond.code yX3_hasPiece cX3_hasPiece 2 (some .boolean) ∈ kT := mt_2 (List.mem_of_getElem? (i := 215) rfl) rfl
theorem lm_X6_177 : Cond.methodLink RX6 177 yX3_stringOf ∈ kT := mt_2 (List.mem_of_getElem? (i := 216) rfl) rfl
theorem wi_X3_stringOf : Cond.instanceMethod yX3_stringOf ∈ kT := mt_2 (List.mem_of_getElem? (i := 217) rfl) rfl
theorem ws_X3_stringOf : Cond.selects RX3 yX3_stringOf yX3_stringOf ∈ kT := mt_2 (List.mem_of_getElem? (i := 218) rfl) rfl
theorem wc_X3_stringOf : Cond.code yX3_stringOf cX3_stringOf 3 (some .int) ∈ kT := mt_2 (List.mem_of_getElem? (i := 219) rfl) rfl
theorem lk_X6_180 : Cond.constant RX6 180 (-1000000) ∈ kT := mt_2 (List.mem_of_getElem? (i := 220) rfl) rfl
theorem lm_L_70 : Cond.methodLink RL 70 yX6_pupil ∈ kT := mt_2 (List.mem_of_getElem? (i := 221) rfl) rfl
theorem wi_X6_pupil : Cond.instanceMethod yX6_pupil ∈ kT := mt_2 (List.mem_of_getElem? (i := 222) rfl) rfl
theorem ws_X6_pupil : Cond.selects RX6 yX6_pupil yX6_pupil ∈ kT := mt_2 (List.mem_of_getElem? (i := 223) rfl) rfl
theorem wc_X6_pupil : Cond.code yX6_pupil cX6_pupil 3 (some .int) ∈ kT := mt_2 (List.mem_of_getElem? (i := 224) rfl) rfl
theorem lm_X6_184 : Cond.methodLink RX6 184 yX3_biasOf ∈ kT := mt_2 (List.mem_of_getElem? (i := 225) rfl) rfl
theorem wi_X3_biasOf : Cond.instanceMethod yX3_biasOf ∈ kT := mt_2 (List.mem_of_getElem? (i := 226) rfl) rfl
theorem ws_X3_biasOf : Cond.selects RX3 yX3_biasOf yX3_biasOf ∈ kT := mt_2 (List.mem_of_getElem? (i := 227) rfl) rfl
theorem wc_X3_biasOf : Cond.code yX3_biasOf cX3_biasOf 2 (some .int) ∈ kT := mt_2 (List.mem_of_getElem? (i := 228) rfl) rfl
theorem lm_X3_56 : Cond.methodLink RX3 56 yX3_biasAs ∈ kT := mt_2 (List.mem_of_getElem? (i := 229) rfl) rfl
theorem wi_X3_biasAs : Cond.instanceMethod yX3_biasAs ∈ kT := mt_2 (List.mem_of_getElem? (i := 230) rfl) rfl
theorem ws_X3_biasAs : Cond.selects RX3 yX3_biasAs yX3_biasAs ∈ kT := mt_2 (List.mem_of_getElem? (i := 231) rfl) rfl
theorem wc_X3_biasAs : Cond.code yX3_biasAs cX3_biasAs 3 (some .int) ∈ kT := mt_2 (List.mem_of_getElem? (i := 232) rfl) rfl
theorem lm_L_74 : Cond.methodLink RL 74 yX6_plays ∈ kT := mt_2 (List.mem_of_getElem? (i := 233) rfl) rfl
theorem wi_X6_plays : Cond.instanceMethod yX6_plays ∈ kT := mt_2 (List.mem_of_getElem? (i := 234) rfl) rfl
theorem ws_X6_plays : Cond.selects RX6 yX6_plays yX6_plays ∈ kT := mt_2 (List.mem_of_getElem? (i := 235) rfl) rfl
theorem wc_X6_plays : Cond.code yX6_plays cX6_plays 4 (some .int) ∈ kT := mt_2 (List.mem_of_getElem? (i := 236) rfl) rfl
theorem lm_X6_187 : Cond.methodLink RX6 187 yX3_reaches ∈ kT := mt_2 (List.mem_of_getElem? (i := 237) rfl) rfl
theorem wi_X3_reaches : Cond.instanceMethod yX3_reaches ∈ kT := mt_2 (List.mem_of_getElem? (i := 238) rfl) rfl
theorem ws_X3_reaches : Cond.selects RX3 yX3_reaches yX3_reaches ∈ kT := mt_2 (List.mem_of_getElem? (i := 239) rfl) rfl
theorem wc_X3_reaches : Cond.code yX3_reaches cX3_reaches 4 (some .boolean) ∈ kT := mt_3 (List.mem_of_getElem? (i := 0) rfl) rfl
theorem lm_X3_60 : Cond.methodLink RX3 60 yX3_biasOf ∈ kT := mt_3 (List.mem_of_getElem? (i := 1) rfl) rfl
theorem lm_X3_63 : Cond.methodLink RX3 63 yX3_greatestKey ∈ kT := mt_3 (List.mem_of_getElem? (i := 2) rfl) rfl
theorem wi_X3_greatestKey : Cond.instanceMethod yX3_greatestKey ∈ kT := mt_3 (List.mem_of_getElem? (i := 3) rfl) rfl
theorem ws_X3_greatestKey : Cond.selects RX3 yX3_greatestKey yX3_greatestKey ∈ kT := mt_3 (List.mem_of_getElem? (i := 4) rfl) rfl
theorem wc_X3_greatestKey : Cond.code yX3_greatestKey cX3_greatestKey 5 (some .int) ∈ kT := mt_3 (List.mem_of_getElem? (i := 5) rfl) rfl
theorem lm_X3_69 : Cond.methodLink RX3 69 yX3_stringOf ∈ kT := mt_3 (List.mem_of_getElem? (i := 6) rfl) rfl
theorem lm_X3_77 : Cond.methodLink RX3 77 yJ9_max_7cf53 ∈ kT := mt_3 (List.mem_of_getElem? (i := 7) rfl) rfl
theorem wt_J9_max_7cf53 : Cond.static yJ9_max_7cf53 ∈ kT := mt_3 (List.mem_of_getElem? (i := 8) rfl) rfl
theorem wc_J9_max_7cf53 : Cond.code yJ9_max_7cf53 cJ9_max_7cf53 2 (some .int) ∈ kT := mt_3 (List.mem_of_getElem? (i := 9) rfl) rfl
theorem lm_X3_66 : Cond.methodLink RX3 66 yX3_leastKey ∈ kT := mt_3 (List.mem_of_getElem? (i := 10) rfl) rfl
theorem wi_X3_leastKey : Cond.instanceMethod yX3_leastKey ∈ kT := mt_3 (List.mem_of_getElem? (i := 11) rfl) rfl
theorem ws_X3_leastKey : Cond.selects RX3 yX3_leastKey yX3_leastKey ∈ kT := mt_3 (List.mem_of_getElem? (i := 12) rfl) rfl
theorem wc_X3_leastKey : Cond.code yX3_leastKey cX3_leastKey 5 (some .int) ∈ kT := mt_3 (List.mem_of_getElem? (i := 13) rfl) rfl
theorem lm_X3_72 : Cond.methodLink RX3 72 yJ9_min_7cf53 ∈ kT := mt_3 (List.mem_of_getElem? (i := 14) rfl) rfl
theorem lm_X6_190 : Cond.methodLink RX6 190 yX3_leastKey ∈ kT := mt_3 (List.mem_of_getElem? (i := 15) rfl) rfl
theorem lm_X6_193 : Cond.methodLink RX6 193 yX3_greatestKey ∈ kT := mt_3 (List.mem_of_getElem? (i := 16) rfl) rfl
theorem lm_L_78 : Cond.methodLink RL 78 yX6_heard ∈ kT := mt_3 (List.mem_of_getElem? (i := 17) rfl) rfl
theorem wi_X6_heard : Cond.instanceMethod yX6_heard ∈ kT := mt_3 (List.mem_of_getElem? (i := 18) rfl) rfl
theorem ws_X6_heard : Cond.selects RX6 yX6_heard yX6_heard ∈ kT := mt_3 (List.mem_of_getElem? (i := 19) rfl) rfl
theorem wc_X6_heard : Cond.code yX6_heard cX6_heard 4 (some .int) ∈ kT := mt_3 (List.mem_of_getElem? (i := 20) rfl) rfl
theorem lm_X6_196 : Cond.methodLink RX6 196 yX3_stringHeard ∈ kT := mt_3 (List.mem_of_getElem? (i := 21) rfl) rfl
theorem wi_X3_stringHeard : Cond.instanceMethod yX3_stringHeard ∈ kT := mt_3 (List.mem_of_getElem? (i := 22) rfl) rfl
theorem ws_X3_stringHeard : Cond.selects RX3 yX3_stringHeard yX3_stringHeard ∈ kT := mt_3 (List.mem_of_getElem? (i := 23) rfl) rfl
theorem wc_X3_stringHeard : Cond.code yX3_stringHeard cX3_stringHeard 3 (some .int) ∈ kT := mt_3 (List.mem_of_getElem? (i := 24) rfl) rfl
theorem lm_L_82 : Cond.methodLink RL 82 yX6_strike ∈ kT := mt_3 (List.mem_of_getElem? (i := 25) rfl) rfl
theorem wi_X6_strike : Cond.instanceMethod yX6_strike ∈ kT := mt_3 (List.mem_of_getElem? (i := 26) rfl) rfl
theorem ws_X6_strike : Cond.selects RX6 yX6_strike yX6_strike ∈ kT := mt_3 (List.mem_of_getElem? (i := 27) rfl) rfl
theorem wc_X6_strike : Cond.code yX6_strike cX6_strike 2 (some .int) ∈ kT := mt_3 (List.mem_of_getElem? (i := 28) rfl) rfl
theorem lm_L_86 : Cond.methodLink RL 86 yX6_soon ∈ kT := mt_3 (List.mem_of_getElem? (i := 29) rfl) rfl
theorem wi_X6_soon : Cond.instanceMethod yX6_soon ∈ kT := mt_3 (List.mem_of_getElem? (i := 30) rfl) rfl
theorem ws_X6_soon : Cond.selects RX6 yX6_soon yX6_soon ∈ kT := mt_3 (List.mem_of_getElem? (i := 31) rfl) rfl
theorem wc_X6_soon : Cond.code yX6_soon cX6_soon 2 (some .int) ∈ kT := mt_3 (List.mem_of_getElem? (i := 32) rfl) rfl
theorem lm_X6_202 : Cond.methodLink RX6 202 yX2_firstNightAt ∈ kT := mt_3 (List.mem_of_getElem? (i := 33) rfl) rfl
theorem wi_X2_firstNightAt : Cond.instanceMethod yX2_firstNightAt ∈ kT := mt_3 (List.mem_of_getElem? (i := 34) rfl) rfl
theorem ws_X2_firstNightAt : Cond.selects RX2 yX2_firstNightAt yX2_firstNightAt ∈ kT := mt_3 (List.mem_of_getElem? (i := 35) rfl) rfl
theorem wc_X2_firstNightAt : Cond.code yX2_firstNightAt cX2_firstNightAt 3 (some .int) ∈ kT := mt_3 (List.mem_of_getElem? (i := 36) rfl) rfl
theorem lm_X2_27 : Cond.methodLink RX2 27 yX3_shiftBehind ∈ kT := mt_3 (List.mem_of_getElem? (i := 37) rfl) rfl
theorem lk_X2_31 : Cond.constant RX2 31 (-1000000) ∈ kT := mt_3 (List.mem_of_getElem? (i := 38) rfl) rfl
theorem lm_L_90 : Cond.methodLink RL 90 yX6_together ∈ kT := mt_3 (List.mem_of_getElem? (i := 39) rfl) rfl
theorem wi_X6_together : Cond.instanceMethod yX6_together ∈ kT := mt_3 (List.mem_of_getElem? (i := 40) rfl) rfl
theorem ws_X6_together : Cond.selects RX6 yX6_together yX6_together ∈ kT := mt_3 (List.mem_of_getElem? (i := 41) rfl) rfl
theorem wc_X6_together : Cond.code yX6_together cX6_together 3 (some .int) ∈ kT := mt_3 (List.mem_of_getElem? (i := 42) rfl) rfl
theorem lm_L_94 : Cond.methodLink RL 94 yX6_itself ∈ kT := mt_3 (List.mem_of_getElem? (i := 43) rfl) rfl
theorem wi_X6_itself : Cond.instanceMethod yX6_itself ∈ kT := mt_3 (List.mem_of_getElem? (i := 44) rfl) rfl
theorem ws_X6_itself : Cond.selects RX6 yX6_itself yX6_itself ∈ kT := mt_3 (List.mem_of_getElem? (i := 45) rfl) rfl
theorem wc_X6_itself : Cond.code yX6_itself cX6_itself 1 (some .int) ∈ kT := mt_3 (List.mem_of_getElem? (i := 46) rfl) rfl
theorem lm_L_98 : Cond.methodLink RL 98 yX6_nightsOf ∈ kT := mt_3 (List.mem_of_getElem? (i := 47) rfl) rfl
theorem wi_X6_nightsOf : Cond.instanceMethod yX6_nightsOf ∈ kT := mt_3 (List.mem_of_getElem? (i := 48) rfl) rfl
theorem ws_X6_nightsOf : Cond.selects RX6 yX6_nightsOf yX6_nightsOf ∈ kT := mt_3 (List.mem_of_getElem? (i := 49) rfl) rfl
theorem wc_X6_nightsOf : Cond.code yX6_nightsOf cX6_nightsOf 3 (some .int) ∈ kT := mt_3 (List.mem_of_getElem? (i := 50) rfl) rfl
theorem lm_X6_205 : Cond.methodLink RX6 205 yX2_nightsAt ∈ kT := mt_3 (List.mem_of_getElem? (i := 51) rfl) rfl
theorem wi_X2_nightsAt : Cond.instanceMethod yX2_nightsAt ∈ kT := mt_3 (List.mem_of_getElem? (i := 52) rfl) rfl
theorem ws_X2_nightsAt : Cond.selects RX2 yX2_nightsAt yX2_nightsAt ∈ kT := mt_3 (List.mem_of_getElem? (i := 53) rfl) rfl
theorem wc_X2_nightsAt : Cond.code yX2_nightsAt cX2_nightsAt 5 (some .int) ∈ kT := mt_3 (List.mem_of_getElem? (i := 54) rfl) rfl
theorem lm_L_102 : Cond.methodLink RL 102 yX6_struck ∈ kT := mt_3 (List.mem_of_getElem? (i := 55) rfl) rfl
theorem wi_X6_struck : Cond.instanceMethod yX6_struck ∈ kT := mt_3 (List.mem_of_getElem? (i := 56) rfl) rfl
theorem ws_X6_struck : Cond.selects RX6 yX6_struck yX6_struck ∈ kT := mt_3 (List.mem_of_getElem? (i := 57) rfl) rfl
theorem wc_X6_struck : Cond.code yX6_struck cX6_struck 5 (some .int) ∈ kT := mt_3 (List.mem_of_getElem? (i := 58) rfl) rfl
theorem lm_X6_208 : Cond.methodLink RX6 208 yX2_shiftsBy ∈ kT := mt_3 (List.mem_of_getElem? (i := 59) rfl) rfl
theorem wi_X2_shiftsBy : Cond.instanceMethod yX2_shiftsBy ∈ kT := mt_3 (List.mem_of_getElem? (i := 60) rfl) rfl
theorem ws_X2_shiftsBy : Cond.selects RX2 yX2_shiftsBy yX2_shiftsBy ∈ kT := mt_3 (List.mem_of_getElem? (i := 61) rfl) rfl
theorem wc_X2_shiftsBy : Cond.code yX2_shiftsBy cX2_shiftsBy 7 (some .int) ∈ kT := mt_3 (List.mem_of_getElem? (i := 62) rfl) rfl
theorem lm_X2_36 : Cond.methodLink RX2 36 yX2_wrongsBy ∈ kT := mt_3 (List.mem_of_getElem? (i := 63) rfl) rfl
theorem wi_X2_wrongsBy : Cond.instanceMethod yX2_wrongsBy ∈ kT := mt_3 (List.mem_of_getElem? (i := 65) rfl) rfl
theorem wc_X2_wrongsBy : Cond.code yX2_wrongsBy cX2_wrongsBy 10 (some .int) ∈ kT := mt_3 (List.mem_of_getElem? (i := 66) rfl) rfl
theorem lm_X2_40 : Cond.methodLink RX2 40 yX3_around ∈ kT := mt_3 (List.mem_of_getElem? (i := 67) rfl) rfl
theorem lm_L_107 : Cond.methodLink RL 107 yX6_lessons ∈ kT := mt_3 (List.mem_of_getElem? (i := 68) rfl) rfl
theorem wi_X6_lessons : Cond.instanceMethod yX6_lessons ∈ kT := mt_3 (List.mem_of_getElem? (i := 69) rfl) rfl
theorem ws_X6_lessons : Cond.selects RX6 yX6_lessons yX6_lessons ∈ kT := mt_3 (List.mem_of_getElem? (i := 70) rfl) rfl
theorem wc_X6_lessons : Cond.code yX6_lessons cX6_lessons 4 (some .int) ∈ kT := mt_3 (List.mem_of_getElem? (i := 71) rfl) rfl
theorem lk_X6_212 : Cond.constant RX6 212 (16777215) ∈ kT := mt_3 (List.mem_of_getElem? (i := 72) rfl) rfl
theorem lm_X6_213 : Cond.methodLink RX6 213 yX2_fewestTaught ∈ kT := mt_3 (List.mem_of_getElem? (i := 73) rfl) rfl
theorem wi_X2_fewestTaught : Cond.instanceMethod yX2_fewestTaught ∈ kT := mt_3 (List.mem_of_getElem? (i := 74) rfl) rfl
theorem ws_X2_fewestTaught : Cond.selects RX2 yX2_fewestTaught yX2_fewestTaught ∈ kT := mt_3 (List.mem_of_getElem? (i := 75) rfl) rfl
theorem wc_X2_fewestTaught : Cond.code yX2_fewestTaught cX2_fewestTaught 6 (some .int) ∈ kT := mt_3 (List.mem_of_getElem? (i := 76) rfl) rfl
theorem lm_X2_52 : Cond.methodLink RX2 52 yX3_biasAs ∈ kT := mt_3 (List.mem_of_getElem? (i := 77) rfl) rfl
theorem lm_X2_56 : Cond.methodLink RX2 56 yX3_biasOf ∈ kT := mt_3 (List.mem_of_getElem? (i := 78) rfl) rfl
theorem lm_X2_59 : Cond.methodLink RX2 59 yX2_nightsAt ∈ kT := mt_3 (List.mem_of_getElem? (i := 79) rfl) rfl
theorem lm_X2_62 : Cond.methodLink RX2 62 yX2_nightsIfTaught ∈ kT := mt_3 (List.mem_of_getElem? (i := 80) rfl) rfl
theorem wi_X2_nightsIfTaught : Cond.instanceMethod yX2_nightsIfTaught ∈ kT := mt_3 (List.mem_of_getElem? (i := 82) rfl) rfl
theorem wc_X2_nightsIfTaught : Cond.code yX2_nightsIfTaught cX2_nightsIfTaught 5 (some .int) ∈ kT := mt_3 (List.mem_of_getElem? (i := 83) rfl) rfl
theorem lm_X2_65 : Cond.methodLink RX2 65 yJ6_bitCount_0f7a4 ∈ kT := mt_3 (List.mem_of_getElem? (i := 84) rfl) rfl
theorem wt_J6_bitCount_0f7a4 : Cond.static yJ6_bitCount_0f7a4 ∈ kT := mt_3 (List.mem_of_getElem? (i := 85) rfl) rfl
theorem wc_J6_bitCount_0f7a4 : Cond.code yJ6_bitCount_0f7a4 cJ6_bitCount_0f7a4 1 (some .int) ∈ kT := mt_3 (List.mem_of_getElem? (i := 86) rfl) rfl
theorem lk_J6_265 : Cond.constant RJ6 265 (1431655765) ∈ kT := mt_3 (List.mem_of_getElem? (i := 87) rfl) rfl
theorem lk_J6_266 : Cond.constant RJ6 266 (858993459) ∈ kT := mt_3 (List.mem_of_getElem? (i := 88) rfl) rfl
theorem lk_J6_267 : Cond.constant RJ6 267 (252645135) ∈ kT := mt_3 (List.mem_of_getElem? (i := 89) rfl) rfl
theorem lm_X6_216 : Cond.methodLink RX6 216 yJ6_bitCount_0f7a4 ∈ kT := mt_3 (List.mem_of_getElem? (i := 90) rfl) rfl
theorem lm_L_111 : Cond.methodLink RL 111 yX6_programme ∈ kT := mt_3 (List.mem_of_getElem? (i := 91) rfl) rfl
theorem wi_X6_programme : Cond.instanceMethod yX6_programme ∈ kT := mt_3 (List.mem_of_getElem? (i := 92) rfl) rfl
theorem ws_X6_programme : Cond.selects RX6 yX6_programme yX6_programme ∈ kT := mt_3 (List.mem_of_getElem? (i := 93) rfl) rfl
theorem wc_X6_programme : Cond.code yX6_programme cX6_programme 3 (some .int) ∈ kT := mt_3 (List.mem_of_getElem? (i := 94) rfl) rfl
theorem lm_X6_221 : Cond.methodLink RX6 221 yX2_programmes ∈ kT := mt_3 (List.mem_of_getElem? (i := 95) rfl) rfl
theorem wi_X2_programmes : Cond.instanceMethod yX2_programmes ∈ kT := mt_3 (List.mem_of_getElem? (i := 96) rfl) rfl
theorem ws_X2_programmes : Cond.selects RX2 yX2_programmes yX2_programmes ∈ kT := mt_3 (List.mem_of_getElem? (i := 97) rfl) rfl
theorem wc_X2_programmes : Cond.code yX2_programmes cX2_programmes 2 (some .int) ∈ kT := mt_3 (List.mem_of_getElem? (i := 98) rfl) rfl
theorem lm_X2_70 : Cond.methodLink RX2 70 yX2_findPieceNights ∈ kT := mt_3 (List.mem_of_getElem? (i := 99) rfl) rfl
theorem wi_X2_findPieceNights : Cond.instanceMethod yX2_findPieceNights ∈ kT := mt_3 (List.mem_of_getElem? (i := 101) rfl) rfl
theorem wc_X2_findPieceNights : Cond.code yX2_findPieceNights cX2_findPieceNights 4 none ∈ kT := mt_3 (List.mem_of_getElem? (i := 102) rfl) rfl
theorem lm_X2_83 : Cond.methodLink RX2 83 yX3_reaches ∈ kT := mt_3 (List.mem_of_getElem? (i := 103) rfl) rfl
theorem lm_X2_74 : Cond.methodLink RX2 74 yX2_waysFrom ∈ kT := mt_3 (List.mem_of_getElem? (i := 104) rfl) rfl
theorem wi_X2_waysFrom : Cond.instanceMethod yX2_waysFrom ∈ kT := mt_3 (List.mem_of_getElem? (i := 106) rfl) rfl
theorem wc_X2_waysFrom : Cond.code yX2_waysFrom cX2_waysFrom 7 (some .int) ∈ kT := mt_3 (List.mem_of_getElem? (i := 107) rfl) rfl
theorem lm_X6_224 : Cond.methodLink RX6 224 yX2_nightOfPiece ∈ kT := mt_3 (List.mem_of_getElem? (i := 108) rfl) rfl
theorem wi_X2_nightOfPiece : Cond.instanceMethod yX2_nightOfPiece ∈ kT := mt_3 (List.mem_of_getElem? (i := 109) rfl) rfl
theorem ws_X2_nightOfPiece : Cond.selects RX2 yX2_nightOfPiece yX2_nightOfPiece ∈ kT := mt_3 (List.mem_of_getElem? (i := 110) rfl) rfl
theorem wc_X2_nightOfPiece : Cond.code yX2_nightOfPiece cX2_nightOfPiece 6 (some .int) ∈ kT := mt_3 (List.mem_of_getElem? (i := 111) rfl) rfl
theorem lm_X2_80 : Cond.methodLink RX2 80 yX2_firstNightFor ∈ kT := mt_3 (List.mem_of_getElem? (i := 112) rfl) rfl
theorem wi_X2_firstNightFor : Cond.instanceMethod yX2_firstNightFor ∈ kT := mt_3 (List.mem_of_getElem? (i := 114) rfl) rfl
theorem wc_X2_firstNightFor : Cond.code yX2_firstNightFor cX2_firstNightFor 6 (some .int) ∈ kT := mt_3 (List.mem_of_getElem? (i := 115) rfl) rfl
theorem lm_L_115 : Cond.methodLink RL 115 yX6_chords ∈ kT := mt_3 (List.mem_of_getElem? (i := 116) rfl) rfl
theorem wi_X6_chords : Cond.instanceMethod yX6_chords ∈ kT := mt_3 (List.mem_of_getElem? (i := 117) rfl) rfl
theorem ws_X6_chords : Cond.selects RX6 yX6_chords yX6_chords ∈ kT := mt_3 (List.mem_of_getElem? (i := 118) rfl) rfl
theorem wc_X6_chords : Cond.code yX6_chords cX6_chords 3 (some .int) ∈ kT := mt_3 (List.mem_of_getElem? (i := 119) rfl) rfl
theorem lm_X6_227 : Cond.methodLink RX6 227 yX2_chordCount ∈ kT := mt_3 (List.mem_of_getElem? (i := 120) rfl) rfl
theorem wi_X2_chordCount : Cond.instanceMethod yX2_chordCount ∈ kT := mt_3 (List.mem_of_getElem? (i := 121) rfl) rfl
theorem ws_X2_chordCount : Cond.selects RX2 yX2_chordCount yX2_chordCount ∈ kT := mt_3 (List.mem_of_getElem? (i := 122) rfl) rfl
theorem wc_X2_chordCount : Cond.code yX2_chordCount cX2_chordCount 1 (some .int) ∈ kT := mt_3 (List.mem_of_getElem? (i := 123) rfl) rfl
theorem lm_X2_87 : Cond.methodLink RX2 87 yX2_ownStrings ∈ kT := mt_3 (List.mem_of_getElem? (i := 124) rfl) rfl
theorem wi_X2_ownStrings : Cond.instanceMethod yX2_ownStrings ∈ kT := mt_3 (List.mem_of_getElem? (i := 126) rfl) rfl
theorem wc_X2_ownStrings : Cond.code yX2_ownStrings cX2_ownStrings 1 (some .int) ∈ kT := mt_3 (List.mem_of_getElem? (i := 127) rfl) rfl
theorem lm_X2_99 : Cond.methodLink RX2 99 yX2_divisorOfBoth ∈ kT := mt_3 (List.mem_of_getElem? (i := 128) rfl) rfl
theorem wt_X2_divisorOfBoth : Cond.static yX2_divisorOfBoth ∈ kT := mt_3 (List.mem_of_getElem? (i := 129) rfl) rfl
theorem wc_X2_divisorOfBoth : Cond.code yX2_divisorOfBoth cX2_divisorOfBoth 11 (some .long) ∈ kT := mt_3 (List.mem_of_getElem? (i := 130) rfl) rfl
theorem lm_X6_231 : Cond.methodLink RX6 231 yX2_chordNumber ∈ kT := mt_3 (List.mem_of_getElem? (i := 131) rfl) rfl
theorem wi_X2_chordNumber : Cond.instanceMethod yX2_chordNumber ∈ kT := mt_3 (List.mem_of_getElem? (i := 132) rfl) rfl
theorem ws_X2_chordNumber : Cond.selects RX2 yX2_chordNumber yX2_chordNumber ∈ kT := mt_3 (List.mem_of_getElem? (i := 133) rfl) rfl
theorem wc_X2_chordNumber : Cond.code yX2_chordNumber cX2_chordNumber 5 (some .int) ∈ kT := mt_3 (List.mem_of_getElem? (i := 134) rfl) rfl
theorem lm_X2_91 : Cond.methodLink RX2 91 yJ9_max_7cf53 ∈ kT := mt_3 (List.mem_of_getElem? (i := 135) rfl) rfl
theorem lm_L_119 : Cond.methodLink RL 119 yX6_who ∈ kT := mt_3 (List.mem_of_getElem? (i := 136) rfl) rfl
theorem wi_X6_who : Cond.instanceMethod yX6_who ∈ kT := mt_3 (List.mem_of_getElem? (i := 137) rfl) rfl
theorem ws_X6_who : Cond.selects RX6 yX6_who yX6_who ∈ kT := mt_3 (List.mem_of_getElem? (i := 138) rfl) rfl
theorem wc_X6_who : Cond.code yX6_who cX6_who 5 (some .int) ∈ kT := mt_3 (List.mem_of_getElem? (i := 139) rfl) rfl
theorem lm_X6_234 : Cond.methodLink RX6 234 yX2_kindsHeard ∈ kT := mt_3 (List.mem_of_getElem? (i := 140) rfl) rfl
theorem wi_X2_kindsHeard : Cond.instanceMethod yX2_kindsHeard ∈ kT := mt_3 (List.mem_of_getElem? (i := 141) rfl) rfl
theorem ws_X2_kindsHeard : Cond.selects RX2 yX2_kindsHeard yX2_kindsHeard ∈ kT := mt_3 (List.mem_of_getElem? (i := 142) rfl) rfl
theorem wc_X2_kindsHeard : Cond.code yX2_kindsHeard cX2_kindsHeard 8 (some .int) ∈ kT := mt_3 (List.mem_of_getElem? (i := 143) rfl) rfl
theorem lm_X2_106 : Cond.methodLink RX2 106 yX2_soundsAs ∈ kT := mt_3 (List.mem_of_getElem? (i := 144) rfl) rfl
theorem wi_X2_soundsAs : Cond.instanceMethod yX2_soundsAs ∈ kT := mt_3 (List.mem_of_getElem? (i := 146) rfl) rfl
theorem wc_X2_soundsAs : Cond.code yX2_soundsAs cX2_soundsAs 6 (some .boolean) ∈ kT := mt_3 (List.mem_of_getElem? (i := 147) rfl) rfl
theorem lm_X2_113 : Cond.methodLink RX2 113 yX3_stringOf ∈ kT := mt_3 (List.mem_of_getElem? (i := 148) rfl) rfl
theorem lm_X2_116 : Cond.methodLink RX2 116 yX3_stringHeard ∈ kT := mt_3 (List.mem_of_getElem? (i := 149) rfl) rfl
theorem lm_L_123 : Cond.methodLink RL 123 yX6_tunings ∈ kT := mt_3 (List.mem_of_getElem? (i := 150) rfl) rfl
theorem wi_X6_tunings : Cond.instanceMethod yX6_tunings ∈ kT := mt_3 (List.mem_of_getElem? (i := 151) rfl) rfl
theorem ws_X6_tunings : Cond.selects RX6 yX6_tunings yX6_tunings ∈ kT := mt_3 (List.mem_of_getElem? (i := 152) rfl) rfl
theorem wc_X6_tunings : Cond.code yX6_tunings cX6_tunings 3 (some .int) ∈ kT := mt_3 (List.mem_of_getElem? (i := 153) rfl) rfl
theorem lm_X6_238 : Cond.methodLink RX6 238 yX2_fewestTunings ∈ kT := mt_3 (List.mem_of_getElem? (i := 154) rfl) rfl
theorem wi_X2_fewestTunings : Cond.instanceMethod yX2_fewestTunings ∈ kT := mt_3 (List.mem_of_getElem? (i := 155) rfl) rfl
theorem ws_X2_fewestTunings : Cond.selects RX2 yX2_fewestTunings yX2_fewestTunings ∈ kT := mt_3 (List.mem_of_getElem? (i := 156) rfl) rfl
theorem wc_X2_fewestTunings : Cond.code yX2_fewestTunings cX2_fewestTunings 6 (some .int) ∈ kT := mt_3 (List.mem_of_getElem? (i := 157) rfl) rfl
theorem lm_L_127 : Cond.methodLink RL 127 yX6_other ∈ kT := mt_3 (List.mem_of_getElem? (i := 158) rfl) rfl
theorem wi_X6_other : Cond.instanceMethod yX6_other ∈ kT := mt_3 (List.mem_of_getElem? (i := 159) rfl) rfl
theorem ws_X6_other : Cond.selects RX6 yX6_other yX6_other ∈ kT := mt_3 (List.mem_of_getElem? (i := 160) rfl) rfl
theorem wc_X6_other : Cond.code yX6_other cX6_other 3 (some .int) ∈ kT := mt_3 (List.mem_of_getElem? (i := 161) rfl) rfl
theorem lm_X6_241 : Cond.methodLink RX6 241 yX2_firstNightAlike ∈ kT := mt_3 (List.mem_of_getElem? (i := 162) rfl) rfl
theorem wi_X2_firstNightAlike : Cond.instanceMethod yX2_firstNightAlike ∈ kT := mt_3 (List.mem_of_getElem? (i := 163) rfl) rfl
theorem ws_X2_firstNightAlike : Cond.selects RX2 yX2_firstNightAlike yX2_firstNightAlike ∈ kT := mt_3 (List.mem_of_getElem? (i := 164) rfl) rfl
theorem wc_X2_firstNightAlike : Cond.code yX2_firstNightAlike cX2_firstNightAlike 4 (some .int) ∈ kT := mt_3 (List.mem_of_getElem? (i := 165) rfl) rfl
theorem lm_L_131 : Cond.methodLink RL 131 yX6_thunderOdds ∈ kT := mt_3 (List.mem_of_getElem? (i := 166) rfl) rfl
theorem wi_X6_thunderOdds : Cond.instanceMethod yX6_thunderOdds ∈ kT := mt_3 (List.mem_of_getElem? (i := 167) rfl) rfl
theorem ws_X6_thunderOdds : Cond.selects RX6 yX6_thunderOdds yX6_thunderOdds ∈ kT := mt_3 (List.mem_of_getElem? (i := 168) rfl) rfl
theorem wc_X6_thunderOdds : Cond.code yX6_thunderOdds cX6_thunderOdds 11 (some .long) ∈ kT := mt_3 (List.mem_of_getElem? (i := 169) rfl) rfl
theorem lK_X6_244 : Cond.constantLong RX6 244 (-1000001) ∈ kT := mt_3 (List.mem_of_getElem? (i := 170) rfl) rfl
theorem lm_X6_246 : Cond.methodLink RX6 246 yX2_tenthsRight ∈ kT := mt_3 (List.mem_of_getElem? (i := 171) rfl) rfl
theorem wi_X2_tenthsRight : Cond.instanceMethod yX2_tenthsRight ∈ kT := mt_3 (List.mem_of_getElem? (i := 172) rfl) rfl
theorem ws_X2_tenthsRight : Cond.selects RX2 yX2_tenthsRight yX2_tenthsRight ∈ kT := mt_3 (List.mem_of_getElem? (i := 173) rfl) rfl
theorem wc_X2_tenthsRight : Cond.code yX2_tenthsRight cX2_tenthsRight 7 (some .long) ∈ kT := mt_3 (List.mem_of_getElem? (i := 174) rfl) rfl
theorem lm_X2_119 : Cond.methodLink RX2 119 yX2_choices ∈ kT := mt_3 (List.mem_of_getElem? (i := 175) rfl) rfl
theorem wt_X2_choices : Cond.static yX2_choices ∈ kT := mt_3 (List.mem_of_getElem? (i := 176) rfl) rfl
theorem wc_X2_choices : Cond.code yX2_choices cX2_choices 5 (some .long) ∈ kT := mt_3 (List.mem_of_getElem? (i := 177) rfl) rfl
theorem lm_X2_123 : Cond.methodLink RX2 123 yX2_power ∈ kT := mt_3 (List.mem_of_getElem? (i := 178) rfl) rfl
theorem wt_X2_power : Cond.static yX2_power ∈ kT := mt_3 (List.mem_of_getElem? (i := 179) rfl) rfl
theorem wc_X2_power : Cond.code yX2_power cX2_power 5 (some .long) ∈ kT := mt_3 (List.mem_of_getElem? (i := 180) rfl) rfl
theorem lm_X6_250 : Cond.methodLink RX6 250 yX2_power ∈ kT := mt_3 (List.mem_of_getElem? (i := 181) rfl) rfl
theorem lm_X6_254 : Cond.methodLink RX6 254 yX2_divisorOfBoth ∈ kT := mt_3 (List.mem_of_getElem? (i := 182) rfl) rfl
theorem lm_L_136 : Cond.methodLink RL 136 yX6_drawn ∈ kT := mt_3 (List.mem_of_getElem? (i := 183) rfl) rfl
theorem wi_X6_drawn : Cond.instanceMethod yX6_drawn ∈ kT := mt_3 (List.mem_of_getElem? (i := 184) rfl) rfl
theorem ws_X6_drawn : Cond.selects RX6 yX6_drawn yX6_drawn ∈ kT := mt_3 (List.mem_of_getElem? (i := 185) rfl) rfl
theorem wc_X6_drawn : Cond.code yX6_drawn cX6_drawn 4 (some .int) ∈ kT := mt_3 (List.mem_of_getElem? (i := 186) rfl) rfl
theorem lk_X6_258 : Cond.constant RX6 258 (999999) ∈ kT := mt_3 (List.mem_of_getElem? (i := 187) rfl) rfl
theorem lm_X6_259 : Cond.methodLink RX6 259 yX2_nightsByDraws ∈ kT := mt_3 (List.mem_of_getElem? (i := 188) rfl) rfl
theorem wi_X2_nightsByDraws : Cond.instanceMethod yX2_nightsByDraws ∈ kT := mt_3 (List.mem_of_getElem? (i := 189) rfl) rfl
theorem ws_X2_nightsByDraws : Cond.selects RX2 yX2_nightsByDraws yX2_nightsByDraws ∈ kT := mt_3 (List.mem_of_getElem? (i := 190) rfl) rfl
theorem wc_X2_nightsByDraws : Cond.code yX2_nightsByDraws cX2_nightsByDraws 10 (some .int) ∈ kT := mt_3 (List.mem_of_getElem? (i := 191) rfl) rfl
theorem lm_X2_126 : Cond.methodLink RX2 126 yX2_biasesOfAll ∈ kT := mt_3 (List.mem_of_getElem? (i := 192) rfl) rfl
theorem wi_X2_biasesOfAll : Cond.instanceMethod yX2_biasesOfAll ∈ kT := mt_3 (List.mem_of_getElem? (i := 194) rfl) rfl
theorem wc_X2_biasesOfAll : Cond.code yX2_biasesOfAll cX2_biasesOfAll 3 (some .int) ∈ kT := mt_3 (List.mem_of_getElem? (i := 195) rfl) rfl
theorem lK_X2_129 : Cond.constantLong RX2 129 (16807) ∈ kT := mt_3 (List.mem_of_getElem? (i := 196) rfl) rfl
theorem lK_X2_131 : Cond.constantLong RX2 131 (2147483647) ∈ kT := mt_3 (List.mem_of_getElem? (i := 197) rfl) rfl
theorem lK_X2_133 : Cond.constantLong RX2 133 (5) ∈ kT := mt_3 (List.mem_of_getElem? (i := 198) rfl) rfl
theorem lm_L_140 : Cond.methodLink RL 140 yX6_image ∈ kT := mt_3 (List.mem_of_getElem? (i := 199) rfl) rfl
theorem wi_X6_image : Cond.instanceMethod yX6_image ∈ kT := mt_3 (List.mem_of_getElem? (i := 200) rfl) rfl
theorem ws_X6_image : Cond.selects RX6 yX6_image yX6_image ∈ kT := mt_3 (List.mem_of_getElem? (i := 201) rfl) rfl
theorem wc_X6_image : Cond.code yX6_image cX6_image 2 (some .int) ∈ kT := mt_3 (List.mem_of_getElem? (i := 202) rfl) rfl
theorem lm_X6_263 : Cond.methodLink RX6 263 yX6_isImage ∈ kT := mt_3 (List.mem_of_getElem? (i := 203) rfl) rfl
theorem wt_X6_isImage : Cond.static yX6_isImage ∈ kT := mt_3 (List.mem_of_getElem? (i := 204) rfl) rfl
theorem wc_X6_isImage : Cond.code yX6_isImage cX6_isImage 1 (some .boolean) ∈ kT := mt_3 (List.mem_of_getElem? (i := 205) rfl) rfl
theorem lm_L_144 : Cond.methodLink RL 144 yX6_restore ∈ kT := mt_3 (List.mem_of_getElem? (i := 206) rfl) rfl
theorem wi_X6_restore : Cond.instanceMethod yX6_restore ∈ kT := mt_3 (List.mem_of_getElem? (i := 207) rfl) rfl
theorem ws_X6_restore : Cond.selects RX6 yX6_restore yX6_restore ∈ kT := mt_3 (List.mem_of_getElem? (i := 208) rfl) rfl
theorem wc_X6_restore : Cond.code yX6_restore cX6_restore 2 (some .int) ∈ kT := mt_3 (List.mem_of_getElem? (i := 209) rfl) rfl
theorem lm_L_148 : Cond.methodLink RL 148 yX6_kind ∈ kT := mt_3 (List.mem_of_getElem? (i := 210) rfl) rfl
theorem wi_X6_kind : Cond.instanceMethod yX6_kind ∈ kT := mt_3 (List.mem_of_getElem? (i := 211) rfl) rfl
theorem ws_X6_kind : Cond.selects RX6 yX6_kind yX6_kind ∈ kT := mt_3 (List.mem_of_getElem? (i := 212) rfl) rfl
theorem wc_X6_kind : Cond.code yX6_kind cX6_kind 2 (some .int) ∈ kT := mt_3 (List.mem_of_getElem? (i := 213) rfl) rfl
theorem lm_L_152 : Cond.methodLink RL 152 yX6_as ∈ kT := mt_3 (List.mem_of_getElem? (i := 214) rfl) rfl
theorem wi_X6_as : Cond.instanceMethod yX6_as ∈ kT := mt_3 (List.mem_of_getElem? (i := 215) rfl) rfl
theorem ws_X6_as : Cond.selects RX6 yX6_as yX6_as ∈ kT := mt_3 (List.mem_of_getElem? (i := 216) rfl) rfl
theorem wc_X6_as : Cond.code yX6_as cX6_as 3 (some .int) ∈ kT := mt_3 (List.mem_of_getElem? (i := 217) rfl) rfl
theorem lm_X6_269 : Cond.methodLink RX6 269 yX1_isOfKind ∈ kT := mt_3 (List.mem_of_getElem? (i := 218) rfl) rfl
theorem wt_X1_isOfKind : Cond.static yX1_isOfKind ∈ kT := mt_3 (List.mem_of_getElem? (i := 219) rfl) rfl
theorem wc_X1_isOfKind : Cond.code yX1_isOfKind cX1_isOfKind 2 (some .boolean) ∈ kT := mt_3 (List.mem_of_getElem? (i := 220) rfl) rfl
theorem lf_X1_15 : Cond.fieldLink RX1 15 "KeyDrift$Asked" "ABOVE" "[I" ∈ kT := mt_3 (List.mem_of_getElem? (i := 221) rfl) rfl
theorem wz_ABOVE : Cond.laysStatic "KeyDrift$Asked" "ABOVE" "[I" ∈ lw_tbl := mu_3 (List.mem_of_getElem? (i := 222) rfl)
theorem lm_L_156 : Cond.methodLink RL 156 yX6_ask ∈ kT := mt_3 (List.mem_of_getElem? (i := 223) rfl) rfl
theorem wi_X6_ask : Cond.instanceMethod yX6_ask ∈ kT := mt_3 (List.mem_of_getElem? (i := 224) rfl) rfl
theorem ws_X6_ask : Cond.selects RX6 yX6_ask yX6_ask ∈ kT := mt_3 (List.mem_of_getElem? (i := 225) rfl) rfl
theorem wc_X6_ask : Cond.code yX6_ask cX6_ask 3 (some .int) ∈ kT := mt_3 (List.mem_of_getElem? (i := 226) rfl) rfl
theorem lm_X6_272 : Cond.methodLink RX6 272 yX1_begin ∈ kT := mt_3 (List.mem_of_getElem? (i := 227) rfl) rfl
theorem wi_X1_begin : Cond.instanceMethod yX1_begin ∈ kT := mt_3 (List.mem_of_getElem? (i := 228) rfl) rfl
theorem ws_X1_begin : Cond.selects RX1 yX1_begin yX1_begin ∈ kT := mt_3 (List.mem_of_getElem? (i := 229) rfl) rfl
theorem wc_X1_begin : Cond.code yX1_begin cX1_begin 5 none ∈ kT := mt_3 (List.mem_of_getElem? (i := 230) rfl) rfl
theorem lm_X6_275 : Cond.methodLink RX6 275 yX1_sizeOfOne ∈ kT := mt_3 (List.mem_of_getElem? (i := 231) rfl) rfl
theorem wi_X1_sizeOfOne : Cond.instanceMethod yX1_sizeOfOne ∈ kT := mt_3 (List.mem_of_getElem? (i := 232) rfl) rfl
theorem ws_X1_sizeOfOne : Cond.selects RX1 yX1_sizeOfOne yX1_sizeOfOne ∈ kT := mt_3 (List.mem_of_getElem? (i := 233) rfl) rfl
theorem wc_X1_sizeOfOne : Cond.code yX1_sizeOfOne cX1_sizeOfOne 1 (some .int) ∈ kT := mt_3 (List.mem_of_getElem? (i := 234) rfl) rfl
theorem lm_X1_34 : Cond.methodLink RX1 34 yX1_leave ∈ kT := mt_3 (List.mem_of_getElem? (i := 235) rfl) rfl
theorem wi_X1_leave : Cond.instanceMethod yX1_leave ∈ kT := mt_3 (List.mem_of_getElem? (i := 237) rfl) rfl
theorem wc_X1_leave : Cond.code yX1_leave cX1_leave 2 none ∈ kT := mt_3 (List.mem_of_getElem? (i := 238) rfl) rfl
theorem lm_X1_38 : Cond.methodLink RX1 38 yX1_body11 ∈ kT := mt_3 (List.mem_of_getElem? (i := 239) rfl) rfl
theorem wi_X1_body11 : Cond.instanceMethod yX1_body11 ∈ kT := mt_4 (List.mem_of_getElem? (i := 1) rfl) rfl
theorem wc_X1_body11 : Cond.code yX1_body11 cX1_body11 2 (some .int) ∈ kT := mt_4 (List.mem_of_getElem? (i := 2) rfl) rfl
theorem lm_X1_61 : Cond.methodLink RX1 61 yX1_body10 ∈ kT := mt_4 (List.mem_of_getElem? (i := 3) rfl) rfl
theorem wi_X1_body10 : Cond.instanceMethod yX1_body10 ∈ kT := mt_4 (List.mem_of_getElem? (i := 5) rfl) rfl
theorem wc_X1_body10 : Cond.code yX1_body10 cX1_body10 1 (some .int) ∈ kT := mt_4 (List.mem_of_getElem? (i := 6) rfl) rfl
theorem lm_X1_52 : Cond.methodLink RX1 52 yX1_markOfPlayer ∈ kT := mt_4 (List.mem_of_getElem? (i := 7) rfl) rfl
theorem wi_X1_markOfPlayer : Cond.instanceMethod yX1_markOfPlayer ∈ kT := mt_4 (List.mem_of_getElem? (i := 9) rfl) rfl
theorem wc_X1_markOfPlayer : Cond.code yX1_markOfPlayer cX1_markOfPlayer 1 (some .int) ∈ kT := mt_4 (List.mem_of_getElem? (i := 10) rfl) rfl
theorem lm_X1_58 : Cond.methodLink RX1 58 yX1_body21 ∈ kT := mt_4 (List.mem_of_getElem? (i := 11) rfl) rfl
theorem wi_X1_body21 : Cond.instanceMethod yX1_body21 ∈ kT := mt_4 (List.mem_of_getElem? (i := 13) rfl) rfl
theorem wc_X1_body21 : Cond.code yX1_body21 cX1_body21 1 (some .int) ∈ kT := mt_4 (List.mem_of_getElem? (i := 14) rfl) rfl
theorem lm_X1_64 : Cond.methodLink RX1 64 yX1_body20 ∈ kT := mt_4 (List.mem_of_getElem? (i := 15) rfl) rfl
theorem wi_X1_body20 : Cond.instanceMethod yX1_body20 ∈ kT := mt_4 (List.mem_of_getElem? (i := 17) rfl) rfl
theorem wc_X1_body20 : Cond.code yX1_body20 cX1_body20 1 (some .int) ∈ kT := mt_4 (List.mem_of_getElem? (i := 18) rfl) rfl
theorem lm_X1_42 : Cond.methodLink RX1 42 yX1_sizeOfCarrier ∈ kT := mt_4 (List.mem_of_getElem? (i := 19) rfl) rfl
theorem wi_X1_sizeOfCarrier : Cond.instanceMethod yX1_sizeOfCarrier ∈ kT := mt_4 (List.mem_of_getElem? (i := 21) rfl) rfl
theorem wc_X1_sizeOfCarrier : Cond.code yX1_sizeOfCarrier cX1_sizeOfCarrier 1 (some .int) ∈ kT := mt_4 (List.mem_of_getElem? (i := 22) rfl) rfl
theorem lm_X1_55 : Cond.methodLink RX1 55 yX1_body13 ∈ kT := mt_4 (List.mem_of_getElem? (i := 23) rfl) rfl
theorem wi_X1_body13 : Cond.instanceMethod yX1_body13 ∈ kT := mt_4 (List.mem_of_getElem? (i := 25) rfl) rfl
theorem wc_X1_body13 : Cond.code yX1_body13 cX1_body13 1 (some .int) ∈ kT := mt_4 (List.mem_of_getElem? (i := 26) rfl) rfl
theorem lm_X6_278 : Cond.methodLink RX6 278 yX1_markOfOne ∈ kT := mt_4 (List.mem_of_getElem? (i := 27) rfl) rfl
theorem wi_X1_markOfOne : Cond.instanceMethod yX1_markOfOne ∈ kT := mt_4 (List.mem_of_getElem? (i := 28) rfl) rfl
theorem ws_X1_markOfOne : Cond.selects RX1 yX1_markOfOne yX1_markOfOne ∈ kT := mt_4 (List.mem_of_getElem? (i := 29) rfl) rfl
theorem wc_X1_markOfOne : Cond.code yX1_markOfOne cX1_markOfOne 1 (some .int) ∈ kT := mt_4 (List.mem_of_getElem? (i := 30) rfl) rfl
theorem lm_X1_45 : Cond.methodLink RX1 45 yX1_isOfKind ∈ kT := mt_4 (List.mem_of_getElem? (i := 31) rfl) rfl
theorem lm_X1_49 : Cond.methodLink RX1 49 yX1_body23 ∈ kT := mt_4 (List.mem_of_getElem? (i := 32) rfl) rfl
theorem wi_X1_body23 : Cond.instanceMethod yX1_body23 ∈ kT := mt_4 (List.mem_of_getElem? (i := 34) rfl) rfl
theorem wc_X1_body23 : Cond.code yX1_body23 cX1_body23 2 (some .int) ∈ kT := mt_4 (List.mem_of_getElem? (i := 35) rfl) rfl
theorem lm_L_160 : Cond.methodLink RL 160 yX6_trace ∈ kT := mt_4 (List.mem_of_getElem? (i := 36) rfl) rfl
theorem wi_X6_trace : Cond.instanceMethod yX6_trace ∈ kT := mt_4 (List.mem_of_getElem? (i := 37) rfl) rfl
theorem ws_X6_trace : Cond.selects RX6 yX6_trace yX6_trace ∈ kT := mt_4 (List.mem_of_getElem? (i := 38) rfl) rfl
theorem wc_X6_trace : Cond.code yX6_trace cX6_trace 2 (some .int) ∈ kT := mt_4 (List.mem_of_getElem? (i := 39) rfl) rfl
theorem lm_L_164 : Cond.methodLink RL 164 yX6_count ∈ kT := mt_4 (List.mem_of_getElem? (i := 40) rfl) rfl
theorem wi_X6_count : Cond.instanceMethod yX6_count ∈ kT := mt_4 (List.mem_of_getElem? (i := 41) rfl) rfl
theorem ws_X6_count : Cond.selects RX6 yX6_count yX6_count ∈ kT := mt_4 (List.mem_of_getElem? (i := 42) rfl) rfl
theorem wc_X6_count : Cond.code yX6_count cX6_count 2 (some .int) ∈ kT := mt_4 (List.mem_of_getElem? (i := 43) rfl) rfl
theorem lm_X6_287 : Cond.methodLink RX6 287 yX6_rowsThere ∈ kT := mt_4 (List.mem_of_getElem? (i := 44) rfl) rfl
theorem wi_X6_rowsThere : Cond.instanceMethod yX6_rowsThere ∈ kT := mt_4 (List.mem_of_getElem? (i := 46) rfl) rfl
theorem wc_X6_rowsThere : Cond.code yX6_rowsThere cX6_rowsThere 3 (some .int) ∈ kT := mt_4 (List.mem_of_getElem? (i := 47) rfl) rfl
theorem lm_L_168 : Cond.methodLink RL 168 yX6_status ∈ kT := mt_4 (List.mem_of_getElem? (i := 48) rfl) rfl
theorem wi_X6_status : Cond.instanceMethod yX6_status ∈ kT := mt_4 (List.mem_of_getElem? (i := 49) rfl) rfl
theorem ws_X6_status : Cond.selects RX6 yX6_status yX6_status ∈ kT := mt_4 (List.mem_of_getElem? (i := 50) rfl) rfl
theorem wc_X6_status : Cond.code yX6_status cX6_status 1 (some .int) ∈ kT := mt_4 (List.mem_of_getElem? (i := 51) rfl) rfl
theorem lc_L_10 : Cond.classLink RL 10 RX7 ∈ kT := mt_4 (List.mem_of_getElem? (i := 52) rfl) rfl
theorem wa_X7 : Cond.instantiable RX7 26 ∈ kT := mt_4 (List.mem_of_getElem? (i := 53) rfl) rfl
theorem lm_L_12 : Cond.methodLink RL 12 yX7_init ∈ kT := mt_4 (List.mem_of_getElem? (i := 54) rfl) rfl
theorem wi_X7_init : Cond.instanceMethod yX7_init ∈ kT := mt_4 (List.mem_of_getElem? (i := 55) rfl) rfl
theorem wc_X7_init : Cond.code yX7_init cX7_init 2 none ∈ kT := mt_4 (List.mem_of_getElem? (i := 56) rfl) rfl
theorem lm_X7_1 : Cond.methodLink RX7 1 objectInit ∈ kT := mt_4 (List.mem_of_getElem? (i := 57) rfl) rfl
theorem lf_X7_7 : Cond.fieldLink RX7 7 "KeyDriftModel" "lanes" "[I" ∈ kT := mt_4 (List.mem_of_getElem? (i := 58) rfl) rfl
theorem lf_X7_13 : Cond.fieldLink RX7 13 "KeyDriftModel" "sizes" "[I" ∈ kT := mt_4 (List.mem_of_getElem? (i := 59) rfl) rfl
theorem lf_X7_16 : Cond.fieldLink RX7 16 "KeyDriftModel" "items" "[I" ∈ kT := mt_4 (List.mem_of_getElem? (i := 60) rfl) rfl
theorem lf_X7_50 : Cond.fieldLink RX7 50 "KeyDriftModel" "status" "I" ∈ kT := mt_4 (List.mem_of_getElem? (i := 61) rfl) rfl
theorem lf_X7_138 : Cond.fieldLink RX7 138 "KeyDriftModel" "isThere" "Z" ∈ kT := mt_4 (List.mem_of_getElem? (i := 62) rfl) rfl
theorem lf_X7_19 : Cond.fieldLink RX7 19 "KeyDriftModel" "st" "[I" ∈ kT := mt_4 (List.mem_of_getElem? (i := 63) rfl) rfl
theorem lf_X7_22 : Cond.fieldLink RX7 22 "KeyDriftModel" "moved" "[I" ∈ kT := mt_4 (List.mem_of_getElem? (i := 64) rfl) rfl
theorem lf_X7_25 : Cond.fieldLink RX7 25 "KeyDriftModel" "tape" "[I" ∈ kT := mt_4 (List.mem_of_getElem? (i := 65) rfl) rfl
theorem lf_X7_81 : Cond.fieldLink RX7 81 "KeyDriftModel" "bytes" "I" ∈ kT := mt_4 (List.mem_of_getElem? (i := 66) rfl) rfl
theorem lf_X7_134 : Cond.fieldLink RX7 134 "KeyDriftModel" "latest" "I" ∈ kT := mt_4 (List.mem_of_getElem? (i := 67) rfl) rfl
theorem lf_X7_85 : Cond.fieldLink RX7 85 "KeyDriftModel" "place" "I" ∈ kT := mt_4 (List.mem_of_getElem? (i := 68) rfl) rfl
theorem lf_X7_91 : Cond.fieldLink RX7 91 "KeyDriftModel" "token" "I" ∈ kT := mt_4 (List.mem_of_getElem? (i := 69) rfl) rfl
theorem lf_X7_94 : Cond.fieldLink RX7 94 "KeyDriftModel" "value" "I" ∈ kT := mt_4 (List.mem_of_getElem? (i := 70) rfl) rfl
theorem lf_X7_88 : Cond.fieldLink RX7 88 "KeyDriftModel" "begins" "I" ∈ kT := mt_4 (List.mem_of_getElem? (i := 71) rfl) rfl
theorem lf_X7_105 : Cond.fieldLink RX7 105 "KeyDriftModel" "wrong" "I" ∈ kT := mt_4 (List.mem_of_getElem? (i := 72) rfl) rfl
theorem lf_X7_28 : Cond.fieldLink RX7 28 "KeyDriftModel" "read" "[I" ∈ kT := mt_4 (List.mem_of_getElem? (i := 73) rfl) rfl
theorem lf_X7_31 : Cond.fieldLink RX7 31 "KeyDriftModel" "acts" "[I" ∈ kT := mt_4 (List.mem_of_getElem? (i := 74) rfl) rfl
theorem lf_X7_142 : Cond.fieldLink RX7 142 "KeyDriftModel" "actMany" "I" ∈ kT := mt_4 (List.mem_of_getElem? (i := 75) rfl) rfl
theorem lf_X7_172 : Cond.fieldLink RX7 172 "KeyDriftModel" "leastKey" "I" ∈ kT := mt_4 (List.mem_of_getElem? (i := 76) rfl) rfl
theorem lf_X7_175 : Cond.fieldLink RX7 175 "KeyDriftModel" "mostKey" "I" ∈ kT := mt_4 (List.mem_of_getElem? (i := 77) rfl) rfl
theorem lf_X7_34 : Cond.fieldLink RX7 34 "KeyDriftModel" "fewest" "[I" ∈ kT := mt_4 (List.mem_of_getElem? (i := 78) rfl) rfl
theorem lf_X7_37 : Cond.fieldLink RX7 37 "KeyDriftModel" "then" "[I" ∈ kT := mt_4 (List.mem_of_getElem? (i := 79) rfl) rfl
theorem lf_X7_40 : Cond.fieldLink RX7 40 "KeyDriftModel" "isKept" "[Z" ∈ kT := mt_4 (List.mem_of_getElem? (i := 80) rfl) rfl
theorem lf_X7_44 : Cond.fieldLink RX7 44 "KeyDriftModel" "kept" "[I" ∈ kT := mt_4 (List.mem_of_getElem? (i := 81) rfl) rfl
theorem lf_X7_47 : Cond.fieldLink RX7 47 "KeyDriftModel" "trace" "[I" ∈ kT := mt_4 (List.mem_of_getElem? (i := 82) rfl) rfl
theorem lf_X7_231 : Cond.fieldLink RX7 231 "KeyDriftModel" "traced" "I" ∈ kT := mt_4 (List.mem_of_getElem? (i := 83) rfl) rfl
theorem wy_boolean : Cond.arrayClass .boolean ∈ kT := mt_4 (List.mem_of_getElem? (i := 137) rfl) rfl
theorem lm_L_17 : Cond.methodLink RL 17 yX7_row ∈ kT := mt_4 (List.mem_of_getElem? (i := 138) rfl) rfl
theorem wi_X7_row : Cond.instanceMethod yX7_row ∈ kT := mt_4 (List.mem_of_getElem? (i := 139) rfl) rfl
theorem ws_X7_row : Cond.selects RX7 yX7_row yX7_row ∈ kT := mt_4 (List.mem_of_getElem? (i := 140) rfl) rfl
theorem wc_X7_row : Cond.code yX7_row cX7_row 5 (some .int) ∈ kT := mt_4 (List.mem_of_getElem? (i := 141) rfl) rfl
theorem lm_X7_61 : Cond.methodLink RX7 61 yX7_isRow ∈ kT := mt_4 (List.mem_of_getElem? (i := 142) rfl) rfl
theorem wt_X7_isRow : Cond.static yX7_isRow ∈ kT := mt_4 (List.mem_of_getElem? (i := 143) rfl) rfl
theorem wc_X7_isRow : Cond.code yX7_isRow cX7_isRow 1 (some .boolean) ∈ kT := mt_4 (List.mem_of_getElem? (i := 144) rfl) rfl
theorem lK_X7_55 : Cond.constantLong RX7 55 (7) ∈ kT := mt_4 (List.mem_of_getElem? (i := 145) rfl) rfl
theorem lm_X7_57 : Cond.methodLink RX7 57 yX7_in ∈ kT := mt_4 (List.mem_of_getElem? (i := 146) rfl) rfl
theorem wt_X7_in : Cond.static yX7_in ∈ kT := mt_4 (List.mem_of_getElem? (i := 147) rfl) rfl
theorem wc_X7_in : Cond.code yX7_in cX7_in 6 (some .boolean) ∈ kT := mt_4 (List.mem_of_getElem? (i := 148) rfl) rfl
theorem lK_X7_65 : Cond.constantLong RX7 65 (2) ∈ kT := mt_4 (List.mem_of_getElem? (i := 149) rfl) rfl
theorem lk_X7_67 : Cond.constant RX7 67 (-1000001) ∈ kT := mt_4 (List.mem_of_getElem? (i := 150) rfl) rfl
theorem lm_X7_68 : Cond.methodLink RX7 68 yX7_find ∈ kT := mt_4 (List.mem_of_getElem? (i := 151) rfl) rfl
theorem wi_X7_find : Cond.instanceMethod yX7_find ∈ kT := mt_4 (List.mem_of_getElem? (i := 153) rfl) rfl
theorem wc_X7_find : Cond.code yX7_find cX7_find 2 (some .int) ∈ kT := mt_4 (List.mem_of_getElem? (i := 154) rfl) rfl
theorem lk_X7_54 : Cond.constant RX7 54 (-1000010) ∈ kT := mt_4 (List.mem_of_getElem? (i := 155) rfl) rfl
theorem lm_X7_72 : Cond.methodLink RX7 72 yX7_well ∈ kT := mt_4 (List.mem_of_getElem? (i := 156) rfl) rfl
theorem wi_X7_well : Cond.instanceMethod yX7_well ∈ kT := mt_4 (List.mem_of_getElem? (i := 158) rfl) rfl
theorem wc_X7_well : Cond.code yX7_well cX7_well 2 (some .int) ∈ kT := mt_4 (List.mem_of_getElem? (i := 159) rfl) rfl
theorem lm_L_21 : Cond.methodLink RL 21 yX7_set ∈ kT := mt_4 (List.mem_of_getElem? (i := 160) rfl) rfl
theorem wi_X7_set : Cond.instanceMethod yX7_set ∈ kT := mt_4 (List.mem_of_getElem? (i := 161) rfl) rfl
theorem ws_X7_set : Cond.selects RX7 yX7_set yX7_set ∈ kT := mt_4 (List.mem_of_getElem? (i := 162) rfl) rfl
theorem wc_X7_set : Cond.code yX7_set cX7_set 4 (some .int) ∈ kT := mt_4 (List.mem_of_getElem? (i := 163) rfl) rfl
theorem lm_X7_75 : Cond.methodLink RX7 75 yX7_asLane ∈ kT := mt_4 (List.mem_of_getElem? (i := 164) rfl) rfl
theorem wt_X7_asLane : Cond.static yX7_asLane ∈ kT := mt_4 (List.mem_of_getElem? (i := 165) rfl) rfl
theorem wc_X7_asLane : Cond.code yX7_asLane cX7_asLane 2 (some .int) ∈ kT := mt_4 (List.mem_of_getElem? (i := 166) rfl) rfl
theorem lm_L_26 : Cond.methodLink RL 26 yX7_copy ∈ kT := mt_4 (List.mem_of_getElem? (i := 167) rfl) rfl
theorem wi_X7_copy : Cond.instanceMethod yX7_copy ∈ kT := mt_4 (List.mem_of_getElem? (i := 168) rfl) rfl
theorem ws_X7_copy : Cond.selects RX7 yX7_copy yX7_copy ∈ kT := mt_4 (List.mem_of_getElem? (i := 169) rfl) rfl
theorem wc_X7_copy : Cond.code yX7_copy cX7_copy 7 (some .int) ∈ kT := mt_4 (List.mem_of_getElem? (i := 170) rfl) rfl
theorem lm_L_31 : Cond.methodLink RL 31 yX7_drop ∈ kT := mt_4 (List.mem_of_getElem? (i := 171) rfl) rfl
theorem wi_X7_drop : Cond.instanceMethod yX7_drop ∈ kT := mt_4 (List.mem_of_getElem? (i := 172) rfl) rfl
theorem ws_X7_drop : Cond.selects RX7 yX7_drop yX7_drop ∈ kT := mt_4 (List.mem_of_getElem? (i := 173) rfl) rfl
theorem wc_X7_drop : Cond.code yX7_drop cX7_drop 3 (some .int) ∈ kT := mt_4 (List.mem_of_getElem? (i := 174) rfl) rfl
theorem lm_L_35 : Cond.methodLink RL 35 yX7_feed ∈ kT := mt_4 (List.mem_of_getElem? (i := 175) rfl) rfl
theorem wi_X7_feed : Cond.instanceMethod yX7_feed ∈ kT := mt_4 (List.mem_of_getElem? (i := 176) rfl) rfl
theorem ws_X7_feed : Cond.selects RX7 yX7_feed yX7_feed ∈ kT := mt_4 (List.mem_of_getElem? (i := 177) rfl) rfl
theorem wc_X7_feed : Cond.code yX7_feed cX7_feed 2 (some .int) ∈ kT := mt_4 (List.mem_of_getElem? (i := 178) rfl) rfl
theorem lK_X7_79 : Cond.constantLong RX7 79 (255) ∈ kT := mt_4 (List.mem_of_getElem? (i := 179) rfl) rfl
theorem lk_X7_84 : Cond.constant RX7 84 (-1000003) ∈ kT := mt_4 (List.mem_of_getElem? (i := 180) rfl) rfl
theorem lm_L_40 : Cond.methodLink RL 40 yX7_hall ∈ kT := mt_4 (List.mem_of_getElem? (i := 181) rfl) rfl
theorem wi_X7_hall : Cond.instanceMethod yX7_hall ∈ kT := mt_4 (List.mem_of_getElem? (i := 182) rfl) rfl
theorem ws_X7_hall : Cond.selects RX7 yX7_hall yX7_hall ∈ kT := mt_4 (List.mem_of_getElem? (i := 183) rfl) rfl
theorem wc_X7_hall : Cond.code yX7_hall cX7_hall 3 (some .int) ∈ kT := mt_4 (List.mem_of_getElem? (i := 184) rfl) rfl
theorem lm_X7_131 : Cond.methodLink RX7 131 yX7_readHall ∈ kT := mt_4 (List.mem_of_getElem? (i := 185) rfl) rfl
theorem wi_X7_readHall : Cond.instanceMethod yX7_readHall ∈ kT := mt_4 (List.mem_of_getElem? (i := 187) rfl) rfl
theorem wc_X7_readHall : Cond.code yX7_readHall cX7_readHall 3 (some .boolean) ∈ kT := mt_4 (List.mem_of_getElem? (i := 188) rfl) rfl
theorem lm_X7_114 : Cond.methodLink RX7 114 yX7_nextToken ∈ kT := mt_4 (List.mem_of_getElem? (i := 189) rfl) rfl
theorem wi_X7_nextToken : Cond.instanceMethod yX7_nextToken ∈ kT := mt_4 (List.mem_of_getElem? (i := 191) rfl) rfl
theorem wc_X7_nextToken : Cond.code yX7_nextToken cX7_nextToken 1 none ∈ kT := mt_4 (List.mem_of_getElem? (i := 192) rfl) rfl
theorem lK_X7_97 : Cond.constantLong RX7 97 (48) ∈ kT := mt_4 (List.mem_of_getElem? (i := 193) rfl) rfl
theorem lK_X7_99 : Cond.constantLong RX7 99 (57) ∈ kT := mt_4 (List.mem_of_getElem? (i := 194) rfl) rfl
theorem lK_X7_101 : Cond.constantLong RX7 101 (97) ∈ kT := mt_4 (List.mem_of_getElem? (i := 195) rfl) rfl
theorem lK_X7_103 : Cond.constantLong RX7 103 (122) ∈ kT := mt_4 (List.mem_of_getElem? (i := 196) rfl) rfl
theorem lm_X7_117 : Cond.methodLink RX7 117 yX7_takes ∈ kT := mt_4 (List.mem_of_getElem? (i := 197) rfl) rfl
theorem wi_X7_takes : Cond.instanceMethod yX7_takes ∈ kT := mt_4 (List.mem_of_getElem? (i := 199) rfl) rfl
theorem wc_X7_takes : Cond.code yX7_takes cX7_takes 2 (some .boolean) ∈ kT := mt_4 (List.mem_of_getElem? (i := 200) rfl) rfl
theorem lm_X7_108 : Cond.methodLink RX7 108 yX7_isLetter ∈ kT := mt_4 (List.mem_of_getElem? (i := 201) rfl) rfl
theorem wi_X7_isLetter : Cond.instanceMethod yX7_isLetter ∈ kT := mt_4 (List.mem_of_getElem? (i := 203) rfl) rfl
theorem wc_X7_isLetter : Cond.code yX7_isLetter cX7_isLetter 2 (some .boolean) ∈ kT := mt_4 (List.mem_of_getElem? (i := 204) rfl) rfl
theorem lm_X7_111 : Cond.methodLink RX7 111 yX7_faults ∈ kT := mt_4 (List.mem_of_getElem? (i := 205) rfl) rfl
theorem wi_X7_faults : Cond.instanceMethod yX7_faults ∈ kT := mt_4 (List.mem_of_getElem? (i := 207) rfl) rfl
theorem wc_X7_faults : Cond.code yX7_faults cX7_faults 2 (some .boolean) ∈ kT := mt_4 (List.mem_of_getElem? (i := 208) rfl) rfl
theorem lm_X7_120 : Cond.methodLink RX7 120 yX7_takesNumber ∈ kT := mt_4 (List.mem_of_getElem? (i := 209) rfl) rfl
theorem wi_X7_takesNumber : Cond.instanceMethod yX7_takesNumber ∈ kT := mt_4 (List.mem_of_getElem? (i := 211) rfl) rfl
theorem wc_X7_takesNumber : Cond.code yX7_takesNumber cX7_takesNumber 5 (some .boolean) ∈ kT := mt_4 (List.mem_of_getElem? (i := 212) rfl) rfl
theorem lm_X7_124 : Cond.methodLink RX7 124 yX7_readPupil ∈ kT := mt_4 (List.mem_of_getElem? (i := 213) rfl) rfl
theorem wi_X7_readPupil : Cond.instanceMethod yX7_readPupil ∈ kT := mt_4 (List.mem_of_getElem? (i := 215) rfl) rfl
theorem wc_X7_readPupil : Cond.code yX7_readPupil cX7_readPupil 3 (some .boolean) ∈ kT := mt_4 (List.mem_of_getElem? (i := 216) rfl) rfl
theorem lm_X7_127 : Cond.methodLink RX7 127 yX7_readPiece ∈ kT := mt_4 (List.mem_of_getElem? (i := 217) rfl) rfl
theorem wi_X7_readPiece : Cond.instanceMethod yX7_readPiece ∈ kT := mt_4 (List.mem_of_getElem? (i := 219) rfl) rfl
theorem wc_X7_readPiece : Cond.code yX7_readPiece cX7_readPiece 2 (some .boolean) ∈ kT := mt_4 (List.mem_of_getElem? (i := 220) rfl) rfl
theorem lk_X7_137 : Cond.constant RX7 137 (-1000100) ∈ kT := mt_4 (List.mem_of_getElem? (i := 221) rfl) rfl
theorem lm_L_44 : Cond.methodLink RL 44 yX7_fault ∈ kT := mt_4 (List.mem_of_getElem? (i := 222) rfl) rfl
theorem wi_X7_fault : Cond.instanceMethod yX7_fault ∈ kT := mt_4 (List.mem_of_getElem? (i := 223) rfl) rfl
theorem ws_X7_fault : Cond.selects RX7 yX7_fault yX7_fault ∈ kT := mt_4 (List.mem_of_getElem? (i := 224) rfl) rfl
theorem wc_X7_fault : Cond.code yX7_fault cX7_fault 1 (some .int) ∈ kT := mt_4 (List.mem_of_getElem? (i := 225) rfl) rfl
theorem lm_L_48 : Cond.methodLink RL 48 yX7_undo ∈ kT := mt_4 (List.mem_of_getElem? (i := 226) rfl) rfl
theorem wi_X7_undo : Cond.instanceMethod yX7_undo ∈ kT := mt_4 (List.mem_of_getElem? (i := 227) rfl) rfl
theorem ws_X7_undo : Cond.selects RX7 yX7_undo yX7_undo ∈ kT := mt_4 (List.mem_of_getElem? (i := 228) rfl) rfl
theorem wc_X7_undo : Cond.code yX7_undo cX7_undo 2 (some .int) ∈ kT := mt_4 (List.mem_of_getElem? (i := 229) rfl) rfl
theorem lk_X7_145 : Cond.constant RX7 145 (-1000002) ∈ kT := mt_4 (List.mem_of_getElem? (i := 230) rfl) rfl
theorem lm_L_52 : Cond.methodLink RL 52 yX7_nights ∈ kT := mt_4 (List.mem_of_getElem? (i := 231) rfl) rfl
theorem wi_X7_nights : Cond.instanceMethod yX7_nights ∈ kT := mt_4 (List.mem_of_getElem? (i := 232) rfl) rfl
theorem ws_X7_nights : Cond.selects RX7 yX7_nights yX7_nights ∈ kT := mt_4 (List.mem_of_getElem? (i := 233) rfl) rfl
theorem wc_X7_nights : Cond.code yX7_nights cX7_nights 3 (some .int) ∈ kT := mt_4 (List.mem_of_getElem? (i := 234) rfl) rfl
theorem lK_X7_149 : Cond.constantLong RX7 149 (24) ∈ kT := mt_4 (List.mem_of_getElem? (i := 235) rfl) rfl
theorem lm_X7_151 : Cond.methodLink RX7 151 yX7_note ∈ kT := mt_4 (List.mem_of_getElem? (i := 236) rfl) rfl
theorem wi_X7_note : Cond.instanceMethod yX7_note ∈ kT := mt_4 (List.mem_of_getElem? (i := 238) rfl) rfl
theorem wc_X7_note : Cond.code yX7_note cX7_note 2 none ∈ kT := mt_4 (List.mem_of_getElem? (i := 239) rfl) rfl
theorem lm_X7_154 : Cond.methodLink RX7 154 yX7_shiftIn ∈ kT := mt_5 (List.mem_of_getElem? (i := 0) rfl) rfl
theorem wi_X7_shiftIn : Cond.instanceMethod yX7_shiftIn ∈ kT := mt_5 (List.mem_of_getElem? (i := 2) rfl) rfl
theorem wc_X7_shiftIn : Cond.code yX7_shiftIn cX7_shiftIn 2 (some .int) ∈ kT := mt_5 (List.mem_of_getElem? (i := 3) rfl) rfl
theorem lm_X7_146 : Cond.methodLink RX7 146 yX7_over ∈ kT := mt_5 (List.mem_of_getElem? (i := 4) rfl) rfl
theorem wi_X7_over : Cond.instanceMethod yX7_over ∈ kT := mt_5 (List.mem_of_getElem? (i := 6) rfl) rfl
theorem wc_X7_over : Cond.code yX7_over cX7_over 3 (some .int) ∈ kT := mt_5 (List.mem_of_getElem? (i := 7) rfl) rfl
theorem lm_L_56 : Cond.methodLink RL 56 yX7_thunder ∈ kT := mt_5 (List.mem_of_getElem? (i := 8) rfl) rfl
theorem wi_X7_thunder : Cond.instanceMethod yX7_thunder ∈ kT := mt_5 (List.mem_of_getElem? (i := 9) rfl) rfl
theorem ws_X7_thunder : Cond.selects RX7 yX7_thunder yX7_thunder ∈ kT := mt_5 (List.mem_of_getElem? (i := 10) rfl) rfl
theorem wc_X7_thunder : Cond.code yX7_thunder cX7_thunder 2 (some .int) ∈ kT := mt_5 (List.mem_of_getElem? (i := 11) rfl) rfl
theorem lK_X7_157 : Cond.constantLong RX7 157 (11) ∈ kT := mt_5 (List.mem_of_getElem? (i := 12) rfl) rfl
theorem lm_L_60 : Cond.methodLink RL 60 yX7_tune ∈ kT := mt_5 (List.mem_of_getElem? (i := 13) rfl) rfl
theorem wi_X7_tune : Cond.instanceMethod yX7_tune ∈ kT := mt_5 (List.mem_of_getElem? (i := 14) rfl) rfl
theorem ws_X7_tune : Cond.selects RX7 yX7_tune yX7_tune ∈ kT := mt_5 (List.mem_of_getElem? (i := 15) rfl) rfl
theorem wc_X7_tune : Cond.code yX7_tune cX7_tune 2 (some .int) ∈ kT := mt_5 (List.mem_of_getElem? (i := 16) rfl) rfl
theorem lm_L_64 : Cond.methodLink RL 64 yX7_learn ∈ kT := mt_5 (List.mem_of_getElem? (i := 17) rfl) rfl
theorem wi_X7_learn : Cond.instanceMethod yX7_learn ∈ kT := mt_5 (List.mem_of_getElem? (i := 18) rfl) rfl
theorem ws_X7_learn : Cond.selects RX7 yX7_learn yX7_learn ∈ kT := mt_5 (List.mem_of_getElem? (i := 19) rfl) rfl
theorem wc_X7_learn : Cond.code yX7_learn cX7_learn 3 (some .int) ∈ kT := mt_5 (List.mem_of_getElem? (i := 20) rfl) rfl
theorem lm_X7_159 : Cond.methodLink RX7 159 yX7_isPupil ∈ kT := mt_5 (List.mem_of_getElem? (i := 21) rfl) rfl
theorem wi_X7_isPupil : Cond.instanceMethod yX7_isPupil ∈ kT := mt_5 (List.mem_of_getElem? (i := 23) rfl) rfl
theorem wc_X7_isPupil : Cond.code yX7_isPupil cX7_isPupil 2 (some .boolean) ∈ kT := mt_5 (List.mem_of_getElem? (i := 24) rfl) rfl
theorem lm_L_69 : Cond.methodLink RL 69 yX7_piece ∈ kT := mt_5 (List.mem_of_getElem? (i := 25) rfl) rfl
theorem wi_X7_piece : Cond.instanceMethod yX7_piece ∈ kT := mt_5 (List.mem_of_getElem? (i := 26) rfl) rfl
theorem ws_X7_piece : Cond.selects RX7 yX7_piece yX7_piece ∈ kT := mt_5 (List.mem_of_getElem? (i := 27) rfl) rfl
theorem wc_X7_piece : Cond.code yX7_piece cX7_piece 4 (some .int) ∈ kT := mt_5 (List.mem_of_getElem? (i := 28) rfl) rfl
theorem lm_X7_162 : Cond.methodLink RX7 162 yX7_isPiece ∈ kT := mt_5 (List.mem_of_getElem? (i := 29) rfl) rfl
theorem wi_X7_isPiece : Cond.instanceMethod yX7_isPiece ∈ kT := mt_5 (List.mem_of_getElem? (i := 31) rfl) rfl
theorem wc_X7_isPiece : Cond.code yX7_isPiece cX7_isPiece 2 (some .boolean) ∈ kT := mt_5 (List.mem_of_getElem? (i := 32) rfl) rfl
theorem lk_X7_165 : Cond.constant RX7 165 (-1000000) ∈ kT := mt_5 (List.mem_of_getElem? (i := 33) rfl) rfl
theorem lm_L_73 : Cond.methodLink RL 73 yX7_pupil ∈ kT := mt_5 (List.mem_of_getElem? (i := 34) rfl) rfl
theorem wi_X7_pupil : Cond.instanceMethod yX7_pupil ∈ kT := mt_5 (List.mem_of_getElem? (i := 35) rfl) rfl
theorem ws_X7_pupil : Cond.selects RX7 yX7_pupil yX7_pupil ∈ kT := mt_5 (List.mem_of_getElem? (i := 36) rfl) rfl
theorem wc_X7_pupil : Cond.code yX7_pupil cX7_pupil 3 (some .int) ∈ kT := mt_5 (List.mem_of_getElem? (i := 37) rfl) rfl
theorem lm_X7_169 : Cond.methodLink RX7 169 yX7_biasOf ∈ kT := mt_5 (List.mem_of_getElem? (i := 38) rfl) rfl
theorem wi_X7_biasOf : Cond.instanceMethod yX7_biasOf ∈ kT := mt_5 (List.mem_of_getElem? (i := 40) rfl) rfl
theorem wc_X7_biasOf : Cond.code yX7_biasOf cX7_biasOf 2 (some .int) ∈ kT := mt_5 (List.mem_of_getElem? (i := 41) rfl) rfl
theorem lm_X7_166 : Cond.methodLink RX7 166 yX7_biasBy ∈ kT := mt_5 (List.mem_of_getElem? (i := 42) rfl) rfl
theorem wi_X7_biasBy : Cond.instanceMethod yX7_biasBy ∈ kT := mt_5 (List.mem_of_getElem? (i := 44) rfl) rfl
theorem wc_X7_biasBy : Cond.code yX7_biasBy cX7_biasBy 4 (some .int) ∈ kT := mt_5 (List.mem_of_getElem? (i := 45) rfl) rfl
theorem lm_L_77 : Cond.methodLink RL 77 yX7_plays ∈ kT := mt_5 (List.mem_of_getElem? (i := 46) rfl) rfl
theorem wi_X7_plays : Cond.instanceMethod yX7_plays ∈ kT := mt_5 (List.mem_of_getElem? (i := 47) rfl) rfl
theorem ws_X7_plays : Cond.selects RX7 yX7_plays yX7_plays ∈ kT := mt_5 (List.mem_of_getElem? (i := 48) rfl) rfl
theorem wc_X7_plays : Cond.code yX7_plays cX7_plays 5 (some .int) ∈ kT := mt_5 (List.mem_of_getElem? (i := 49) rfl) rfl
theorem lm_X7_178 : Cond.methodLink RX7 178 yX7_reaches ∈ kT := mt_5 (List.mem_of_getElem? (i := 50) rfl) rfl
theorem wi_X7_reaches : Cond.instanceMethod yX7_reaches ∈ kT := mt_5 (List.mem_of_getElem? (i := 52) rfl) rfl
theorem wc_X7_reaches : Cond.code yX7_reaches cX7_reaches 5 (some .boolean) ∈ kT := mt_5 (List.mem_of_getElem? (i := 53) rfl) rfl
theorem lm_L_81 : Cond.methodLink RL 81 yX7_heard ∈ kT := mt_5 (List.mem_of_getElem? (i := 54) rfl) rfl
theorem wi_X7_heard : Cond.instanceMethod yX7_heard ∈ kT := mt_5 (List.mem_of_getElem? (i := 55) rfl) rfl
theorem ws_X7_heard : Cond.selects RX7 yX7_heard yX7_heard ∈ kT := mt_5 (List.mem_of_getElem? (i := 56) rfl) rfl
theorem wc_X7_heard : Cond.code yX7_heard cX7_heard 4 (some .int) ∈ kT := mt_5 (List.mem_of_getElem? (i := 57) rfl) rfl
theorem lm_X7_182 : Cond.methodLink RX7 182 yX7_heardBy ∈ kT := mt_5 (List.mem_of_getElem? (i := 58) rfl) rfl
theorem wi_X7_heardBy : Cond.instanceMethod yX7_heardBy ∈ kT := mt_5 (List.mem_of_getElem? (i := 60) rfl) rfl
theorem wc_X7_heardBy : Cond.code yX7_heardBy cX7_heardBy 4 (some .int) ∈ kT := mt_5 (List.mem_of_getElem? (i := 61) rfl) rfl
theorem lm_L_85 : Cond.methodLink RL 85 yX7_strike ∈ kT := mt_5 (List.mem_of_getElem? (i := 62) rfl) rfl
theorem wi_X7_strike : Cond.instanceMethod yX7_strike ∈ kT := mt_5 (List.mem_of_getElem? (i := 63) rfl) rfl
theorem ws_X7_strike : Cond.selects RX7 yX7_strike yX7_strike ∈ kT := mt_5 (List.mem_of_getElem? (i := 64) rfl) rfl
theorem wc_X7_strike : Cond.code yX7_strike cX7_strike 2 (some .int) ∈ kT := mt_5 (List.mem_of_getElem? (i := 65) rfl) rfl
theorem lm_L_89 : Cond.methodLink RL 89 yX7_soon ∈ kT := mt_5 (List.mem_of_getElem? (i := 66) rfl) rfl
theorem wi_X7_soon : Cond.instanceMethod yX7_soon ∈ kT := mt_5 (List.mem_of_getElem? (i := 67) rfl) rfl
theorem ws_X7_soon : Cond.selects RX7 yX7_soon yX7_soon ∈ kT := mt_5 (List.mem_of_getElem? (i := 68) rfl) rfl
theorem wc_X7_soon : Cond.code yX7_soon cX7_soon 2 (some .int) ∈ kT := mt_5 (List.mem_of_getElem? (i := 69) rfl) rfl
theorem lm_X7_186 : Cond.methodLink RX7 186 yX7_soonBy ∈ kT := mt_5 (List.mem_of_getElem? (i := 70) rfl) rfl
theorem wi_X7_soonBy : Cond.instanceMethod yX7_soonBy ∈ kT := mt_5 (List.mem_of_getElem? (i := 72) rfl) rfl
theorem wc_X7_soonBy : Cond.code yX7_soonBy cX7_soonBy 4 (some .int) ∈ kT := mt_5 (List.mem_of_getElem? (i := 73) rfl) rfl
theorem lm_L_93 : Cond.methodLink RL 93 yX7_together ∈ kT := mt_5 (List.mem_of_getElem? (i := 74) rfl) rfl
theorem wi_X7_together : Cond.instanceMethod yX7_together ∈ kT := mt_5 (List.mem_of_getElem? (i := 75) rfl) rfl
theorem ws_X7_together : Cond.selects RX7 yX7_together yX7_together ∈ kT := mt_5 (List.mem_of_getElem? (i := 76) rfl) rfl
theorem wc_X7_together : Cond.code yX7_together cX7_together 3 (some .int) ∈ kT := mt_5 (List.mem_of_getElem? (i := 77) rfl) rfl
theorem lm_L_97 : Cond.methodLink RL 97 yX7_itself ∈ kT := mt_5 (List.mem_of_getElem? (i := 78) rfl) rfl
theorem wi_X7_itself : Cond.instanceMethod yX7_itself ∈ kT := mt_5 (List.mem_of_getElem? (i := 79) rfl) rfl
theorem ws_X7_itself : Cond.selects RX7 yX7_itself yX7_itself ∈ kT := mt_5 (List.mem_of_getElem? (i := 80) rfl) rfl
theorem wc_X7_itself : Cond.code yX7_itself cX7_itself 1 (some .int) ∈ kT := mt_5 (List.mem_of_getElem? (i := 81) rfl) rfl
theorem lm_L_101 : Cond.methodLink RL 101 yX7_nightsOf ∈ kT := mt_5 (List.mem_of_getElem? (i := 82) rfl) rfl
theorem wi_X7_nightsOf : Cond.instanceMethod yX7_nightsOf ∈ kT := mt_5 (List.mem_of_getElem? (i := 83) rfl) rfl
theorem ws_X7_nightsOf : Cond.selects RX7 yX7_nightsOf yX7_nightsOf ∈ kT := mt_5 (List.mem_of_getElem? (i := 84) rfl) rfl
theorem wc_X7_nightsOf : Cond.code yX7_nightsOf cX7_nightsOf 5 (some .int) ∈ kT := mt_5 (List.mem_of_getElem? (i := 85) rfl) rfl
theorem lm_L_106 : Cond.methodLink RL 106 yX7_struck ∈ kT := mt_5 (List.mem_of_getElem? (i := 86) rfl) rfl
theorem wi_X7_struck : Cond.instanceMethod yX7_struck ∈ kT := mt_5 (List.mem_of_getElem? (i := 87) rfl) rfl
theorem ws_X7_struck : Cond.selects RX7 yX7_struck yX7_struck ∈ kT := mt_5 (List.mem_of_getElem? (i := 88) rfl) rfl
theorem wc_X7_struck : Cond.code yX7_struck cX7_struck 13 (some .int) ∈ kT := mt_5 (List.mem_of_getElem? (i := 89) rfl) rfl
theorem lK_X7_189 : Cond.constantLong RX7 189 (12) ∈ kT := mt_5 (List.mem_of_getElem? (i := 90) rfl) rfl
theorem lm_X7_191 : Cond.methodLink RX7 191 yX7_lacks ∈ kT := mt_5 (List.mem_of_getElem? (i := 91) rfl) rfl
theorem wi_X7_lacks : Cond.instanceMethod yX7_lacks ∈ kT := mt_5 (List.mem_of_getElem? (i := 93) rfl) rfl
theorem wc_X7_lacks : Cond.code yX7_lacks cX7_lacks 4 (some .int) ∈ kT := mt_5 (List.mem_of_getElem? (i := 94) rfl) rfl
theorem lm_L_110 : Cond.methodLink RL 110 yX7_lessons ∈ kT := mt_5 (List.mem_of_getElem? (i := 95) rfl) rfl
theorem wi_X7_lessons : Cond.instanceMethod yX7_lessons ∈ kT := mt_5 (List.mem_of_getElem? (i := 96) rfl) rfl
theorem ws_X7_lessons : Cond.selects RX7 yX7_lessons yX7_lessons ∈ kT := mt_5 (List.mem_of_getElem? (i := 97) rfl) rfl
theorem wc_X7_lessons : Cond.code yX7_lessons cX7_lessons 5 (some .int) ∈ kT := mt_5 (List.mem_of_getElem? (i := 98) rfl) rfl
theorem lK_X7_197 : Cond.constantLong RX7 197 (16777215) ∈ kT := mt_5 (List.mem_of_getElem? (i := 99) rfl) rfl
theorem lm_X7_199 : Cond.methodLink RX7 199 yX7_ones ∈ kT := mt_5 (List.mem_of_getElem? (i := 100) rfl) rfl
theorem wt_X7_ones : Cond.static yX7_ones ∈ kT := mt_5 (List.mem_of_getElem? (i := 101) rfl) rfl
theorem wc_X7_ones : Cond.code yX7_ones cX7_ones 3 (some .int) ∈ kT := mt_5 (List.mem_of_getElem? (i := 102) rfl) rfl
theorem lm_X7_202 : Cond.methodLink RX7 202 yX7_isLesson ∈ kT := mt_5 (List.mem_of_getElem? (i := 103) rfl) rfl
theorem wi_X7_isLesson : Cond.instanceMethod yX7_isLesson ∈ kT := mt_5 (List.mem_of_getElem? (i := 105) rfl) rfl
theorem wc_X7_isLesson : Cond.code yX7_isLesson cX7_isLesson 8 (some .boolean) ∈ kT := mt_5 (List.mem_of_getElem? (i := 106) rfl) rfl
theorem lm_X7_194 : Cond.methodLink RX7 194 yX7_has ∈ kT := mt_5 (List.mem_of_getElem? (i := 107) rfl) rfl
theorem wt_X7_has : Cond.static yX7_has ∈ kT := mt_5 (List.mem_of_getElem? (i := 108) rfl) rfl
theorem wc_X7_has : Cond.code yX7_has cX7_has 2 (some .boolean) ∈ kT := mt_5 (List.mem_of_getElem? (i := 109) rfl) rfl
theorem lm_L_114 : Cond.methodLink RL 114 yX7_programme ∈ kT := mt_5 (List.mem_of_getElem? (i := 110) rfl) rfl
theorem wi_X7_programme : Cond.instanceMethod yX7_programme ∈ kT := mt_5 (List.mem_of_getElem? (i := 111) rfl) rfl
theorem ws_X7_programme : Cond.selects RX7 yX7_programme yX7_programme ∈ kT := mt_5 (List.mem_of_getElem? (i := 112) rfl) rfl
theorem wc_X7_programme : Cond.code yX7_programme cX7_programme 12 (some .int) ∈ kT := mt_5 (List.mem_of_getElem? (i := 113) rfl) rfl
theorem lK_X7_205 : Cond.constantLong RX7 205 (6) ∈ kT := mt_5 (List.mem_of_getElem? (i := 114) rfl) rfl
theorem lK_X7_207 : Cond.constantLong RX7 207 (-1) ∈ kT := mt_5 (List.mem_of_getElem? (i := 115) rfl) rfl
theorem lK_X7_209 : Cond.constantLong RX7 209 (3) ∈ kT := mt_5 (List.mem_of_getElem? (i := 116) rfl) rfl
theorem lm_X7_211 : Cond.methodLink RX7 211 yX7_isNight ∈ kT := mt_5 (List.mem_of_getElem? (i := 117) rfl) rfl
theorem wi_X7_isNight : Cond.instanceMethod yX7_isNight ∈ kT := mt_5 (List.mem_of_getElem? (i := 119) rfl) rfl
theorem wc_X7_isNight : Cond.code yX7_isNight cX7_isNight 5 (some .boolean) ∈ kT := mt_5 (List.mem_of_getElem? (i := 120) rfl) rfl
theorem lm_L_118 : Cond.methodLink RL 118 yX7_chords ∈ kT := mt_5 (List.mem_of_getElem? (i := 121) rfl) rfl
theorem wi_X7_chords : Cond.instanceMethod yX7_chords ∈ kT := mt_5 (List.mem_of_getElem? (i := 122) rfl) rfl
theorem ws_X7_chords : Cond.selects RX7 yX7_chords yX7_chords ∈ kT := mt_5 (List.mem_of_getElem? (i := 123) rfl) rfl
theorem wc_X7_chords : Cond.code yX7_chords cX7_chords 6 (some .int) ∈ kT := mt_5 (List.mem_of_getElem? (i := 124) rfl) rfl
theorem lm_L_122 : Cond.methodLink RL 122 yX7_who ∈ kT := mt_5 (List.mem_of_getElem? (i := 125) rfl) rfl
theorem wi_X7_who : Cond.instanceMethod yX7_who ∈ kT := mt_5 (List.mem_of_getElem? (i := 126) rfl) rfl
theorem ws_X7_who : Cond.selects RX7 yX7_who yX7_who ∈ kT := mt_5 (List.mem_of_getElem? (i := 127) rfl) rfl
theorem wc_X7_who : Cond.code yX7_who cX7_who 11 (some .int) ∈ kT := mt_5 (List.mem_of_getElem? (i := 128) rfl) rfl
theorem lm_L_126 : Cond.methodLink RL 126 yX7_tunings ∈ kT := mt_5 (List.mem_of_getElem? (i := 129) rfl) rfl
theorem wi_X7_tunings : Cond.instanceMethod yX7_tunings ∈ kT := mt_5 (List.mem_of_getElem? (i := 130) rfl) rfl
theorem ws_X7_tunings : Cond.selects RX7 yX7_tunings yX7_tunings ∈ kT := mt_5 (List.mem_of_getElem? (i := 131) rfl) rfl
theorem wc_X7_tunings : Cond.code yX7_tunings cX7_tunings 6 (some .int) ∈ kT := mt_5 (List.mem_of_getElem? (i := 132) rfl) rfl
theorem lK_X7_214 : Cond.constantLong RX7 214 (60) ∈ kT := mt_5 (List.mem_of_getElem? (i := 133) rfl) rfl
theorem lm_L_130 : Cond.methodLink RL 130 yX7_other ∈ kT := mt_5 (List.mem_of_getElem? (i := 134) rfl) rfl
theorem wi_X7_other : Cond.instanceMethod yX7_other ∈ kT := mt_5 (List.mem_of_getElem? (i := 135) rfl) rfl
theorem ws_X7_other : Cond.selects RX7 yX7_other yX7_other ∈ kT := mt_5 (List.mem_of_getElem? (i := 136) rfl) rfl
theorem wc_X7_other : Cond.code yX7_other cX7_other 4 (some .int) ∈ kT := mt_5 (List.mem_of_getElem? (i := 137) rfl) rfl
theorem lm_L_135 : Cond.methodLink RL 135 yX7_thunderOdds ∈ kT := mt_5 (List.mem_of_getElem? (i := 138) rfl) rfl
theorem wi_X7_thunderOdds : Cond.instanceMethod yX7_thunderOdds ∈ kT := mt_5 (List.mem_of_getElem? (i := 139) rfl) rfl
theorem ws_X7_thunderOdds : Cond.selects RX7 yX7_thunderOdds yX7_thunderOdds ∈ kT := mt_5 (List.mem_of_getElem? (i := 140) rfl) rfl
theorem wc_X7_thunderOdds : Cond.code yX7_thunderOdds cX7_thunderOdds 15 (some .long) ∈ kT := mt_5 (List.mem_of_getElem? (i := 141) rfl) rfl
theorem lK_X7_216 : Cond.constantLong RX7 216 (10) ∈ kT := mt_5 (List.mem_of_getElem? (i := 142) rfl) rfl
theorem lK_X7_218 : Cond.constantLong RX7 218 (-1000001) ∈ kT := mt_5 (List.mem_of_getElem? (i := 143) rfl) rfl
theorem lm_L_139 : Cond.methodLink RL 139 yX7_drawn ∈ kT := mt_5 (List.mem_of_getElem? (i := 144) rfl) rfl
theorem wi_X7_drawn : Cond.instanceMethod yX7_drawn ∈ kT := mt_5 (List.mem_of_getElem? (i := 145) rfl) rfl
theorem ws_X7_drawn : Cond.selects RX7 yX7_drawn yX7_drawn ∈ kT := mt_5 (List.mem_of_getElem? (i := 146) rfl) rfl
theorem wc_X7_drawn : Cond.code yX7_drawn cX7_drawn 11 (some .int) ∈ kT := mt_5 (List.mem_of_getElem? (i := 147) rfl) rfl
theorem lK_X7_220 : Cond.constantLong RX7 220 (999999) ∈ kT := mt_5 (List.mem_of_getElem? (i := 148) rfl) rfl
theorem lK_X7_222 : Cond.constantLong RX7 222 (16807) ∈ kT := mt_5 (List.mem_of_getElem? (i := 149) rfl) rfl
theorem lK_X7_224 : Cond.constantLong RX7 224 (2147483647) ∈ kT := mt_5 (List.mem_of_getElem? (i := 150) rfl) rfl
theorem lK_X7_226 : Cond.constantLong RX7 226 (5) ∈ kT := mt_5 (List.mem_of_getElem? (i := 151) rfl) rfl
theorem lm_L_143 : Cond.methodLink RL 143 yX7_image ∈ kT := mt_5 (List.mem_of_getElem? (i := 152) rfl) rfl
theorem wi_X7_image : Cond.instanceMethod yX7_image ∈ kT := mt_5 (List.mem_of_getElem? (i := 153) rfl) rfl
theorem ws_X7_image : Cond.selects RX7 yX7_image yX7_image ∈ kT := mt_5 (List.mem_of_getElem? (i := 154) rfl) rfl
theorem wc_X7_image : Cond.code yX7_image cX7_image 3 (some .int) ∈ kT := mt_5 (List.mem_of_getElem? (i := 155) rfl) rfl
theorem lm_L_147 : Cond.methodLink RL 147 yX7_restore ∈ kT := mt_5 (List.mem_of_getElem? (i := 156) rfl) rfl
theorem wi_X7_restore : Cond.instanceMethod yX7_restore ∈ kT := mt_5 (List.mem_of_getElem? (i := 157) rfl) rfl
theorem ws_X7_restore : Cond.selects RX7 yX7_restore yX7_restore ∈ kT := mt_5 (List.mem_of_getElem? (i := 158) rfl) rfl
theorem wc_X7_restore : Cond.code yX7_restore cX7_restore 3 (some .int) ∈ kT := mt_5 (List.mem_of_getElem? (i := 159) rfl) rfl
theorem lm_L_151 : Cond.methodLink RL 151 yX7_kind ∈ kT := mt_5 (List.mem_of_getElem? (i := 160) rfl) rfl
theorem wi_X7_kind : Cond.instanceMethod yX7_kind ∈ kT := mt_5 (List.mem_of_getElem? (i := 161) rfl) rfl
theorem ws_X7_kind : Cond.selects RX7 yX7_kind yX7_kind ∈ kT := mt_5 (List.mem_of_getElem? (i := 162) rfl) rfl
theorem wc_X7_kind : Cond.code yX7_kind cX7_kind 2 (some .int) ∈ kT := mt_5 (List.mem_of_getElem? (i := 163) rfl) rfl
theorem lm_L_155 : Cond.methodLink RL 155 yX7_as ∈ kT := mt_5 (List.mem_of_getElem? (i := 164) rfl) rfl
theorem wi_X7_as : Cond.instanceMethod yX7_as ∈ kT := mt_5 (List.mem_of_getElem? (i := 165) rfl) rfl
theorem ws_X7_as : Cond.selects RX7 yX7_as yX7_as ∈ kT := mt_5 (List.mem_of_getElem? (i := 166) rfl) rfl
theorem wc_X7_as : Cond.code yX7_as cX7_as 3 (some .int) ∈ kT := mt_5 (List.mem_of_getElem? (i := 167) rfl) rfl
theorem lm_X7_228 : Cond.methodLink RX7 228 yX7_isKind ∈ kT := mt_5 (List.mem_of_getElem? (i := 168) rfl) rfl
theorem wt_X7_isKind : Cond.static yX7_isKind ∈ kT := mt_5 (List.mem_of_getElem? (i := 169) rfl) rfl
theorem wc_X7_isKind : Cond.code yX7_isKind cX7_isKind 2 (some .boolean) ∈ kT := mt_5 (List.mem_of_getElem? (i := 170) rfl) rfl
theorem lm_L_159 : Cond.methodLink RL 159 yX7_ask ∈ kT := mt_5 (List.mem_of_getElem? (i := 171) rfl) rfl
theorem wi_X7_ask : Cond.instanceMethod yX7_ask ∈ kT := mt_5 (List.mem_of_getElem? (i := 172) rfl) rfl
theorem ws_X7_ask : Cond.selects RX7 yX7_ask yX7_ask ∈ kT := mt_5 (List.mem_of_getElem? (i := 173) rfl) rfl
theorem wc_X7_ask : Cond.code yX7_ask cX7_ask 3 (some .int) ∈ kT := mt_5 (List.mem_of_getElem? (i := 174) rfl) rfl
theorem lm_X7_256 : Cond.methodLink RX7 256 yX7_sizeOf ∈ kT := mt_5 (List.mem_of_getElem? (i := 175) rfl) rfl
theorem wi_X7_sizeOf : Cond.instanceMethod yX7_sizeOf ∈ kT := mt_5 (List.mem_of_getElem? (i := 177) rfl) rfl
theorem wc_X7_sizeOf : Cond.code yX7_sizeOf cX7_sizeOf 3 (some .int) ∈ kT := mt_5 (List.mem_of_getElem? (i := 178) rfl) rfl
theorem lm_X7_234 : Cond.methodLink RX7 234 yX7_begin ∈ kT := mt_5 (List.mem_of_getElem? (i := 179) rfl) rfl
theorem wi_X7_begin : Cond.instanceMethod yX7_begin ∈ kT := mt_5 (List.mem_of_getElem? (i := 181) rfl) rfl
theorem wc_X7_begin : Cond.code yX7_begin cX7_begin 2 none ∈ kT := mt_5 (List.mem_of_getElem? (i := 182) rfl) rfl
theorem lm_X7_253 : Cond.methodLink RX7 253 yX7_playerSize ∈ kT := mt_5 (List.mem_of_getElem? (i := 183) rfl) rfl
theorem wi_X7_playerSize : Cond.instanceMethod yX7_playerSize ∈ kT := mt_5 (List.mem_of_getElem? (i := 185) rfl) rfl
theorem wc_X7_playerSize : Cond.code yX7_playerSize cX7_playerSize 3 (some .int) ∈ kT := mt_5 (List.mem_of_getElem? (i := 186) rfl) rfl
theorem lm_X7_238 : Cond.methodLink RX7 238 yX7_lent ∈ kT := mt_5 (List.mem_of_getElem? (i := 187) rfl) rfl
theorem wi_X7_lent : Cond.instanceMethod yX7_lent ∈ kT := mt_5 (List.mem_of_getElem? (i := 189) rfl) rfl
theorem wc_X7_lent : Cond.code yX7_lent cX7_lent 3 (some .int) ∈ kT := mt_5 (List.mem_of_getElem? (i := 190) rfl) rfl
theorem lm_X7_250 : Cond.methodLink RX7 250 yX7_markOf ∈ kT := mt_5 (List.mem_of_getElem? (i := 191) rfl) rfl
theorem wi_X7_markOf : Cond.instanceMethod yX7_markOf ∈ kT := mt_5 (List.mem_of_getElem? (i := 193) rfl) rfl
theorem wc_X7_markOf : Cond.code yX7_markOf cX7_markOf 4 (some .int) ∈ kT := mt_5 (List.mem_of_getElem? (i := 194) rfl) rfl
theorem lm_X7_244 : Cond.methodLink RX7 244 yX7_playerMark ∈ kT := mt_5 (List.mem_of_getElem? (i := 195) rfl) rfl
theorem wi_X7_playerMark : Cond.instanceMethod yX7_playerMark ∈ kT := mt_5 (List.mem_of_getElem? (i := 197) rfl) rfl
theorem wc_X7_playerMark : Cond.code yX7_playerMark cX7_playerMark 2 (some .int) ∈ kT := mt_5 (List.mem_of_getElem? (i := 198) rfl) rfl
theorem lm_X7_247 : Cond.methodLink RX7 247 yX7_sizeOfCarrier ∈ kT := mt_5 (List.mem_of_getElem? (i := 199) rfl) rfl
theorem wi_X7_sizeOfCarrier : Cond.instanceMethod yX7_sizeOfCarrier ∈ kT := mt_5 (List.mem_of_getElem? (i := 201) rfl) rfl
theorem wc_X7_sizeOfCarrier : Cond.code yX7_sizeOfCarrier cX7_sizeOfCarrier 2 (some .int) ∈ kT := mt_5 (List.mem_of_getElem? (i := 202) rfl) rfl
theorem lm_X7_241 : Cond.methodLink RX7 241 yX7_carrierSize ∈ kT := mt_5 (List.mem_of_getElem? (i := 203) rfl) rfl
theorem wi_X7_carrierSize : Cond.instanceMethod yX7_carrierSize ∈ kT := mt_5 (List.mem_of_getElem? (i := 205) rfl) rfl
theorem wc_X7_carrierSize : Cond.code yX7_carrierSize cX7_carrierSize 2 (some .int) ∈ kT := mt_5 (List.mem_of_getElem? (i := 206) rfl) rfl
theorem lm_L_163 : Cond.methodLink RL 163 yX7_trace ∈ kT := mt_5 (List.mem_of_getElem? (i := 207) rfl) rfl
theorem wi_X7_trace : Cond.instanceMethod yX7_trace ∈ kT := mt_5 (List.mem_of_getElem? (i := 208) rfl) rfl
theorem ws_X7_trace : Cond.selects RX7 yX7_trace yX7_trace ∈ kT := mt_5 (List.mem_of_getElem? (i := 209) rfl) rfl
theorem wc_X7_trace : Cond.code yX7_trace cX7_trace 2 (some .int) ∈ kT := mt_5 (List.mem_of_getElem? (i := 210) rfl) rfl
theorem lm_L_167 : Cond.methodLink RL 167 yX7_count ∈ kT := mt_5 (List.mem_of_getElem? (i := 211) rfl) rfl
theorem wi_X7_count : Cond.instanceMethod yX7_count ∈ kT := mt_5 (List.mem_of_getElem? (i := 212) rfl) rfl
theorem ws_X7_count : Cond.selects RX7 yX7_count yX7_count ∈ kT := mt_5 (List.mem_of_getElem? (i := 213) rfl) rfl
theorem wc_X7_count : Cond.code yX7_count cX7_count 4 (some .int) ∈ kT := mt_5 (List.mem_of_getElem? (i := 214) rfl) rfl
theorem lm_L_171 : Cond.methodLink RL 171 yX7_status ∈ kT := mt_5 (List.mem_of_getElem? (i := 215) rfl) rfl
theorem wi_X7_status : Cond.instanceMethod yX7_status ∈ kT := mt_5 (List.mem_of_getElem? (i := 216) rfl) rfl
theorem ws_X7_status : Cond.selects RX7 yX7_status yX7_status ∈ kT := mt_5 (List.mem_of_getElem? (i := 217) rfl) rfl
theorem wc_X7_status : Cond.code yX7_status cX7_status 1 (some .int) ∈ kT := mt_5 (List.mem_of_getElem? (i := 218) rfl) rfl
theorem ws_X6_found : Cond.selects RX6 yX6_found yX6_found ∈ kT := kT_of (List.mem_append_left _ (List.mem_map.mpr ⟨(yX6_found, 9), List.mem_append_left _ (List.mem_of_getElem? (i := 0) rfl), rfl⟩)) rfl
theorem ws_X6_fine : Cond.selects RX6 yX6_fine yX6_fine ∈ kT := kT_of (List.mem_append_left _ (List.mem_map.mpr ⟨(yX6_fine, 9), List.mem_append_left _ (List.mem_of_getElem? (i := 1) rfl), rfl⟩)) rfl
theorem ws_X4_lowestBits : Cond.selects RX4 yX4_lowestBits yX4_lowestBits ∈ kT := kT_of (List.mem_append_left _ (List.mem_map.mpr ⟨(yX4_lowestBits, 3), List.mem_append_left _ (List.mem_of_getElem? (i := 2) rfl), rfl⟩)) rfl
theorem ws_X5_readLaw : Cond.selects RX5 yX5_readLaw yX5_readLaw ∈ kT := kT_of (List.mem_append_left _ (List.mem_map.mpr ⟨(yX5_readLaw, 6), List.mem_append_left _ (List.mem_of_getElem? (i := 3) rfl), rfl⟩)) rfl
theorem ws_X5_takeByte : Cond.selects RX5 yX5_takeByte yX5_takeByte ∈ kT := kT_of (List.mem_append_left _ (List.mem_map.mpr ⟨(yX5_takeByte, 6), List.mem_append_left _ (List.mem_of_getElem? (i := 4) rfl), rfl⟩)) rfl
theorem ws_X5_sees : Cond.selects RX5 yX5_sees yX5_sees ∈ kT := kT_of (List.mem_append_left _ (List.mem_map.mpr ⟨(yX5_sees, 6), List.mem_append_left _ (List.mem_of_getElem? (i := 5) rfl), rfl⟩)) rfl
theorem ws_X5_byteHere : Cond.selects RX5 yX5_byteHere yX5_byteHere ∈ kT := kT_of (List.mem_append_left _ (List.mem_map.mpr ⟨(yX5_byteHere, 6), List.mem_append_left _ (List.mem_of_getElem? (i := 6) rfl), rfl⟩)) rfl
theorem ws_X5_byteAt : Cond.selects RX5 yX5_byteAt yX5_byteAt ∈ kT := kT_of (List.mem_append_left _ (List.mem_map.mpr ⟨(yX5_byteAt, 6), List.mem_append_left _ (List.mem_of_getElem? (i := 7) rfl), rfl⟩)) rfl
theorem ws_X5_refuse : Cond.selects RX5 yX5_refuse yX5_refuse ∈ kT := kT_of (List.mem_append_left _ (List.mem_map.mpr ⟨(yX5_refuse, 6), List.mem_append_left _ (List.mem_of_getElem? (i := 8) rfl), rfl⟩)) rfl
theorem ws_X5_takeNumber : Cond.selects RX5 yX5_takeNumber yX5_takeNumber ∈ kT := kT_of (List.mem_append_left _ (List.mem_map.mpr ⟨(yX5_takeNumber, 6), List.mem_append_left _ (List.mem_of_getElem? (i := 9) rfl), rfl⟩)) rfl
theorem ws_X5_figuresHere : Cond.selects RX5 yX5_figuresHere yX5_figuresHere ∈ kT := kT_of (List.mem_append_left _ (List.mem_map.mpr ⟨(yX5_figuresHere, 6), List.mem_append_left _ (List.mem_of_getElem? (i := 10) rfl), rfl⟩)) rfl
theorem ws_X5_readPieces : Cond.selects RX5 yX5_readPieces yX5_readPieces ∈ kT := kT_of (List.mem_append_left _ (List.mem_map.mpr ⟨(yX5_readPieces, 6), List.mem_append_left _ (List.mem_of_getElem? (i := 11) rfl), rfl⟩)) rfl
theorem ws_X5_readStrings : Cond.selects RX5 yX5_readStrings yX5_readStrings ∈ kT := kT_of (List.mem_append_left _ (List.mem_map.mpr ⟨(yX5_readStrings, 6), List.mem_append_left _ (List.mem_of_getElem? (i := 12) rfl), rfl⟩)) rfl
theorem ws_X5_seesString : Cond.selects RX5 yX5_seesString yX5_seesString ∈ kT := kT_of (List.mem_append_left _ (List.mem_map.mpr ⟨(yX5_seesString, 6), List.mem_append_left _ (List.mem_of_getElem? (i := 13) rfl), rfl⟩)) rfl
theorem ws_X5_readPupils : Cond.selects RX5 yX5_readPupils yX5_readPupils ∈ kT := kT_of (List.mem_append_left _ (List.mem_map.mpr ⟨(yX5_readPupils, 6), List.mem_append_left _ (List.mem_of_getElem? (i := 14) rfl), rfl⟩)) rfl
theorem ws_X5_seesSort : Cond.selects RX5 yX5_seesSort yX5_seesSort ∈ kT := kT_of (List.mem_append_left _ (List.mem_map.mpr ⟨(yX5_seesSort, 6), List.mem_append_left _ (List.mem_of_getElem? (i := 15) rfl), rfl⟩)) rfl
theorem ws_X2_wrongsBy : Cond.selects RX2 yX2_wrongsBy yX2_wrongsBy ∈ kT := kT_of (List.mem_append_left _ (List.mem_map.mpr ⟨(yX2_wrongsBy, 4), List.mem_append_right _ (List.mem_append_left _ (List.mem_of_getElem? (i := 0) rfl)), rfl⟩)) rfl
theorem ws_X2_nightsIfTaught : Cond.selects RX2 yX2_nightsIfTaught yX2_nightsIfTaught ∈ kT := kT_of (List.mem_append_left _ (List.mem_map.mpr ⟨(yX2_nightsIfTaught, 4), List.mem_append_right _ (List.mem_append_left _ (List.mem_of_getElem? (i := 1) rfl)), rfl⟩)) rfl
theorem ws_X2_findPieceNights : Cond.selects RX2 yX2_findPieceNights yX2_findPieceNights ∈ kT := kT_of (List.mem_append_left _ (List.mem_map.mpr ⟨(yX2_findPieceNights, 4), List.mem_append_right _ (List.mem_append_left _ (List.mem_of_getElem? (i := 2) rfl)), rfl⟩)) rfl
theorem ws_X2_waysFrom : Cond.selects RX2 yX2_waysFrom yX2_waysFrom ∈ kT := kT_of (List.mem_append_left _ (List.mem_map.mpr ⟨(yX2_waysFrom, 4), List.mem_append_right _ (List.mem_append_left _ (List.mem_of_getElem? (i := 3) rfl)), rfl⟩)) rfl
theorem ws_X2_firstNightFor : Cond.selects RX2 yX2_firstNightFor yX2_firstNightFor ∈ kT := kT_of (List.mem_append_left _ (List.mem_map.mpr ⟨(yX2_firstNightFor, 4), List.mem_append_right _ (List.mem_append_left _ (List.mem_of_getElem? (i := 4) rfl)), rfl⟩)) rfl
theorem ws_X2_ownStrings : Cond.selects RX2 yX2_ownStrings yX2_ownStrings ∈ kT := kT_of (List.mem_append_left _ (List.mem_map.mpr ⟨(yX2_ownStrings, 4), List.mem_append_right _ (List.mem_append_left _ (List.mem_of_getElem? (i := 5) rfl)), rfl⟩)) rfl
theorem ws_X2_soundsAs : Cond.selects RX2 yX2_soundsAs yX2_soundsAs ∈ kT := kT_of (List.mem_append_left _ (List.mem_map.mpr ⟨(yX2_soundsAs, 4), List.mem_append_right _ (List.mem_append_left _ (List.mem_of_getElem? (i := 6) rfl)), rfl⟩)) rfl
theorem ws_X2_biasesOfAll : Cond.selects RX2 yX2_biasesOfAll yX2_biasesOfAll ∈ kT := kT_of (List.mem_append_left _ (List.mem_map.mpr ⟨(yX2_biasesOfAll, 4), List.mem_append_right _ (List.mem_append_left _ (List.mem_of_getElem? (i := 7) rfl)), rfl⟩)) rfl
theorem ws_X1_leave : Cond.selects RX1 yX1_leave yX1_leave ∈ kT := kT_of (List.mem_append_left _ (List.mem_map.mpr ⟨(yX1_leave, 6), List.mem_append_right _ (List.mem_append_left _ (List.mem_of_getElem? (i := 8) rfl)), rfl⟩)) rfl
theorem ws_X1_body11 : Cond.selects RX1 yX1_body11 yX1_body11 ∈ kT := kT_of (List.mem_append_left _ (List.mem_map.mpr ⟨(yX1_body11, 6), List.mem_append_right _ (List.mem_append_left _ (List.mem_of_getElem? (i := 9) rfl)), rfl⟩)) rfl
theorem ws_X1_body10 : Cond.selects RX1 yX1_body10 yX1_body10 ∈ kT := kT_of (List.mem_append_left _ (List.mem_map.mpr ⟨(yX1_body10, 6), List.mem_append_right _ (List.mem_append_left _ (List.mem_of_getElem? (i := 10) rfl)), rfl⟩)) rfl
theorem ws_X1_markOfPlayer : Cond.selects RX1 yX1_markOfPlayer yX1_markOfPlayer ∈ kT := kT_of (List.mem_append_left _ (List.mem_map.mpr ⟨(yX1_markOfPlayer, 6), List.mem_append_right _ (List.mem_append_left _ (List.mem_of_getElem? (i := 11) rfl)), rfl⟩)) rfl
theorem ws_X1_body21 : Cond.selects RX1 yX1_body21 yX1_body21 ∈ kT := kT_of (List.mem_append_left _ (List.mem_map.mpr ⟨(yX1_body21, 6), List.mem_append_right _ (List.mem_append_left _ (List.mem_of_getElem? (i := 12) rfl)), rfl⟩)) rfl
theorem ws_X1_body20 : Cond.selects RX1 yX1_body20 yX1_body20 ∈ kT := kT_of (List.mem_append_left _ (List.mem_map.mpr ⟨(yX1_body20, 6), List.mem_append_right _ (List.mem_append_left _ (List.mem_of_getElem? (i := 13) rfl)), rfl⟩)) rfl
theorem ws_X1_sizeOfCarrier : Cond.selects RX1 yX1_sizeOfCarrier yX1_sizeOfCarrier ∈ kT := kT_of (List.mem_append_left _ (List.mem_map.mpr ⟨(yX1_sizeOfCarrier, 6), List.mem_append_right _ (List.mem_append_left _ (List.mem_of_getElem? (i := 14) rfl)), rfl⟩)) rfl
theorem ws_X1_body13 : Cond.selects RX1 yX1_body13 yX1_body13 ∈ kT := kT_of (List.mem_append_left _ (List.mem_map.mpr ⟨(yX1_body13, 6), List.mem_append_right _ (List.mem_append_left _ (List.mem_of_getElem? (i := 15) rfl)), rfl⟩)) rfl
theorem ws_X1_body23 : Cond.selects RX1 yX1_body23 yX1_body23 ∈ kT := kT_of (List.mem_append_left _ (List.mem_map.mpr ⟨(yX1_body23, 6), List.mem_append_right _ (List.mem_append_right _ (List.mem_append_left _ (List.mem_of_getElem? (i := 0) rfl))), rfl⟩)) rfl
theorem ws_X6_rowsThere : Cond.selects RX6 yX6_rowsThere yX6_rowsThere ∈ kT := kT_of (List.mem_append_left _ (List.mem_map.mpr ⟨(yX6_rowsThere, 9), List.mem_append_right _ (List.mem_append_right _ (List.mem_append_left _ (List.mem_of_getElem? (i := 1) rfl))), rfl⟩)) rfl
theorem ws_X7_find : Cond.selects RX7 yX7_find yX7_find ∈ kT := kT_of (List.mem_append_left _ (List.mem_map.mpr ⟨(yX7_find, 26), List.mem_append_right _ (List.mem_append_right _ (List.mem_append_left _ (List.mem_of_getElem? (i := 2) rfl))), rfl⟩)) rfl
theorem ws_X7_well : Cond.selects RX7 yX7_well yX7_well ∈ kT := kT_of (List.mem_append_left _ (List.mem_map.mpr ⟨(yX7_well, 26), List.mem_append_right _ (List.mem_append_right _ (List.mem_append_left _ (List.mem_of_getElem? (i := 3) rfl))), rfl⟩)) rfl
theorem ws_X7_readHall : Cond.selects RX7 yX7_readHall yX7_readHall ∈ kT := kT_of (List.mem_append_left _ (List.mem_map.mpr ⟨(yX7_readHall, 26), List.mem_append_right _ (List.mem_append_right _ (List.mem_append_left _ (List.mem_of_getElem? (i := 4) rfl))), rfl⟩)) rfl
theorem ws_X7_nextToken : Cond.selects RX7 yX7_nextToken yX7_nextToken ∈ kT := kT_of (List.mem_append_left _ (List.mem_map.mpr ⟨(yX7_nextToken, 26), List.mem_append_right _ (List.mem_append_right _ (List.mem_append_left _ (List.mem_of_getElem? (i := 5) rfl))), rfl⟩)) rfl
theorem ws_X7_takes : Cond.selects RX7 yX7_takes yX7_takes ∈ kT := kT_of (List.mem_append_left _ (List.mem_map.mpr ⟨(yX7_takes, 26), List.mem_append_right _ (List.mem_append_right _ (List.mem_append_left _ (List.mem_of_getElem? (i := 6) rfl))), rfl⟩)) rfl
theorem ws_X7_isLetter : Cond.selects RX7 yX7_isLetter yX7_isLetter ∈ kT := kT_of (List.mem_append_left _ (List.mem_map.mpr ⟨(yX7_isLetter, 26), List.mem_append_right _ (List.mem_append_right _ (List.mem_append_left _ (List.mem_of_getElem? (i := 7) rfl))), rfl⟩)) rfl
theorem ws_X7_faults : Cond.selects RX7 yX7_faults yX7_faults ∈ kT := kT_of (List.mem_append_left _ (List.mem_map.mpr ⟨(yX7_faults, 26), List.mem_append_right _ (List.mem_append_right _ (List.mem_append_left _ (List.mem_of_getElem? (i := 8) rfl))), rfl⟩)) rfl
theorem ws_X7_takesNumber : Cond.selects RX7 yX7_takesNumber yX7_takesNumber ∈ kT := kT_of (List.mem_append_left _ (List.mem_map.mpr ⟨(yX7_takesNumber, 26), List.mem_append_right _ (List.mem_append_right _ (List.mem_append_left _ (List.mem_of_getElem? (i := 9) rfl))), rfl⟩)) rfl
theorem ws_X7_readPupil : Cond.selects RX7 yX7_readPupil yX7_readPupil ∈ kT := kT_of (List.mem_append_left _ (List.mem_map.mpr ⟨(yX7_readPupil, 26), List.mem_append_right _ (List.mem_append_right _ (List.mem_append_left _ (List.mem_of_getElem? (i := 10) rfl))), rfl⟩)) rfl
theorem ws_X7_readPiece : Cond.selects RX7 yX7_readPiece yX7_readPiece ∈ kT := kT_of (List.mem_append_left _ (List.mem_map.mpr ⟨(yX7_readPiece, 26), List.mem_append_right _ (List.mem_append_right _ (List.mem_append_left _ (List.mem_of_getElem? (i := 11) rfl))), rfl⟩)) rfl
theorem ws_X7_note : Cond.selects RX7 yX7_note yX7_note ∈ kT := kT_of (List.mem_append_left _ (List.mem_map.mpr ⟨(yX7_note, 26), List.mem_append_right _ (List.mem_append_right _ (List.mem_append_left _ (List.mem_of_getElem? (i := 12) rfl))), rfl⟩)) rfl
theorem ws_X7_shiftIn : Cond.selects RX7 yX7_shiftIn yX7_shiftIn ∈ kT := kT_of (List.mem_append_left _ (List.mem_map.mpr ⟨(yX7_shiftIn, 26), List.mem_append_right _ (List.mem_append_right _ (List.mem_append_left _ (List.mem_of_getElem? (i := 13) rfl))), rfl⟩)) rfl
theorem ws_X7_over : Cond.selects RX7 yX7_over yX7_over ∈ kT := kT_of (List.mem_append_left _ (List.mem_map.mpr ⟨(yX7_over, 26), List.mem_append_right _ (List.mem_append_right _ (List.mem_append_left _ (List.mem_of_getElem? (i := 14) rfl))), rfl⟩)) rfl
theorem ws_X7_isPupil : Cond.selects RX7 yX7_isPupil yX7_isPupil ∈ kT := kT_of (List.mem_append_left _ (List.mem_map.mpr ⟨(yX7_isPupil, 26), List.mem_append_right _ (List.mem_append_right _ (List.mem_append_left _ (List.mem_of_getElem? (i := 15) rfl))), rfl⟩)) rfl
theorem ws_X7_isPiece : Cond.selects RX7 yX7_isPiece yX7_isPiece ∈ kT := kT_of (List.mem_append_left _ (List.mem_map.mpr ⟨(yX7_isPiece, 26), List.mem_append_right _ (List.mem_append_right _ (List.mem_append_right _ (List.mem_append_left _ (List.mem_of_getElem? (i := 0) rfl)))), rfl⟩)) rfl
theorem ws_X7_biasOf : Cond.selects RX7 yX7_biasOf yX7_biasOf ∈ kT := kT_of (List.mem_append_left _ (List.mem_map.mpr ⟨(yX7_biasOf, 26), List.mem_append_right _ (List.mem_append_right _ (List.mem_append_right _ (List.mem_append_left _ (List.mem_of_getElem? (i := 1) rfl)))), rfl⟩)) rfl
theorem ws_X7_biasBy : Cond.selects RX7 yX7_biasBy yX7_biasBy ∈ kT := kT_of (List.mem_append_left _ (List.mem_map.mpr ⟨(yX7_biasBy, 26), List.mem_append_right _ (List.mem_append_right _ (List.mem_append_right _ (List.mem_append_left _ (List.mem_of_getElem? (i := 2) rfl)))), rfl⟩)) rfl
theorem ws_X7_reaches : Cond.selects RX7 yX7_reaches yX7_reaches ∈ kT := kT_of (List.mem_append_left _ (List.mem_map.mpr ⟨(yX7_reaches, 26), List.mem_append_right _ (List.mem_append_right _ (List.mem_append_right _ (List.mem_append_left _ (List.mem_of_getElem? (i := 3) rfl)))), rfl⟩)) rfl
theorem ws_X7_heardBy : Cond.selects RX7 yX7_heardBy yX7_heardBy ∈ kT := kT_of (List.mem_append_left _ (List.mem_map.mpr ⟨(yX7_heardBy, 26), List.mem_append_right _ (List.mem_append_right _ (List.mem_append_right _ (List.mem_append_left _ (List.mem_of_getElem? (i := 4) rfl)))), rfl⟩)) rfl
theorem ws_X7_soonBy : Cond.selects RX7 yX7_soonBy yX7_soonBy ∈ kT := kT_of (List.mem_append_left _ (List.mem_map.mpr ⟨(yX7_soonBy, 26), List.mem_append_right _ (List.mem_append_right _ (List.mem_append_right _ (List.mem_append_left _ (List.mem_of_getElem? (i := 5) rfl)))), rfl⟩)) rfl
theorem ws_X7_lacks : Cond.selects RX7 yX7_lacks yX7_lacks ∈ kT := kT_of (List.mem_append_left _ (List.mem_map.mpr ⟨(yX7_lacks, 26), List.mem_append_right _ (List.mem_append_right _ (List.mem_append_right _ (List.mem_append_left _ (List.mem_of_getElem? (i := 6) rfl)))), rfl⟩)) rfl
theorem ws_X7_isLesson : Cond.selects RX7 yX7_isLesson yX7_isLesson ∈ kT := kT_of (List.mem_append_left _ (List.mem_map.mpr ⟨(yX7_isLesson, 26), List.mem_append_right _ (List.mem_append_right _ (List.mem_append_right _ (List.mem_append_left _ (List.mem_of_getElem? (i := 7) rfl)))), rfl⟩)) rfl
theorem ws_X7_isNight : Cond.selects RX7 yX7_isNight yX7_isNight ∈ kT := kT_of (List.mem_append_left _ (List.mem_map.mpr ⟨(yX7_isNight, 26), List.mem_append_right _ (List.mem_append_right _ (List.mem_append_right _ (List.mem_append_left _ (List.mem_of_getElem? (i := 8) rfl)))), rfl⟩)) rfl
theorem ws_X7_sizeOf : Cond.selects RX7 yX7_sizeOf yX7_sizeOf ∈ kT := kT_of (List.mem_append_left _ (List.mem_map.mpr ⟨(yX7_sizeOf, 26), List.mem_append_right _ (List.mem_append_right _ (List.mem_append_right _ (List.mem_append_left _ (List.mem_of_getElem? (i := 9) rfl)))), rfl⟩)) rfl
theorem ws_X7_begin : Cond.selects RX7 yX7_begin yX7_begin ∈ kT := kT_of (List.mem_append_left _ (List.mem_map.mpr ⟨(yX7_begin, 26), List.mem_append_right _ (List.mem_append_right _ (List.mem_append_right _ (List.mem_append_left _ (List.mem_of_getElem? (i := 10) rfl)))), rfl⟩)) rfl
theorem ws_X7_playerSize : Cond.selects RX7 yX7_playerSize yX7_playerSize ∈ kT := kT_of (List.mem_append_left _ (List.mem_map.mpr ⟨(yX7_playerSize, 26), List.mem_append_right _ (List.mem_append_right _ (List.mem_append_right _ (List.mem_append_left _ (List.mem_of_getElem? (i := 11) rfl)))), rfl⟩)) rfl
theorem ws_X7_lent : Cond.selects RX7 yX7_lent yX7_lent ∈ kT := kT_of (List.mem_append_left _ (List.mem_map.mpr ⟨(yX7_lent, 26), List.mem_append_right _ (List.mem_append_right _ (List.mem_append_right _ (List.mem_append_left _ (List.mem_of_getElem? (i := 12) rfl)))), rfl⟩)) rfl
theorem ws_X7_markOf : Cond.selects RX7 yX7_markOf yX7_markOf ∈ kT := kT_of (List.mem_append_left _ (List.mem_map.mpr ⟨(yX7_markOf, 26), List.mem_append_right _ (List.mem_append_right _ (List.mem_append_right _ (List.mem_append_left _ (List.mem_of_getElem? (i := 13) rfl)))), rfl⟩)) rfl
theorem ws_X7_playerMark : Cond.selects RX7 yX7_playerMark yX7_playerMark ∈ kT := kT_of (List.mem_append_left _ (List.mem_map.mpr ⟨(yX7_playerMark, 26), List.mem_append_right _ (List.mem_append_right _ (List.mem_append_right _ (List.mem_append_left _ (List.mem_of_getElem? (i := 14) rfl)))), rfl⟩)) rfl
theorem ws_X7_sizeOfCarrier : Cond.selects RX7 yX7_sizeOfCarrier yX7_sizeOfCarrier ∈ kT := kT_of (List.mem_append_left _ (List.mem_map.mpr ⟨(yX7_sizeOfCarrier, 26), List.mem_append_right _ (List.mem_append_right _ (List.mem_append_right _ (List.mem_append_left _ (List.mem_of_getElem? (i := 15) rfl)))), rfl⟩)) rfl
theorem ws_X7_carrierSize : Cond.selects RX7 yX7_carrierSize yX7_carrierSize ∈ kT := kT_of (List.mem_append_left _ (List.mem_map.mpr ⟨(yX7_carrierSize, 26), List.mem_append_right _ (List.mem_append_right _ (List.mem_append_right _ (List.mem_append_right _ (List.mem_of_getElem? (i := 0) rfl)))), rfl⟩)) rfl
theorem inX0_ : ∀ w ∈ ([Cond.laysFinal "KeyDrift$Acts" "KeyDrift$Acts" "sorts" "[I", Cond.laysFinal "KeyDrift$Acts" "KeyDrift$Acts" "pupils" "[I", Cond.laysFinal "KeyDrift$Acts" "KeyDrift$Acts" "before" "[I", Cond.lays "KeyDrift$Acts" "KeyDrift$Acts" "next" "I", Cond.lays "KeyDrift$Acts" "KeyDrift$Acts" "kept" "I"] : List Cond), w ∈ kT := List.forall_mem_cons.mpr ⟨mt_1 (List.mem_of_getElem? (i := 155) rfl) rfl, List.forall_mem_cons.mpr ⟨mt_1 (List.mem_of_getElem? (i := 157) rfl) rfl, List.forall_mem_cons.mpr ⟨mt_1 (List.mem_of_getElem? (i := 159) rfl) rfl, List.forall_mem_cons.mpr ⟨mt_1 (List.mem_of_getElem? (i := 161) rfl) rfl, List.forall_mem_cons.mpr ⟨mt_1 (List.mem_of_getElem? (i := 163) rfl) rfl, fun _ h => absurd h List.not_mem_nil⟩⟩⟩⟩⟩
theorem inX0 : ∀ w ∈ u_ws RX0 TX0 5, w ∈ kT := fun w h => inX0_ w h
theorem inX1_ : ∀ w ∈ ([Cond.laysFinal "KeyDrift$Asked" "KeyDrift$Asked" "bodies" "[I", Cond.lays "KeyDrift$Asked" "KeyDrift$Asked" "left" "I", Cond.lays "KeyDrift$Asked" "KeyDrift$Asked" "number" "I", Cond.lays "KeyDrift$Asked" "KeyDrift$Asked" "sort" "I", Cond.lays "KeyDrift$Asked" "KeyDrift$Asked" "learnt" "I", Cond.lays "KeyDrift$Asked" "KeyDrift$Asked" "span" "I"] : List Cond), w ∈ kT := List.forall_mem_cons.mpr ⟨mt_1 (List.mem_of_getElem? (i := 199) rfl) rfl, List.forall_mem_cons.mpr ⟨mt_1 (List.mem_of_getElem? (i := 201) rfl) rfl, List.forall_mem_cons.mpr ⟨mt_1 (List.mem_of_getElem? (i := 203) rfl) rfl, List.forall_mem_cons.mpr ⟨mt_1 (List.mem_of_getElem? (i := 205) rfl) rfl, List.forall_mem_cons.mpr ⟨mt_1 (List.mem_of_getElem? (i := 207) rfl) rfl, List.forall_mem_cons.mpr ⟨mt_1 (List.mem_of_getElem? (i := 209) rfl) rfl, fun _ h => absurd h List.not_mem_nil⟩⟩⟩⟩⟩⟩
theorem inX1 : ∀ w ∈ u_ws RX1 TX1 6, w ∈ kT := fun w h => inX1_ w h
theorem inX2_ : ∀ w ∈ ([Cond.laysFinal "KeyDrift$Foretold" "KeyDrift$Foretold" "hall" "LKeyDrift$Hall;", Cond.laysFinal "KeyDrift$Foretold" "KeyDrift$Foretold" "untaughtNights" "[I", Cond.laysFinal "KeyDrift$Foretold" "KeyDrift$Foretold" "taughtNights" "[I", Cond.laysFinal "KeyDrift$Foretold" "KeyDrift$Foretold" "pieceNights" "[I"] : List Cond), w ∈ kT := List.forall_mem_cons.mpr ⟨mt_1 (List.mem_of_getElem? (i := 176) rfl) rfl, List.forall_mem_cons.mpr ⟨mt_1 (List.mem_of_getElem? (i := 178) rfl) rfl, List.forall_mem_cons.mpr ⟨mt_1 (List.mem_of_getElem? (i := 180) rfl) rfl, List.forall_mem_cons.mpr ⟨mt_1 (List.mem_of_getElem? (i := 182) rfl) rfl, fun _ h => absurd h List.not_mem_nil⟩⟩⟩⟩
theorem inX2 : ∀ w ∈ u_ws RX2 TX2 4, w ∈ kT := fun w h => inX2_ w h
theorem inX3_ : ∀ w ∈ ([Cond.laysFinal "KeyDrift$Hall" "KeyDrift$Hall" "lengths" "[I", Cond.laysFinal "KeyDrift$Hall" "KeyDrift$Hall" "strings" "[I", Cond.laysFinal "KeyDrift$Hall" "KeyDrift$Hall" "kinds" "[I", Cond.laysFinal "KeyDrift$Hall" "KeyDrift$Hall" "learnt" "[I", Cond.laysFinal "KeyDrift$Hall" "KeyDrift$Hall" "spans" "[I", Cond.lays "KeyDrift$Hall" "KeyDrift$Hall" "keys" "I", Cond.lays "KeyDrift$Hall" "KeyDrift$Hall" "drift" "I", Cond.lays "KeyDrift$Hall" "KeyDrift$Hall" "shift" "I", Cond.lays "KeyDrift$Hall" "KeyDrift$Hall" "night" "I", Cond.lays "KeyDrift$Hall" "KeyDrift$Hall" "pieces" "I", Cond.lays "KeyDrift$Hall" "KeyDrift$Hall" "pupils" "I"] : List Cond), w ∈ kT := List.forall_mem_cons.mpr ⟨mt_1 (List.mem_of_getElem? (i := 92) rfl) rfl, List.forall_mem_cons.mpr ⟨mt_1 (List.mem_of_getElem? (i := 94) rfl) rfl, List.forall_mem_cons.mpr ⟨mt_1 (List.mem_of_getElem? (i := 96) rfl) rfl, List.forall_mem_cons.mpr ⟨mt_1 (List.mem_of_getElem? (i := 98) rfl) rfl, List.forall_mem_cons.mpr ⟨mt_1 (List.mem_of_getElem? (i := 100) rfl) rfl, List.forall_mem_cons.mpr ⟨mt_1 (List.mem_of_getElem? (i := 102) rfl) rfl, List.forall_mem_cons.mpr ⟨mt_1 (List.mem_of_getElem? (i := 104) rfl) rfl, List.forall_mem_cons.mpr ⟨mt_1 (List.mem_of_getElem? (i := 106) rfl) rfl, List.forall_mem_cons.mpr ⟨mt_1 (List.mem_of_getElem? (i := 108) rfl) rfl, List.forall_mem_cons.mpr ⟨mt_1 (List.mem_of_getElem? (i := 110) rfl) rfl, List.forall_mem_cons.mpr ⟨mt_1 (List.mem_of_getElem? (i := 112) rfl) rfl, fun _ h => absurd h List.not_mem_nil⟩⟩⟩⟩⟩⟩⟩⟩⟩⟩⟩
theorem inX3 : ∀ w ∈ u_ws RX3 TX3 11, w ∈ kT := fun w h => inX3_ w h
theorem inX4_ : ∀ w ∈ ([Cond.laysFinal "KeyDrift$Row" "KeyDrift$Row" "items" "[I", Cond.lays "KeyDrift$Row" "KeyDrift$Row" "lane" "I", Cond.lays "KeyDrift$Row" "KeyDrift$Row" "length" "I"] : List Cond), w ∈ kT := List.forall_mem_cons.mpr ⟨mt_1 (List.mem_of_getElem? (i := 34) rfl) rfl, List.forall_mem_cons.mpr ⟨mt_1 (List.mem_of_getElem? (i := 36) rfl) rfl, List.forall_mem_cons.mpr ⟨mt_1 (List.mem_of_getElem? (i := 38) rfl) rfl, fun _ h => absurd h List.not_mem_nil⟩⟩⟩
theorem inX4 : ∀ w ∈ u_ws RX4 TX4 3, w ∈ kT := fun w h => inX4_ w h
theorem inX5_ : ∀ w ∈ ([Cond.laysFinal "KeyDrift$Tape" "KeyDrift$Tape" "bytes" "[I", Cond.lays "KeyDrift$Tape" "KeyDrift$Tape" "place" "I", Cond.lays "KeyDrift$Tape" "KeyDrift$Tape" "foundFault" "I", Cond.lays "KeyDrift$Tape" "KeyDrift$Tape" "size" "I", Cond.lays "KeyDrift$Tape" "KeyDrift$Tape" "foundAt" "I", Cond.lays "KeyDrift$Tape" "KeyDrift$Tape" "latestFault" "I"] : List Cond), w ∈ kT := List.forall_mem_cons.mpr ⟨mt_1 (List.mem_of_getElem? (i := 130) rfl) rfl, List.forall_mem_cons.mpr ⟨mt_1 (List.mem_of_getElem? (i := 132) rfl) rfl, List.forall_mem_cons.mpr ⟨mt_1 (List.mem_of_getElem? (i := 134) rfl) rfl, List.forall_mem_cons.mpr ⟨mt_1 (List.mem_of_getElem? (i := 136) rfl) rfl, List.forall_mem_cons.mpr ⟨mt_1 (List.mem_of_getElem? (i := 138) rfl) rfl, List.forall_mem_cons.mpr ⟨mt_1 (List.mem_of_getElem? (i := 140) rfl) rfl, fun _ h => absurd h List.not_mem_nil⟩⟩⟩⟩⟩⟩
theorem inX5 : ∀ w ∈ u_ws RX5 TX5 6, w ∈ kT := fun w h => inX5_ w h
theorem inX6_ : ∀ w ∈ ([Cond.laysFinal "KeyDrift" "KeyDrift" "rows" "[LKeyDrift$Row;", Cond.laysFinal "KeyDrift" "KeyDrift" "tape" "LKeyDrift$Tape;", Cond.laysFinal "KeyDrift" "KeyDrift" "now" "LKeyDrift$Hall;", Cond.laysFinal "KeyDrift" "KeyDrift" "spare" "LKeyDrift$Hall;", Cond.laysFinal "KeyDrift" "KeyDrift" "images" "[LKeyDrift$Hall;", Cond.laysFinal "KeyDrift" "KeyDrift" "acts" "LKeyDrift$Acts;", Cond.laysFinal "KeyDrift" "KeyDrift" "foretold" "LKeyDrift$Foretold;", Cond.laysFinal "KeyDrift" "KeyDrift" "asked" "LKeyDrift$Asked;", Cond.lays "KeyDrift" "KeyDrift" "latestFinding" "I"] : List Cond), w ∈ kT := List.forall_mem_cons.mpr ⟨mt_1 (List.mem_of_getElem? (i := 221) rfl) rfl, List.forall_mem_cons.mpr ⟨mt_1 (List.mem_of_getElem? (i := 223) rfl) rfl, List.forall_mem_cons.mpr ⟨mt_1 (List.mem_of_getElem? (i := 225) rfl) rfl, List.forall_mem_cons.mpr ⟨mt_1 (List.mem_of_getElem? (i := 227) rfl) rfl, List.forall_mem_cons.mpr ⟨mt_1 (List.mem_of_getElem? (i := 229) rfl) rfl, List.forall_mem_cons.mpr ⟨mt_1 (List.mem_of_getElem? (i := 231) rfl) rfl, List.forall_mem_cons.mpr ⟨mt_1 (List.mem_of_getElem? (i := 233) rfl) rfl, List.forall_mem_cons.mpr ⟨mt_1 (List.mem_of_getElem? (i := 235) rfl) rfl, List.forall_mem_cons.mpr ⟨mt_1 (List.mem_of_getElem? (i := 237) rfl) rfl, fun _ h => absurd h List.not_mem_nil⟩⟩⟩⟩⟩⟩⟩⟩⟩
theorem inX6 : ∀ w ∈ u_ws RX6 TX6 9, w ∈ kT := fun w h => inX6_ w h
theorem inX7_ : ∀ w ∈ ([Cond.laysFinal "KeyDriftModel" "KeyDriftModel" "lanes" "[I", Cond.laysFinal "KeyDriftModel" "KeyDriftModel" "sizes" "[I", Cond.laysFinal "KeyDriftModel" "KeyDriftModel" "items" "[I", Cond.lays "KeyDriftModel" "KeyDriftModel" "status" "I", Cond.lays "KeyDriftModel" "KeyDriftModel" "isThere" "Z", Cond.laysFinal "KeyDriftModel" "KeyDriftModel" "st" "[I", Cond.laysFinal "KeyDriftModel" "KeyDriftModel" "moved" "[I", Cond.laysFinal "KeyDriftModel" "KeyDriftModel" "tape" "[I", Cond.lays "KeyDriftModel" "KeyDriftModel" "bytes" "I", Cond.lays "KeyDriftModel" "KeyDriftModel" "latest" "I", Cond.lays "KeyDriftModel" "KeyDriftModel" "place" "I", Cond.lays "KeyDriftModel" "KeyDriftModel" "token" "I", Cond.lays "KeyDriftModel" "KeyDriftModel" "value" "I", Cond.lays "KeyDriftModel" "KeyDriftModel" "begins" "I", Cond.lays "KeyDriftModel" "KeyDriftModel" "wrong" "I", Cond.laysFinal "KeyDriftModel" "KeyDriftModel" "read" "[I", Cond.laysFinal "KeyDriftModel" "KeyDriftModel" "acts" "[I", Cond.lays "KeyDriftModel" "KeyDriftModel" "actMany" "I", Cond.lays "KeyDriftModel" "KeyDriftModel" "leastKey" "I", Cond.lays "KeyDriftModel" "KeyDriftModel" "mostKey" "I", Cond.laysFinal "KeyDriftModel" "KeyDriftModel" "fewest" "[I", Cond.laysFinal "KeyDriftModel" "KeyDriftModel" "then" "[I", Cond.laysFinal "KeyDriftModel" "KeyDriftModel" "isKept" "[Z", Cond.laysFinal "KeyDriftModel" "KeyDriftModel" "kept" "[I", Cond.laysFinal "KeyDriftModel" "KeyDriftModel" "trace" "[I", Cond.lays "KeyDriftModel" "KeyDriftModel" "traced" "I"] : List Cond), w ∈ kT := List.forall_mem_cons.mpr ⟨mt_4 (List.mem_of_getElem? (i := 84) rfl) rfl, List.forall_mem_cons.mpr ⟨mt_4 (List.mem_of_getElem? (i := 86) rfl) rfl, List.forall_mem_cons.mpr ⟨mt_4 (List.mem_of_getElem? (i := 88) rfl) rfl, List.forall_mem_cons.mpr ⟨mt_4 (List.mem_of_getElem? (i := 90) rfl) rfl, List.forall_mem_cons.mpr ⟨mt_4 (List.mem_of_getElem? (i := 92) rfl) rfl, List.forall_mem_cons.mpr ⟨mt_4 (List.mem_of_getElem? (i := 94) rfl) rfl, List.forall_mem_cons.mpr ⟨mt_4 (List.mem_of_getElem? (i := 96) rfl) rfl, List.forall_mem_cons.mpr ⟨mt_4 (List.mem_of_getElem? (i := 98) rfl) rfl, List.forall_mem_cons.mpr ⟨mt_4 (List.mem_of_getElem? (i := 100) rfl) rfl, List.forall_mem_cons.mpr ⟨mt_4 (List.mem_of_getElem? (i := 102) rfl) rfl, List.forall_mem_cons.mpr ⟨mt_4 (List.mem_of_getElem? (i := 104) rfl) rfl, List.forall_mem_cons.mpr ⟨mt_4 (List.mem_of_getElem? (i := 106) rfl) rfl, List.forall_mem_cons.mpr ⟨mt_4 (List.mem_of_getElem? (i := 108) rfl) rfl, List.forall_mem_cons.mpr ⟨mt_4 (List.mem_of_getElem? (i := 110) rfl) rfl, List.forall_mem_cons.mpr ⟨mt_4 (List.mem_of_getElem? (i := 112) rfl) rfl, List.forall_mem_cons.mpr ⟨mt_4 (List.mem_of_getElem? (i := 114) rfl) rfl, List.forall_mem_cons.mpr ⟨mt_4 (List.mem_of_getElem? (i := 116) rfl) rfl, List.forall_mem_cons.mpr ⟨mt_4 (List.mem_of_getElem? (i := 118) rfl) rfl, List.forall_mem_cons.mpr ⟨mt_4 (List.mem_of_getElem? (i := 120) rfl) rfl, List.forall_mem_cons.mpr ⟨mt_4 (List.mem_of_getElem? (i := 122) rfl) rfl, List.forall_mem_cons.mpr ⟨mt_4 (List.mem_of_getElem? (i := 124) rfl) rfl, List.forall_mem_cons.mpr ⟨mt_4 (List.mem_of_getElem? (i := 126) rfl) rfl, List.forall_mem_cons.mpr ⟨mt_4 (List.mem_of_getElem? (i := 128) rfl) rfl, List.forall_mem_cons.mpr ⟨mt_4 (List.mem_of_getElem? (i := 130) rfl) rfl, List.forall_mem_cons.mpr ⟨mt_4 (List.mem_of_getElem? (i := 132) rfl) rfl, List.forall_mem_cons.mpr ⟨mt_4 (List.mem_of_getElem? (i := 134) rfl) rfl, fun _ h => absurd h List.not_mem_nil⟩⟩⟩⟩⟩⟩⟩⟩⟩⟩⟩⟩⟩⟩⟩⟩⟩⟩⟩⟩⟩⟩⟩⟩⟩⟩
theorem inX7 : ∀ w ∈ u_ws RX7 TX7 26, w ∈ kT := fun w h => inX7_ w h
end
section
/-! ===== the store: every mutable int of the two systems, by cell (counted from the first that the law makes) and slot ===== -/
abbrev kS : Type := Nat → Nat → Int32
def st2 (σ : kS) (c k : Nat) (v : Int32) : kS := va_up σ c (upd (σ c) k v)
/-- D; the classes of int[], boolean[], Row[], Hall[]; the first cell's address; the address of ABOVE -/
abbrev kG : Type := va_G × (ClassId × ClassId × ClassId × ClassId) × Nat × Nat
abbrev kz (g : kG) (c : Nat) : Value := .ref (g.2.2.1 + c)
def klen (c : Nat) : Nat := [0, 8, 0, 40, 0, 40, 0, 40, 0, 40, 0, 40, 0, 40, 0, 40, 0, 40, 2, 0, 4, 32, 5, 5, 5, 0, 4, 32, 5, 5, 5, 0, 120, 0, 4, 32, 5, 5, 5, 0, 4, 32, 5, 5, 5, 0, 24, 24, 24, 0, 5, 5, 4, 0, 16, 0, 8, 8, 320, 57, 40, 120, 57, 1368, 12, 12, 2, 114, 16].getD c 0
def kHallB (c : Nat) : Bool := c == 19 || c == 25 || c == 33 || c == 39
def kRowB (c : Nat) : Bool := decide (2 ≤ c) && decide (c < 18) && c % 2 == 0
def kcell (g : kG) (c : Nat) (r : Nat → Int32) : va_E :=
  if c = 0 then .inr (6, [kz g 1, kz g 31, kz g 33, kz g 39, kz g 18, kz g 45, kz g 49, kz g 53, .int (r 8)])
  else if c = 1 then .inl (g.2.1.2.2.1, 8, .inr (.inr (.inr (.inr (fun i => some (g.2.2.1 + (2 + 2 * i)))))))
  else if kRowB c then .inr (4, [kz g (c + 1), .int (r 1), .int (r 2)])
  else if c = 18 then .inl (g.2.1.2.2.2, 2, .inr (.inr (.inr (.inr (fun i => some (g.2.2.1 + (19 + 6 * i)))))))
  else if kHallB c then .inr (3, [kz g (c + 1), kz g (c + 2), kz g (c + 3), kz g (c + 4), kz g (c + 5), .int (r 5), .int (r 6), .int (r 7), .int (r 8), .int (r 9), .int (r 10)])
  else if c = 31 then .inr (5, [kz g 32, .int (r 1), .int (r 2), .int (r 3), .int (r 4), .int (r 5)])
  else if c = 45 then .inr (0, [kz g 46, kz g 47, kz g 48, .int (r 3), .int (r 4)])
  else if c = 49 then .inr (2, [kz g 33, kz g 50, kz g 51, kz g 52])
  else if c = 53 then .inr (1, [kz g 54, .int (r 1), .int (r 2), .int (r 3), .int (r 4), .int (r 5)])
  else if c = 55 then .inr (7, [kz g 56, kz g 57, kz g 58, .int (r 3), .int (r 4), kz g 59, kz g 60, kz g 61, .int (r 8), .int (r 9), .int (r 10), .int (r 11), .int (r 12), .int (r 13), .int (r 14), kz g 62, kz g 63, .int (r 17), .int (r 18), .int (r 19), kz g 64, kz g 65, kz g 66, kz g 67, kz g 68, .int (r 25)])
  else if c = 66 then .inl (g.2.1.2.1, 2, .inl r)
  else .inl (g.2.1.1, klen c, .inl r)
def kW (g : kG) (σ : kS) : va_W := (List.range 69).map (fun c => (g.2.2.1 + c, kcell g c (σ c)))
theorem kW_at {g : kG} {σ : kS} {c : Nat} (h : c < 69) : (kW g σ)[c]? = some (g.2.2.1 + c, kcell g c (σ c)) := by
  simp [kW, h]
theorem kW_len {g : kG} {σ : kS} : (kW g σ).length = 69 := by simp [kW]
theorem kW_set {g : kG} {σ : kS} {c : Nat} {r : Nat → Int32} {e : va_E} (he : kcell g c r = e) : (kW g σ).set c (g.2.2.1 + c, e) = kW g (va_up σ c r) := by
  subst he
  apply List.ext_getElem?
  intro i
  by_cases hi : i < 69
  · by_cases hc : i = c
    · subst hc
      rw [List.getElem?_set_self (by rw [kW_len]; exact hi), kW_at hi]
      simp [va_up]
    · rw [List.getElem?_set_ne (Ne.symm hc), kW_at hi, kW_at hi]
      simp [va_up, hc]
  · rw [List.getElem?_eq_none (by rw [List.length_set, kW_len]; omega), List.getElem?_eq_none (by rw [kW_len]; omega)]
abbrev kA (g : kG) : Nat → Prop := fun q => g.2.2.1 ≤ q
theorem kW_inv {g : kG} {σ : kS} {k : Nat} {q : Nat × va_E} (h : (kW g σ)[k]? = some q) : k < 69 ∧ q = (g.2.2.1 + k, kcell g k (σ k)) := by
  by_cases hk : k < 69
  · rw [kW_at hk] at h
    cases h
    exact ⟨hk, rfl⟩
  · rw [List.getElem?_eq_none (by rw [kW_len]; omega)] at h
    cases h
theorem kW_D {g : kG} {σ : kS} : va_D (kA g) (kW g σ) := by
  refine ⟨fun i j p q hi hj e => ?_, fun k q hk => ?_⟩
  · obtain ⟨-, rfl⟩ := kW_inv hi
    obtain ⟨-, rfl⟩ := kW_inv hj
    simp only at e
    omega
  · obtain ⟨-, rfl⟩ := kW_inv hk
    show g.2.2.1 ≤ g.2.2.1 + k
    omega
abbrev kTy (g : kG) : List (ClassId × FieldType) := [(g.2.1.1, .int), (g.2.1.2.1, .boolean), (g.2.1.2.2.1, .object "KeyDrift$Row"), (g.2.1.2.2.2, .object "KeyDrift$Hall")]
def kabv (j : Nat) : Int32 := [0, 0, 1, 1, 0, 4].getD j 0
/-- what is known of a state's tables, and of ABOVE -/
def kEn (g : kG) (U : State) (H : Heap) : Prop := va_K g.1 vwCl (kTy g) U ∧ va_Z "KeyDrift$Asked" "ABOVE" "[I" (.ref g.2.2.2) (kA g) U H ∧ va_T .int g.2.2.2 6 (fun j => .int (kabv j)) (kA g) U H
theorem kEn.moved {g : kG} {u U : State} {H : Heap} (hvm : u.vm.Alike U.vm) (h : kEn g u H) : kEn g U H := ⟨va_K.moved hvm h.1, va_Z.moved hvm h.2.1, va_T.moved hvm h.2.2⟩
theorem kEn.kept {g : kG} {U : State} {H H1 : Heap} (h : kEn g U H) (hq : ∀ a : Nat, a < H.size → ¬ kA g a → H1[a]? = H[a]?) : kEn g U H1 := ⟨h.1, va_Z.kept h.2.1 hq, va_T.kept h.2.2 hq⟩
/-- a place in a method: program, launch, env, room, state at its start, method, args, below, method, code, cells, slots, what is to come -/
abbrev kX : Type := Program × Launch × Env × Room × State × MethodId × Array Value × List Frame × Method × Code × Nat × Nat × (State → Prop)
abbrev kXl (X : kX) : Launch := X.2.1
abbrev kXe (X : kX) : Env := X.2.2.1
abbrev kXR (X : kX) : Room := X.2.2.2.1
abbrev kXs (X : kX) : State := X.2.2.2.2.1
abbrev kXm (X : kX) : MethodId := X.2.2.2.2.2.1
abbrev kXa (X : kX) : Array Value := X.2.2.2.2.2.2.1
abbrev kXb (X : kX) : List Frame := X.2.2.2.2.2.2.2.1
abbrev kXt (X : kX) : Method := X.2.2.2.2.2.2.2.2.1
abbrev kXc (X : kX) : Code := X.2.2.2.2.2.2.2.2.2.1
abbrev kXce (X : kX) : Nat := X.2.2.2.2.2.2.2.2.2.2.1
abbrev kXsl (X : kX) : Nat := X.2.2.2.2.2.2.2.2.2.2.2.1
abbrev kXZ (X : kX) : State → Prop := X.2.2.2.2.2.2.2.2.2.2.2.2
abbrev kWW (X : kX) (H : Heap) (locs : List Loc) (f : JFrame) : Prop := W X.1 (kXl X) (kXe X) (kXR X) (kXs X) (kXm X) (kXa X) (kXb X) (kXt X) (kXc X) H locs (kXce X) (kXsl X) (kXZ X) f
def kP (X : kX) (g : kG) (nL pc : Nat) (lv : List (Nat × Value)) (st : List Value) (σ : kS) : Prop :=
  ∀ (H : Heap) (locs : List Loc) (ls : Array Slot), va_P g.1 vwCl (kW g σ) H → va_S (kA g) (kXs X).heap H locs → lv_has ls nL lv → kWW X H locs (F0 (kXm X) pc ls st)
def kOk (X : kX) (g : kG) (own : String) (cc : ByteArray) (nL : Nat) (ret : Option FieldType) (D : Nat) : Prop :=
  X.1.tables.exec = Jvm.exec ∧ (kXc X).code = cc ∧ (kXt X).sig.returnType = ret ∧ (kXc X).maxLocals = nL ∧ (kXs X).vm.findClass own = some (kXm X).cls ∧ (∀ w ∈ kT, w.before (kXa X) (kXs X) = true) ∧ kEn g (kXs X) (kXs X).heap ∧ (kXt X).locks = false ∧ (kXce X ≤ (kXR X).cells ∧ kXsl X ≤ (kXR X).slots) ∧ (D ≤ (kXR X).frames ∧ 64 * D ≤ (kXR X).locals)
section KR
variable {X : kX} {g : kG} {own : String} {cc : ByteArray} {nL D : Nat} {ret : Option FieldType} {pc : Nat} {lv lv' : List (Nat × Value)} {st : List Value} {σ : kS}
theorem r_sub (ks : List Nat) (hl : lv_pick lv ks = lv') (kk : kP X g nL pc lv' st σ) : kP X g nL pc lv st σ := fun H locs ls hP hS h => kk H locs ls hP hS (lv_sub h ks hl)
theorem r_nmI {x : Int32} (kk : ∀ y : Int32, y = x → kP X g nL pc lv (.int y :: st) σ) : kP X g nL pc lv (.int x :: st) σ := kk x rfl
theorem r_nmJ {x : Int64} (kk : ∀ y : Int64, y = x → kP X g nL pc lv (.long y :: st) σ) : kP X g nL pc lv (.long x :: st) σ := kk x rfl
theorem r_nmS (kk : ∀ τ : kS, τ = σ → kP X g nL pc lv st τ) : kP X g nL pc lv st σ := kk σ rfl
def krem (x y : Int32) : Int32 := x - x / y * y
def kremL (x y : Int64) : Int64 := x - x / y * y
def k_ushr (x y : Int32) : Int32 := (x.toUInt32 >>> (y.toUInt32 &&& Int32.toUInt32 31)).toInt32

theorem r_iconst (hc : kOk X g own cc nL ret D) {n : Int} {v : Int32} (d : decode cc pc = .ok (.iconst n, 1)) (hv : Int32.ofInt n = v) (kk : kP X g nL (pc + 1) lv (.int v :: st) σ) : kP X g nL pc lv (st) σ := fun H locs ls hP hS hl => lv_iconst hc.1 hc.2.1 d hv (kk H locs ls hP hS hl)
theorem r_bipush (hc : kOk X g own cc nL ret D) {n : Int} {v : Int32} (d : decode cc pc = .ok (.bipush n, 2)) (hv : (Int8.ofInt n).toInt32 = v) (kk : kP X g nL (pc + 2) lv (.int v :: st) σ) : kP X g nL pc lv (st) σ := fun H locs ls hP hS hl => lv_bipush hc.1 hc.2.1 d hv (kk H locs ls hP hS hl)
theorem r_sipush (hc : kOk X g own cc nL ret D) {n : Int} {v : Int32} (d : decode cc pc = .ok (.sipush n, 3)) (hv : (Int16.ofInt n).toInt32 = v) (kk : kP X g nL (pc + 3) lv (.int v :: st) σ) : kP X g nL pc lv (st) σ := fun H locs ls hP hS hl => lv_sipush hc.1 hc.2.1 d hv (kk H locs ls hP hS hl)
theorem r_lconst (hc : kOk X g own cc nL ret D) {n : Fin 2} {v : Int64} (d : decode cc pc = .ok (.lconst n, 1)) (hv : Int64.ofNat (n : Nat) = v) (kk : kP X g nL (pc + 1) lv (.long v :: st) σ) : kP X g nL pc lv (st) σ := fun H locs ls hP hS hl => lv_lconst hc.1 hc.2.1 d hv (kk H locs ls hP hS hl)
theorem r_ldc (hc : kOk X g own cc nL ret D) {i : Nat} {v : Int32} (hw : Cond.constant own i v ∈ kT) (d : decode cc pc = .ok (.ldc i, 2))  (kk : kP X g nL (pc + 2) lv (.int v :: st) σ) : kP X g nL pc lv (st) σ := fun H locs ls hP hS hl => lv_ldc hc.1 hc.2.1 hc.2.2.2.2.1 (hc.2.2.2.2.2.1 _ hw) d (kk H locs ls hP hS hl)
theorem r_ldc_w (hc : kOk X g own cc nL ret D) {i : Nat} {v : Int32} (hw : Cond.constant own i v ∈ kT) (d : decode cc pc = .ok (.ldc_w i, 3))  (kk : kP X g nL (pc + 3) lv (.int v :: st) σ) : kP X g nL pc lv (st) σ := fun H locs ls hP hS hl => lv_ldcw hc.1 hc.2.1 hc.2.2.2.2.1 (hc.2.2.2.2.2.1 _ hw) d (kk H locs ls hP hS hl)
theorem r_ldc2_w (hc : kOk X g own cc nL ret D) {i : Nat} {v : Int64} (hw : Cond.constantLong own i v ∈ kT) (d : decode cc pc = .ok (.ldc2_w i, 3))  (kk : kP X g nL (pc + 3) lv (.long v :: st) σ) : kP X g nL pc lv (st) σ := fun H locs ls hP hS hl => lv_ldc2 hc.1 hc.2.1 hc.2.2.2.2.1 (hc.2.2.2.2.2.1 _ hw) d (kk H locs ls hP hS hl)
theorem r_iload_n (hc : kOk X g own cc nL ret D) (k : Nat) {n : Fin 4} {x : Int32} (d : decode cc pc = .ok (.iload_n n, 1)) (hk : lv[k]? = some (n.val, .int x)) (kk : kP X g nL (pc + 1) lv (.int x :: st) σ) : kP X g nL pc lv (st) σ := fun H locs ls hP hS hl => lv_iload_n hc.1 hc.2.1 d rfl (lv_at hl k hk) (kk H locs ls hP hS hl)
theorem r_iload (hc : kOk X g own cc nL ret D) (k : Nat) {n : Nat} {x : Int32} (d : decode cc pc = .ok (.iload n, 2)) (hk : lv[k]? = some (n, .int x)) (kk : kP X g nL (pc + 2) lv (.int x :: st) σ) : kP X g nL pc lv (st) σ := fun H locs ls hP hS hl => lv_iload hc.1 hc.2.1 d (lv_at hl k hk) (kk H locs ls hP hS hl)
theorem r_lload_n (hc : kOk X g own cc nL ret D) (k : Nat) {n : Fin 4} {x : Int64} (d : decode cc pc = .ok (.lload_n n, 1)) (hk : lv[k]? = some (n.val, .long x)) (kk : kP X g nL (pc + 1) lv (.long x :: st) σ) : kP X g nL pc lv (st) σ := fun H locs ls hP hS hl => lv_lload_n hc.1 hc.2.1 d rfl (lv_at hl k hk) (kk H locs ls hP hS hl)
theorem r_lload (hc : kOk X g own cc nL ret D) (k : Nat) {n : Nat} {x : Int64} (d : decode cc pc = .ok (.lload n, 2)) (hk : lv[k]? = some (n, .long x)) (kk : kP X g nL (pc + 2) lv (.long x :: st) σ) : kP X g nL pc lv (st) σ := fun H locs ls hP hS hl => lv_lload hc.1 hc.2.1 d (lv_at hl k hk) (kk H locs ls hP hS hl)
theorem r_aload_n (hc : kOk X g own cc nL ret D) (k : Nat) {n : Fin 4} {x : Nat} (d : decode cc pc = .ok (.aload_n n, 1)) (hk : lv[k]? = some (n.val, .ref x)) (kk : kP X g nL (pc + 1) lv (.ref x :: st) σ) : kP X g nL pc lv (st) σ := fun H locs ls hP hS hl => lv_aload_n hc.1 hc.2.1 d rfl (lv_at hl k hk) (kk H locs ls hP hS hl)
theorem r_aload (hc : kOk X g own cc nL ret D) (k : Nat) {n : Nat} {x : Nat} (d : decode cc pc = .ok (.aload n, 2)) (hk : lv[k]? = some (n, .ref x)) (kk : kP X g nL (pc + 2) lv (.ref x :: st) σ) : kP X g nL pc lv (st) σ := fun H locs ls hP hS hl => lv_aload hc.1 hc.2.1 d (lv_at hl k hk) (kk H locs ls hP hS hl)
theorem r_istore_n (hc : kOk X g own cc nL ret D) {n : Fin 4} {x : Int32} (lv' : List (Nat × Value)) (d : decode cc pc = .ok (.istore_n n, 1)) (hn : n.val < nL) (hl : (n.val, Value.int x) :: lv.filter (fun q => !(q.1 == n.val) && !(q.1 + 1 == n.val && q.2.category == 2)) = lv') (kk : kP X g nL (pc + 1) lv' st σ) : kP X g nL pc lv (Value.int x :: st) σ := fun H locs _ hP hS h => lv_istore_n hc.1 hc.2.1 d rfl h hn hl (fun ls' h' => kk H locs ls' hP hS h')
theorem r_istore (hc : kOk X g own cc nL ret D) {n : Nat} {x : Int32} (lv' : List (Nat × Value)) (d : decode cc pc = .ok (.istore n, 2)) (hn : n < nL) (hl : (n, Value.int x) :: lv.filter (fun q => !(q.1 == n) && !(q.1 + 1 == n && q.2.category == 2)) = lv') (kk : kP X g nL (pc + 2) lv' st σ) : kP X g nL pc lv (Value.int x :: st) σ := fun H locs _ hP hS h => lv_istore hc.1 hc.2.1 d h hn hl (fun ls' h' => kk H locs ls' hP hS h')
theorem r_astore_n (hc : kOk X g own cc nL ret D) {n : Fin 4} {x : Nat} (lv' : List (Nat × Value)) (d : decode cc pc = .ok (.astore_n n, 1)) (hn : n.val < nL) (hl : (n.val, Value.ref x) :: lv.filter (fun q => !(q.1 == n.val) && !(q.1 + 1 == n.val && q.2.category == 2)) = lv') (kk : kP X g nL (pc + 1) lv' st σ) : kP X g nL pc lv (Value.ref x :: st) σ := fun H locs _ hP hS h => lv_astore_n hc.1 hc.2.1 d rfl h hn hl (fun ls' h' => kk H locs ls' hP hS h')
theorem r_astore (hc : kOk X g own cc nL ret D) {n : Nat} {x : Nat} (lv' : List (Nat × Value)) (d : decode cc pc = .ok (.astore n, 2)) (hn : n < nL) (hl : (n, Value.ref x) :: lv.filter (fun q => !(q.1 == n) && !(q.1 + 1 == n && q.2.category == 2)) = lv') (kk : kP X g nL (pc + 2) lv' st σ) : kP X g nL pc lv (Value.ref x :: st) σ := fun H locs _ hP hS h => lv_astore hc.1 hc.2.1 d h hn hl (fun ls' h' => kk H locs ls' hP hS h')
theorem r_lstore_n (hc : kOk X g own cc nL ret D) {n : Fin 4} {x : Int64} (lv' : List (Nat × Value)) (d : decode cc pc = .ok (.lstore_n n, 1)) (hn : n.val + 1 < nL) (hl : (n.val, Value.long x) :: lv.filter (fun q => !(q.1 == n.val) && (!(q.1 == n.val + 1) && !(q.1 + 1 == n.val && q.2.category == 2))) = lv') (kk : kP X g nL (pc + 1) lv' st σ) : kP X g nL pc lv (Value.long x :: st) σ := fun H locs _ hP hS h => lv_lstore_n hc.1 hc.2.1 d rfl h hn hl (fun ls' h' => kk H locs ls' hP hS h')
theorem r_lstore (hc : kOk X g own cc nL ret D) {n : Nat} {x : Int64} (lv' : List (Nat × Value)) (d : decode cc pc = .ok (.lstore n, 2)) (hn : n + 1 < nL) (hl : (n, Value.long x) :: lv.filter (fun q => !(q.1 == n) && (!(q.1 == n + 1) && !(q.1 + 1 == n && q.2.category == 2))) = lv') (kk : kP X g nL (pc + 2) lv' st σ) : kP X g nL pc lv (Value.long x :: st) σ := fun H locs _ hP hS h => lv_lstore hc.1 hc.2.1 d h hn hl (fun ls' h' => kk H locs ls' hP hS h')
theorem r_iinc (hc : kOk X g own cc nL ret D) (k : Nat) {i : Nat} {n : Int} {x v : Int32} (lv' : List (Nat × Value)) (d : decode cc pc = .ok (.iinc i n, 3)) (hk : lv[k]? = some (i, .int x)) (hv : x + Int32.ofInt n = v) (hn : i < nL) (hl : (i, Value.int v) :: lv.filter (fun q => !(q.1 == i) && !(q.1 + 1 == i && q.2.category == 2)) = lv') (kk : kP X g nL (pc + 3) lv' st σ) : kP X g nL pc lv st σ := fun H locs _ hP hS h => lv_iinc hc.1 hc.2.1 d h hk hv hn hl (fun ls' h' => kk H locs ls' hP hS h')
theorem r_iadd (hc : kOk X g own cc nL ret D) {x y : Int32} (d : decode cc pc = .ok (.iadd, 1))  (kk : kP X g nL (pc + 1) lv (.int (x + y) :: st) σ) : kP X g nL pc lv (.int y :: .int x :: st) σ := fun H locs ls hP hS hl => lv_iadd hc.1 hc.2.1 d (kk H locs ls hP hS hl)
theorem r_ladd (hc : kOk X g own cc nL ret D) {x y : Int64} (d : decode cc pc = .ok (.ladd, 1))  (kk : kP X g nL (pc + 1) lv (.long (x + y) :: st) σ) : kP X g nL pc lv (.long y :: .long x :: st) σ := fun H locs ls hP hS hl => lv_ladd hc.1 hc.2.1 d (kk H locs ls hP hS hl)
theorem r_isub (hc : kOk X g own cc nL ret D) {x y : Int32} (d : decode cc pc = .ok (.isub, 1))  (kk : kP X g nL (pc + 1) lv (.int (x - y) :: st) σ) : kP X g nL pc lv (.int y :: .int x :: st) σ := fun H locs ls hP hS hl => lv_isub hc.1 hc.2.1 d (kk H locs ls hP hS hl)
theorem r_lsub (hc : kOk X g own cc nL ret D) {x y : Int64} (d : decode cc pc = .ok (.lsub, 1))  (kk : kP X g nL (pc + 1) lv (.long (x - y) :: st) σ) : kP X g nL pc lv (.long y :: .long x :: st) σ := fun H locs ls hP hS hl => lv_lsub hc.1 hc.2.1 d (kk H locs ls hP hS hl)
theorem r_imul (hc : kOk X g own cc nL ret D) {x y : Int32} (d : decode cc pc = .ok (.imul, 1))  (kk : kP X g nL (pc + 1) lv (.int (x * y) :: st) σ) : kP X g nL pc lv (.int y :: .int x :: st) σ := fun H locs ls hP hS hl => lv_imul hc.1 hc.2.1 d (kk H locs ls hP hS hl)
theorem r_lmul (hc : kOk X g own cc nL ret D) {x y : Int64} (d : decode cc pc = .ok (.lmul, 1))  (kk : kP X g nL (pc + 1) lv (.long (x * y) :: st) σ) : kP X g nL pc lv (.long y :: .long x :: st) σ := fun H locs ls hP hS hl => lv_lmul hc.1 hc.2.1 d (kk H locs ls hP hS hl)
theorem r_iand (hc : kOk X g own cc nL ret D) {x y : Int32} (d : decode cc pc = .ok (.iand, 1))  (kk : kP X g nL (pc + 1) lv (.int (x &&& y) :: st) σ) : kP X g nL pc lv (.int y :: .int x :: st) σ := fun H locs ls hP hS hl => lv_iand hc.1 hc.2.1 d (kk H locs ls hP hS hl)
theorem r_ior (hc : kOk X g own cc nL ret D) {x y : Int32} (d : decode cc pc = .ok (.ior, 1))  (kk : kP X g nL (pc + 1) lv (.int (x ||| y) :: st) σ) : kP X g nL pc lv (.int y :: .int x :: st) σ := fun H locs ls hP hS hl => lv_ior hc.1 hc.2.1 d (kk H locs ls hP hS hl)
theorem r_ixor (hc : kOk X g own cc nL ret D) {x y : Int32} (d : decode cc pc = .ok (.ixor, 1))  (kk : kP X g nL (pc + 1) lv (.int (x ^^^ y) :: st) σ) : kP X g nL pc lv (.int y :: .int x :: st) σ := fun H locs ls hP hS hl => lv_ixor hc.1 hc.2.1 d (kk H locs ls hP hS hl)
theorem r_ishl (hc : kOk X g own cc nL ret D) {x y : Int32} (d : decode cc pc = .ok (.ishl, 1))  (kk : kP X g nL (pc + 1) lv (.int (x <<< (y &&& 31)) :: st) σ) : kP X g nL pc lv (.int y :: .int x :: st) σ := fun H locs ls hP hS hl => lv_ishl hc.1 hc.2.1 d (kk H locs ls hP hS hl)
theorem r_ishr (hc : kOk X g own cc nL ret D) {x y : Int32} (d : decode cc pc = .ok (.ishr, 1))  (kk : kP X g nL (pc + 1) lv (.int (x >>> (y &&& 31)) :: st) σ) : kP X g nL pc lv (.int y :: .int x :: st) σ := fun H locs ls hP hS hl => lv_ishr hc.1 hc.2.1 d (kk H locs ls hP hS hl)
theorem r_idiv (hc : kOk X g own cc nL ret D) {x y : Int32} (d : decode cc pc = .ok (.idiv, 1)) (hne : ¬ y = 0) (kk : kP X g nL (pc + 1) lv (.int (x / y) :: st) σ) : kP X g nL pc lv (.int y :: .int x :: st) σ := fun H locs ls hP hS hl => lv_idiv hc.1 hc.2.1 d hne (kk H locs ls hP hS hl)
theorem r_ldiv (hc : kOk X g own cc nL ret D) {x y : Int64} (d : decode cc pc = .ok (.ldiv, 1)) (hne : ¬ y = 0) (kk : kP X g nL (pc + 1) lv (.long (x / y) :: st) σ) : kP X g nL pc lv (.long y :: .long x :: st) σ := fun H locs ls hP hS hl => lv_ldiv hc.1 hc.2.1 d hne (kk H locs ls hP hS hl)
theorem r_irem (hc : kOk X g own cc nL ret D) {x y : Int32} (d : decode cc pc = .ok (.irem, 1)) (hne : ¬ y = 0) (kk : kP X g nL (pc + 1) lv (.int (krem x y) :: st) σ) : kP X g nL pc lv (.int y :: .int x :: st) σ := fun H locs ls hP hS hl => lv_irem hc.1 hc.2.1 d hne (kk H locs ls hP hS hl)
theorem r_lrem (hc : kOk X g own cc nL ret D) {x y : Int64} (d : decode cc pc = .ok (.lrem, 1)) (hne : ¬ y = 0) (kk : kP X g nL (pc + 1) lv (.long (kremL x y) :: st) σ) : kP X g nL pc lv (.long y :: .long x :: st) σ := fun H locs ls hP hS hl => lv_lrem hc.1 hc.2.1 d hne (kk H locs ls hP hS hl)
theorem r_ineg (hc : kOk X g own cc nL ret D) {x : Int32} (d : decode cc pc = .ok (.ineg, 1))  (kk : kP X g nL (pc + 1) lv (.int (-x) :: st) σ) : kP X g nL pc lv (.int x :: st) σ := fun H locs ls hP hS hl => lv_ineg hc.1 hc.2.1 d (kk H locs ls hP hS hl)
theorem r_iushr (hc : kOk X g own cc nL ret D) {x y : Int32} (d : decode cc pc = .ok (.iushr, 1))  (kk : kP X g nL (pc + 1) lv (.int (k_ushr x y) :: st) σ) : kP X g nL pc lv (.int y :: .int x :: st) σ := fun H locs ls hP hS hl => lv_iushr hc.1 hc.2.1 d rfl (kk H locs ls hP hS hl)
theorem r_lcmp (hc : kOk X g own cc nL ret D) {x y : Int64} (d : decode cc pc = .ok (.lcmp, 1))  (kk : kP X g nL (pc + 1) lv (.int (lg_cmp x y) :: st) σ) : kP X g nL pc lv (.long y :: .long x :: st) σ := fun H locs ls hP hS hl => W.lcmp hc.1 hc.2.1 d (kk H locs ls hP hS hl)
theorem r_i2l (hc : kOk X g own cc nL ret D) {x : Int32} (d : decode cc pc = .ok (.i2l, 1))  (kk : kP X g nL (pc + 1) lv (.long x.toInt64 :: st) σ) : kP X g nL pc lv (.int x :: st) σ := fun H locs ls hP hS hl => lv_i2l hc.1 hc.2.1 d rfl (kk H locs ls hP hS hl)
theorem r_l2i (hc : kOk X g own cc nL ret D) {x : Int64} (d : decode cc pc = .ok (.l2i, 1))  (kk : kP X g nL (pc + 1) lv (.int x.toInt32 :: st) σ) : kP X g nL pc lv (.long x :: st) σ := fun H locs ls hP hS hl => lv_l2i hc.1 hc.2.1 d rfl (kk H locs ls hP hS hl)
theorem r_i2b (hc : kOk X g own cc nL ret D) {x : Int32} (d : decode cc pc = .ok (.i2b, 1))  (kk : kP X g nL (pc + 1) lv (.int x.toInt8.toInt32 :: st) σ) : kP X g nL pc lv (.int x :: st) σ := fun H locs ls hP hS hl => lv_i2b hc.1 hc.2.1 d rfl (kk H locs ls hP hS hl)
theorem r_i2s (hc : kOk X g own cc nL ret D) {x : Int32} (d : decode cc pc = .ok (.i2s, 1))  (kk : kP X g nL (pc + 1) lv (.int x.toInt16.toInt32 :: st) σ) : kP X g nL pc lv (.int x :: st) σ := fun H locs ls hP hS hl => lv_i2s hc.1 hc.2.1 d rfl (kk H locs ls hP hS hl)
theorem r_dup (hc : kOk X g own cc nL ret D) {v : Value} (d : decode cc pc = .ok (.dup, 1)) (hv : v.category = 1) (kk : kP X g nL (pc + 1) lv (v :: v :: st) σ) : kP X g nL pc lv (v :: st) σ := fun H locs ls hP hS hl => lv_dup hc.1 hc.2.1 d hv (kk H locs ls hP hS hl)
theorem r_dup2 (hc : kOk X g own cc nL ret D) {v w : Value} (d : decode cc pc = .ok (.dup2, 1)) (hv : v.category = 1) (hw : w.category = 1) (kk : kP X g nL (pc + 1) lv (v :: w :: v :: w :: st) σ) : kP X g nL pc lv (v :: w :: st) σ := fun H locs ls hP hS hl => lv_dup2_11 hc.1 hc.2.1 d hv hw (kk H locs ls hP hS hl)
theorem r_goto (hc : kOk X g own cc nL ret D) {off : Int} (tgt : Nat) (d : decode cc pc = .ok (.goto off, 3)) (ht : (pc : Int) + off = (tgt : Int)) (kk : kP X g nL tgt lv st σ) : kP X g nL pc lv st σ := fun H locs ls hP hS hl => lv_goto hc.1 hc.2.1 d ht (kk H locs ls hP hS hl)
theorem r_if_eq (hc : kOk X g own cc nL ret D) {x : Int32} {off : Int} (tgt : Nat) (d : decode cc pc = .ok (.ifCond .eq off, 3)) (ht : (pc : Int) + off = (tgt : Int)) (kt : x = 0 → kP X g nL tgt lv st σ) (kf : ¬ x = 0 → kP X g nL (pc + 3) lv st σ) : kP X g nL pc lv (.int x :: st) σ := fun H locs ls hP hS hl => lv_if_eq hc.1 hc.2.1 d ht (fun q => kt q H locs ls hP hS hl) (fun q => kf q H locs ls hP hS hl)
theorem r_ic_eq (hc : kOk X g own cc nL ret D) {x y : Int32} {off : Int} (tgt : Nat) (d : decode cc pc = .ok (.if_icmp .eq off, 3)) (ht : (pc : Int) + off = (tgt : Int)) (kt : x = y → kP X g nL tgt lv st σ) (kf : ¬ x = y → kP X g nL (pc + 3) lv st σ) : kP X g nL pc lv (.int y :: .int x :: st) σ := fun H locs ls hP hS hl => lv_icmp_eq hc.1 hc.2.1 d ht (fun q => kt q H locs ls hP hS hl) (fun q => kf q H locs ls hP hS hl)
theorem r_if_ne (hc : kOk X g own cc nL ret D) {x : Int32} {off : Int} (tgt : Nat) (d : decode cc pc = .ok (.ifCond .ne off, 3)) (ht : (pc : Int) + off = (tgt : Int)) (kt : x = 0 → kP X g nL (pc + 3) lv st σ) (kf : ¬ x = 0 → kP X g nL tgt lv st σ) : kP X g nL pc lv (.int x :: st) σ := fun H locs ls hP hS hl => lv_if_ne hc.1 hc.2.1 d ht (fun q => kf (by simpa using q) H locs ls hP hS hl) (fun q => kt (by simpa using q) H locs ls hP hS hl)
theorem r_ic_ne (hc : kOk X g own cc nL ret D) {x y : Int32} {off : Int} (tgt : Nat) (d : decode cc pc = .ok (.if_icmp .ne off, 3)) (ht : (pc : Int) + off = (tgt : Int)) (kt : x = y → kP X g nL (pc + 3) lv st σ) (kf : ¬ x = y → kP X g nL tgt lv st σ) : kP X g nL pc lv (.int y :: .int x :: st) σ := fun H locs ls hP hS hl => lv_icmp_ne hc.1 hc.2.1 d ht (fun q => kf (by simpa using q) H locs ls hP hS hl) (fun q => kt (by simpa using q) H locs ls hP hS hl)
theorem r_if_lt (hc : kOk X g own cc nL ret D) {x : Int32} {off : Int} (tgt : Nat) (d : decode cc pc = .ok (.ifCond .lt off, 3)) (ht : (pc : Int) + off = (tgt : Int)) (kt : x < 0 → kP X g nL tgt lv st σ) (kf : ¬ x < 0 → kP X g nL (pc + 3) lv st σ) : kP X g nL pc lv (.int x :: st) σ := fun H locs ls hP hS hl => lv_if_lt hc.1 hc.2.1 d ht (fun q => kt q H locs ls hP hS hl) (fun q => kf q H locs ls hP hS hl)
theorem r_ic_lt (hc : kOk X g own cc nL ret D) {x y : Int32} {off : Int} (tgt : Nat) (d : decode cc pc = .ok (.if_icmp .lt off, 3)) (ht : (pc : Int) + off = (tgt : Int)) (kt : x < y → kP X g nL tgt lv st σ) (kf : ¬ x < y → kP X g nL (pc + 3) lv st σ) : kP X g nL pc lv (.int y :: .int x :: st) σ := fun H locs ls hP hS hl => lv_icmp_lt hc.1 hc.2.1 d ht (fun q => kt q H locs ls hP hS hl) (fun q => kf q H locs ls hP hS hl)
theorem r_if_ge (hc : kOk X g own cc nL ret D) {x : Int32} {off : Int} (tgt : Nat) (d : decode cc pc = .ok (.ifCond .ge off, 3)) (ht : (pc : Int) + off = (tgt : Int)) (kt : 0 ≤ x → kP X g nL tgt lv st σ) (kf : ¬ 0 ≤ x → kP X g nL (pc + 3) lv st σ) : kP X g nL pc lv (.int x :: st) σ := fun H locs ls hP hS hl => lv_if_ge hc.1 hc.2.1 d ht (fun q => kt q H locs ls hP hS hl) (fun q => kf q H locs ls hP hS hl)
theorem r_ic_ge (hc : kOk X g own cc nL ret D) {x y : Int32} {off : Int} (tgt : Nat) (d : decode cc pc = .ok (.if_icmp .ge off, 3)) (ht : (pc : Int) + off = (tgt : Int)) (kt : y ≤ x → kP X g nL tgt lv st σ) (kf : ¬ y ≤ x → kP X g nL (pc + 3) lv st σ) : kP X g nL pc lv (.int y :: .int x :: st) σ := fun H locs ls hP hS hl => lv_icmp_ge hc.1 hc.2.1 d ht (fun q => kt q H locs ls hP hS hl) (fun q => kf q H locs ls hP hS hl)
theorem r_if_gt (hc : kOk X g own cc nL ret D) {x : Int32} {off : Int} (tgt : Nat) (d : decode cc pc = .ok (.ifCond .gt off, 3)) (ht : (pc : Int) + off = (tgt : Int)) (kt : 0 < x → kP X g nL tgt lv st σ) (kf : ¬ 0 < x → kP X g nL (pc + 3) lv st σ) : kP X g nL pc lv (.int x :: st) σ := fun H locs ls hP hS hl => lv_if_gt hc.1 hc.2.1 d ht (fun q => kt q H locs ls hP hS hl) (fun q => kf q H locs ls hP hS hl)
theorem r_ic_gt (hc : kOk X g own cc nL ret D) {x y : Int32} {off : Int} (tgt : Nat) (d : decode cc pc = .ok (.if_icmp .gt off, 3)) (ht : (pc : Int) + off = (tgt : Int)) (kt : y < x → kP X g nL tgt lv st σ) (kf : ¬ y < x → kP X g nL (pc + 3) lv st σ) : kP X g nL pc lv (.int y :: .int x :: st) σ := fun H locs ls hP hS hl => lv_icmp_gt hc.1 hc.2.1 d ht (fun q => kt q H locs ls hP hS hl) (fun q => kf q H locs ls hP hS hl)
theorem r_if_le (hc : kOk X g own cc nL ret D) {x : Int32} {off : Int} (tgt : Nat) (d : decode cc pc = .ok (.ifCond .le off, 3)) (ht : (pc : Int) + off = (tgt : Int)) (kt : x ≤ 0 → kP X g nL tgt lv st σ) (kf : ¬ x ≤ 0 → kP X g nL (pc + 3) lv st σ) : kP X g nL pc lv (.int x :: st) σ := fun H locs ls hP hS hl => lv_if_le hc.1 hc.2.1 d ht (fun q => kt q H locs ls hP hS hl) (fun q => kf q H locs ls hP hS hl)
theorem r_ic_le (hc : kOk X g own cc nL ret D) {x y : Int32} {off : Int} (tgt : Nat) (d : decode cc pc = .ok (.if_icmp .le off, 3)) (ht : (pc : Int) + off = (tgt : Int)) (kt : x ≤ y → kP X g nL tgt lv st σ) (kf : ¬ x ≤ y → kP X g nL (pc + 3) lv st σ) : kP X g nL pc lv (.int y :: .int x :: st) σ := fun H locs ls hP hS hl => lv_icmp_le hc.1 hc.2.1 d ht (fun q => kt q H locs ls hP hS hl) (fun q => kf q H locs ls hP hS hl)
theorem r_tabIn (hc : kOk X g own cc nL ret D) {dflt lo hi : Int} {offs : Array Int} {len : Nat} {x : Int32} {off : Int} (tgt : Nat) (d : decode cc pc = .ok (.tableswitch dflt lo hi offs, len)) (h1 : ¬ x.toInt < lo) (h2 : ¬ hi < x.toInt) (ho : offs[(x.toInt - lo).toNat]? = some off) (ht : (pc : Int) + off = (tgt : Int)) (kk : kP X g nL tgt lv st σ) : kP X g nL pc lv (.int x :: st) σ := fun H locs ls hP hS hl => lv_tableIn hc.1 hc.2.1 d h1 h2 ho ht (kk H locs ls hP hS hl)
theorem r_tabOut (hc : kOk X g own cc nL ret D) {dflt lo hi : Int} {offs : Array Int} {len : Nat} {x : Int32} (tgt : Nat) (d : decode cc pc = .ok (.tableswitch dflt lo hi offs, len)) (h : x.toInt < lo ∨ hi < x.toInt) (ht : (pc : Int) + dflt = (tgt : Int)) (kk : kP X g nL tgt lv st σ) : kP X g nL pc lv (.int x :: st) σ := fun H locs ls hP hS hl => lv_tableOut hc.1 hc.2.1 d h ht (kk H locs ls hP hS hl)
theorem r_lookup (hc : kOk X g own cc nL ret D) {dflt : Int} {ps : Array (Int × Int)} {len : Nat} {x : Int32} {off : Int} (tgt : Nat) (d : decode cc pc = .ok (.lookupswitch dflt ps, len)) (hp : (ps.toList.zip (ps.toList.drop 1)).all (fun (a, next) => a.1 < next.1) = true) (ho : Op.lookupswitch.offset ps.toList dflt x.toInt = off) (ht : (pc : Int) + off = (tgt : Int)) (kk : kP X g nL tgt lv st σ) : kP X g nL pc lv (.int x :: st) σ := fun H locs ls hP hS hl => lv_lookup hc.1 hc.2.1 d hp ho ht (kk H locs ls hP hS hl)
/-! fields -/
theorem r_getf (hc : kOk X g own cc nL ret D) {C : String} {T : u_T} {N ci idx : Nat} (hin : ∀ w ∈ u_ws C T N, w ∈ kT) (hcl : vwCl[ci]? = some (C, T, N)) {c : Nat} {fs : List Value} (hlt : c < 69) (ho : kcell g c (σ c) = .inr (ci, fs)) (k : Nat) (hk : k < N) (hl : Cond.fieldLink own idx (T k).1 (T k).2.1 (T k).2.2.1 ∈ kT) {v : Value} (hv : fs[k]? = some v) (d : decode cc pc = .ok (.getfield idx, 3)) (kk : kP X g nL (pc + 3) lv (v :: st) σ) : kP X g nL pc lv (kz g c :: st) σ :=
  fun H locs ls hP hS hL => va_get (D := g.1) (ci := ci) (v := v) (C := C) (T := T) (N := N) hc.1 hc.2.1 hc.2.2.2.2.2.1 hin hc.2.2.2.2.1 hc.2.2.2.2.2.2.1.1 hP c (by rw [kW_at hlt, ho]) hcl k hk (hc.2.2.2.2.2.1 _ hl) (fun _ h => h) hv d (kk H locs ls hP hS hL)
theorem r_putf (hc : kOk X g own cc nL ret D) {C : String} {T : u_T} {N ci idx : Nat} {ty0 : Nat → FieldType} (hin : ∀ w ∈ u_ws C T N, w ∈ kT) (hty : ∀ k, k < N → parseFieldDescriptor (T k).2.2.1 = some (ty0 k)) (hnm : ∀ a, a < N → ∀ b, b < N → a ≠ b → (T a).2.1 ≠ (T b).2.1) (hcl : vwCl[ci]? = some (C, T, N)) {c : Nat} {fs : List Value} (hlt : c < 69) (ho : kcell g c (σ c) = .inr (ci, fs)) (k : Nat) (hk : k < N) (hl : Cond.fieldLink own idx (T k).1 (T k).2.1 (T k).2.2.1 ∈ kT) (hfin : (T k).2.2.2 = false) {v : Int32} (hn : narrow (ty0 k) (.int v) = .int v) (hfit : fits (ty0 k) (.int v) = true) (hfl : k < fs.length) (hnew : kcell g c (upd (σ c) k v) = .inr (ci, fs.set k (.int v))) (d : decode cc pc = .ok (.putfield idx, 3)) (kk : kP X g nL (pc + 3) lv st (st2 σ c k v)) : kP X g nL pc lv (.int v :: kz g c :: st) σ :=
  fun H locs ls hP hS hL => va_put (D := g.1) (ci := ci) (v := .int v) (ty := ty0 k) (C := C) (T := T) (N := N) hc.1 hc.2.1 hc.2.2.2.2.2.1 hin ty0 hty hnm hc.2.2.2.2.1 hc.2.2.2.2.2.2.1.1 hP kW_D hS c (by rw [kW_at hlt, ho]) hcl k hk (hc.2.2.2.2.2.1 _ hl) (fun _ h => h) hfin (hty k hk) hn hfit hfl d (fun H1 locs1 hP1 _ hS1 => kk H1 locs1 ls (by rw [kW_set hnew] at hP1; exact hP1) hS1 hL)
/-! arrays -/
/-- the cell c is an int array of n places -/
def kInts (c n : Nat) : Prop := c < 69 ∧ ∀ (g : kG) (r : Nat → Int32), kcell g c r = .inl (g.2.1.1, n, .inl r)
theorem r_iald (hc : kOk X g own cc nL ret D) {c n : Nat} (ha : kInts c n) {i : Int32} (hin : vp_in i n) (d : decode cc pc = .ok (.iaload, 1)) (kk : kP X g nL (pc + 1) lv (.int (σ c i.toNatClampNeg) :: st) σ) : kP X g nL pc lv (.int i :: kz g c :: st) σ :=
  fun H locs ls hP hS hL => va_iald hc.1 hc.2.1 hc.2.2.2.2.2.2.1.1 hP c 0 (by rw [kW_at ha.1, ha.2]) rfl hin d (kk H locs ls hP hS hL)
theorem r_iast (hc : kOk X g own cc nL ret D) {c n : Nat} (ha : kInts c n) {i x : Int32} (hin : vp_in i n) (d : decode cc pc = .ok (.iastore, 1)) (kk : kP X g nL (pc + 1) lv st (st2 σ c i.toNatClampNeg x)) : kP X g nL pc lv (.int x :: .int i :: kz g c :: st) σ :=
  fun H locs ls hP hS hL => va_iast hc.1 hc.2.1 hc.2.2.2.2.2.2.1.1 hP kW_D hS c 0 (by rw [kW_at ha.1, ha.2]) rfl hin d (fun H1 locs1 hP1 _ hS1 => kk H1 locs1 ls (by rw [kW_set (ha.2 g (upd (σ c) i.toNatClampNeg x))] at hP1; exact hP1) hS1 hL)
theorem r_alen (hc : kOk X g own cc nL ret D) {c n : Nat} (ha : kInts c n) {v : Int32} (hv : Int32.ofNat n = v) (d : decode cc pc = .ok (.arraylength, 1)) (kk : kP X g nL (pc + 1) lv (.int v :: st) σ) : kP X g nL pc lv (kz g c :: st) σ :=
  fun H locs ls hP hS hL => va_alen hc.1 hc.2.1 hc.2.2.2.2.2.2.1.1 hP c 0 (by rw [kW_at ha.1, ha.2]) rfl hv d (kk H locs ls hP hS hL)
theorem r_zald (hc : kOk X g own cc nL ret D) {i : Int32} (hin : vp_in i 2) (d : decode cc pc = .ok (.baload, 1)) (kk : kP X g nL (pc + 1) lv (.int (σ 66 i.toNatClampNeg) :: st) σ) : kP X g nL pc lv (.int i :: kz g 66 :: st) σ :=
  fun H locs ls hP hS hL => va_zald hc.1 hc.2.1 hc.2.2.2.2.2.2.1.1 hP 66 1 (by rw [kW_at (by decide)]; rfl) rfl hin d (kk H locs ls hP hS hL)
theorem r_zast (hc : kOk X g own cc nL ret D) {i x : Int32} (hin : vp_in i 2) (hx : vp_nar .boolean x = x) (d : decode cc pc = .ok (.bastore, 1)) (kk : kP X g nL (pc + 1) lv st (st2 σ 66 i.toNatClampNeg x)) : kP X g nL pc lv (.int x :: .int i :: kz g 66 :: st) σ :=
  fun H locs ls hP hS hL => va_zast hc.1 hc.2.1 hc.2.2.2.2.2.2.1.1 hP kW_D hS 66 1 (by rw [kW_at (by decide)]; rfl) rfl hin d (fun H1 locs1 hP1 _ hS1 => kk H1 locs1 ls (by rw [hx, kW_set (show kcell g 66 (upd (σ 66) i.toNatClampNeg x) = .inl (g.2.1.2.1, 2, .inl (upd (σ 66) i.toNatClampNeg x)) from rfl)] at hP1; exact hP1) hS1 hL)
theorem r_rows (hc : kOk X g own cc nL ret D) {i : Int32} (hin : vp_in i 8) (d : decode cc pc = .ok (.aaload, 1)) (kk : kP X g nL (pc + 1) lv (kz g (2 + 2 * i.toNatClampNeg) :: st) σ) : kP X g nL pc lv (.int i :: kz g 1 :: st) σ :=
  fun H locs ls hP hS hL => va_aldq (C := "KeyDrift$Row") (f := fun i => some (g.2.2.1 + (2 + 2 * i))) (n := 8) (cA := g.2.1.2.2.1) hc.1 hc.2.1 hc.2.2.2.2.2.2.1.1 hP 1 2 (by rw [kW_at (by decide)]; rfl) rfl hin d (kk H locs ls hP hS hL)
theorem r_halls (hc : kOk X g own cc nL ret D) {i : Int32} (hin : vp_in i 2) (d : decode cc pc = .ok (.aaload, 1)) (kk : kP X g nL (pc + 1) lv (kz g (19 + 6 * i.toNatClampNeg) :: st) σ) : kP X g nL pc lv (.int i :: kz g 18 :: st) σ :=
  fun H locs ls hP hS hL => va_aldq (C := "KeyDrift$Hall") (f := fun i => some (g.2.2.1 + (19 + 6 * i))) (n := 2) (cA := g.2.1.2.2.2) hc.1 hc.2.1 hc.2.2.2.2.2.2.1.1 hP 18 3 (by rw [kW_at (by decide)]; rfl) rfl hin d (kk H locs ls hP hS hL)
theorem r_above (hc : kOk X g own cc nL ret D) {idx : Nat} (hl : Cond.fieldLink own idx "KeyDrift$Asked" "ABOVE" "[I" ∈ kT) (d : decode cc pc = .ok (.getstatic idx, 3)) (kk : kP X g nL (pc + 3) lv (.ref g.2.2.2 :: st) σ) : kP X g nL pc lv st σ :=
  fun H locs ls hP hS hL => va_gets hc.1 hc.2.1 hc.2.2.2.2.2.2.1.2.1 hS hc.2.2.2.2.1 (hc.2.2.2.2.2.1 _ hl) (fun _ h => h) d (kk H locs ls hP hS hL)
theorem r_abld (hc : kOk X g own cc nL ret D) {i : Int32} (hin : vp_in i 6) (d : decode cc pc = .ok (.iaload, 1)) (kk : kP X g nL (pc + 1) lv (.int (kabv i.toNatClampNeg) :: st) σ) : kP X g nL pc lv (.int i :: .ref g.2.2.2 :: st) σ :=
  fun H locs ls hP hS hL => va_ti hc.1 hc.2.1 hc.2.2.2.2.2.2.1.2.2 hS hin rfl d (kk H locs ls hP hS hL)
def kSc (X : kX) (b L : Nat) (xs : Nat → Int32) (g : kG) : Prop := va_X b L xs (kXs X) (kXs X).heap ∧ b < (kXs X).heap.size ∧ ¬ kA g b
theorem r_sld (hc : kOk X g own cc nL ret D) {b L : Nat} {xs : Nat → Int32} (hs : kSc X b L xs g) {i : Int32} (hin : vp_in i L) (d : decode cc pc = .ok (.iaload, 1)) (kk : kP X g nL (pc + 1) lv (.int (xs i.toNatClampNeg) :: st) σ) : kP X g nL pc lv (.int i :: .ref b :: st) σ :=
  fun H locs ls hP hS hL => va_sld hc.1 hc.2.1 hs.1 hs.2.1 hs.2.2 hS hin d (kk H locs ls hP hS hL)
theorem r_slen (hc : kOk X g own cc nL ret D) {b L : Nat} {xs : Nat → Int32} (hs : kSc X b L xs g) (d : decode cc pc = .ok (.arraylength, 1)) (kk : kP X g nL (pc + 1) lv (.int (Int32.ofNat L) :: st) σ) : kP X g nL pc lv (.ref b :: st) σ :=
  fun H locs ls hP hS hL => va_slen hc.1 hc.2.1 hs.1 hs.2.1 hs.2.2 hS d (kk H locs ls hP hS hL)
end KR
end
section
/-! ===== a method's contract, a call ===== -/
def kRm (d : Nat) : Room := { frames := d, cells := 0, slots := 0, locals := 64 * d }
abbrev kws (y : MethodName) (bytes : ByteArray) (maxL : Nat) (rt : Option FieldType) : List Cond := Cond.code y bytes maxL rt :: kT
def kPre (g : kG) (σ : kS) : State → Prop := fun U => va_P g.1 vwCl (kW g σ) U.heap ∧ kEn g U U.heap
abbrev kB (g : kG) : kS → State → Prop := fun u t => va_P g.1 vwCl (kW g u) t.heap
abbrev kMi (l : Launch) (g : kG) (y : MethodName) (bytes : ByteArray) (maxL : Nat) (rt : Option FieldType) (d : Nat) (As : List Value) (σ : kS) (Q : Int32 → kS → Prop) : Prop := Met l y (kws y bytes maxL rt) (kRm d) (va_Pc As (kPre g σ)) (va_Qi Q (kB g) (kA g)) 0 0 (kA g)
abbrev kMl (l : Launch) (g : kG) (y : MethodName) (bytes : ByteArray) (maxL : Nat) (rt : Option FieldType) (d : Nat) (As : List Value) (σ : kS) (Q : Int64 → kS → Prop) : Prop := Met l y (kws y bytes maxL rt) (kRm d) (va_Pc As (kPre g σ)) (va_Ql Q (kB g) (kA g)) 0 0 (kA g)
abbrev kMv (l : Launch) (g : kG) (y : MethodName) (bytes : ByteArray) (maxL : Nat) (rt : Option FieldType) (d : Nat) (As : List Value) (σ : kS) (Q : kS → Prop) : Prop := Met l y (kws y bytes maxL rt) (kRm d) (va_Pc As (kPre g σ)) (va_Qv Q (kB g) (kA g)) 0 0 (kA g)
theorem kPre_blind {g : kG} {σ : kS} {As : List Value} : FrameBlind (va_Pc As (kPre g σ)) := fun a U f mk q => ⟨q.1, q.2.1, kEn.moved (u := U) (U := U.calling f mk a) (Vm.Alike.refl U.vm) q.2.2⟩
def kCw (y : MethodName) (bytes : ByteArray) (maxL : Nat) (rt : Option FieldType) (n : Nat) : Prop := Cond.code y bytes maxL rt ∈ kT ∧ Cond.initialized y.cls ∈ kT ∧ (y.cls ≠ "java/lang/invoke/MethodHandle" ∧ y.cls ≠ "java/lang/invoke/VarHandle") ∧ (parseMethodDescriptor y.desc).map (fun d => d.parameters.length) = some n
/-- the cell c is an object of the class C -/
def kRv (g : kG) (σ : kS) (c : Nat) (C : String) : Prop := c < 69 ∧ ∃ (ci : Nat) (q : vw_C) (fs : List Value), q.1 = C ∧ vwCl[ci]? = some q ∧ kcell g c (σ c) = .inr (ci, fs)
def kRi (X : kX) (g : kG) (cc : ByteArray) (Q : Int32 → kS → Prop) : Prop := ∀ (pc : Nat) (ls : Array Slot) (r : Int32) (σ : kS) (H : Heap) (locs : List Loc), decode cc pc = .ok (.ireturn, 1) → Q r σ → va_P g.1 vwCl (kW g σ) H → va_S (kA g) (kXs X).heap H locs → kWW X H locs (F0 (kXm X) pc ls [.int r])
def kRz (X : kX) (g : kG) (cc : ByteArray) (Q : Int32 → kS → Prop) : Prop := ∀ (pc : Nat) (ls : Array Slot) (r : Int32) (σ : kS) (H : Heap) (locs : List Loc), decode cc pc = .ok (.ireturn, 1) → (r = 0 ∨ r = 1) → Q r σ → va_P g.1 vwCl (kW g σ) H → va_S (kA g) (kXs X).heap H locs → kWW X H locs (F0 (kXm X) pc ls [.int r])
def kRl (X : kX) (g : kG) (cc : ByteArray) (Q : Int64 → kS → Prop) : Prop := ∀ (pc : Nat) (ls : Array Slot) (r : Int64) (σ : kS) (H : Heap) (locs : List Loc), decode cc pc = .ok (.lreturn, 1) → Q r σ → va_P g.1 vwCl (kW g σ) H → va_S (kA g) (kXs X).heap H locs → kWW X H locs (F0 (kXm X) pc ls [.long r])
def kRw (X : kX) (g : kG) (cc : ByteArray) (Q : kS → Prop) : Prop := ∀ (pc : Nat) (ls : Array Slot) (σ : kS) (H : Heap) (locs : List Loc), decode cc pc = .ok (.return_, 1) → Q σ → va_P g.1 vwCl (kW g σ) H → va_S (kA g) (kXs X).heap H locs → kWW X H locs (F0 (kXm X) pc ls [])
theorem kif_t {c A B : Prop} [Decidable c] (h : if c then A else B) (q : c) : A := by rwa [if_pos q] at h
theorem kif_f {c A B : Prop} [Decidable c] (h : if c then A else B) (q : ¬ c) : B := by rwa [if_neg q] at h
theorem ktne {x y : Int32} (h : ¬ x = y) : x.toInt ≠ y.toInt := fun e => h (Int32.toInt_inj.mp e)
section KM
variable {l : Launch} {g : kG} {y : MethodName} {own : String} {bytes : ByteArray} {maxL d : Nat} {As : List Value} {σ : kS}
theorem k_met_i {Q : Int32 → kS → Prop} (hy : plainName y.cls = true) (hown : y.cls = own) (hlen : (lg_sl As).length ≤ maxL) (body : ∀ X : kX, kXl X = l → kOk X g own bytes maxL (some .int) d → kRi X g bytes Q → kP X g maxL 0 (lv_args 0 As) [] σ) : kMi l g y bytes maxL (some .int) d As σ Q := by
  refine Met.ofW (cc := bytes) (maxL := maxL) (ret := some .int) hy rfl ?_
  intro p e s m args below meth c s₁ B hml hv
  obtain ⟨rfl, hP, hE⟩ := hv
  have hts := atoms_spec (ws := kws y bytes maxL (some .int)) B.pre
  have hr := B.returns
  have hlocks := B.notSynchronized
  rw [lg_entry_eq]
  exact body (p, l, e, (headSpec (kws y bytes maxL (some .int)) (kRm d)).room, s, m, As.toArray, below, meth, c, 0, 0, MQ below (va_Qi Q (kB g) (kA g)) As.toArray s 0 0 (kA g)) rfl
    ⟨B.exec, B.bytes, hr, hml, hown ▸ findClass_of_methodNamed B.named, fun w h => hts w (List.mem_cons_of_mem _ h), hE, hlocks, ⟨Nat.zero_le _, Nat.zero_le _⟩, ⟨Nat.le_refl _, Nat.le_refl _⟩⟩
    (fun pc ls r σ H locs dd hq hP hS => W.iret (v := r) B.exec B.bytes hr (fun t ht hW => ⟨⟨r, σ, rfl, hq, by show va_P _ _ _ t.heap; rw [ht]; exact hP⟩, hS.F ht⟩) hS.2.2 dd hlocks)
    s.heap [] _ hP va_S.rf (lv_entry As hlen)
theorem k_met_z {Q : Int32 → kS → Prop} (hy : plainName y.cls = true) (hown : y.cls = own) (hlen : (lg_sl As).length ≤ maxL) (body : ∀ X : kX, kXl X = l → kOk X g own bytes maxL (some .boolean) d → kRz X g bytes Q → kP X g maxL 0 (lv_args 0 As) [] σ) : kMi l g y bytes maxL (some .boolean) d As σ Q := by
  refine Met.ofW (cc := bytes) (maxL := maxL) (ret := some .boolean) hy rfl ?_
  intro p e s m args below meth c s₁ B hml hv
  obtain ⟨rfl, hP, hE⟩ := hv
  have hts := atoms_spec (ws := kws y bytes maxL (some .boolean)) B.pre
  have hr := B.returns
  have hlocks := B.notSynchronized
  rw [lg_entry_eq]
  exact body (p, l, e, (headSpec (kws y bytes maxL (some .boolean)) (kRm d)).room, s, m, As.toArray, below, meth, c, 0, 0, MQ below (va_Qi Q (kB g) (kA g)) As.toArray s 0 0 (kA g)) rfl
    ⟨B.exec, B.bytes, hr, hml, hown ▸ findClass_of_methodNamed B.named, fun w h => hts w (List.mem_cons_of_mem _ h), hE, hlocks, ⟨Nat.zero_le _, Nat.zero_le _⟩, ⟨Nat.le_refl _, Nat.le_refl _⟩⟩
    (fun pc ls r σ H locs dd hb hq hP hS => W.zret (v := r) (ty := .boolean) B.exec B.bytes hr (by rcases hb with rfl | rfl <;> rfl) (fun t ht hW => ⟨⟨r, σ, rfl, hq, by show va_P _ _ _ t.heap; rw [ht]; exact hP⟩, hS.F ht⟩) hS.2.2 dd hlocks)
    s.heap [] _ hP va_S.rf (lv_entry As hlen)
theorem k_met_l {Q : Int64 → kS → Prop} (hy : plainName y.cls = true) (hown : y.cls = own) (hlen : (lg_sl As).length ≤ maxL) (body : ∀ X : kX, kXl X = l → kOk X g own bytes maxL (some .long) d → kRl X g bytes Q → kP X g maxL 0 (lv_args 0 As) [] σ) : kMl l g y bytes maxL (some .long) d As σ Q := by
  refine Met.ofW (cc := bytes) (maxL := maxL) (ret := some .long) hy rfl ?_
  intro p e s m args below meth c s₁ B hml hv
  obtain ⟨rfl, hP, hE⟩ := hv
  have hts := atoms_spec (ws := kws y bytes maxL (some .long)) B.pre
  have hr := B.returns
  have hlocks := B.notSynchronized
  rw [lg_entry_eq]
  exact body (p, l, e, (headSpec (kws y bytes maxL (some .long)) (kRm d)).room, s, m, As.toArray, below, meth, c, 0, 0, MQ below (va_Ql Q (kB g) (kA g)) As.toArray s 0 0 (kA g)) rfl
    ⟨B.exec, B.bytes, hr, hml, hown ▸ findClass_of_methodNamed B.named, fun w h => hts w (List.mem_cons_of_mem _ h), hE, hlocks, ⟨Nat.zero_le _, Nat.zero_le _⟩, ⟨Nat.le_refl _, Nat.le_refl _⟩⟩
    (fun pc ls r σ H locs dd hq hP hS => W.lret (v := r) B.exec B.bytes hr (fun t ht hW => ⟨⟨r, σ, rfl, hq, by show va_P _ _ _ t.heap; rw [ht]; exact hP⟩, hS.F ht⟩) hS.2.2 dd hlocks)
    s.heap [] _ hP va_S.rf (lv_entry As hlen)
theorem k_met_v {Q : kS → Prop} (hy : plainName y.cls = true) (hown : y.cls = own) (hlen : (lg_sl As).length ≤ maxL) (body : ∀ X : kX, kXl X = l → kOk X g own bytes maxL none d → kRw X g bytes Q → kP X g maxL 0 (lv_args 0 As) [] σ) : kMv l g y bytes maxL none d As σ Q := by
  refine Met.ofW (cc := bytes) (maxL := maxL) (ret := none) hy rfl ?_
  intro p e s m args below meth c s₁ B hml hv
  obtain ⟨rfl, hP, hE⟩ := hv
  have hts := atoms_spec (ws := kws y bytes maxL none) B.pre
  have hr := B.returns
  have hlocks := B.notSynchronized
  rw [lg_entry_eq]
  exact body (p, l, e, (headSpec (kws y bytes maxL none) (kRm d)).room, s, m, As.toArray, below, meth, c, 0, 0, MQ below (va_Qv Q (kB g) (kA g)) As.toArray s 0 0 (kA g)) rfl
    ⟨B.exec, B.bytes, hr, hml, hown ▸ findClass_of_methodNamed B.named, fun w h => hts w (List.mem_cons_of_mem _ h), hE, hlocks, ⟨Nat.zero_le _, Nat.zero_le _⟩, ⟨Nat.le_refl _, Nat.le_refl _⟩⟩
    (fun pc ls σ H locs dd hq hP hS => W.vret B.exec B.bytes hr (fun t ht hW => ⟨⟨σ, rfl, hq, by show va_P _ _ _ t.heap; rw [ht]; exact hP⟩, hS.F ht⟩) hS.2.2 dd hlocks)
    s.heap [] _ hP va_S.rf (lv_entry As hlen)
end KM
section KC
variable {X : kX} {g : kG} {own : String} {cc : ByteArray} {nL D : Nat} {ret : Option FieldType} {pc : Nat} {lv lv' : List (Nat × Value)} {st rest : List Value} {σ : kS}
theorem r_iret {ls0 : List (Nat × Value)} {Q : Int32 → kS → Prop} (hZ : kRi X g cc Q) {r : Int32} (d : decode cc pc = .ok (.ireturn, 1)) (h : Q r σ) : kP X g nL pc lv [.int r] σ := fun H locs ls hP hS _ => hZ pc ls r σ H locs d h hP hS
theorem r_zret {ls0 : List (Nat × Value)} {Q : Int32 → kS → Prop} (hZ : kRz X g cc Q) {r : Int32} (d : decode cc pc = .ok (.ireturn, 1)) (hb : r = 0 ∨ r = 1) (h : Q r σ) : kP X g nL pc lv [.int r] σ := fun H locs ls hP hS _ => hZ pc ls r σ H locs d hb h hP hS
theorem r_lret {ls0 : List (Nat × Value)} {Q : Int64 → kS → Prop} (hZ : kRl X g cc Q) {r : Int64} (d : decode cc pc = .ok (.lreturn, 1)) (h : Q r σ) : kP X g nL pc lv [.long r] σ := fun H locs ls hP hS _ => hZ pc ls r σ H locs d h hP hS
theorem r_vret {ls0 : List (Nat × Value)} {Q : kS → Prop} (hZ : kRw X g cc Q) (d : decode cc pc = .ok (.return_, 1)) (h : Q σ) : kP X g nL pc lv [] σ := fun H locs ls hP hS _ => hZ pc ls σ H locs d h hP hS
theorem kCallB (hc : kOk X g own cc nL ret D) {y : MethodName} {bytes : ByteArray} {maxL d n idx : Nat} {rt : Option FieldType} (cw : kCw y bytes maxL rt n) (hlk : Cond.methodLink own idx y ∈ kT) (hd : d + 1 ≤ D) (hm : maxL ≤ 45) : CallB (kXR X) (kXs X) (kXa X) own idx y bytes maxL rt (kws y bytes maxL rt) (kRm d) 0 0 n := by
  have hts := hc.2.2.2.2.2.1
  refine ⟨rfl, rfl, Nat.le_trans hd hc.2.2.2.2.2.2.2.2.2.1, Nat.le_trans ?_ hc.2.2.2.2.2.2.2.2.2.2, fun w hw a' U hW => ?_, List.mem_cons_self, hts _ cw.1, hts _ cw.2.1, cw.2.2.1, fun sig h => ?_, hts _ hlk⟩
  · show 8 + (maxL + 11) + 64 * d ≤ 64 * D
    omega
  · have hw' : w ∈ kT := by
      rcases List.mem_cons.mp hw with rfl | h
      · exact cw.1
      · exact h
    exact word_at hW (good_of_word (kg_all hw')) (hts w hw')
  · have h2 := cw.2.2.2
    rw [h] at h2
    exact (Option.some.inj h2).symm
theorem kPreS (hc : kOk X g own cc nL ret D) {H : Heap} {locs : List Loc} {As : List Value} (hP : va_P g.1 vwCl (kW g σ) H) (hS : va_S (kA g) (kXs X).heap H locs) : ∀ U : State, U.heap = H → (kXs X).WarmedH U.vm → va_Pc As (kPre g σ) As.toArray U := fun U hU hW => ⟨rfl, by rw [hU]; exact hP, by rw [hU]; exact (hc.2.2.2.2.2.2.1.kept hS.2.1).moved hW.alike⟩
theorem kPreV (hc : kOk X g own cc nL ret D) {H : Heap} {locs : List Loc} {c : Nat} {C : String} (rv : kRv g σ c C) (hP : va_P g.1 vwCl (kW g σ) H) : ∃ cell : Cell, H[g.2.2.1 + c]? = some cell ∧ cell.vm.isStatics = false ∧ (kXs X).vm.findClass C = some cell.cls := by
  obtain ⟨hlt, ci, q, fs, rfl, hq, ho⟩ := rv
  exact va_recv hc.2.2.2.2.2.2.1.1 hP hq (by rw [kW_at hlt, ho])

theorem r_callVi (hc : kOk X g own cc nL ret D) {y : MethodName} {bytes : ByteArray} {maxL d n idx c : Nat} {rt : Option FieldType} {C : String} {As : List Value} {Q : Int32 → kS → Prop} (hM : kMi (kXl X) g y bytes maxL rt d (kz g c :: As) σ Q) (cw : kCw y bytes maxL rt n) (hi : Cond.instanceMethod y ∈ kT) (hse : Cond.selects C y y ∈ kT) (hlk : Cond.methodLink own idx y ∈ kT) (hd : d + 1 ≤ D) (hm : maxL ≤ 45) (rv : kRv g σ c C) (hn : As.length = n) (hst : st = As.reverse ++ kz g c :: rest) (hrest : (rest.map fun v => v.category).sum ≤ 8) (dd : decode cc pc = .ok (.invokevirtual idx, 3)) (kk : ∀ (r : Int32) (τ : kS), Q r τ → kP X g nL (pc + 3) lv (.int r :: rest) τ) : kP X g nL pc lv st σ := by
  intro H locs ls hP hS hl
  subst hst
  exact va_calli (va_runV (As := As) (rest := rest) (C := C) ⟨hc.1, hc.2.1, hc.2.2.2.1, hc.2.2.2.2.1, hc.2.2.2.2.2.1⟩ hM ⟨kCallB hc cw hlk hd hm, hc.2.2.2.2.2.1 _ hi, hc.2.2.2.2.2.1 _ hse⟩ ⟨kPre_blind, kPreV hc (locs := locs) rv hP, kPreS hc hP hS⟩ rfl hn hl.1 rfl (lv_room hrest) dd hc.2.2.2.2.2.2.2.2.1) hS (fun q _ h => h) (fun q h => h) (fun r u t H1 locs1 ht hvm hq hB hz hk hS1 => kk r u hq H1 locs1 ls (by rw [← ht]; exact hB) hS1 hl)
theorem r_callSi (hc : kOk X g own cc nL ret D) {y : MethodName} {bytes : ByteArray} {maxL d n idx : Nat} {rt : Option FieldType} {As : List Value} {Q : Int32 → kS → Prop} (hM : kMi (kXl X) g y bytes maxL rt d As σ Q) (cw : kCw y bytes maxL rt n) (hi : Cond.static y ∈ kT) (hlk : Cond.methodLink own idx y ∈ kT) (hd : d + 1 ≤ D) (hm : maxL ≤ 45) (hn : As.length = n) (hst : st = As.reverse ++ rest) (hrest : (rest.map fun v => v.category).sum ≤ 8) (dd : decode cc pc = .ok (.invokestatic idx, 3)) (kk : ∀ (r : Int32) (τ : kS), Q r τ → kP X g nL (pc + 3) lv (.int r :: rest) τ) : kP X g nL pc lv st σ := by
  intro H locs ls hP hS hl
  subst hst
  exact va_calli (va_runS (As := As) (rest := rest) ⟨hc.1, hc.2.1, hc.2.2.2.1, hc.2.2.2.2.1, hc.2.2.2.2.2.1⟩ hM ⟨kCallB hc cw hlk hd hm, hc.2.2.2.2.2.1 _ hi⟩ ⟨kPre_blind, kPreS hc hP hS⟩ rfl hn hl.1 rfl (lv_room hrest) dd hc.2.2.2.2.2.2.2.2.1) hS (fun q _ h => h) (fun q h => h) (fun r u t H1 locs1 ht hvm hq hB hz hk hS1 => kk r u hq H1 locs1 ls (by rw [← ht]; exact hB) hS1 hl)
theorem r_callVl (hc : kOk X g own cc nL ret D) {y : MethodName} {bytes : ByteArray} {maxL d n idx c : Nat} {rt : Option FieldType} {C : String} {As : List Value} {Q : Int64 → kS → Prop} (hM : kMl (kXl X) g y bytes maxL rt d (kz g c :: As) σ Q) (cw : kCw y bytes maxL rt n) (hi : Cond.instanceMethod y ∈ kT) (hse : Cond.selects C y y ∈ kT) (hlk : Cond.methodLink own idx y ∈ kT) (hd : d + 1 ≤ D) (hm : maxL ≤ 45) (rv : kRv g σ c C) (hn : As.length = n) (hst : st = As.reverse ++ kz g c :: rest) (hrest : (rest.map fun v => v.category).sum ≤ 8) (dd : decode cc pc = .ok (.invokevirtual idx, 3)) (kk : ∀ (r : Int64) (τ : kS), Q r τ → kP X g nL (pc + 3) lv (.long r :: rest) τ) : kP X g nL pc lv st σ := by
  intro H locs ls hP hS hl
  subst hst
  exact va_calll (va_runV (As := As) (rest := rest) (C := C) ⟨hc.1, hc.2.1, hc.2.2.2.1, hc.2.2.2.2.1, hc.2.2.2.2.2.1⟩ hM ⟨kCallB hc cw hlk hd hm, hc.2.2.2.2.2.1 _ hi, hc.2.2.2.2.2.1 _ hse⟩ ⟨kPre_blind, kPreV hc (locs := locs) rv hP, kPreS hc hP hS⟩ rfl hn hl.1 rfl (lv_room hrest) dd hc.2.2.2.2.2.2.2.2.1) hS (fun q _ h => h) (fun q h => h) (fun r u t H1 locs1 ht hvm hq hB hz hk hS1 => kk r u hq H1 locs1 ls (by rw [← ht]; exact hB) hS1 hl)
theorem r_callSl (hc : kOk X g own cc nL ret D) {y : MethodName} {bytes : ByteArray} {maxL d n idx : Nat} {rt : Option FieldType} {As : List Value} {Q : Int64 → kS → Prop} (hM : kMl (kXl X) g y bytes maxL rt d As σ Q) (cw : kCw y bytes maxL rt n) (hi : Cond.static y ∈ kT) (hlk : Cond.methodLink own idx y ∈ kT) (hd : d + 1 ≤ D) (hm : maxL ≤ 45) (hn : As.length = n) (hst : st = As.reverse ++ rest) (hrest : (rest.map fun v => v.category).sum ≤ 8) (dd : decode cc pc = .ok (.invokestatic idx, 3)) (kk : ∀ (r : Int64) (τ : kS), Q r τ → kP X g nL (pc + 3) lv (.long r :: rest) τ) : kP X g nL pc lv st σ := by
  intro H locs ls hP hS hl
  subst hst
  exact va_calll (va_runS (As := As) (rest := rest) ⟨hc.1, hc.2.1, hc.2.2.2.1, hc.2.2.2.2.1, hc.2.2.2.2.2.1⟩ hM ⟨kCallB hc cw hlk hd hm, hc.2.2.2.2.2.1 _ hi⟩ ⟨kPre_blind, kPreS hc hP hS⟩ rfl hn hl.1 rfl (lv_room hrest) dd hc.2.2.2.2.2.2.2.2.1) hS (fun q _ h => h) (fun q h => h) (fun r u t H1 locs1 ht hvm hq hB hz hk hS1 => kk r u hq H1 locs1 ls (by rw [← ht]; exact hB) hS1 hl)
theorem r_callVv (hc : kOk X g own cc nL ret D) {y : MethodName} {bytes : ByteArray} {maxL d n idx c : Nat} {rt : Option FieldType} {C : String} {As : List Value} {Q : kS → Prop} (hM : kMv (kXl X) g y bytes maxL rt d (kz g c :: As) σ Q) (cw : kCw y bytes maxL rt n) (hi : Cond.instanceMethod y ∈ kT) (hse : Cond.selects C y y ∈ kT) (hlk : Cond.methodLink own idx y ∈ kT) (hd : d + 1 ≤ D) (hm : maxL ≤ 45) (rv : kRv g σ c C) (hn : As.length = n) (hst : st = As.reverse ++ kz g c :: rest) (hrest : (rest.map fun v => v.category).sum ≤ 8) (dd : decode cc pc = .ok (.invokevirtual idx, 3)) (kk : ∀ τ : kS, Q τ → kP X g nL (pc + 3) lv rest τ) : kP X g nL pc lv st σ := by
  intro H locs ls hP hS hl
  subst hst
  exact va_callv (va_runV (As := As) (rest := rest) (C := C) ⟨hc.1, hc.2.1, hc.2.2.2.1, hc.2.2.2.2.1, hc.2.2.2.2.2.1⟩ hM ⟨kCallB hc cw hlk hd hm, hc.2.2.2.2.2.1 _ hi, hc.2.2.2.2.2.1 _ hse⟩ ⟨kPre_blind, kPreV hc (locs := locs) rv hP, kPreS hc hP hS⟩ rfl hn hl.1 rfl (lv_room hrest) dd hc.2.2.2.2.2.2.2.2.1) hS (fun q _ h => h) (fun q h => h) (fun u t H1 locs1 ht hvm hq hB hz hk hS1 => kk u hq H1 locs1 ls (by rw [← ht]; exact hB) hS1 hl)
theorem r_callSv (hc : kOk X g own cc nL ret D) {y : MethodName} {bytes : ByteArray} {maxL d n idx : Nat} {rt : Option FieldType} {As : List Value} {Q : kS → Prop} (hM : kMv (kXl X) g y bytes maxL rt d As σ Q) (cw : kCw y bytes maxL rt n) (hi : Cond.static y ∈ kT) (hlk : Cond.methodLink own idx y ∈ kT) (hd : d + 1 ≤ D) (hm : maxL ≤ 45) (hn : As.length = n) (hst : st = As.reverse ++ rest) (hrest : (rest.map fun v => v.category).sum ≤ 8) (dd : decode cc pc = .ok (.invokestatic idx, 3)) (kk : ∀ τ : kS, Q τ → kP X g nL (pc + 3) lv rest τ) : kP X g nL pc lv st σ := by
  intro H locs ls hP hS hl
  subst hst
  exact va_callv (va_runS (As := As) (rest := rest) ⟨hc.1, hc.2.1, hc.2.2.2.1, hc.2.2.2.2.1, hc.2.2.2.2.2.1⟩ hM ⟨kCallB hc cw hlk hd hm, hc.2.2.2.2.2.1 _ hi⟩ ⟨kPre_blind, kPreS hc hP hS⟩ rfl hn hl.1 rfl (lv_room hrest) dd hc.2.2.2.2.2.2.2.2.1) hS (fun q _ h => h) (fun q h => h) (fun u t H1 locs1 ht hvm hq hB hz hk hS1 => kk u hq H1 locs1 ls (by rw [← ht]; exact hB) hS1 hl)
theorem kcopy_room {n D : Nat} (h : n ≤ 8) (hd : 1 ≤ D) : n + (nativeFrameWords "java/lang/System" "arraycopy" 5 + 11) ≤ 64 * D := by
  have e : nativeFrameWords "java/lang/System" "arraycopy" 5 + 11 ≤ 56 := by decide +kernel
  omega
theorem r_copy (hc : kOk X g own cc nL ret D) {idx a b n0 n1 : Nat} (ha : kInts a n0) (hb : kInts b n1) (hlk : Cond.methodLink own idx arraycopyName ∈ kT) (hd : 1 ≤ D) {sp dp n : Int32} (h1 : ¬ sp < 0) (h2 : ¬ dp < 0) (h3 : ¬ n < 0) (h4 : sp.toNatClampNeg + n.toNatClampNeg ≤ n0) (h5 : dp.toNatClampNeg + n.toNatClampNeg ≤ n1) (hrest : (rest.map fun v => v.category).sum ≤ 8) (dd : decode cc pc = .ok (.invokestatic idx, 3)) (kk : kP X g nL (pc + 3) lv rest (va_up σ b (va_cpy (σ a) (σ b) sp.toNatClampNeg dp.toNatClampNeg n.toNatClampNeg))) : kP X g nL pc lv (.int n :: .int dp :: kz g b :: .int sp :: kz g a :: rest) σ :=
  fun H locs ls hP hS hl => va_copyi (ty := .int) hc.1 hc.2.1 (hc.2.2.2.1.trans hl.1.symm) hc.2.2.2.2.1 (hc.2.2.2.2.2.1 _ hlk) (hc.2.2.2.2.2.1 _ wv_O_arraycopy) (hc.2.2.2.2.2.1 _ wt_O_arraycopy) (hc.2.2.2.2.2.1 _ wn_J10) hc.2.2.2.2.2.2.1.1 hP kW_D hS a b 0 0 (by rw [kW_at ha.1, ha.2]) (by rw [kW_at hb.1, hb.2]) rfl rfl rfl h1 h2 h3 h4 h5 (fun _ _ => rfl) (Nat.le_trans hd hc.2.2.2.2.2.2.2.2.2.1) (Nat.le_trans (kcopy_room hrest hd) hc.2.2.2.2.2.2.2.2.2.2) dd (fun H1 locs1 hP1 _ hS1 => kk H1 locs1 ls (by rw [kW_set (hb.2 g _)] at hP1; exact hP1) hS1 hl)
end KC
/-! cells -/
def kHall (c : Nat) : Prop := c = 19 ∨ c = 25 ∨ c = 33 ∨ c = 39
def kRow (c : Nat) : Prop := ∃ r : Nat, r < 8 ∧ c = 2 + 2 * r
theorem kHall_lt {c : Nat} (h : kHall c) : c < 69 := by unfold kHall at h; omega
theorem kRow_lt {c : Nat} (h : kRow c) : c < 69 := by obtain ⟨r, hr, rfl⟩ := h; omega
theorem kc_Hall {g : kG} {c : Nat} {r : Nat → Int32} (h : kHall c) : kcell g c r = .inr (3, [kz g (c + 1), kz g (c + 2), kz g (c + 3), kz g (c + 4), kz g (c + 5), .int (r 5), .int (r 6), .int (r 7), .int (r 8), .int (r 9), .int (r 10)]) := by
  rcases h with rfl | rfl | rfl | rfl <;> rfl
theorem kc_Row {g : kG} {c : Nat} {r : Nat → Int32} (h : kRow c) : kcell g c r = .inr (4, [kz g (c + 1), .int (r 1), .int (r 2)]) := by
  obtain ⟨k, hk, rfl⟩ := h
  match k, hk with
  | 0, _ => rfl
  | 1, _ => rfl
  | 2, _ => rfl
  | 3, _ => rfl
  | 4, _ => rfl
  | 5, _ => rfl
  | 6, _ => rfl
  | 7, _ => rfl
  | n + 8, h => exact absurd h (by omega)
theorem kRow_at {i : Int32} (h : vp_in i 8) : kRow (2 + 2 * i.toNatClampNeg) := ⟨_, Nat.not_le.mp fun q => h (Or.inr q), rfl⟩
theorem kHall_at {i : Int32} (h : vp_in i 2) : kHall (19 + 6 * i.toNatClampNeg) := by
  have h1 : i.toNatClampNeg < 2 := Nat.not_le.mp fun q => h (Or.inr q)
  unfold kHall
  omega
theorem kia_Row {c : Nat} (h : kRow c) : kInts (c + 1) 40 := by
  obtain ⟨k, hk, rfl⟩ := h
  refine ⟨by omega, fun g r => ?_⟩
  match k, hk with
  | 0, _ => rfl
  | 1, _ => rfl
  | 2, _ => rfl
  | 3, _ => rfl
  | 4, _ => rfl
  | 5, _ => rfl
  | 6, _ => rfl
  | 7, _ => rfl
  | n + 8, h => exact absurd h (by omega)

theorem kia_Hall_1 {c : Nat} (h : kHall c) : kInts (c + 1) 4 := by rcases h with rfl | rfl | rfl | rfl <;> exact ⟨by decide, fun _ _ => rfl⟩
theorem kia_Hall_2 {c : Nat} (h : kHall c) : kInts (c + 2) 32 := by rcases h with rfl | rfl | rfl | rfl <;> exact ⟨by decide, fun _ _ => rfl⟩
theorem kia_Hall_3 {c : Nat} (h : kHall c) : kInts (c + 3) 5 := by rcases h with rfl | rfl | rfl | rfl <;> exact ⟨by decide, fun _ _ => rfl⟩
theorem kia_Hall_4 {c : Nat} (h : kHall c) : kInts (c + 4) 5 := by rcases h with rfl | rfl | rfl | rfl <;> exact ⟨by decide, fun _ _ => rfl⟩
theorem kia_Hall_5 {c : Nat} (h : kHall c) : kInts (c + 5) 5 := by rcases h with rfl | rfl | rfl | rfl <;> exact ⟨by decide, fun _ _ => rfl⟩
theorem kia_3 : kInts 3 40 := ⟨by decide, fun _ _ => rfl⟩
theorem kia_5 : kInts 5 40 := ⟨by decide, fun _ _ => rfl⟩
theorem kia_7 : kInts 7 40 := ⟨by decide, fun _ _ => rfl⟩
theorem kia_9 : kInts 9 40 := ⟨by decide, fun _ _ => rfl⟩
theorem kia_11 : kInts 11 40 := ⟨by decide, fun _ _ => rfl⟩
theorem kia_13 : kInts 13 40 := ⟨by decide, fun _ _ => rfl⟩
theorem kia_15 : kInts 15 40 := ⟨by decide, fun _ _ => rfl⟩
theorem kia_17 : kInts 17 40 := ⟨by decide, fun _ _ => rfl⟩
theorem kia_20 : kInts 20 4 := ⟨by decide, fun _ _ => rfl⟩
theorem kia_21 : kInts 21 32 := ⟨by decide, fun _ _ => rfl⟩
theorem kia_22 : kInts 22 5 := ⟨by decide, fun _ _ => rfl⟩
theorem kia_23 : kInts 23 5 := ⟨by decide, fun _ _ => rfl⟩
theorem kia_24 : kInts 24 5 := ⟨by decide, fun _ _ => rfl⟩
theorem kia_26 : kInts 26 4 := ⟨by decide, fun _ _ => rfl⟩
theorem kia_27 : kInts 27 32 := ⟨by decide, fun _ _ => rfl⟩
theorem kia_28 : kInts 28 5 := ⟨by decide, fun _ _ => rfl⟩
theorem kia_29 : kInts 29 5 := ⟨by decide, fun _ _ => rfl⟩
theorem kia_30 : kInts 30 5 := ⟨by decide, fun _ _ => rfl⟩
theorem kia_32 : kInts 32 120 := ⟨by decide, fun _ _ => rfl⟩
theorem kia_34 : kInts 34 4 := ⟨by decide, fun _ _ => rfl⟩
theorem kia_35 : kInts 35 32 := ⟨by decide, fun _ _ => rfl⟩
theorem kia_36 : kInts 36 5 := ⟨by decide, fun _ _ => rfl⟩
theorem kia_37 : kInts 37 5 := ⟨by decide, fun _ _ => rfl⟩
theorem kia_38 : kInts 38 5 := ⟨by decide, fun _ _ => rfl⟩
theorem kia_40 : kInts 40 4 := ⟨by decide, fun _ _ => rfl⟩
theorem kia_41 : kInts 41 32 := ⟨by decide, fun _ _ => rfl⟩
theorem kia_42 : kInts 42 5 := ⟨by decide, fun _ _ => rfl⟩
theorem kia_43 : kInts 43 5 := ⟨by decide, fun _ _ => rfl⟩
theorem kia_44 : kInts 44 5 := ⟨by decide, fun _ _ => rfl⟩
theorem kia_46 : kInts 46 24 := ⟨by decide, fun _ _ => rfl⟩
theorem kia_47 : kInts 47 24 := ⟨by decide, fun _ _ => rfl⟩
theorem kia_48 : kInts 48 24 := ⟨by decide, fun _ _ => rfl⟩
theorem kia_50 : kInts 50 5 := ⟨by decide, fun _ _ => rfl⟩
theorem kia_51 : kInts 51 5 := ⟨by decide, fun _ _ => rfl⟩
theorem kia_52 : kInts 52 4 := ⟨by decide, fun _ _ => rfl⟩
theorem kia_54 : kInts 54 16 := ⟨by decide, fun _ _ => rfl⟩
theorem kia_56 : kInts 56 8 := ⟨by decide, fun _ _ => rfl⟩
theorem kia_57 : kInts 57 8 := ⟨by decide, fun _ _ => rfl⟩
theorem kia_58 : kInts 58 320 := ⟨by decide, fun _ _ => rfl⟩
theorem kia_59 : kInts 59 57 := ⟨by decide, fun _ _ => rfl⟩
theorem kia_60 : kInts 60 40 := ⟨by decide, fun _ _ => rfl⟩
theorem kia_61 : kInts 61 120 := ⟨by decide, fun _ _ => rfl⟩
theorem kia_62 : kInts 62 57 := ⟨by decide, fun _ _ => rfl⟩
theorem kia_63 : kInts 63 1368 := ⟨by decide, fun _ _ => rfl⟩
theorem kia_64 : kInts 64 12 := ⟨by decide, fun _ _ => rfl⟩
theorem kia_65 : kInts 65 12 := ⟨by decide, fun _ _ => rfl⟩
theorem kia_67 : kInts 67 114 := ⟨by decide, fun _ _ => rfl⟩
theorem kia_68 : kInts 68 16 := ⟨by decide, fun _ _ => rfl⟩
theorem rv_X0 {g : kG} {σ : kS} : kRv g σ 45 RX0 := ⟨by decide, 0, _, _, rfl, rfl, rfl⟩
theorem rv_X1 {g : kG} {σ : kS} : kRv g σ 53 RX1 := ⟨by decide, 1, _, _, rfl, rfl, rfl⟩
theorem rv_X2 {g : kG} {σ : kS} : kRv g σ 49 RX2 := ⟨by decide, 2, _, _, rfl, rfl, rfl⟩
theorem rv_X5 {g : kG} {σ : kS} : kRv g σ 31 RX5 := ⟨by decide, 5, _, _, rfl, rfl, rfl⟩
theorem rv_X6 {g : kG} {σ : kS} : kRv g σ 0 RX6 := ⟨by decide, 6, _, _, rfl, rfl, rfl⟩
theorem rv_X7 {g : kG} {σ : kS} : kRv g σ 55 RX7 := ⟨by decide, 7, _, _, rfl, rfl, rfl⟩
theorem rv_X3 {g : kG} {σ : kS} {c : Nat} (h : kHall c) : kRv g σ c RX3 := ⟨kHall_lt h, 3, _, _, rfl, rfl, kc_Hall h⟩
theorem rv_X4 {g : kG} {σ : kS} {c : Nat} (h : kRow c) : kRv g σ c RX4 := ⟨kRow_lt h, 4, _, _, rfl, rfl, kc_Row h⟩
section KF
variable {X : kX} {g : kG} {own : String} {cc : ByteArray} {nL D : Nat} {ret : Option FieldType} {pc : Nat} {lv : List (Nat × Value)} {st : List Value} {σ : kS}
theorem gf_X0_0 (hc : kOk X g own cc nL ret D) {idx : Nat} (hl : Cond.fieldLink own idx "KeyDrift$Acts" "sorts" "[I" ∈ kT) (d : decode cc pc = .ok (.getfield idx, 3)) (kk : kP X g nL (pc + 3) lv (kz g 46 :: st) σ) : kP X g nL pc lv (kz g 45 :: st) σ := r_getf hc inX0 rfl (by decide) (show kcell g 45 (σ 45) = _ from rfl) 0 (by decide) hl rfl d kk
theorem gf_X0_1 (hc : kOk X g own cc nL ret D) {idx : Nat} (hl : Cond.fieldLink own idx "KeyDrift$Acts" "pupils" "[I" ∈ kT) (d : decode cc pc = .ok (.getfield idx, 3)) (kk : kP X g nL (pc + 3) lv (kz g 47 :: st) σ) : kP X g nL pc lv (kz g 45 :: st) σ := r_getf hc inX0 rfl (by decide) (show kcell g 45 (σ 45) = _ from rfl) 1 (by decide) hl rfl d kk
theorem gf_X0_2 (hc : kOk X g own cc nL ret D) {idx : Nat} (hl : Cond.fieldLink own idx "KeyDrift$Acts" "before" "[I" ∈ kT) (d : decode cc pc = .ok (.getfield idx, 3)) (kk : kP X g nL (pc + 3) lv (kz g 48 :: st) σ) : kP X g nL pc lv (kz g 45 :: st) σ := r_getf hc inX0 rfl (by decide) (show kcell g 45 (σ 45) = _ from rfl) 2 (by decide) hl rfl d kk
theorem gf_X0_3 (hc : kOk X g own cc nL ret D) {idx : Nat} (hl : Cond.fieldLink own idx "KeyDrift$Acts" "next" "I" ∈ kT) (d : decode cc pc = .ok (.getfield idx, 3)) (kk : kP X g nL (pc + 3) lv (.int (σ 45 3) :: st) σ) : kP X g nL pc lv (kz g 45 :: st) σ := r_getf hc inX0 rfl (by decide) (show kcell g 45 (σ 45) = _ from rfl) 3 (by decide) hl rfl d kk
theorem pf_X0_3 (hc : kOk X g own cc nL ret D) {idx : Nat} (hl : Cond.fieldLink own idx "KeyDrift$Acts" "next" "I" ∈ kT) {v : Int32} (d : decode cc pc = .ok (.putfield idx, 3)) (kk : kP X g nL (pc + 3) lv st (st2 σ 45 3 v)) : kP X g nL pc lv (.int v :: kz g 45 :: st) σ := r_putf hc inX0 tyX0_ok nmX0 rfl (by decide) (show kcell g 45 (σ 45) = _ from rfl) 3 (by decide) hl rfl rfl rfl (Nat.le_of_ble_eq_true rfl) (by simp [kcell, kRowB, kHallB, upd]) d kk
theorem gf_X0_4 (hc : kOk X g own cc nL ret D) {idx : Nat} (hl : Cond.fieldLink own idx "KeyDrift$Acts" "kept" "I" ∈ kT) (d : decode cc pc = .ok (.getfield idx, 3)) (kk : kP X g nL (pc + 3) lv (.int (σ 45 4) :: st) σ) : kP X g nL pc lv (kz g 45 :: st) σ := r_getf hc inX0 rfl (by decide) (show kcell g 45 (σ 45) = _ from rfl) 4 (by decide) hl rfl d kk
theorem pf_X0_4 (hc : kOk X g own cc nL ret D) {idx : Nat} (hl : Cond.fieldLink own idx "KeyDrift$Acts" "kept" "I" ∈ kT) {v : Int32} (d : decode cc pc = .ok (.putfield idx, 3)) (kk : kP X g nL (pc + 3) lv st (st2 σ 45 4 v)) : kP X g nL pc lv (.int v :: kz g 45 :: st) σ := r_putf hc inX0 tyX0_ok nmX0 rfl (by decide) (show kcell g 45 (σ 45) = _ from rfl) 4 (by decide) hl rfl rfl rfl (Nat.le_of_ble_eq_true rfl) (by simp [kcell, kRowB, kHallB, upd]) d kk
theorem gf_X1_0 (hc : kOk X g own cc nL ret D) {idx : Nat} (hl : Cond.fieldLink own idx "KeyDrift$Asked" "bodies" "[I" ∈ kT) (d : decode cc pc = .ok (.getfield idx, 3)) (kk : kP X g nL (pc + 3) lv (kz g 54 :: st) σ) : kP X g nL pc lv (kz g 53 :: st) σ := r_getf hc inX1 rfl (by decide) (show kcell g 53 (σ 53) = _ from rfl) 0 (by decide) hl rfl d kk
theorem gf_X1_1 (hc : kOk X g own cc nL ret D) {idx : Nat} (hl : Cond.fieldLink own idx "KeyDrift$Asked" "left" "I" ∈ kT) (d : decode cc pc = .ok (.getfield idx, 3)) (kk : kP X g nL (pc + 3) lv (.int (σ 53 1) :: st) σ) : kP X g nL pc lv (kz g 53 :: st) σ := r_getf hc inX1 rfl (by decide) (show kcell g 53 (σ 53) = _ from rfl) 1 (by decide) hl rfl d kk
theorem pf_X1_1 (hc : kOk X g own cc nL ret D) {idx : Nat} (hl : Cond.fieldLink own idx "KeyDrift$Asked" "left" "I" ∈ kT) {v : Int32} (d : decode cc pc = .ok (.putfield idx, 3)) (kk : kP X g nL (pc + 3) lv st (st2 σ 53 1 v)) : kP X g nL pc lv (.int v :: kz g 53 :: st) σ := r_putf hc inX1 tyX1_ok nmX1 rfl (by decide) (show kcell g 53 (σ 53) = _ from rfl) 1 (by decide) hl rfl rfl rfl (Nat.le_of_ble_eq_true rfl) (by simp [kcell, kRowB, kHallB, upd]) d kk
theorem gf_X1_2 (hc : kOk X g own cc nL ret D) {idx : Nat} (hl : Cond.fieldLink own idx "KeyDrift$Asked" "number" "I" ∈ kT) (d : decode cc pc = .ok (.getfield idx, 3)) (kk : kP X g nL (pc + 3) lv (.int (σ 53 2) :: st) σ) : kP X g nL pc lv (kz g 53 :: st) σ := r_getf hc inX1 rfl (by decide) (show kcell g 53 (σ 53) = _ from rfl) 2 (by decide) hl rfl d kk
theorem pf_X1_2 (hc : kOk X g own cc nL ret D) {idx : Nat} (hl : Cond.fieldLink own idx "KeyDrift$Asked" "number" "I" ∈ kT) {v : Int32} (d : decode cc pc = .ok (.putfield idx, 3)) (kk : kP X g nL (pc + 3) lv st (st2 σ 53 2 v)) : kP X g nL pc lv (.int v :: kz g 53 :: st) σ := r_putf hc inX1 tyX1_ok nmX1 rfl (by decide) (show kcell g 53 (σ 53) = _ from rfl) 2 (by decide) hl rfl rfl rfl (Nat.le_of_ble_eq_true rfl) (by simp [kcell, kRowB, kHallB, upd]) d kk
theorem gf_X1_3 (hc : kOk X g own cc nL ret D) {idx : Nat} (hl : Cond.fieldLink own idx "KeyDrift$Asked" "sort" "I" ∈ kT) (d : decode cc pc = .ok (.getfield idx, 3)) (kk : kP X g nL (pc + 3) lv (.int (σ 53 3) :: st) σ) : kP X g nL pc lv (kz g 53 :: st) σ := r_getf hc inX1 rfl (by decide) (show kcell g 53 (σ 53) = _ from rfl) 3 (by decide) hl rfl d kk
theorem pf_X1_3 (hc : kOk X g own cc nL ret D) {idx : Nat} (hl : Cond.fieldLink own idx "KeyDrift$Asked" "sort" "I" ∈ kT) {v : Int32} (d : decode cc pc = .ok (.putfield idx, 3)) (kk : kP X g nL (pc + 3) lv st (st2 σ 53 3 v)) : kP X g nL pc lv (.int v :: kz g 53 :: st) σ := r_putf hc inX1 tyX1_ok nmX1 rfl (by decide) (show kcell g 53 (σ 53) = _ from rfl) 3 (by decide) hl rfl rfl rfl (Nat.le_of_ble_eq_true rfl) (by simp [kcell, kRowB, kHallB, upd]) d kk
theorem gf_X1_4 (hc : kOk X g own cc nL ret D) {idx : Nat} (hl : Cond.fieldLink own idx "KeyDrift$Asked" "learnt" "I" ∈ kT) (d : decode cc pc = .ok (.getfield idx, 3)) (kk : kP X g nL (pc + 3) lv (.int (σ 53 4) :: st) σ) : kP X g nL pc lv (kz g 53 :: st) σ := r_getf hc inX1 rfl (by decide) (show kcell g 53 (σ 53) = _ from rfl) 4 (by decide) hl rfl d kk
theorem pf_X1_4 (hc : kOk X g own cc nL ret D) {idx : Nat} (hl : Cond.fieldLink own idx "KeyDrift$Asked" "learnt" "I" ∈ kT) {v : Int32} (d : decode cc pc = .ok (.putfield idx, 3)) (kk : kP X g nL (pc + 3) lv st (st2 σ 53 4 v)) : kP X g nL pc lv (.int v :: kz g 53 :: st) σ := r_putf hc inX1 tyX1_ok nmX1 rfl (by decide) (show kcell g 53 (σ 53) = _ from rfl) 4 (by decide) hl rfl rfl rfl (Nat.le_of_ble_eq_true rfl) (by simp [kcell, kRowB, kHallB, upd]) d kk
theorem gf_X1_5 (hc : kOk X g own cc nL ret D) {idx : Nat} (hl : Cond.fieldLink own idx "KeyDrift$Asked" "span" "I" ∈ kT) (d : decode cc pc = .ok (.getfield idx, 3)) (kk : kP X g nL (pc + 3) lv (.int (σ 53 5) :: st) σ) : kP X g nL pc lv (kz g 53 :: st) σ := r_getf hc inX1 rfl (by decide) (show kcell g 53 (σ 53) = _ from rfl) 5 (by decide) hl rfl d kk
theorem pf_X1_5 (hc : kOk X g own cc nL ret D) {idx : Nat} (hl : Cond.fieldLink own idx "KeyDrift$Asked" "span" "I" ∈ kT) {v : Int32} (d : decode cc pc = .ok (.putfield idx, 3)) (kk : kP X g nL (pc + 3) lv st (st2 σ 53 5 v)) : kP X g nL pc lv (.int v :: kz g 53 :: st) σ := r_putf hc inX1 tyX1_ok nmX1 rfl (by decide) (show kcell g 53 (σ 53) = _ from rfl) 5 (by decide) hl rfl rfl rfl (Nat.le_of_ble_eq_true rfl) (by simp [kcell, kRowB, kHallB, upd]) d kk
theorem gf_X2_0 (hc : kOk X g own cc nL ret D) {idx : Nat} (hl : Cond.fieldLink own idx "KeyDrift$Foretold" "hall" "LKeyDrift$Hall;" ∈ kT) (d : decode cc pc = .ok (.getfield idx, 3)) (kk : kP X g nL (pc + 3) lv (kz g 33 :: st) σ) : kP X g nL pc lv (kz g 49 :: st) σ := r_getf hc inX2 rfl (by decide) (show kcell g 49 (σ 49) = _ from rfl) 0 (by decide) hl rfl d kk
theorem gf_X2_1 (hc : kOk X g own cc nL ret D) {idx : Nat} (hl : Cond.fieldLink own idx "KeyDrift$Foretold" "untaughtNights" "[I" ∈ kT) (d : decode cc pc = .ok (.getfield idx, 3)) (kk : kP X g nL (pc + 3) lv (kz g 50 :: st) σ) : kP X g nL pc lv (kz g 49 :: st) σ := r_getf hc inX2 rfl (by decide) (show kcell g 49 (σ 49) = _ from rfl) 1 (by decide) hl rfl d kk
theorem gf_X2_2 (hc : kOk X g own cc nL ret D) {idx : Nat} (hl : Cond.fieldLink own idx "KeyDrift$Foretold" "taughtNights" "[I" ∈ kT) (d : decode cc pc = .ok (.getfield idx, 3)) (kk : kP X g nL (pc + 3) lv (kz g 51 :: st) σ) : kP X g nL pc lv (kz g 49 :: st) σ := r_getf hc inX2 rfl (by decide) (show kcell g 49 (σ 49) = _ from rfl) 2 (by decide) hl rfl d kk
theorem gf_X2_3 (hc : kOk X g own cc nL ret D) {idx : Nat} (hl : Cond.fieldLink own idx "KeyDrift$Foretold" "pieceNights" "[I" ∈ kT) (d : decode cc pc = .ok (.getfield idx, 3)) (kk : kP X g nL (pc + 3) lv (kz g 52 :: st) σ) : kP X g nL pc lv (kz g 49 :: st) σ := r_getf hc inX2 rfl (by decide) (show kcell g 49 (σ 49) = _ from rfl) 3 (by decide) hl rfl d kk
theorem gf_X3_0 (hc : kOk X g own cc nL ret D) {c : Nat} (hh : kHall c) {idx : Nat} (hl : Cond.fieldLink own idx "KeyDrift$Hall" "lengths" "[I" ∈ kT) (d : decode cc pc = .ok (.getfield idx, 3)) (kk : kP X g nL (pc + 3) lv (kz g (c + 1) :: st) σ) : kP X g nL pc lv (kz g c :: st) σ := r_getf hc inX3 rfl (kHall_lt hh) (kc_Hall hh) 0 (by decide) hl rfl d kk
theorem gf_X3_1 (hc : kOk X g own cc nL ret D) {c : Nat} (hh : kHall c) {idx : Nat} (hl : Cond.fieldLink own idx "KeyDrift$Hall" "strings" "[I" ∈ kT) (d : decode cc pc = .ok (.getfield idx, 3)) (kk : kP X g nL (pc + 3) lv (kz g (c + 2) :: st) σ) : kP X g nL pc lv (kz g c :: st) σ := r_getf hc inX3 rfl (kHall_lt hh) (kc_Hall hh) 1 (by decide) hl rfl d kk
theorem gf_X3_2 (hc : kOk X g own cc nL ret D) {c : Nat} (hh : kHall c) {idx : Nat} (hl : Cond.fieldLink own idx "KeyDrift$Hall" "kinds" "[I" ∈ kT) (d : decode cc pc = .ok (.getfield idx, 3)) (kk : kP X g nL (pc + 3) lv (kz g (c + 3) :: st) σ) : kP X g nL pc lv (kz g c :: st) σ := r_getf hc inX3 rfl (kHall_lt hh) (kc_Hall hh) 2 (by decide) hl rfl d kk
theorem gf_X3_3 (hc : kOk X g own cc nL ret D) {c : Nat} (hh : kHall c) {idx : Nat} (hl : Cond.fieldLink own idx "KeyDrift$Hall" "learnt" "[I" ∈ kT) (d : decode cc pc = .ok (.getfield idx, 3)) (kk : kP X g nL (pc + 3) lv (kz g (c + 4) :: st) σ) : kP X g nL pc lv (kz g c :: st) σ := r_getf hc inX3 rfl (kHall_lt hh) (kc_Hall hh) 3 (by decide) hl rfl d kk
theorem gf_X3_4 (hc : kOk X g own cc nL ret D) {c : Nat} (hh : kHall c) {idx : Nat} (hl : Cond.fieldLink own idx "KeyDrift$Hall" "spans" "[I" ∈ kT) (d : decode cc pc = .ok (.getfield idx, 3)) (kk : kP X g nL (pc + 3) lv (kz g (c + 5) :: st) σ) : kP X g nL pc lv (kz g c :: st) σ := r_getf hc inX3 rfl (kHall_lt hh) (kc_Hall hh) 4 (by decide) hl rfl d kk
theorem gf_X3_5 (hc : kOk X g own cc nL ret D) {c : Nat} (hh : kHall c) {idx : Nat} (hl : Cond.fieldLink own idx "KeyDrift$Hall" "keys" "I" ∈ kT) (d : decode cc pc = .ok (.getfield idx, 3)) (kk : kP X g nL (pc + 3) lv (.int (σ c 5) :: st) σ) : kP X g nL pc lv (kz g c :: st) σ := r_getf hc inX3 rfl (kHall_lt hh) (kc_Hall hh) 5 (by decide) hl rfl d kk
theorem pf_X3_5 (hc : kOk X g own cc nL ret D) {c : Nat} (hh : kHall c) {idx : Nat} (hl : Cond.fieldLink own idx "KeyDrift$Hall" "keys" "I" ∈ kT) {v : Int32} (d : decode cc pc = .ok (.putfield idx, 3)) (kk : kP X g nL (pc + 3) lv st (st2 σ c 5 v)) : kP X g nL pc lv (.int v :: kz g c :: st) σ := r_putf hc inX3 tyX3_ok nmX3 rfl (kHall_lt hh) (kc_Hall hh) 5 (by decide) hl rfl rfl rfl (Nat.le_of_ble_eq_true rfl) (by rw [kc_Hall hh]; simp [upd]) d kk
theorem gf_X3_6 (hc : kOk X g own cc nL ret D) {c : Nat} (hh : kHall c) {idx : Nat} (hl : Cond.fieldLink own idx "KeyDrift$Hall" "drift" "I" ∈ kT) (d : decode cc pc = .ok (.getfield idx, 3)) (kk : kP X g nL (pc + 3) lv (.int (σ c 6) :: st) σ) : kP X g nL pc lv (kz g c :: st) σ := r_getf hc inX3 rfl (kHall_lt hh) (kc_Hall hh) 6 (by decide) hl rfl d kk
theorem pf_X3_6 (hc : kOk X g own cc nL ret D) {c : Nat} (hh : kHall c) {idx : Nat} (hl : Cond.fieldLink own idx "KeyDrift$Hall" "drift" "I" ∈ kT) {v : Int32} (d : decode cc pc = .ok (.putfield idx, 3)) (kk : kP X g nL (pc + 3) lv st (st2 σ c 6 v)) : kP X g nL pc lv (.int v :: kz g c :: st) σ := r_putf hc inX3 tyX3_ok nmX3 rfl (kHall_lt hh) (kc_Hall hh) 6 (by decide) hl rfl rfl rfl (Nat.le_of_ble_eq_true rfl) (by rw [kc_Hall hh]; simp [upd]) d kk
theorem gf_X3_7 (hc : kOk X g own cc nL ret D) {c : Nat} (hh : kHall c) {idx : Nat} (hl : Cond.fieldLink own idx "KeyDrift$Hall" "shift" "I" ∈ kT) (d : decode cc pc = .ok (.getfield idx, 3)) (kk : kP X g nL (pc + 3) lv (.int (σ c 7) :: st) σ) : kP X g nL pc lv (kz g c :: st) σ := r_getf hc inX3 rfl (kHall_lt hh) (kc_Hall hh) 7 (by decide) hl rfl d kk
theorem pf_X3_7 (hc : kOk X g own cc nL ret D) {c : Nat} (hh : kHall c) {idx : Nat} (hl : Cond.fieldLink own idx "KeyDrift$Hall" "shift" "I" ∈ kT) {v : Int32} (d : decode cc pc = .ok (.putfield idx, 3)) (kk : kP X g nL (pc + 3) lv st (st2 σ c 7 v)) : kP X g nL pc lv (.int v :: kz g c :: st) σ := r_putf hc inX3 tyX3_ok nmX3 rfl (kHall_lt hh) (kc_Hall hh) 7 (by decide) hl rfl rfl rfl (Nat.le_of_ble_eq_true rfl) (by rw [kc_Hall hh]; simp [upd]) d kk
theorem gf_X3_8 (hc : kOk X g own cc nL ret D) {c : Nat} (hh : kHall c) {idx : Nat} (hl : Cond.fieldLink own idx "KeyDrift$Hall" "night" "I" ∈ kT) (d : decode cc pc = .ok (.getfield idx, 3)) (kk : kP X g nL (pc + 3) lv (.int (σ c 8) :: st) σ) : kP X g nL pc lv (kz g c :: st) σ := r_getf hc inX3 rfl (kHall_lt hh) (kc_Hall hh) 8 (by decide) hl rfl d kk
theorem pf_X3_8 (hc : kOk X g own cc nL ret D) {c : Nat} (hh : kHall c) {idx : Nat} (hl : Cond.fieldLink own idx "KeyDrift$Hall" "night" "I" ∈ kT) {v : Int32} (d : decode cc pc = .ok (.putfield idx, 3)) (kk : kP X g nL (pc + 3) lv st (st2 σ c 8 v)) : kP X g nL pc lv (.int v :: kz g c :: st) σ := r_putf hc inX3 tyX3_ok nmX3 rfl (kHall_lt hh) (kc_Hall hh) 8 (by decide) hl rfl rfl rfl (Nat.le_of_ble_eq_true rfl) (by rw [kc_Hall hh]; simp [upd]) d kk
theorem gf_X3_9 (hc : kOk X g own cc nL ret D) {c : Nat} (hh : kHall c) {idx : Nat} (hl : Cond.fieldLink own idx "KeyDrift$Hall" "pieces" "I" ∈ kT) (d : decode cc pc = .ok (.getfield idx, 3)) (kk : kP X g nL (pc + 3) lv (.int (σ c 9) :: st) σ) : kP X g nL pc lv (kz g c :: st) σ := r_getf hc inX3 rfl (kHall_lt hh) (kc_Hall hh) 9 (by decide) hl rfl d kk
theorem pf_X3_9 (hc : kOk X g own cc nL ret D) {c : Nat} (hh : kHall c) {idx : Nat} (hl : Cond.fieldLink own idx "KeyDrift$Hall" "pieces" "I" ∈ kT) {v : Int32} (d : decode cc pc = .ok (.putfield idx, 3)) (kk : kP X g nL (pc + 3) lv st (st2 σ c 9 v)) : kP X g nL pc lv (.int v :: kz g c :: st) σ := r_putf hc inX3 tyX3_ok nmX3 rfl (kHall_lt hh) (kc_Hall hh) 9 (by decide) hl rfl rfl rfl (Nat.le_of_ble_eq_true rfl) (by rw [kc_Hall hh]; simp [upd]) d kk
theorem gf_X3_10 (hc : kOk X g own cc nL ret D) {c : Nat} (hh : kHall c) {idx : Nat} (hl : Cond.fieldLink own idx "KeyDrift$Hall" "pupils" "I" ∈ kT) (d : decode cc pc = .ok (.getfield idx, 3)) (kk : kP X g nL (pc + 3) lv (.int (σ c 10) :: st) σ) : kP X g nL pc lv (kz g c :: st) σ := r_getf hc inX3 rfl (kHall_lt hh) (kc_Hall hh) 10 (by decide) hl rfl d kk
theorem pf_X3_10 (hc : kOk X g own cc nL ret D) {c : Nat} (hh : kHall c) {idx : Nat} (hl : Cond.fieldLink own idx "KeyDrift$Hall" "pupils" "I" ∈ kT) {v : Int32} (d : decode cc pc = .ok (.putfield idx, 3)) (kk : kP X g nL (pc + 3) lv st (st2 σ c 10 v)) : kP X g nL pc lv (.int v :: kz g c :: st) σ := r_putf hc inX3 tyX3_ok nmX3 rfl (kHall_lt hh) (kc_Hall hh) 10 (by decide) hl rfl rfl rfl (Nat.le_of_ble_eq_true rfl) (by rw [kc_Hall hh]; simp [upd]) d kk
theorem gf_X4_0 (hc : kOk X g own cc nL ret D) {c : Nat} (hh : kRow c) {idx : Nat} (hl : Cond.fieldLink own idx "KeyDrift$Row" "items" "[I" ∈ kT) (d : decode cc pc = .ok (.getfield idx, 3)) (kk : kP X g nL (pc + 3) lv (kz g (c + 1) :: st) σ) : kP X g nL pc lv (kz g c :: st) σ := r_getf hc inX4 rfl (kRow_lt hh) (kc_Row hh) 0 (by decide) hl rfl d kk
theorem gf_X4_1 (hc : kOk X g own cc nL ret D) {c : Nat} (hh : kRow c) {idx : Nat} (hl : Cond.fieldLink own idx "KeyDrift$Row" "lane" "I" ∈ kT) (d : decode cc pc = .ok (.getfield idx, 3)) (kk : kP X g nL (pc + 3) lv (.int (σ c 1) :: st) σ) : kP X g nL pc lv (kz g c :: st) σ := r_getf hc inX4 rfl (kRow_lt hh) (kc_Row hh) 1 (by decide) hl rfl d kk
theorem pf_X4_1 (hc : kOk X g own cc nL ret D) {c : Nat} (hh : kRow c) {idx : Nat} (hl : Cond.fieldLink own idx "KeyDrift$Row" "lane" "I" ∈ kT) {v : Int32} (d : decode cc pc = .ok (.putfield idx, 3)) (kk : kP X g nL (pc + 3) lv st (st2 σ c 1 v)) : kP X g nL pc lv (.int v :: kz g c :: st) σ := r_putf hc inX4 tyX4_ok nmX4 rfl (kRow_lt hh) (kc_Row hh) 1 (by decide) hl rfl rfl rfl (Nat.le_of_ble_eq_true rfl) (by rw [kc_Row hh]; simp [upd]) d kk
theorem gf_X4_2 (hc : kOk X g own cc nL ret D) {c : Nat} (hh : kRow c) {idx : Nat} (hl : Cond.fieldLink own idx "KeyDrift$Row" "length" "I" ∈ kT) (d : decode cc pc = .ok (.getfield idx, 3)) (kk : kP X g nL (pc + 3) lv (.int (σ c 2) :: st) σ) : kP X g nL pc lv (kz g c :: st) σ := r_getf hc inX4 rfl (kRow_lt hh) (kc_Row hh) 2 (by decide) hl rfl d kk
theorem pf_X4_2 (hc : kOk X g own cc nL ret D) {c : Nat} (hh : kRow c) {idx : Nat} (hl : Cond.fieldLink own idx "KeyDrift$Row" "length" "I" ∈ kT) {v : Int32} (d : decode cc pc = .ok (.putfield idx, 3)) (kk : kP X g nL (pc + 3) lv st (st2 σ c 2 v)) : kP X g nL pc lv (.int v :: kz g c :: st) σ := r_putf hc inX4 tyX4_ok nmX4 rfl (kRow_lt hh) (kc_Row hh) 2 (by decide) hl rfl rfl rfl (Nat.le_of_ble_eq_true rfl) (by rw [kc_Row hh]; simp [upd]) d kk
theorem gf_X5_0 (hc : kOk X g own cc nL ret D) {idx : Nat} (hl : Cond.fieldLink own idx "KeyDrift$Tape" "bytes" "[I" ∈ kT) (d : decode cc pc = .ok (.getfield idx, 3)) (kk : kP X g nL (pc + 3) lv (kz g 32 :: st) σ) : kP X g nL pc lv (kz g 31 :: st) σ := r_getf hc inX5 rfl (by decide) (show kcell g 31 (σ 31) = _ from rfl) 0 (by decide) hl rfl d kk
theorem gf_X5_1 (hc : kOk X g own cc nL ret D) {idx : Nat} (hl : Cond.fieldLink own idx "KeyDrift$Tape" "place" "I" ∈ kT) (d : decode cc pc = .ok (.getfield idx, 3)) (kk : kP X g nL (pc + 3) lv (.int (σ 31 1) :: st) σ) : kP X g nL pc lv (kz g 31 :: st) σ := r_getf hc inX5 rfl (by decide) (show kcell g 31 (σ 31) = _ from rfl) 1 (by decide) hl rfl d kk
theorem pf_X5_1 (hc : kOk X g own cc nL ret D) {idx : Nat} (hl : Cond.fieldLink own idx "KeyDrift$Tape" "place" "I" ∈ kT) {v : Int32} (d : decode cc pc = .ok (.putfield idx, 3)) (kk : kP X g nL (pc + 3) lv st (st2 σ 31 1 v)) : kP X g nL pc lv (.int v :: kz g 31 :: st) σ := r_putf hc inX5 tyX5_ok nmX5 rfl (by decide) (show kcell g 31 (σ 31) = _ from rfl) 1 (by decide) hl rfl rfl rfl (Nat.le_of_ble_eq_true rfl) (by simp [kcell, kRowB, kHallB, upd]) d kk
theorem gf_X5_2 (hc : kOk X g own cc nL ret D) {idx : Nat} (hl : Cond.fieldLink own idx "KeyDrift$Tape" "foundFault" "I" ∈ kT) (d : decode cc pc = .ok (.getfield idx, 3)) (kk : kP X g nL (pc + 3) lv (.int (σ 31 2) :: st) σ) : kP X g nL pc lv (kz g 31 :: st) σ := r_getf hc inX5 rfl (by decide) (show kcell g 31 (σ 31) = _ from rfl) 2 (by decide) hl rfl d kk
theorem pf_X5_2 (hc : kOk X g own cc nL ret D) {idx : Nat} (hl : Cond.fieldLink own idx "KeyDrift$Tape" "foundFault" "I" ∈ kT) {v : Int32} (d : decode cc pc = .ok (.putfield idx, 3)) (kk : kP X g nL (pc + 3) lv st (st2 σ 31 2 v)) : kP X g nL pc lv (.int v :: kz g 31 :: st) σ := r_putf hc inX5 tyX5_ok nmX5 rfl (by decide) (show kcell g 31 (σ 31) = _ from rfl) 2 (by decide) hl rfl rfl rfl (Nat.le_of_ble_eq_true rfl) (by simp [kcell, kRowB, kHallB, upd]) d kk
theorem gf_X5_3 (hc : kOk X g own cc nL ret D) {idx : Nat} (hl : Cond.fieldLink own idx "KeyDrift$Tape" "size" "I" ∈ kT) (d : decode cc pc = .ok (.getfield idx, 3)) (kk : kP X g nL (pc + 3) lv (.int (σ 31 3) :: st) σ) : kP X g nL pc lv (kz g 31 :: st) σ := r_getf hc inX5 rfl (by decide) (show kcell g 31 (σ 31) = _ from rfl) 3 (by decide) hl rfl d kk
theorem pf_X5_3 (hc : kOk X g own cc nL ret D) {idx : Nat} (hl : Cond.fieldLink own idx "KeyDrift$Tape" "size" "I" ∈ kT) {v : Int32} (d : decode cc pc = .ok (.putfield idx, 3)) (kk : kP X g nL (pc + 3) lv st (st2 σ 31 3 v)) : kP X g nL pc lv (.int v :: kz g 31 :: st) σ := r_putf hc inX5 tyX5_ok nmX5 rfl (by decide) (show kcell g 31 (σ 31) = _ from rfl) 3 (by decide) hl rfl rfl rfl (Nat.le_of_ble_eq_true rfl) (by simp [kcell, kRowB, kHallB, upd]) d kk
theorem gf_X5_4 (hc : kOk X g own cc nL ret D) {idx : Nat} (hl : Cond.fieldLink own idx "KeyDrift$Tape" "foundAt" "I" ∈ kT) (d : decode cc pc = .ok (.getfield idx, 3)) (kk : kP X g nL (pc + 3) lv (.int (σ 31 4) :: st) σ) : kP X g nL pc lv (kz g 31 :: st) σ := r_getf hc inX5 rfl (by decide) (show kcell g 31 (σ 31) = _ from rfl) 4 (by decide) hl rfl d kk
theorem pf_X5_4 (hc : kOk X g own cc nL ret D) {idx : Nat} (hl : Cond.fieldLink own idx "KeyDrift$Tape" "foundAt" "I" ∈ kT) {v : Int32} (d : decode cc pc = .ok (.putfield idx, 3)) (kk : kP X g nL (pc + 3) lv st (st2 σ 31 4 v)) : kP X g nL pc lv (.int v :: kz g 31 :: st) σ := r_putf hc inX5 tyX5_ok nmX5 rfl (by decide) (show kcell g 31 (σ 31) = _ from rfl) 4 (by decide) hl rfl rfl rfl (Nat.le_of_ble_eq_true rfl) (by simp [kcell, kRowB, kHallB, upd]) d kk
theorem gf_X5_5 (hc : kOk X g own cc nL ret D) {idx : Nat} (hl : Cond.fieldLink own idx "KeyDrift$Tape" "latestFault" "I" ∈ kT) (d : decode cc pc = .ok (.getfield idx, 3)) (kk : kP X g nL (pc + 3) lv (.int (σ 31 5) :: st) σ) : kP X g nL pc lv (kz g 31 :: st) σ := r_getf hc inX5 rfl (by decide) (show kcell g 31 (σ 31) = _ from rfl) 5 (by decide) hl rfl d kk
theorem pf_X5_5 (hc : kOk X g own cc nL ret D) {idx : Nat} (hl : Cond.fieldLink own idx "KeyDrift$Tape" "latestFault" "I" ∈ kT) {v : Int32} (d : decode cc pc = .ok (.putfield idx, 3)) (kk : kP X g nL (pc + 3) lv st (st2 σ 31 5 v)) : kP X g nL pc lv (.int v :: kz g 31 :: st) σ := r_putf hc inX5 tyX5_ok nmX5 rfl (by decide) (show kcell g 31 (σ 31) = _ from rfl) 5 (by decide) hl rfl rfl rfl (Nat.le_of_ble_eq_true rfl) (by simp [kcell, kRowB, kHallB, upd]) d kk
theorem gf_X6_0 (hc : kOk X g own cc nL ret D) {idx : Nat} (hl : Cond.fieldLink own idx "KeyDrift" "rows" "[LKeyDrift$Row;" ∈ kT) (d : decode cc pc = .ok (.getfield idx, 3)) (kk : kP X g nL (pc + 3) lv (kz g 1 :: st) σ) : kP X g nL pc lv (kz g 0 :: st) σ := r_getf hc inX6 rfl (by decide) (show kcell g 0 (σ 0) = _ from rfl) 0 (by decide) hl rfl d kk
theorem gf_X6_1 (hc : kOk X g own cc nL ret D) {idx : Nat} (hl : Cond.fieldLink own idx "KeyDrift" "tape" "LKeyDrift$Tape;" ∈ kT) (d : decode cc pc = .ok (.getfield idx, 3)) (kk : kP X g nL (pc + 3) lv (kz g 31 :: st) σ) : kP X g nL pc lv (kz g 0 :: st) σ := r_getf hc inX6 rfl (by decide) (show kcell g 0 (σ 0) = _ from rfl) 1 (by decide) hl rfl d kk
theorem gf_X6_2 (hc : kOk X g own cc nL ret D) {idx : Nat} (hl : Cond.fieldLink own idx "KeyDrift" "now" "LKeyDrift$Hall;" ∈ kT) (d : decode cc pc = .ok (.getfield idx, 3)) (kk : kP X g nL (pc + 3) lv (kz g 33 :: st) σ) : kP X g nL pc lv (kz g 0 :: st) σ := r_getf hc inX6 rfl (by decide) (show kcell g 0 (σ 0) = _ from rfl) 2 (by decide) hl rfl d kk
theorem gf_X6_3 (hc : kOk X g own cc nL ret D) {idx : Nat} (hl : Cond.fieldLink own idx "KeyDrift" "spare" "LKeyDrift$Hall;" ∈ kT) (d : decode cc pc = .ok (.getfield idx, 3)) (kk : kP X g nL (pc + 3) lv (kz g 39 :: st) σ) : kP X g nL pc lv (kz g 0 :: st) σ := r_getf hc inX6 rfl (by decide) (show kcell g 0 (σ 0) = _ from rfl) 3 (by decide) hl rfl d kk
theorem gf_X6_4 (hc : kOk X g own cc nL ret D) {idx : Nat} (hl : Cond.fieldLink own idx "KeyDrift" "images" "[LKeyDrift$Hall;" ∈ kT) (d : decode cc pc = .ok (.getfield idx, 3)) (kk : kP X g nL (pc + 3) lv (kz g 18 :: st) σ) : kP X g nL pc lv (kz g 0 :: st) σ := r_getf hc inX6 rfl (by decide) (show kcell g 0 (σ 0) = _ from rfl) 4 (by decide) hl rfl d kk
theorem gf_X6_5 (hc : kOk X g own cc nL ret D) {idx : Nat} (hl : Cond.fieldLink own idx "KeyDrift" "acts" "LKeyDrift$Acts;" ∈ kT) (d : decode cc pc = .ok (.getfield idx, 3)) (kk : kP X g nL (pc + 3) lv (kz g 45 :: st) σ) : kP X g nL pc lv (kz g 0 :: st) σ := r_getf hc inX6 rfl (by decide) (show kcell g 0 (σ 0) = _ from rfl) 5 (by decide) hl rfl d kk
theorem gf_X6_6 (hc : kOk X g own cc nL ret D) {idx : Nat} (hl : Cond.fieldLink own idx "KeyDrift" "foretold" "LKeyDrift$Foretold;" ∈ kT) (d : decode cc pc = .ok (.getfield idx, 3)) (kk : kP X g nL (pc + 3) lv (kz g 49 :: st) σ) : kP X g nL pc lv (kz g 0 :: st) σ := r_getf hc inX6 rfl (by decide) (show kcell g 0 (σ 0) = _ from rfl) 6 (by decide) hl rfl d kk
theorem gf_X6_7 (hc : kOk X g own cc nL ret D) {idx : Nat} (hl : Cond.fieldLink own idx "KeyDrift" "asked" "LKeyDrift$Asked;" ∈ kT) (d : decode cc pc = .ok (.getfield idx, 3)) (kk : kP X g nL (pc + 3) lv (kz g 53 :: st) σ) : kP X g nL pc lv (kz g 0 :: st) σ := r_getf hc inX6 rfl (by decide) (show kcell g 0 (σ 0) = _ from rfl) 7 (by decide) hl rfl d kk
theorem gf_X6_8 (hc : kOk X g own cc nL ret D) {idx : Nat} (hl : Cond.fieldLink own idx "KeyDrift" "latestFinding" "I" ∈ kT) (d : decode cc pc = .ok (.getfield idx, 3)) (kk : kP X g nL (pc + 3) lv (.int (σ 0 8) :: st) σ) : kP X g nL pc lv (kz g 0 :: st) σ := r_getf hc inX6 rfl (by decide) (show kcell g 0 (σ 0) = _ from rfl) 8 (by decide) hl rfl d kk
theorem pf_X6_8 (hc : kOk X g own cc nL ret D) {idx : Nat} (hl : Cond.fieldLink own idx "KeyDrift" "latestFinding" "I" ∈ kT) {v : Int32} (d : decode cc pc = .ok (.putfield idx, 3)) (kk : kP X g nL (pc + 3) lv st (st2 σ 0 8 v)) : kP X g nL pc lv (.int v :: kz g 0 :: st) σ := r_putf hc inX6 tyX6_ok nmX6 rfl (by decide) (show kcell g 0 (σ 0) = _ from rfl) 8 (by decide) hl rfl rfl rfl (Nat.le_of_ble_eq_true rfl) (by simp [kcell, kRowB, kHallB, upd]) d kk
theorem gf_X7_0 (hc : kOk X g own cc nL ret D) {idx : Nat} (hl : Cond.fieldLink own idx "KeyDriftModel" "lanes" "[I" ∈ kT) (d : decode cc pc = .ok (.getfield idx, 3)) (kk : kP X g nL (pc + 3) lv (kz g 56 :: st) σ) : kP X g nL pc lv (kz g 55 :: st) σ := r_getf hc inX7 rfl (by decide) (show kcell g 55 (σ 55) = _ from rfl) 0 (by decide) hl rfl d kk
theorem gf_X7_1 (hc : kOk X g own cc nL ret D) {idx : Nat} (hl : Cond.fieldLink own idx "KeyDriftModel" "sizes" "[I" ∈ kT) (d : decode cc pc = .ok (.getfield idx, 3)) (kk : kP X g nL (pc + 3) lv (kz g 57 :: st) σ) : kP X g nL pc lv (kz g 55 :: st) σ := r_getf hc inX7 rfl (by decide) (show kcell g 55 (σ 55) = _ from rfl) 1 (by decide) hl rfl d kk
theorem gf_X7_2 (hc : kOk X g own cc nL ret D) {idx : Nat} (hl : Cond.fieldLink own idx "KeyDriftModel" "items" "[I" ∈ kT) (d : decode cc pc = .ok (.getfield idx, 3)) (kk : kP X g nL (pc + 3) lv (kz g 58 :: st) σ) : kP X g nL pc lv (kz g 55 :: st) σ := r_getf hc inX7 rfl (by decide) (show kcell g 55 (σ 55) = _ from rfl) 2 (by decide) hl rfl d kk
theorem gf_X7_3 (hc : kOk X g own cc nL ret D) {idx : Nat} (hl : Cond.fieldLink own idx "KeyDriftModel" "status" "I" ∈ kT) (d : decode cc pc = .ok (.getfield idx, 3)) (kk : kP X g nL (pc + 3) lv (.int (σ 55 3) :: st) σ) : kP X g nL pc lv (kz g 55 :: st) σ := r_getf hc inX7 rfl (by decide) (show kcell g 55 (σ 55) = _ from rfl) 3 (by decide) hl rfl d kk
theorem pf_X7_3 (hc : kOk X g own cc nL ret D) {idx : Nat} (hl : Cond.fieldLink own idx "KeyDriftModel" "status" "I" ∈ kT) {v : Int32} (d : decode cc pc = .ok (.putfield idx, 3)) (kk : kP X g nL (pc + 3) lv st (st2 σ 55 3 v)) : kP X g nL pc lv (.int v :: kz g 55 :: st) σ := r_putf hc inX7 tyX7_ok nmX7 rfl (by decide) (show kcell g 55 (σ 55) = _ from rfl) 3 (by decide) hl rfl rfl rfl (Nat.le_of_ble_eq_true rfl) (by simp [kcell, kRowB, kHallB, upd]) d kk
theorem gf_X7_4 (hc : kOk X g own cc nL ret D) {idx : Nat} (hl : Cond.fieldLink own idx "KeyDriftModel" "isThere" "Z" ∈ kT) (d : decode cc pc = .ok (.getfield idx, 3)) (kk : kP X g nL (pc + 3) lv (.int (σ 55 4) :: st) σ) : kP X g nL pc lv (kz g 55 :: st) σ := r_getf hc inX7 rfl (by decide) (show kcell g 55 (σ 55) = _ from rfl) 4 (by decide) hl rfl d kk
theorem pf_X7_4 (hc : kOk X g own cc nL ret D) {idx : Nat} (hl : Cond.fieldLink own idx "KeyDriftModel" "isThere" "Z" ∈ kT) {v : Int32} (hz : v = 0 ∨ v = 1) (d : decode cc pc = .ok (.putfield idx, 3)) (kk : kP X g nL (pc + 3) lv st (st2 σ 55 4 v)) : kP X g nL pc lv (.int v :: kz g 55 :: st) σ := r_putf hc inX7 tyX7_ok nmX7 rfl (by decide) (show kcell g 55 (σ 55) = _ from rfl) 4 (by decide) hl rfl (by rcases hz with rfl | rfl <;> rfl) (by rcases hz with rfl | rfl <;> rfl) (Nat.le_of_ble_eq_true rfl) (by simp [kcell, kRowB, kHallB, upd]) d kk
theorem gf_X7_5 (hc : kOk X g own cc nL ret D) {idx : Nat} (hl : Cond.fieldLink own idx "KeyDriftModel" "st" "[I" ∈ kT) (d : decode cc pc = .ok (.getfield idx, 3)) (kk : kP X g nL (pc + 3) lv (kz g 59 :: st) σ) : kP X g nL pc lv (kz g 55 :: st) σ := r_getf hc inX7 rfl (by decide) (show kcell g 55 (σ 55) = _ from rfl) 5 (by decide) hl rfl d kk
theorem gf_X7_6 (hc : kOk X g own cc nL ret D) {idx : Nat} (hl : Cond.fieldLink own idx "KeyDriftModel" "moved" "[I" ∈ kT) (d : decode cc pc = .ok (.getfield idx, 3)) (kk : kP X g nL (pc + 3) lv (kz g 60 :: st) σ) : kP X g nL pc lv (kz g 55 :: st) σ := r_getf hc inX7 rfl (by decide) (show kcell g 55 (σ 55) = _ from rfl) 6 (by decide) hl rfl d kk
theorem gf_X7_7 (hc : kOk X g own cc nL ret D) {idx : Nat} (hl : Cond.fieldLink own idx "KeyDriftModel" "tape" "[I" ∈ kT) (d : decode cc pc = .ok (.getfield idx, 3)) (kk : kP X g nL (pc + 3) lv (kz g 61 :: st) σ) : kP X g nL pc lv (kz g 55 :: st) σ := r_getf hc inX7 rfl (by decide) (show kcell g 55 (σ 55) = _ from rfl) 7 (by decide) hl rfl d kk
theorem gf_X7_8 (hc : kOk X g own cc nL ret D) {idx : Nat} (hl : Cond.fieldLink own idx "KeyDriftModel" "bytes" "I" ∈ kT) (d : decode cc pc = .ok (.getfield idx, 3)) (kk : kP X g nL (pc + 3) lv (.int (σ 55 8) :: st) σ) : kP X g nL pc lv (kz g 55 :: st) σ := r_getf hc inX7 rfl (by decide) (show kcell g 55 (σ 55) = _ from rfl) 8 (by decide) hl rfl d kk
theorem pf_X7_8 (hc : kOk X g own cc nL ret D) {idx : Nat} (hl : Cond.fieldLink own idx "KeyDriftModel" "bytes" "I" ∈ kT) {v : Int32} (d : decode cc pc = .ok (.putfield idx, 3)) (kk : kP X g nL (pc + 3) lv st (st2 σ 55 8 v)) : kP X g nL pc lv (.int v :: kz g 55 :: st) σ := r_putf hc inX7 tyX7_ok nmX7 rfl (by decide) (show kcell g 55 (σ 55) = _ from rfl) 8 (by decide) hl rfl rfl rfl (Nat.le_of_ble_eq_true rfl) (by simp [kcell, kRowB, kHallB, upd]) d kk
theorem gf_X7_9 (hc : kOk X g own cc nL ret D) {idx : Nat} (hl : Cond.fieldLink own idx "KeyDriftModel" "latest" "I" ∈ kT) (d : decode cc pc = .ok (.getfield idx, 3)) (kk : kP X g nL (pc + 3) lv (.int (σ 55 9) :: st) σ) : kP X g nL pc lv (kz g 55 :: st) σ := r_getf hc inX7 rfl (by decide) (show kcell g 55 (σ 55) = _ from rfl) 9 (by decide) hl rfl d kk
theorem pf_X7_9 (hc : kOk X g own cc nL ret D) {idx : Nat} (hl : Cond.fieldLink own idx "KeyDriftModel" "latest" "I" ∈ kT) {v : Int32} (d : decode cc pc = .ok (.putfield idx, 3)) (kk : kP X g nL (pc + 3) lv st (st2 σ 55 9 v)) : kP X g nL pc lv (.int v :: kz g 55 :: st) σ := r_putf hc inX7 tyX7_ok nmX7 rfl (by decide) (show kcell g 55 (σ 55) = _ from rfl) 9 (by decide) hl rfl rfl rfl (Nat.le_of_ble_eq_true rfl) (by simp [kcell, kRowB, kHallB, upd]) d kk
theorem gf_X7_10 (hc : kOk X g own cc nL ret D) {idx : Nat} (hl : Cond.fieldLink own idx "KeyDriftModel" "place" "I" ∈ kT) (d : decode cc pc = .ok (.getfield idx, 3)) (kk : kP X g nL (pc + 3) lv (.int (σ 55 10) :: st) σ) : kP X g nL pc lv (kz g 55 :: st) σ := r_getf hc inX7 rfl (by decide) (show kcell g 55 (σ 55) = _ from rfl) 10 (by decide) hl rfl d kk
theorem pf_X7_10 (hc : kOk X g own cc nL ret D) {idx : Nat} (hl : Cond.fieldLink own idx "KeyDriftModel" "place" "I" ∈ kT) {v : Int32} (d : decode cc pc = .ok (.putfield idx, 3)) (kk : kP X g nL (pc + 3) lv st (st2 σ 55 10 v)) : kP X g nL pc lv (.int v :: kz g 55 :: st) σ := r_putf hc inX7 tyX7_ok nmX7 rfl (by decide) (show kcell g 55 (σ 55) = _ from rfl) 10 (by decide) hl rfl rfl rfl (Nat.le_of_ble_eq_true rfl) (by simp [kcell, kRowB, kHallB, upd]) d kk
theorem gf_X7_11 (hc : kOk X g own cc nL ret D) {idx : Nat} (hl : Cond.fieldLink own idx "KeyDriftModel" "token" "I" ∈ kT) (d : decode cc pc = .ok (.getfield idx, 3)) (kk : kP X g nL (pc + 3) lv (.int (σ 55 11) :: st) σ) : kP X g nL pc lv (kz g 55 :: st) σ := r_getf hc inX7 rfl (by decide) (show kcell g 55 (σ 55) = _ from rfl) 11 (by decide) hl rfl d kk
theorem pf_X7_11 (hc : kOk X g own cc nL ret D) {idx : Nat} (hl : Cond.fieldLink own idx "KeyDriftModel" "token" "I" ∈ kT) {v : Int32} (d : decode cc pc = .ok (.putfield idx, 3)) (kk : kP X g nL (pc + 3) lv st (st2 σ 55 11 v)) : kP X g nL pc lv (.int v :: kz g 55 :: st) σ := r_putf hc inX7 tyX7_ok nmX7 rfl (by decide) (show kcell g 55 (σ 55) = _ from rfl) 11 (by decide) hl rfl rfl rfl (Nat.le_of_ble_eq_true rfl) (by simp [kcell, kRowB, kHallB, upd]) d kk
theorem gf_X7_12 (hc : kOk X g own cc nL ret D) {idx : Nat} (hl : Cond.fieldLink own idx "KeyDriftModel" "value" "I" ∈ kT) (d : decode cc pc = .ok (.getfield idx, 3)) (kk : kP X g nL (pc + 3) lv (.int (σ 55 12) :: st) σ) : kP X g nL pc lv (kz g 55 :: st) σ := r_getf hc inX7 rfl (by decide) (show kcell g 55 (σ 55) = _ from rfl) 12 (by decide) hl rfl d kk
theorem pf_X7_12 (hc : kOk X g own cc nL ret D) {idx : Nat} (hl : Cond.fieldLink own idx "KeyDriftModel" "value" "I" ∈ kT) {v : Int32} (d : decode cc pc = .ok (.putfield idx, 3)) (kk : kP X g nL (pc + 3) lv st (st2 σ 55 12 v)) : kP X g nL pc lv (.int v :: kz g 55 :: st) σ := r_putf hc inX7 tyX7_ok nmX7 rfl (by decide) (show kcell g 55 (σ 55) = _ from rfl) 12 (by decide) hl rfl rfl rfl (Nat.le_of_ble_eq_true rfl) (by simp [kcell, kRowB, kHallB, upd]) d kk
theorem gf_X7_13 (hc : kOk X g own cc nL ret D) {idx : Nat} (hl : Cond.fieldLink own idx "KeyDriftModel" "begins" "I" ∈ kT) (d : decode cc pc = .ok (.getfield idx, 3)) (kk : kP X g nL (pc + 3) lv (.int (σ 55 13) :: st) σ) : kP X g nL pc lv (kz g 55 :: st) σ := r_getf hc inX7 rfl (by decide) (show kcell g 55 (σ 55) = _ from rfl) 13 (by decide) hl rfl d kk
theorem pf_X7_13 (hc : kOk X g own cc nL ret D) {idx : Nat} (hl : Cond.fieldLink own idx "KeyDriftModel" "begins" "I" ∈ kT) {v : Int32} (d : decode cc pc = .ok (.putfield idx, 3)) (kk : kP X g nL (pc + 3) lv st (st2 σ 55 13 v)) : kP X g nL pc lv (.int v :: kz g 55 :: st) σ := r_putf hc inX7 tyX7_ok nmX7 rfl (by decide) (show kcell g 55 (σ 55) = _ from rfl) 13 (by decide) hl rfl rfl rfl (Nat.le_of_ble_eq_true rfl) (by simp [kcell, kRowB, kHallB, upd]) d kk
theorem gf_X7_14 (hc : kOk X g own cc nL ret D) {idx : Nat} (hl : Cond.fieldLink own idx "KeyDriftModel" "wrong" "I" ∈ kT) (d : decode cc pc = .ok (.getfield idx, 3)) (kk : kP X g nL (pc + 3) lv (.int (σ 55 14) :: st) σ) : kP X g nL pc lv (kz g 55 :: st) σ := r_getf hc inX7 rfl (by decide) (show kcell g 55 (σ 55) = _ from rfl) 14 (by decide) hl rfl d kk
theorem pf_X7_14 (hc : kOk X g own cc nL ret D) {idx : Nat} (hl : Cond.fieldLink own idx "KeyDriftModel" "wrong" "I" ∈ kT) {v : Int32} (d : decode cc pc = .ok (.putfield idx, 3)) (kk : kP X g nL (pc + 3) lv st (st2 σ 55 14 v)) : kP X g nL pc lv (.int v :: kz g 55 :: st) σ := r_putf hc inX7 tyX7_ok nmX7 rfl (by decide) (show kcell g 55 (σ 55) = _ from rfl) 14 (by decide) hl rfl rfl rfl (Nat.le_of_ble_eq_true rfl) (by simp [kcell, kRowB, kHallB, upd]) d kk
theorem gf_X7_15 (hc : kOk X g own cc nL ret D) {idx : Nat} (hl : Cond.fieldLink own idx "KeyDriftModel" "read" "[I" ∈ kT) (d : decode cc pc = .ok (.getfield idx, 3)) (kk : kP X g nL (pc + 3) lv (kz g 62 :: st) σ) : kP X g nL pc lv (kz g 55 :: st) σ := r_getf hc inX7 rfl (by decide) (show kcell g 55 (σ 55) = _ from rfl) 15 (by decide) hl rfl d kk
theorem gf_X7_16 (hc : kOk X g own cc nL ret D) {idx : Nat} (hl : Cond.fieldLink own idx "KeyDriftModel" "acts" "[I" ∈ kT) (d : decode cc pc = .ok (.getfield idx, 3)) (kk : kP X g nL (pc + 3) lv (kz g 63 :: st) σ) : kP X g nL pc lv (kz g 55 :: st) σ := r_getf hc inX7 rfl (by decide) (show kcell g 55 (σ 55) = _ from rfl) 16 (by decide) hl rfl d kk
theorem gf_X7_17 (hc : kOk X g own cc nL ret D) {idx : Nat} (hl : Cond.fieldLink own idx "KeyDriftModel" "actMany" "I" ∈ kT) (d : decode cc pc = .ok (.getfield idx, 3)) (kk : kP X g nL (pc + 3) lv (.int (σ 55 17) :: st) σ) : kP X g nL pc lv (kz g 55 :: st) σ := r_getf hc inX7 rfl (by decide) (show kcell g 55 (σ 55) = _ from rfl) 17 (by decide) hl rfl d kk
theorem pf_X7_17 (hc : kOk X g own cc nL ret D) {idx : Nat} (hl : Cond.fieldLink own idx "KeyDriftModel" "actMany" "I" ∈ kT) {v : Int32} (d : decode cc pc = .ok (.putfield idx, 3)) (kk : kP X g nL (pc + 3) lv st (st2 σ 55 17 v)) : kP X g nL pc lv (.int v :: kz g 55 :: st) σ := r_putf hc inX7 tyX7_ok nmX7 rfl (by decide) (show kcell g 55 (σ 55) = _ from rfl) 17 (by decide) hl rfl rfl rfl (Nat.le_of_ble_eq_true rfl) (by simp [kcell, kRowB, kHallB, upd]) d kk
theorem gf_X7_18 (hc : kOk X g own cc nL ret D) {idx : Nat} (hl : Cond.fieldLink own idx "KeyDriftModel" "leastKey" "I" ∈ kT) (d : decode cc pc = .ok (.getfield idx, 3)) (kk : kP X g nL (pc + 3) lv (.int (σ 55 18) :: st) σ) : kP X g nL pc lv (kz g 55 :: st) σ := r_getf hc inX7 rfl (by decide) (show kcell g 55 (σ 55) = _ from rfl) 18 (by decide) hl rfl d kk
theorem pf_X7_18 (hc : kOk X g own cc nL ret D) {idx : Nat} (hl : Cond.fieldLink own idx "KeyDriftModel" "leastKey" "I" ∈ kT) {v : Int32} (d : decode cc pc = .ok (.putfield idx, 3)) (kk : kP X g nL (pc + 3) lv st (st2 σ 55 18 v)) : kP X g nL pc lv (.int v :: kz g 55 :: st) σ := r_putf hc inX7 tyX7_ok nmX7 rfl (by decide) (show kcell g 55 (σ 55) = _ from rfl) 18 (by decide) hl rfl rfl rfl (Nat.le_of_ble_eq_true rfl) (by simp [kcell, kRowB, kHallB, upd]) d kk
theorem gf_X7_19 (hc : kOk X g own cc nL ret D) {idx : Nat} (hl : Cond.fieldLink own idx "KeyDriftModel" "mostKey" "I" ∈ kT) (d : decode cc pc = .ok (.getfield idx, 3)) (kk : kP X g nL (pc + 3) lv (.int (σ 55 19) :: st) σ) : kP X g nL pc lv (kz g 55 :: st) σ := r_getf hc inX7 rfl (by decide) (show kcell g 55 (σ 55) = _ from rfl) 19 (by decide) hl rfl d kk
theorem pf_X7_19 (hc : kOk X g own cc nL ret D) {idx : Nat} (hl : Cond.fieldLink own idx "KeyDriftModel" "mostKey" "I" ∈ kT) {v : Int32} (d : decode cc pc = .ok (.putfield idx, 3)) (kk : kP X g nL (pc + 3) lv st (st2 σ 55 19 v)) : kP X g nL pc lv (.int v :: kz g 55 :: st) σ := r_putf hc inX7 tyX7_ok nmX7 rfl (by decide) (show kcell g 55 (σ 55) = _ from rfl) 19 (by decide) hl rfl rfl rfl (Nat.le_of_ble_eq_true rfl) (by simp [kcell, kRowB, kHallB, upd]) d kk
theorem gf_X7_20 (hc : kOk X g own cc nL ret D) {idx : Nat} (hl : Cond.fieldLink own idx "KeyDriftModel" "fewest" "[I" ∈ kT) (d : decode cc pc = .ok (.getfield idx, 3)) (kk : kP X g nL (pc + 3) lv (kz g 64 :: st) σ) : kP X g nL pc lv (kz g 55 :: st) σ := r_getf hc inX7 rfl (by decide) (show kcell g 55 (σ 55) = _ from rfl) 20 (by decide) hl rfl d kk
theorem gf_X7_21 (hc : kOk X g own cc nL ret D) {idx : Nat} (hl : Cond.fieldLink own idx "KeyDriftModel" "then" "[I" ∈ kT) (d : decode cc pc = .ok (.getfield idx, 3)) (kk : kP X g nL (pc + 3) lv (kz g 65 :: st) σ) : kP X g nL pc lv (kz g 55 :: st) σ := r_getf hc inX7 rfl (by decide) (show kcell g 55 (σ 55) = _ from rfl) 21 (by decide) hl rfl d kk
theorem gf_X7_22 (hc : kOk X g own cc nL ret D) {idx : Nat} (hl : Cond.fieldLink own idx "KeyDriftModel" "isKept" "[Z" ∈ kT) (d : decode cc pc = .ok (.getfield idx, 3)) (kk : kP X g nL (pc + 3) lv (kz g 66 :: st) σ) : kP X g nL pc lv (kz g 55 :: st) σ := r_getf hc inX7 rfl (by decide) (show kcell g 55 (σ 55) = _ from rfl) 22 (by decide) hl rfl d kk
theorem gf_X7_23 (hc : kOk X g own cc nL ret D) {idx : Nat} (hl : Cond.fieldLink own idx "KeyDriftModel" "kept" "[I" ∈ kT) (d : decode cc pc = .ok (.getfield idx, 3)) (kk : kP X g nL (pc + 3) lv (kz g 67 :: st) σ) : kP X g nL pc lv (kz g 55 :: st) σ := r_getf hc inX7 rfl (by decide) (show kcell g 55 (σ 55) = _ from rfl) 23 (by decide) hl rfl d kk
theorem gf_X7_24 (hc : kOk X g own cc nL ret D) {idx : Nat} (hl : Cond.fieldLink own idx "KeyDriftModel" "trace" "[I" ∈ kT) (d : decode cc pc = .ok (.getfield idx, 3)) (kk : kP X g nL (pc + 3) lv (kz g 68 :: st) σ) : kP X g nL pc lv (kz g 55 :: st) σ := r_getf hc inX7 rfl (by decide) (show kcell g 55 (σ 55) = _ from rfl) 24 (by decide) hl rfl d kk
theorem gf_X7_25 (hc : kOk X g own cc nL ret D) {idx : Nat} (hl : Cond.fieldLink own idx "KeyDriftModel" "traced" "I" ∈ kT) (d : decode cc pc = .ok (.getfield idx, 3)) (kk : kP X g nL (pc + 3) lv (.int (σ 55 25) :: st) σ) : kP X g nL pc lv (kz g 55 :: st) σ := r_getf hc inX7 rfl (by decide) (show kcell g 55 (σ 55) = _ from rfl) 25 (by decide) hl rfl d kk
theorem pf_X7_25 (hc : kOk X g own cc nL ret D) {idx : Nat} (hl : Cond.fieldLink own idx "KeyDriftModel" "traced" "I" ∈ kT) {v : Int32} (d : decode cc pc = .ok (.putfield idx, 3)) (kk : kP X g nL (pc + 3) lv st (st2 σ 55 25 v)) : kP X g nL pc lv (.int v :: kz g 55 :: st) σ := r_putf hc inX7 tyX7_ok nmX7 rfl (by decide) (show kcell g 55 (σ 55) = _ from rfl) 25 (by decide) hl rfl rfl rfl (Nat.le_of_ble_eq_true rfl) (by simp [kcell, kRowB, kHallB, upd]) d kk
end KF
end
