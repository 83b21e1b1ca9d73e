section
-- ===== PART A: goes FIRST, ahead of the names: the tables' words, and 'selects' of the private methods out of them =====
/-- a private method of a class that the tables say can be made, by its rows of tables_1 -/
def lw_okq (q : MethodName × Nat) : Prop := (q.1.cls ≠ "java/lang/invoke/MethodHandle" ∧ q.1.cls ≠ "java/lang/invoke/VarHandle") ∧ Cond.instantiable q.1.cls q.2 ∈ tables_1 ∧ Cond.privateMethod q.1 ∈ tables_1 ∧ Cond.instanceMethod q.1 ∈ tables_1
theorem lw_p0 : lw_okq (⟨"WordRows$Note", "become", "(IIZ)V"⟩, 9) := ⟨⟨by decide +kernel, by decide +kernel⟩, List.mem_of_getElem? (i := 71) (by decide +kernel), List.mem_of_getElem? (i := 191) (by decide +kernel), List.mem_of_getElem? (i := 192) (by decide +kernel)⟩
theorem lw_p1 : lw_okq (⟨"WordRows", "isNote", "(I)Z"⟩, 9) := ⟨⟨by decide +kernel, by decide +kernel⟩, List.mem_of_getElem? (i := 15) (by decide +kernel), List.mem_of_getElem? (i := 199) (by decide +kernel), List.mem_of_getElem? (i := 200) (by decide +kernel)⟩
theorem lw_p2 : lw_okq (⟨"WordRows", "maySing", "(II)Z"⟩, 9) := ⟨⟨by decide +kernel, by decide +kernel⟩, List.mem_of_getElem? (i := 15) (by decide +kernel), List.mem_of_getElem? (i := 207) (by decide +kernel), List.mem_of_getElem? (i := 208) (by decide +kernel)⟩
theorem lw_p3 : lw_okq (⟨"WordRows", "isBehindMelismaFirst", "(I)Z"⟩, 9) := ⟨⟨by decide +kernel, by decide +kernel⟩, List.mem_of_getElem? (i := 15) (by decide +kernel), List.mem_of_getElem? (i := 211) (by decide +kernel), List.mem_of_getElem? (i := 212) (by decide +kernel)⟩
theorem lw_p4 : lw_okq (⟨"WordRows$Verse", "addSyllable", "(IIIZ)I"⟩, 9) := ⟨⟨by decide +kernel, by decide +kernel⟩, List.mem_of_getElem? (i := 113) (by decide +kernel), List.mem_of_getElem? (i := 216) (by decide +kernel), List.mem_of_getElem? (i := 217) (by decide +kernel)⟩
theorem lw_p5 : lw_okq (⟨"WordRows$Verse", "removeSyllables", "(I)I"⟩, 9) := ⟨⟨by decide +kernel, by decide +kernel⟩, List.mem_of_getElem? (i := 113) (by decide +kernel), List.mem_of_getElem? (i := 224) (by decide +kernel), List.mem_of_getElem? (i := 225) (by decide +kernel)⟩
theorem lw_p6 : lw_okq (⟨"WordRows", "mayBeMelisma", "(II)Z"⟩, 9) := ⟨⟨by decide +kernel, by decide +kernel⟩, List.mem_of_getElem? (i := 15) (by decide +kernel), List.mem_of_getElem? (i := 236) (by decide +kernel), List.mem_of_getElem? (i := 237) (by decide +kernel)⟩
theorem lw_p7 : lw_okq (⟨"WordRows", "hasBoxFrom", "(II)Z"⟩, 9) := ⟨⟨by decide +kernel, by decide +kernel⟩, List.mem_of_getElem? (i := 15) (by decide +kernel), List.mem_of_getElem? (i := 240) (by decide +kernel), List.mem_of_getElem? (i := 241) (by decide +kernel)⟩
theorem lw_p8 : lw_okq (⟨"WordRows$Verse", "hasBox", "(I)Z"⟩, 9) := ⟨⟨by decide +kernel, by decide +kernel⟩, List.mem_of_getElem? (i := 113) (by decide +kernel), List.mem_of_getElem? (i := 244) (by decide +kernel), List.mem_of_getElem? (i := 245) (by decide +kernel)⟩
theorem lw_p9 : lw_okq (⟨"WordRows", "mayBeRefrain", "(II)Z"⟩, 9) := ⟨⟨by decide +kernel, by decide +kernel⟩, List.mem_of_getElem? (i := 15) (by decide +kernel), List.mem_of_getElem? (i := 252) (by decide +kernel), List.mem_of_getElem? (i := 253) (by decide +kernel)⟩
theorem lw_p10 : lw_okq (⟨"WordRows", "placeNotes", "()I"⟩, 9) := ⟨⟨by decide +kernel, by decide +kernel⟩, List.mem_of_getElem? (i := 15) (by decide +kernel), List.mem_of_getElem? (i := 275) (by decide +kernel), List.mem_of_getElem? (i := 276) (by decide +kernel)⟩
theorem lw_p11 : lw_okq (⟨"WordRows", "leastForBoxes", "(I)I"⟩, 9) := ⟨⟨by decide +kernel, by decide +kernel⟩, List.mem_of_getElem? (i := 15) (by decide +kernel), List.mem_of_getElem? (i := 279) (by decide +kernel), List.mem_of_getElem? (i := 280) (by decide +kernel)⟩
theorem lw_p12 : lw_okq (⟨"WordRows$Verse", "offset", "(I)I"⟩, 9) := ⟨⟨by decide +kernel, by decide +kernel⟩, List.mem_of_getElem? (i := 113) (by decide +kernel), List.mem_of_getElem? (i := 283) (by decide +kernel), List.mem_of_getElem? (i := 284) (by decide +kernel)⟩
theorem lw_p13 : lw_okq (⟨"WordRows$Verse", "boxWidth", "(I)I"⟩, 9) := ⟨⟨by decide +kernel, by decide +kernel⟩, List.mem_of_getElem? (i := 113) (by decide +kernel), List.mem_of_getElem? (i := 287) (by decide +kernel), List.mem_of_getElem? (i := 288) (by decide +kernel)⟩
theorem lw_p14 : lw_okq (⟨"WordRows$Verse", "isTied", "(I)Z"⟩, 9) := ⟨⟨by decide +kernel, by decide +kernel⟩, List.mem_of_getElem? (i := 113) (by decide +kernel), List.mem_of_getElem? (i := 291) (by decide +kernel), List.mem_of_getElem? (i := 292) (by decide +kernel)⟩
theorem lw_p15 : lw_okq (⟨"WordRows", "placeBoxes", "(I)I"⟩, 9) := ⟨⟨by decide +kernel, by decide +kernel⟩, List.mem_of_getElem? (i := 15) (by decide +kernel), List.mem_of_getElem? (i := 298) (by decide +kernel), List.mem_of_getElem? (i := 299) (by decide +kernel)⟩
def lw_privs_1 : List (MethodName × Nat) := [(⟨"WordRows$Note", "become", "(IIZ)V"⟩, 9), (⟨"WordRows", "isNote", "(I)Z"⟩, 9), (⟨"WordRows", "maySing", "(II)Z"⟩, 9), (⟨"WordRows", "isBehindMelismaFirst", "(I)Z"⟩, 9), (⟨"WordRows$Verse", "addSyllable", "(IIIZ)I"⟩, 9), (⟨"WordRows$Verse", "removeSyllables", "(I)I"⟩, 9), (⟨"WordRows", "mayBeMelisma", "(II)Z"⟩, 9), (⟨"WordRows", "hasBoxFrom", "(II)Z"⟩, 9), (⟨"WordRows$Verse", "hasBox", "(I)Z"⟩, 9), (⟨"WordRows", "mayBeRefrain", "(II)Z"⟩, 9), (⟨"WordRows", "placeNotes", "()I"⟩, 9), (⟨"WordRows", "leastForBoxes", "(I)I"⟩, 9), (⟨"WordRows$Verse", "offset", "(I)I"⟩, 9), (⟨"WordRows$Verse", "boxWidth", "(I)I"⟩, 9), (⟨"WordRows$Verse", "isTied", "(I)Z"⟩, 9), (⟨"WordRows", "placeBoxes", "(I)I"⟩, 9)]
theorem lw_r1 : ∀ q ∈ lw_privs_1, lw_okq q := List.forall_mem_cons.mpr ⟨lw_p0, List.forall_mem_cons.mpr ⟨lw_p1, List.forall_mem_cons.mpr ⟨lw_p2, List.forall_mem_cons.mpr ⟨lw_p3, List.forall_mem_cons.mpr ⟨lw_p4, List.forall_mem_cons.mpr ⟨lw_p5, List.forall_mem_cons.mpr ⟨lw_p6, List.forall_mem_cons.mpr ⟨lw_p7, List.forall_mem_cons.mpr ⟨lw_p8, List.forall_mem_cons.mpr ⟨lw_p9, List.forall_mem_cons.mpr ⟨lw_p10, List.forall_mem_cons.mpr ⟨lw_p11, List.forall_mem_cons.mpr ⟨lw_p12, List.forall_mem_cons.mpr ⟨lw_p13, List.forall_mem_cons.mpr ⟨lw_p14, List.forall_mem_cons.mpr ⟨lw_p15, fun _ h => absurd h List.not_mem_nil⟩⟩⟩⟩⟩⟩⟩⟩⟩⟩⟩⟩⟩⟩⟩⟩
theorem lw_p16 : lw_okq (⟨"WordRows$Verse", "placeBox", "(II)I"⟩, 9) := ⟨⟨by decide +kernel, by decide +kernel⟩, List.mem_of_getElem? (i := 113) (by decide +kernel), List.mem_of_getElem? (i := 302) (by decide +kernel), List.mem_of_getElem? (i := 303) (by decide +kernel)⟩
theorem lw_p17 : lw_okq (⟨"WordRows$Verse", "boxEnd", "(I)I"⟩, 9) := ⟨⟨by decide +kernel, by decide +kernel⟩, List.mem_of_getElem? (i := 113) (by decide +kernel), List.mem_of_getElem? (i := 308) (by decide +kernel), List.mem_of_getElem? (i := 309) (by decide +kernel)⟩
theorem lw_p18 : lw_okq (⟨"WordRows$Verse", "isGoingOn", "(I)Z"⟩, 9) := ⟨⟨by decide +kernel, by decide +kernel⟩, List.mem_of_getElem? (i := 113) (by decide +kernel), List.mem_of_getElem? (i := 312) (by decide +kernel), List.mem_of_getElem? (i := 313) (by decide +kernel)⟩
theorem lw_p19 : lw_okq (⟨"WordRows$Note", "end", "()I"⟩, 9) := ⟨⟨by decide +kernel, by decide +kernel⟩, List.mem_of_getElem? (i := 71) (by decide +kernel), List.mem_of_getElem? (i := 316) (by decide +kernel), List.mem_of_getElem? (i := 317) (by decide +kernel)⟩
theorem lw_p20 : lw_okq (⟨"WordRows", "isBox", "(II)Z"⟩, 9) := ⟨⟨by decide +kernel, by decide +kernel⟩, List.mem_of_getElem? (i := 15) (by decide +kernel), List.mem_of_getElem? (i := 328) (by decide +kernel), List.mem_of_getElem? (i := 329) (by decide +kernel)⟩
theorem lw_p21 : lw_okq (⟨"WordRows$Verse", "hyphenRoom", "(I)I"⟩, 9) := ⟨⟨by decide +kernel, by decide +kernel⟩, List.mem_of_getElem? (i := 113) (by decide +kernel), List.mem_of_getElem? (i := 339) (by decide +kernel), List.mem_of_getElem? (i := 340) (by decide +kernel)⟩
theorem lw_p22 : lw_okq (⟨"WordRows$Verse", "nextBox", "(I)I"⟩, 9) := ⟨⟨by decide +kernel, by decide +kernel⟩, List.mem_of_getElem? (i := 113) (by decide +kernel), List.mem_of_getElem? (i := 343) (by decide +kernel), List.mem_of_getElem? (i := 344) (by decide +kernel)⟩
theorem lw_p23 : lw_okq (⟨"WordRows", "lineEnd", "(ILWordRows$Verse;)I"⟩, 9) := ⟨⟨by decide +kernel, by decide +kernel⟩, List.mem_of_getElem? (i := 15) (by decide +kernel), List.mem_of_getElem? (i := 357) (by decide +kernel), List.mem_of_getElem? (i := 358) (by decide +kernel)⟩
theorem lw_p24 : lw_okq (⟨"WordRows", "listFaults", "()I"⟩, 9) := ⟨⟨by decide +kernel, by decide +kernel⟩, List.mem_of_getElem? (i := 15) (by decide +kernel), List.mem_of_getElem? (i := 369) (by decide +kernel), List.mem_of_getElem? (i := 370) (by decide +kernel)⟩
theorem lw_p25 : lw_okq (⟨"WordRows$Verse", "lastBox", "()I"⟩, 9) := ⟨⟨by decide +kernel, by decide +kernel⟩, List.mem_of_getElem? (i := 113) (by decide +kernel), List.mem_of_getElem? (i := 373) (by decide +kernel), List.mem_of_getElem? (i := 374) (by decide +kernel)⟩
theorem lw_p26 : lw_okq (⟨"WordRows", "isFault", "(III)Z"⟩, 9) := ⟨⟨by decide +kernel, by decide +kernel⟩, List.mem_of_getElem? (i := 15) (by decide +kernel), List.mem_of_getElem? (i := 377) (by decide +kernel), List.mem_of_getElem? (i := 378) (by decide +kernel)⟩
theorem lw_p27 : lw_okq (⟨"WordRows", "sharedVerse", "(I)I"⟩, 9) := ⟨⟨by decide +kernel, by decide +kernel⟩, List.mem_of_getElem? (i := 15) (by decide +kernel), List.mem_of_getElem? (i := 389) (by decide +kernel), List.mem_of_getElem? (i := 390) (by decide +kernel)⟩
theorem lw_p28 : lw_okq (⟨"WordRows", "areAlike", "(LWordRows$Verse;LWordRows$Verse;)Z"⟩, 9) := ⟨⟨by decide +kernel, by decide +kernel⟩, List.mem_of_getElem? (i := 15) (by decide +kernel), List.mem_of_getElem? (i := 393) (by decide +kernel), List.mem_of_getElem? (i := 394) (by decide +kernel)⟩
theorem lw_p29 : lw_okq (⟨"WordRows$Verse", "hasBoxes", "()Z"⟩, 9) := ⟨⟨by decide +kernel, by decide +kernel⟩, List.mem_of_getElem? (i := 113) (by decide +kernel), List.mem_of_getElem? (i := 397) (by decide +kernel), List.mem_of_getElem? (i := 398) (by decide +kernel)⟩
theorem lw_p30 : lw_okq (⟨"WordRows$Verse", "hasSameSyllables", "(LWordRows$Verse;I)Z"⟩, 9) := ⟨⟨by decide +kernel, by decide +kernel⟩, List.mem_of_getElem? (i := 113) (by decide +kernel), List.mem_of_getElem? (i := 401) (by decide +kernel), List.mem_of_getElem? (i := 402) (by decide +kernel)⟩
theorem lw_p31 : lw_okq (⟨"WordRows$Cutter", "addPattern", "(III)I"⟩, 11) := ⟨⟨by decide +kernel, by decide +kernel⟩, List.mem_of_getElem? (i := 27) (by decide +kernel), List.mem_of_getElem? (i := 429) (by decide +kernel), List.mem_of_getElem? (i := 430) (by decide +kernel)⟩
def lw_privs_2 : List (MethodName × Nat) := [(⟨"WordRows$Verse", "placeBox", "(II)I"⟩, 9), (⟨"WordRows$Verse", "boxEnd", "(I)I"⟩, 9), (⟨"WordRows$Verse", "isGoingOn", "(I)Z"⟩, 9), (⟨"WordRows$Note", "end", "()I"⟩, 9), (⟨"WordRows", "isBox", "(II)Z"⟩, 9), (⟨"WordRows$Verse", "hyphenRoom", "(I)I"⟩, 9), (⟨"WordRows$Verse", "nextBox", "(I)I"⟩, 9), (⟨"WordRows", "lineEnd", "(ILWordRows$Verse;)I"⟩, 9), (⟨"WordRows", "listFaults", "()I"⟩, 9), (⟨"WordRows$Verse", "lastBox", "()I"⟩, 9), (⟨"WordRows", "isFault", "(III)Z"⟩, 9), (⟨"WordRows", "sharedVerse", "(I)I"⟩, 9), (⟨"WordRows", "areAlike", "(LWordRows$Verse;LWordRows$Verse;)Z"⟩, 9), (⟨"WordRows$Verse", "hasBoxes", "()Z"⟩, 9), (⟨"WordRows$Verse", "hasSameSyllables", "(LWordRows$Verse;I)Z"⟩, 9), (⟨"WordRows$Cutter", "addPattern", "(III)I"⟩, 11)]
theorem lw_r2 : ∀ q ∈ lw_privs_2, lw_okq q := List.forall_mem_cons.mpr ⟨lw_p16, List.forall_mem_cons.mpr ⟨lw_p17, List.forall_mem_cons.mpr ⟨lw_p18, List.forall_mem_cons.mpr ⟨lw_p19, List.forall_mem_cons.mpr ⟨lw_p20, List.forall_mem_cons.mpr ⟨lw_p21, List.forall_mem_cons.mpr ⟨lw_p22, List.forall_mem_cons.mpr ⟨lw_p23, List.forall_mem_cons.mpr ⟨lw_p24, List.forall_mem_cons.mpr ⟨lw_p25, List.forall_mem_cons.mpr ⟨lw_p26, List.forall_mem_cons.mpr ⟨lw_p27, List.forall_mem_cons.mpr ⟨lw_p28, List.forall_mem_cons.mpr ⟨lw_p29, List.forall_mem_cons.mpr ⟨lw_p30, List.forall_mem_cons.mpr ⟨lw_p31, fun _ h => absurd h List.not_mem_nil⟩⟩⟩⟩⟩⟩⟩⟩⟩⟩⟩⟩⟩⟩⟩⟩
theorem lw_p32 : lw_okq (⟨"WordRows$Cutter", "addLetter", "(I)I"⟩, 11) := ⟨⟨by decide +kernel, by decide +kernel⟩, List.mem_of_getElem? (i := 27) (by decide +kernel), List.mem_of_getElem? (i := 437) (by decide +kernel), List.mem_of_getElem? (i := 438) (by decide +kernel)⟩
theorem lw_p33 : lw_okq (⟨"WordRows$Cutter", "changeAhead", "(I)I"⟩, 11) := ⟨⟨by decide +kernel, by decide +kernel⟩, List.mem_of_getElem? (i := 27) (by decide +kernel), List.mem_of_getElem? (i := 445) (by decide +kernel), List.mem_of_getElem? (i := 446) (by decide +kernel)⟩
theorem lw_p34 : lw_okq (⟨"WordRows$Cutter", "changeBehind", "(I)I"⟩, 11) := ⟨⟨by decide +kernel, by decide +kernel⟩, List.mem_of_getElem? (i := 27) (by decide +kernel), List.mem_of_getElem? (i := 449) (by decide +kernel), List.mem_of_getElem? (i := 450) (by decide +kernel)⟩
theorem lw_p35 : lw_okq (⟨"WordRows$Cutter", "findCuts", "()I"⟩, 11) := ⟨⟨by decide +kernel, by decide +kernel⟩, List.mem_of_getElem? (i := 27) (by decide +kernel), List.mem_of_getElem? (i := 457) (by decide +kernel), List.mem_of_getElem? (i := 458) (by decide +kernel)⟩
theorem lw_p36 : lw_okq (⟨"WordRows$Cutter", "weighPlaces", "()V"⟩, 11) := ⟨⟨by decide +kernel, by decide +kernel⟩, List.mem_of_getElem? (i := 27) (by decide +kernel), List.mem_of_getElem? (i := 461) (by decide +kernel), List.mem_of_getElem? (i := 462) (by decide +kernel)⟩
theorem lw_p37 : lw_okq (⟨"WordRows$Cutter", "standsAt", "(II)Z"⟩, 11) := ⟨⟨by decide +kernel, by decide +kernel⟩, List.mem_of_getElem? (i := 27) (by decide +kernel), List.mem_of_getElem? (i := 465) (by decide +kernel), List.mem_of_getElem? (i := 466) (by decide +kernel)⟩
theorem lw_p38 : lw_okq (⟨"WordRows$Cutter", "raiseValues", "(II)V"⟩, 11) := ⟨⟨by decide +kernel, by decide +kernel⟩, List.mem_of_getElem? (i := 27) (by decide +kernel), List.mem_of_getElem? (i := 469) (by decide +kernel), List.mem_of_getElem? (i := 470) (by decide +kernel)⟩
theorem lw_p39 : lw_okq (⟨"WordRows", "syllablesInAll", "()I"⟩, 9) := ⟨⟨by decide +kernel, by decide +kernel⟩, List.mem_of_getElem? (i := 15) (by decide +kernel), List.mem_of_getElem? (i := 478) (by decide +kernel), List.mem_of_getElem? (i := 479) (by decide +kernel)⟩
theorem lw_p40 : lw_okq (⟨"WordRows", "chordsInAll", "()I"⟩, 9) := ⟨⟨by decide +kernel, by decide +kernel⟩, List.mem_of_getElem? (i := 15) (by decide +kernel), List.mem_of_getElem? (i := 482) (by decide +kernel), List.mem_of_getElem? (i := 483) (by decide +kernel)⟩
theorem lw_p41 : lw_okq (⟨"WordRows$Verse", "empty", "()V"⟩, 9) := ⟨⟨by decide +kernel, by decide +kernel⟩, List.mem_of_getElem? (i := 113) (by decide +kernel), List.mem_of_getElem? (i := 490) (by decide +kernel), List.mem_of_getElem? (i := 491) (by decide +kernel)⟩
theorem lw_p42 : lw_okq (⟨"WordRows$Cutter", "empty", "()V"⟩, 11) := ⟨⟨by decide +kernel, by decide +kernel⟩, List.mem_of_getElem? (i := 27) (by decide +kernel), List.mem_of_getElem? (i := 494) (by decide +kernel), List.mem_of_getElem? (i := 495) (by decide +kernel)⟩
theorem lw_p43 : lw_okq (⟨"java/lang/Throwable", "fillInStackTrace", "(I)Ljava/lang/Throwable;"⟩, 6) := ⟨⟨by decide +kernel, by decide +kernel⟩, List.mem_of_getElem? (i := 530) (by decide +kernel), List.mem_of_getElem? (i := 528) (by decide +kernel), List.mem_of_getElem? (i := 529) (by decide +kernel)⟩
theorem lw_p44 : lw_okq (⟨"WordRowsModel", "fresh", "()V"⟩, 32) := ⟨⟨by decide +kernel, by decide +kernel⟩, List.mem_of_getElem? (i := 619) (by decide +kernel), List.mem_of_getElem? (i := 625) (by decide +kernel), List.mem_of_getElem? (i := 626) (by decide +kernel)⟩
theorem lw_p45 : lw_okq (⟨"WordRowsModel", "isNote", "(I)Z"⟩, 32) := ⟨⟨by decide +kernel, by decide +kernel⟩, List.mem_of_getElem? (i := 619) (by decide +kernel), List.mem_of_getElem? (i := 740) (by decide +kernel), List.mem_of_getElem? (i := 741) (by decide +kernel)⟩
theorem lw_p46 : lw_okq (⟨"WordRowsModel", "isBehindFirst", "(I)Z"⟩, 32) := ⟨⟨by decide +kernel, by decide +kernel⟩, List.mem_of_getElem? (i := 619) (by decide +kernel), List.mem_of_getElem? (i := 748) (by decide +kernel), List.mem_of_getElem? (i := 749) (by decide +kernel)⟩
theorem lw_p47 : lw_okq (⟨"WordRowsModel", "syllablesOf", "(II)I"⟩, 32) := ⟨⟨by decide +kernel, by decide +kernel⟩, List.mem_of_getElem? (i := 619) (by decide +kernel), List.mem_of_getElem? (i := 765) (by decide +kernel), List.mem_of_getElem? (i := 766) (by decide +kernel)⟩
def lw_privs_3 : List (MethodName × Nat) := [(⟨"WordRows$Cutter", "addLetter", "(I)I"⟩, 11), (⟨"WordRows$Cutter", "changeAhead", "(I)I"⟩, 11), (⟨"WordRows$Cutter", "changeBehind", "(I)I"⟩, 11), (⟨"WordRows$Cutter", "findCuts", "()I"⟩, 11), (⟨"WordRows$Cutter", "weighPlaces", "()V"⟩, 11), (⟨"WordRows$Cutter", "standsAt", "(II)Z"⟩, 11), (⟨"WordRows$Cutter", "raiseValues", "(II)V"⟩, 11), (⟨"WordRows", "syllablesInAll", "()I"⟩, 9), (⟨"WordRows", "chordsInAll", "()I"⟩, 9), (⟨"WordRows$Verse", "empty", "()V"⟩, 9), (⟨"WordRows$Cutter", "empty", "()V"⟩, 11), (⟨"java/lang/Throwable", "fillInStackTrace", "(I)Ljava/lang/Throwable;"⟩, 6), (⟨"WordRowsModel", "fresh", "()V"⟩, 32), (⟨"WordRowsModel", "isNote", "(I)Z"⟩, 32), (⟨"WordRowsModel", "isBehindFirst", "(I)Z"⟩, 32), (⟨"WordRowsModel", "syllablesOf", "(II)I"⟩, 32)]
theorem lw_r3 : ∀ q ∈ lw_privs_3, lw_okq q := List.forall_mem_cons.mpr ⟨lw_p32, List.forall_mem_cons.mpr ⟨lw_p33, List.forall_mem_cons.mpr ⟨lw_p34, List.forall_mem_cons.mpr ⟨lw_p35, List.forall_mem_cons.mpr ⟨lw_p36, List.forall_mem_cons.mpr ⟨lw_p37, List.forall_mem_cons.mpr ⟨lw_p38, List.forall_mem_cons.mpr ⟨lw_p39, List.forall_mem_cons.mpr ⟨lw_p40, List.forall_mem_cons.mpr ⟨lw_p41, List.forall_mem_cons.mpr ⟨lw_p42, List.forall_mem_cons.mpr ⟨lw_p43, List.forall_mem_cons.mpr ⟨lw_p44, List.forall_mem_cons.mpr ⟨lw_p45, List.forall_mem_cons.mpr ⟨lw_p46, List.forall_mem_cons.mpr ⟨lw_p47, fun _ h => absurd h List.not_mem_nil⟩⟩⟩⟩⟩⟩⟩⟩⟩⟩⟩⟩⟩⟩⟩⟩
theorem lw_p48 : lw_okq (⟨"WordRowsModel", "placeNote", "(I)V"⟩, 32) := ⟨⟨by decide +kernel, by decide +kernel⟩, List.mem_of_getElem? (i := 619) (by decide +kernel), List.mem_of_getElem? (i := 789) (by decide +kernel), List.mem_of_getElem? (i := 790) (by decide +kernel)⟩
theorem lw_p49 : lw_okq (⟨"WordRowsModel", "alone", "(I)I"⟩, 32) := ⟨⟨by decide +kernel, by decide +kernel⟩, List.mem_of_getElem? (i := 619) (by decide +kernel), List.mem_of_getElem? (i := 793) (by decide +kernel), List.mem_of_getElem? (i := 794) (by decide +kernel)⟩
theorem lw_p50 : lw_okq (⟨"WordRowsModel", "isBox", "(II)Z"⟩, 32) := ⟨⟨by decide +kernel, by decide +kernel⟩, List.mem_of_getElem? (i := 619) (by decide +kernel), List.mem_of_getElem? (i := 797) (by decide +kernel), List.mem_of_getElem? (i := 798) (by decide +kernel)⟩
theorem lw_p51 : lw_okq (⟨"WordRowsModel", "offset", "(II)I"⟩, 32) := ⟨⟨by decide +kernel, by decide +kernel⟩, List.mem_of_getElem? (i := 619) (by decide +kernel), List.mem_of_getElem? (i := 801) (by decide +kernel), List.mem_of_getElem? (i := 802) (by decide +kernel)⟩
theorem lw_p52 : lw_okq (⟨"WordRowsModel", "wideOf", "(II)I"⟩, 32) := ⟨⟨by decide +kernel, by decide +kernel⟩, List.mem_of_getElem? (i := 619) (by decide +kernel), List.mem_of_getElem? (i := 805) (by decide +kernel), List.mem_of_getElem? (i := 806) (by decide +kernel)⟩
theorem lw_p53 : lw_okq (⟨"WordRowsModel", "free", "(II)I"⟩, 32) := ⟨⟨by decide +kernel, by decide +kernel⟩, List.mem_of_getElem? (i := 619) (by decide +kernel), List.mem_of_getElem? (i := 812) (by decide +kernel), List.mem_of_getElem? (i := 813) (by decide +kernel)⟩
theorem lw_p54 : lw_okq (⟨"WordRowsModel", "other", "(III)I"⟩, 32) := ⟨⟨by decide +kernel, by decide +kernel⟩, List.mem_of_getElem? (i := 619) (by decide +kernel), List.mem_of_getElem? (i := 816) (by decide +kernel), List.mem_of_getElem? (i := 817) (by decide +kernel)⟩
theorem lw_p55 : lw_okq (⟨"WordRowsModel", "endOf", "(II)I"⟩, 32) := ⟨⟨by decide +kernel, by decide +kernel⟩, List.mem_of_getElem? (i := 619) (by decide +kernel), List.mem_of_getElem? (i := 820) (by decide +kernel), List.mem_of_getElem? (i := 821) (by decide +kernel)⟩
theorem lw_p56 : lw_okq (⟨"WordRowsModel", "goesOn", "(II)Z"⟩, 32) := ⟨⟨by decide +kernel, by decide +kernel⟩, List.mem_of_getElem? (i := 619) (by decide +kernel), List.mem_of_getElem? (i := 824) (by decide +kernel), List.mem_of_getElem? (i := 825) (by decide +kernel)⟩
theorem lw_p57 : lw_okq (⟨"WordRowsModel", "chordBefore", "(I)I"⟩, 32) := ⟨⟨by decide +kernel, by decide +kernel⟩, List.mem_of_getElem? (i := 619) (by decide +kernel), List.mem_of_getElem? (i := 828) (by decide +kernel), List.mem_of_getElem? (i := 829) (by decide +kernel)⟩
theorem lw_p58 : lw_okq (⟨"WordRowsModel", "noBox", "(II)Z"⟩, 32) := ⟨⟨by decide +kernel, by decide +kernel⟩, List.mem_of_getElem? (i := 619) (by decide +kernel), List.mem_of_getElem? (i := 840) (by decide +kernel), List.mem_of_getElem? (i := 841) (by decide +kernel)⟩
theorem lw_p59 : lw_okq (⟨"WordRowsModel", "hyphenMany", "(II)I"⟩, 32) := ⟨⟨by decide +kernel, by decide +kernel⟩, List.mem_of_getElem? (i := 619) (by decide +kernel), List.mem_of_getElem? (i := 848) (by decide +kernel), List.mem_of_getElem? (i := 849) (by decide +kernel)⟩
theorem lw_p60 : lw_okq (⟨"WordRowsModel", "faultAt", "(II)I"⟩, 32) := ⟨⟨by decide +kernel, by decide +kernel⟩, List.mem_of_getElem? (i := 619) (by decide +kernel), List.mem_of_getElem? (i := 869) (by decide +kernel), List.mem_of_getElem? (i := 870) (by decide +kernel)⟩
theorem lw_p61 : lw_okq (⟨"WordRowsModel", "hasBoxes", "(I)Z"⟩, 32) := ⟨⟨by decide +kernel, by decide +kernel⟩, List.mem_of_getElem? (i := 619) (by decide +kernel), List.mem_of_getElem? (i := 873) (by decide +kernel), List.mem_of_getElem? (i := 874) (by decide +kernel)⟩
theorem lw_p62 : lw_okq (⟨"WordRowsModel", "sharedWith", "(I)I"⟩, 32) := ⟨⟨by decide +kernel, by decide +kernel⟩, List.mem_of_getElem? (i := 619) (by decide +kernel), List.mem_of_getElem? (i := 886) (by decide +kernel), List.mem_of_getElem? (i := 887) (by decide +kernel)⟩
theorem lw_p63 : lw_okq (⟨"WordRowsModel", "areAlike", "(II)Z"⟩, 32) := ⟨⟨by decide +kernel, by decide +kernel⟩, List.mem_of_getElem? (i := 619) (by decide +kernel), List.mem_of_getElem? (i := 890) (by decide +kernel), List.mem_of_getElem? (i := 891) (by decide +kernel)⟩
def lw_privs_4 : List (MethodName × Nat) := [(⟨"WordRowsModel", "placeNote", "(I)V"⟩, 32), (⟨"WordRowsModel", "alone", "(I)I"⟩, 32), (⟨"WordRowsModel", "isBox", "(II)Z"⟩, 32), (⟨"WordRowsModel", "offset", "(II)I"⟩, 32), (⟨"WordRowsModel", "wideOf", "(II)I"⟩, 32), (⟨"WordRowsModel", "free", "(II)I"⟩, 32), (⟨"WordRowsModel", "other", "(III)I"⟩, 32), (⟨"WordRowsModel", "endOf", "(II)I"⟩, 32), (⟨"WordRowsModel", "goesOn", "(II)Z"⟩, 32), (⟨"WordRowsModel", "chordBefore", "(I)I"⟩, 32), (⟨"WordRowsModel", "noBox", "(II)Z"⟩, 32), (⟨"WordRowsModel", "hyphenMany", "(II)I"⟩, 32), (⟨"WordRowsModel", "faultAt", "(II)I"⟩, 32), (⟨"WordRowsModel", "hasBoxes", "(I)Z"⟩, 32), (⟨"WordRowsModel", "sharedWith", "(I)I"⟩, 32), (⟨"WordRowsModel", "areAlike", "(II)Z"⟩, 32)]
theorem lw_r4 : ∀ q ∈ lw_privs_4, lw_okq q := List.forall_mem_cons.mpr ⟨lw_p48, List.forall_mem_cons.mpr ⟨lw_p49, List.forall_mem_cons.mpr ⟨lw_p50, List.forall_mem_cons.mpr ⟨lw_p51, List.forall_mem_cons.mpr ⟨lw_p52, List.forall_mem_cons.mpr ⟨lw_p53, List.forall_mem_cons.mpr ⟨lw_p54, List.forall_mem_cons.mpr ⟨lw_p55, List.forall_mem_cons.mpr ⟨lw_p56, List.forall_mem_cons.mpr ⟨lw_p57, List.forall_mem_cons.mpr ⟨lw_p58, List.forall_mem_cons.mpr ⟨lw_p59, List.forall_mem_cons.mpr ⟨lw_p60, List.forall_mem_cons.mpr ⟨lw_p61, List.forall_mem_cons.mpr ⟨lw_p62, List.forall_mem_cons.mpr ⟨lw_p63, fun _ h => absurd h List.not_mem_nil⟩⟩⟩⟩⟩⟩⟩⟩⟩⟩⟩⟩⟩⟩⟩⟩
theorem lw_p64 : lw_okq (⟨"WordRowsModel", "areAlikeAt", "(III)Z"⟩, 32) := ⟨⟨by decide +kernel, by decide +kernel⟩, List.mem_of_getElem? (i := 619) (by decide +kernel), List.mem_of_getElem? (i := 894) (by decide +kernel), List.mem_of_getElem? (i := 895) (by decide +kernel)⟩
theorem lw_p65 : lw_okq (⟨"WordRowsModel", "greatest", "(I)I"⟩, 32) := ⟨⟨by decide +kernel, by decide +kernel⟩, List.mem_of_getElem? (i := 619) (by decide +kernel), List.mem_of_getElem? (i := 923) (by decide +kernel), List.mem_of_getElem? (i := 924) (by decide +kernel)⟩
theorem lw_p66 : lw_okq (⟨"WordRowsModel", "stands", "(II)Z"⟩, 32) := ⟨⟨by decide +kernel, by decide +kernel⟩, List.mem_of_getElem? (i := 619) (by decide +kernel), List.mem_of_getElem? (i := 927) (by decide +kernel), List.mem_of_getElem? (i := 928) (by decide +kernel)⟩
theorem lw_p67 : lw_okq (⟨"WordRowsModel", "signAt", "(I)I"⟩, 32) := ⟨⟨by decide +kernel, by decide +kernel⟩, List.mem_of_getElem? (i := 619) (by decide +kernel), List.mem_of_getElem? (i := 931) (by decide +kernel), List.mem_of_getElem? (i := 932) (by decide +kernel)⟩
def lw_privs_5 : List (MethodName × Nat) := [(⟨"WordRowsModel", "areAlikeAt", "(III)Z"⟩, 32), (⟨"WordRowsModel", "greatest", "(I)I"⟩, 32), (⟨"WordRowsModel", "stands", "(II)Z"⟩, 32), (⟨"WordRowsModel", "signAt", "(I)I"⟩, 32)]
theorem lw_r5 : ∀ q ∈ lw_privs_5, lw_okq q := List.forall_mem_cons.mpr ⟨lw_p64, List.forall_mem_cons.mpr ⟨lw_p65, List.forall_mem_cons.mpr ⟨lw_p66, List.forall_mem_cons.mpr ⟨lw_p67, fun _ h => absurd h List.not_mem_nil⟩⟩⟩⟩
def lw_privs : List (MethodName × Nat) := lw_privs_1 ++ (lw_privs_2 ++ (lw_privs_3 ++ (lw_privs_4 ++ (lw_privs_5))))
def lw_tbl : List Cond := k2_sels lw_privs ++ tables_1
theorem lw_privs_ok : ∀ q ∈ lw_privs, lw_okq q := by
  show ∀ q ∈ lw_privs_1 ++ (lw_privs_2 ++ (lw_privs_3 ++ (lw_privs_4 ++ (lw_privs_5)))), lw_okq q
  exact List.forall_mem_append.mpr ⟨lw_r1, List.forall_mem_append.mpr ⟨lw_r2, List.forall_mem_append.mpr ⟨lw_r3, List.forall_mem_append.mpr ⟨lw_r4, lw_r5⟩⟩⟩⟩
-- ===== end of PART A; then your names; then what follows =====
end
section
def RX0 : String := "WordRows$Cutter"
def TX0 : u_T := fun k => match k with
  | 0 => ("WordRows$Cutter", "patternSigns", "[I", true)
  | 1 => ("WordRows$Cutter", "patternLengths", "[I", true)
  | 2 => ("WordRows$Cutter", "patternValues", "[I", true)
  | 3 => ("WordRows$Cutter", "patternCount", "I", false)
  | 4 => ("WordRows$Cutter", "framed", "[I", true)
  | 5 => ("WordRows$Cutter", "letterCount", "I", false)
  | 6 => ("WordRows$Cutter", "greatest", "[I", true)
  | 7 => ("WordRows$Cutter", "leastAhead", "I", false)
  | 8 => ("WordRows$Cutter", "leastBehind", "I", false)
  | 9 => ("WordRows$Cutter", "cutPlaces", "[I", true)
  | _ => ("WordRows$Cutter", "cutCount", "I", false)
def tyX0 : Nat → FieldType := fun k => match k with
  | 0 => .array .int
  | 1 => .array .int
  | 2 => .array .int
  | 3 => .int
  | 4 => .array .int
  | 5 => .int
  | 6 => .array .int
  | 7 => .int
  | 8 => .int
  | 9 => .array .int
  | _ => .int
abbrev wsX00 : List Cond := u_ws RX0 TX0 11
theorem nmX0 : ∀ a, a < 11 → ∀ b, b < 11 → a ≠ b → (TX0 a).2.1 ≠ (TX0 b).2.1 := by decide +kernel
theorem tyX0_ok : ∀ k, k < 11 → parseFieldDescriptor (TX0 k).2.2.1 = some (tyX0 k) := by decide +kernel
abbrev cX0_init : ByteArray := prog_2_method_1_code
def yX0_init : MethodName := ⟨RX0, "<init>", "()V"⟩
abbrev cX0_empty : ByteArray := prog_2_method_2_code
def yX0_empty : MethodName := ⟨RX0, "empty", "()V"⟩
abbrev cX0_signCount : ByteArray := prog_2_method_3_code
def yX0_signCount : MethodName := ⟨RX0, "signCount", "(J)I"⟩
abbrev cX0_areSigns : ByteArray := prog_2_method_4_code
def yX0_areSigns : MethodName := ⟨RX0, "areSigns", "(JI)Z"⟩
abbrev cX0_signAt : ByteArray := prog_2_method_5_code
def yX0_signAt : MethodName := ⟨RX0, "signAt", "(JI)I"⟩
abbrev cX0_areValuesFor : ByteArray := prog_2_method_6_code
def yX0_areValuesFor : MethodName := ⟨RX0, "areValuesFor", "(II)Z"⟩
abbrev cX0_addPattern : ByteArray := prog_2_method_7_code
def yX0_addPattern : MethodName := ⟨RX0, "addPattern", "(III)I"⟩
abbrev cX0_addLetter : ByteArray := prog_2_method_8_code
def yX0_addLetter : MethodName := ⟨RX0, "addLetter", "(I)I"⟩
abbrev cX0_changeAhead : ByteArray := prog_2_method_9_code
def yX0_changeAhead : MethodName := ⟨RX0, "changeAhead", "(I)I"⟩
abbrev cX0_changeBehind : ByteArray := prog_2_method_10_code
def yX0_changeBehind : MethodName := ⟨RX0, "changeBehind", "(I)I"⟩
abbrev cX0_findCuts : ByteArray := prog_2_method_11_code
def yX0_findCuts : MethodName := ⟨RX0, "findCuts", "()I"⟩
abbrev cX0_weighPlaces : ByteArray := prog_2_method_12_code
def yX0_weighPlaces : MethodName := ⟨RX0, "weighPlaces", "()V"⟩
abbrev cX0_standsAt : ByteArray := prog_2_method_13_code
def yX0_standsAt : MethodName := ⟨RX0, "standsAt", "(II)Z"⟩
abbrev cX0_raiseValues : ByteArray := prog_2_method_14_code
def yX0_raiseValues : MethodName := ⟨RX0, "raiseValues", "(II)V"⟩
def RX1 : String := "WordRows$Note"
def TX1 : u_T := fun k => match k with
  | 0 => ("WordRows$Note", "width", "I", false)
  | 1 => ("WordRows$Note", "length", "I", false)
  | 2 => ("WordRows$Note", "isRest", "Z", false)
  | 3 => ("WordRows$Note", "chordWidth", "I", false)
  | 4 => ("WordRows$Note", "melismaFirst", "I", false)
  | 5 => ("WordRows$Note", "melismaLast", "I", false)
  | 6 => ("WordRows$Note", "refrainFirst", "I", false)
  | 7 => ("WordRows$Note", "x", "I", false)
  | _ => ("WordRows$Note", "pushed", "I", false)
def tyX1 : Nat → FieldType := fun k => match k with
  | 0 => .int
  | 1 => .int
  | 2 => .boolean
  | 3 => .int
  | 4 => .int
  | 5 => .int
  | 6 => .int
  | 7 => .int
  | _ => .int
abbrev wsX10 : List Cond := u_ws RX1 TX1 9
theorem nmX1 : ∀ a, a < 9 → ∀ b, b < 9 → a ≠ b → (TX1 a).2.1 ≠ (TX1 b).2.1 := by decide +kernel
theorem tyX1_ok : ∀ k, k < 9 → parseFieldDescriptor (TX1 k).2.2.1 = some (tyX1 k) := by decide +kernel
abbrev cX1_init : ByteArray := prog_3_method_1_code
def yX1_init : MethodName := ⟨RX1, "<init>", "()V"⟩
abbrev cX1_become : ByteArray := prog_3_method_2_code
def yX1_become : MethodName := ⟨RX1, "become", "(IIZ)V"⟩
abbrev cX1_end : ByteArray := prog_3_method_3_code
def yX1_end : MethodName := ⟨RX1, "end", "()I"⟩
def RX2 : String := "WordRows$Verse"
def TX2 : u_T := fun k => match k with
  | 0 => ("WordRows$Verse", "counts", "[I", true)
  | 1 => ("WordRows$Verse", "widths", "[I", true)
  | 2 => ("WordRows$Verse", "vowels", "[I", true)
  | 3 => ("WordRows$Verse", "goings", "[Z", true)
  | 4 => ("WordRows$Verse", "begins", "[I", true)
  | 5 => ("WordRows$Verse", "syllableCount", "I", false)
  | 6 => ("WordRows$Verse", "way", "I", false)
  | 7 => ("WordRows$Verse", "isTranslation", "Z", false)
  | _ => ("WordRows$Verse", "freeFrom", "I", false)
def tyX2 : Nat → FieldType := fun k => match k with
  | 0 => .array .int
  | 1 => .array .int
  | 2 => .array .int
  | 3 => .array .boolean
  | 4 => .array .int
  | 5 => .int
  | 6 => .int
  | 7 => .boolean
  | _ => .int
abbrev wsX20 : List Cond := u_ws RX2 TX2 9
theorem nmX2 : ∀ a, a < 9 → ∀ b, b < 9 → a ≠ b → (TX2 a).2.1 ≠ (TX2 b).2.1 := by decide +kernel
theorem tyX2_ok : ∀ k, k < 9 → parseFieldDescriptor (TX2 k).2.2.1 = some (tyX2 k) := by decide +kernel
abbrev cX2_init : ByteArray := prog_4_method_1_code
def yX2_init : MethodName := ⟨RX2, "<init>", "()V"⟩
abbrev cX2_empty : ByteArray := prog_4_method_2_code
def yX2_empty : MethodName := ⟨RX2, "empty", "()V"⟩
abbrev cX2_addSyllable : ByteArray := prog_4_method_3_code
def yX2_addSyllable : MethodName := ⟨RX2, "addSyllable", "(IIIZ)I"⟩
abbrev cX2_removeSyllables : ByteArray := prog_4_method_4_code
def yX2_removeSyllables : MethodName := ⟨RX2, "removeSyllables", "(I)I"⟩
abbrev cX2_hasBoxes : ByteArray := prog_4_method_5_code
def yX2_hasBoxes : MethodName := ⟨RX2, "hasBoxes", "()Z"⟩
abbrev cX2_hasBox : ByteArray := prog_4_method_6_code
def yX2_hasBox : MethodName := ⟨RX2, "hasBox", "(I)Z"⟩
abbrev cX2_isTied : ByteArray := prog_4_method_7_code
def yX2_isTied : MethodName := ⟨RX2, "isTied", "(I)Z"⟩
abbrev cX2_isGoingOn : ByteArray := prog_4_method_8_code
def yX2_isGoingOn : MethodName := ⟨RX2, "isGoingOn", "(I)Z"⟩
abbrev cX2_boxWidth : ByteArray := prog_4_method_9_code
def yX2_boxWidth : MethodName := ⟨RX2, "boxWidth", "(I)I"⟩
abbrev cX2_boxEnd : ByteArray := prog_4_method_10_code
def yX2_boxEnd : MethodName := ⟨RX2, "boxEnd", "(I)I"⟩
abbrev cX2_offset : ByteArray := prog_4_method_11_code
def yX2_offset : MethodName := ⟨RX2, "offset", "(I)I"⟩
abbrev cX2_placeBox : ByteArray := prog_4_method_12_code
def yX2_placeBox : MethodName := ⟨RX2, "placeBox", "(II)I"⟩
abbrev cX2_nextBox : ByteArray := prog_4_method_13_code
def yX2_nextBox : MethodName := ⟨RX2, "nextBox", "(I)I"⟩
abbrev cX2_lastBox : ByteArray := prog_4_method_14_code
def yX2_lastBox : MethodName := ⟨RX2, "lastBox", "()I"⟩
abbrev cX2_hyphenRoom : ByteArray := prog_4_method_15_code
def yX2_hyphenRoom : MethodName := ⟨RX2, "hyphenRoom", "(I)I"⟩
abbrev cX2_hasSameSyllables : ByteArray := prog_4_method_16_code
def yX2_hasSameSyllables : MethodName := ⟨RX2, "hasSameSyllables", "(LWordRows$Verse;I)Z"⟩
def RX3 : String := "WordRows"
def TX3 : u_T := fun k => match k with
  | 0 => ("WordRows", "notes", "[LWordRows$Note;", true)
  | 1 => ("WordRows", "verses", "[LWordRows$Verse;", true)
  | 2 => ("WordRows", "cutter", "LWordRows$Cutter;", true)
  | 3 => ("WordRows", "faultPlaces", "[I", true)
  | 4 => ("WordRows", "noteCount", "I", false)
  | 5 => ("WordRows", "melismaCount", "I", false)
  | 6 => ("WordRows", "refrainCount", "I", false)
  | 7 => ("WordRows", "widthLimit", "I", false)
  | _ => ("WordRows", "placed", "Z", false)
def tyX3 : Nat → FieldType := fun k => match k with
  | 0 => .array (.object "WordRows$Note")
  | 1 => .array (.object "WordRows$Verse")
  | 2 => .object "WordRows$Cutter"
  | 3 => .array .int
  | 4 => .int
  | 5 => .int
  | 6 => .int
  | 7 => .int
  | _ => .boolean
abbrev wsX30 : List Cond := u_ws RX3 TX3 9
theorem nmX3 : ∀ a, a < 9 → ∀ b, b < 9 → a ≠ b → (TX3 a).2.1 ≠ (TX3 b).2.1 := by decide +kernel
theorem tyX3_ok : ∀ k, k < 9 → parseFieldDescriptor (TX3 k).2.2.1 = some (tyX3 k) := by decide +kernel
abbrev cX3_init : ByteArray := prog_1_method_1_code
def yX3_init : MethodName := ⟨RX3, "<init>", "()V"⟩
abbrev cX3_note : ByteArray := prog_1_method_2_code
def yX3_note : MethodName := ⟨RX3, "note", "(IIZ)I"⟩
abbrev cX3_syllable : ByteArray := prog_1_method_3_code
def yX3_syllable : MethodName := ⟨RX3, "syllable", "(IIIIZ)I"⟩
abbrev cX3_wipe : ByteArray := prog_1_method_4_code
def yX3_wipe : MethodName := ⟨RX3, "wipe", "(II)I"⟩
abbrev cX3_chord : ByteArray := prog_1_method_5_code
def yX3_chord : MethodName := ⟨RX3, "chord", "(II)I"⟩
abbrev cX3_melisma : ByteArray := prog_1_method_6_code
def yX3_melisma : MethodName := ⟨RX3, "melisma", "(II)I"⟩
abbrev cX3_refrain : ByteArray := prog_1_method_7_code
def yX3_refrain : MethodName := ⟨RX3, "refrain", "(II)I"⟩
abbrev cX3_align : ByteArray := prog_1_method_8_code
def yX3_align : MethodName := ⟨RX3, "align", "(II)I"⟩
abbrev cX3_translation : ByteArray := prog_1_method_9_code
def yX3_translation : MethodName := ⟨RX3, "translation", "(IZ)I"⟩
abbrev cX3_limit : ByteArray := prog_1_method_10_code
def yX3_limit : MethodName := ⟨RX3, "limit", "(I)I"⟩
abbrev cX3_place : ByteArray := prog_1_method_11_code
def yX3_place : MethodName := ⟨RX3, "place", "()I"⟩
abbrev cX3_x : ByteArray := prog_1_method_12_code
def yX3_x : MethodName := ⟨RX3, "x", "(II)I"⟩
abbrev cX3_box : ByteArray := prog_1_method_13_code
def yX3_box : MethodName := ⟨RX3, "box", "(III)I"⟩
abbrev cX3_hyphens : ByteArray := prog_1_method_14_code
def yX3_hyphens : MethodName := ⟨RX3, "hyphens", "(II)I"⟩
abbrev cX3_hyphen : ByteArray := prog_1_method_15_code
def yX3_hyphen : MethodName := ⟨RX3, "hyphen", "(III)I"⟩
abbrev cX3_line : ByteArray := prog_1_method_16_code
def yX3_line : MethodName := ⟨RX3, "line", "(III)I"⟩
abbrev cX3_strain : ByteArray := prog_1_method_17_code
def yX3_strain : MethodName := ⟨RX3, "strain", "()I"⟩
abbrev cX3_faults : ByteArray := prog_1_method_18_code
def yX3_faults : MethodName := ⟨RX3, "faults", "()I"⟩
abbrev cX3_fault : ByteArray := prog_1_method_19_code
def yX3_fault : MethodName := ⟨RX3, "fault", "(II)I"⟩
abbrev cX3_shares : ByteArray := prog_1_method_20_code
def yX3_shares : MethodName := ⟨RX3, "shares", "(I)I"⟩
abbrev cX3_row : ByteArray := prog_1_method_21_code
def yX3_row : MethodName := ⟨RX3, "row", "(I)I"⟩
abbrev cX3_in : ByteArray := prog_1_method_22_code
def yX3_in : MethodName := ⟨RX3, "in", "(II)I"⟩
abbrev cX3_pattern : ByteArray := prog_1_method_23_code
def yX3_pattern : MethodName := ⟨RX3, "pattern", "(JI)I"⟩
abbrev cX3_letter : ByteArray := prog_1_method_24_code
def yX3_letter : MethodName := ⟨RX3, "letter", "(I)I"⟩
abbrev cX3_sides : ByteArray := prog_1_method_25_code
def yX3_sides : MethodName := ⟨RX3, "sides", "(II)I"⟩
abbrev cX3_cuts : ByteArray := prog_1_method_26_code
def yX3_cuts : MethodName := ⟨RX3, "cuts", "()I"⟩
abbrev cX3_cut : ByteArray := prog_1_method_27_code
def yX3_cut : MethodName := ⟨RX3, "cut", "(I)I"⟩
abbrev cX3_told : ByteArray := prog_1_method_28_code
def yX3_told : MethodName := ⟨RX3, "told", "(I)I"⟩
abbrev cX3_clear : ByteArray := prog_1_method_29_code
def yX3_clear : MethodName := ⟨RX3, "clear", "()I"⟩
abbrev cX3_isOutside : ByteArray := prog_1_method_30_code
def yX3_isOutside : MethodName := ⟨RX3, "isOutside", "(III)Z"⟩
abbrev cX3_asNumber : ByteArray := prog_1_method_31_code
def yX3_asNumber : MethodName := ⟨RX3, "asNumber", "(Z)I"⟩
abbrev cX3_isNote : ByteArray := prog_1_method_32_code
def yX3_isNote : MethodName := ⟨RX3, "isNote", "(I)Z"⟩
abbrev cX3_isVerse : ByteArray := prog_1_method_33_code
def yX3_isVerse : MethodName := ⟨RX3, "isVerse", "(I)Z"⟩
abbrev cX3_isBox : ByteArray := prog_1_method_34_code
def yX3_isBox : MethodName := ⟨RX3, "isBox", "(II)Z"⟩
abbrev cX3_maySing : ByteArray := prog_1_method_35_code
def yX3_maySing : MethodName := ⟨RX3, "maySing", "(II)Z"⟩
abbrev cX3_isBehindMelismaFirst : ByteArray := prog_1_method_36_code
def yX3_isBehindMelismaFirst : MethodName := ⟨RX3, "isBehindMelismaFirst", "(I)Z"⟩
abbrev cX3_mayBeMelisma : ByteArray := prog_1_method_37_code
def yX3_mayBeMelisma : MethodName := ⟨RX3, "mayBeMelisma", "(II)Z"⟩
abbrev cX3_mayBeRefrain : ByteArray := prog_1_method_38_code
def yX3_mayBeRefrain : MethodName := ⟨RX3, "mayBeRefrain", "(II)Z"⟩
abbrev cX3_hasBoxFrom : ByteArray := prog_1_method_39_code
def yX3_hasBoxFrom : MethodName := ⟨RX3, "hasBoxFrom", "(II)Z"⟩
abbrev cX3_placeNotes : ByteArray := prog_1_method_40_code
def yX3_placeNotes : MethodName := ⟨RX3, "placeNotes", "()I"⟩
abbrev cX3_leastForBoxes : ByteArray := prog_1_method_41_code
def yX3_leastForBoxes : MethodName := ⟨RX3, "leastForBoxes", "(I)I"⟩
abbrev cX3_placeBoxes : ByteArray := prog_1_method_42_code
def yX3_placeBoxes : MethodName := ⟨RX3, "placeBoxes", "(I)I"⟩
abbrev cX3_hyphensIn : ByteArray := prog_1_method_43_code
def yX3_hyphensIn : MethodName := ⟨RX3, "hyphensIn", "(I)I"⟩
abbrev cX3_lineEnd : ByteArray := prog_1_method_44_code
def yX3_lineEnd : MethodName := ⟨RX3, "lineEnd", "(ILWordRows$Verse;)I"⟩
abbrev cX3_listFaults : ByteArray := prog_1_method_45_code
def yX3_listFaults : MethodName := ⟨RX3, "listFaults", "()I"⟩
abbrev cX3_isFault : ByteArray := prog_1_method_46_code
def yX3_isFault : MethodName := ⟨RX3, "isFault", "(III)Z"⟩
abbrev cX3_sharedVerse : ByteArray := prog_1_method_47_code
def yX3_sharedVerse : MethodName := ⟨RX3, "sharedVerse", "(I)I"⟩
abbrev cX3_areAlike : ByteArray := prog_1_method_48_code
def yX3_areAlike : MethodName := ⟨RX3, "areAlike", "(LWordRows$Verse;LWordRows$Verse;)Z"⟩
abbrev cX3_syllablesInAll : ByteArray := prog_1_method_49_code
def yX3_syllablesInAll : MethodName := ⟨RX3, "syllablesInAll", "()I"⟩
abbrev cX3_chordsInAll : ByteArray := prog_1_method_50_code
def yX3_chordsInAll : MethodName := ⟨RX3, "chordsInAll", "()I"⟩
def RX4 : String := "WordRowsModel"
def TX4 : u_T := fun k => match k with
  | 0 => ("WordRowsModel", "thrown", "I", false)
  | 1 => ("WordRowsModel", "notes", "I", false)
  | 2 => ("WordRowsModel", "width", "[I", true)
  | 3 => ("WordRowsModel", "length", "[I", true)
  | 4 => ("WordRowsModel", "isRest", "[Z", true)
  | 5 => ("WordRowsModel", "chord", "[I", true)
  | 6 => ("WordRowsModel", "melismaOf", "[I", true)
  | 7 => ("WordRowsModel", "melismaSize", "[I", true)
  | 8 => ("WordRowsModel", "refrainOf", "[I", true)
  | 9 => ("WordRowsModel", "melismas", "I", false)
  | 10 => ("WordRowsModel", "refrains", "I", false)
  | 11 => ("WordRowsModel", "many", "[I", true)
  | 12 => ("WordRowsModel", "wide", "[I", true)
  | 13 => ("WordRowsModel", "vowel", "[I", true)
  | 14 => ("WordRowsModel", "goes", "[Z", true)
  | 15 => ("WordRowsModel", "way", "[I", true)
  | 16 => ("WordRowsModel", "isTranslation", "[Z", true)
  | 17 => ("WordRowsModel", "most", "I", false)
  | 18 => ("WordRowsModel", "isPlaced", "Z", false)
  | 19 => ("WordRowsModel", "place", "[I", true)
  | 20 => ("WordRowsModel", "begins", "[I", true)
  | 21 => ("WordRowsModel", "room", "I", false)
  | 22 => ("WordRowsModel", "patterns", "I", false)
  | 23 => ("WordRowsModel", "signMany", "[I", true)
  | 24 => ("WordRowsModel", "sign", "[I", true)
  | 25 => ("WordRowsModel", "weight", "[I", true)
  | 26 => ("WordRowsModel", "letters", "I", false)
  | 27 => ("WordRowsModel", "letter", "[I", true)
  | 28 => ("WordRowsModel", "side0", "I", false)
  | 29 => ("WordRowsModel", "side1", "I", false)
  | 30 => ("WordRowsModel", "cutMany", "I", false)
  | _ => ("WordRowsModel", "cutAt", "[I", true)
def tyX4 : Nat → FieldType := fun k => match k with
  | 0 => .int
  | 1 => .int
  | 2 => .array .int
  | 3 => .array .int
  | 4 => .array .boolean
  | 5 => .array .int
  | 6 => .array .int
  | 7 => .array .int
  | 8 => .array .int
  | 9 => .int
  | 10 => .int
  | 11 => .array .int
  | 12 => .array .int
  | 13 => .array .int
  | 14 => .array .boolean
  | 15 => .array .int
  | 16 => .array .boolean
  | 17 => .int
  | 18 => .boolean
  | 19 => .array .int
  | 20 => .array .int
  | 21 => .int
  | 22 => .int
  | 23 => .array .int
  | 24 => .array .int
  | 25 => .array .int
  | 26 => .int
  | 27 => .array .int
  | 28 => .int
  | 29 => .int
  | 30 => .int
  | _ => .array .int
abbrev wsX40 : List Cond := u_ws RX4 TX4 32
theorem nmX4 : ∀ a, a < 32 → ∀ b, b < 32 → a ≠ b → (TX4 a).2.1 ≠ (TX4 b).2.1 := by decide +kernel
theorem tyX4_ok : ∀ k, k < 32 → parseFieldDescriptor (TX4 k).2.2.1 = some (tyX4 k) := by decide +kernel
abbrev cX4_thrown : ByteArray := prog_6_method_1_code
def yX4_thrown : MethodName := ⟨RX4, "thrown", "()I"⟩
abbrev cX4_fresh : ByteArray := prog_6_method_2_code
def yX4_fresh : MethodName := ⟨RX4, "fresh", "()V"⟩
abbrev cX4_init : ByteArray := prog_6_method_3_code
def yX4_init : MethodName := ⟨RX4, "<init>", "()V"⟩
abbrev cX4_lies : ByteArray := prog_6_method_4_code
def yX4_lies : MethodName := ⟨RX4, "lies", "(III)Z"⟩
abbrev cX4_isNote : ByteArray := prog_6_method_5_code
def yX4_isNote : MethodName := ⟨RX4, "isNote", "(I)Z"⟩
abbrev cX4_isVerse : ByteArray := prog_6_method_6_code
def yX4_isVerse : MethodName := ⟨RX4, "isVerse", "(I)Z"⟩
abbrev cX4_note : ByteArray := prog_6_method_7_code
def yX4_note : MethodName := ⟨RX4, "note", "(IIZ)I"⟩
abbrev cX4_isBehindFirst : ByteArray := prog_6_method_8_code
def yX4_isBehindFirst : MethodName := ⟨RX4, "isBehindFirst", "(I)Z"⟩
abbrev cX4_syllable : ByteArray := prog_6_method_9_code
def yX4_syllable : MethodName := ⟨RX4, "syllable", "(IIIIZ)I"⟩
abbrev cX4_wipe : ByteArray := prog_6_method_10_code
def yX4_wipe : MethodName := ⟨RX4, "wipe", "(II)I"⟩
abbrev cX4_chord : ByteArray := prog_6_method_11_code
def yX4_chord : MethodName := ⟨RX4, "chord", "(II)I"⟩
abbrev cX4_syllablesOf : ByteArray := prog_6_method_12_code
def yX4_syllablesOf : MethodName := ⟨RX4, "syllablesOf", "(II)I"⟩
abbrev cX4_melisma : ByteArray := prog_6_method_13_code
def yX4_melisma : MethodName := ⟨RX4, "melisma", "(II)I"⟩
abbrev cX4_refrain : ByteArray := prog_6_method_14_code
def yX4_refrain : MethodName := ⟨RX4, "refrain", "(II)I"⟩
abbrev cX4_align : ByteArray := prog_6_method_15_code
def yX4_align : MethodName := ⟨RX4, "align", "(II)I"⟩
abbrev cX4_translation : ByteArray := prog_6_method_16_code
def yX4_translation : MethodName := ⟨RX4, "translation", "(IZ)I"⟩
abbrev cX4_limit : ByteArray := prog_6_method_17_code
def yX4_limit : MethodName := ⟨RX4, "limit", "(I)I"⟩
abbrev cX4_isBox : ByteArray := prog_6_method_18_code
def yX4_isBox : MethodName := ⟨RX4, "isBox", "(II)Z"⟩
abbrev cX4_wideOf : ByteArray := prog_6_method_19_code
def yX4_wideOf : MethodName := ⟨RX4, "wideOf", "(II)I"⟩
abbrev cX4_goesOn : ByteArray := prog_6_method_20_code
def yX4_goesOn : MethodName := ⟨RX4, "goesOn", "(II)Z"⟩
abbrev cX4_offset : ByteArray := prog_6_method_21_code
def yX4_offset : MethodName := ⟨RX4, "offset", "(II)I"⟩
abbrev cX4_other : ByteArray := prog_6_method_22_code
def yX4_other : MethodName := ⟨RX4, "other", "(III)I"⟩
abbrev cX4_chordBefore : ByteArray := prog_6_method_23_code
def yX4_chordBefore : MethodName := ⟨RX4, "chordBefore", "(I)I"⟩
abbrev cX4_endOf : ByteArray := prog_6_method_24_code
def yX4_endOf : MethodName := ⟨RX4, "endOf", "(II)I"⟩
abbrev cX4_free : ByteArray := prog_6_method_25_code
def yX4_free : MethodName := ⟨RX4, "free", "(II)I"⟩
abbrev cX4_alone : ByteArray := prog_6_method_26_code
def yX4_alone : MethodName := ⟨RX4, "alone", "(I)I"⟩
abbrev cX4_greater : ByteArray := prog_6_method_27_code
def yX4_greater : MethodName := ⟨RX4, "greater", "(II)I"⟩
abbrev cX4_placeNote : ByteArray := prog_6_method_28_code
def yX4_placeNote : MethodName := ⟨RX4, "placeNote", "(I)V"⟩
abbrev cX4_place : ByteArray := prog_6_method_29_code
def yX4_place : MethodName := ⟨RX4, "place", "()I"⟩
abbrev cX4_x : ByteArray := prog_6_method_30_code
def yX4_x : MethodName := ⟨RX4, "x", "(II)I"⟩
abbrev cX4_noBox : ByteArray := prog_6_method_31_code
def yX4_noBox : MethodName := ⟨RX4, "noBox", "(II)Z"⟩
abbrev cX4_box : ByteArray := prog_6_method_32_code
def yX4_box : MethodName := ⟨RX4, "box", "(III)I"⟩
abbrev cX4_hyphenMany : ByteArray := prog_6_method_33_code
def yX4_hyphenMany : MethodName := ⟨RX4, "hyphenMany", "(II)I"⟩
abbrev cX4_hyphens : ByteArray := prog_6_method_34_code
def yX4_hyphens : MethodName := ⟨RX4, "hyphens", "(II)I"⟩
abbrev cX4_hyphen : ByteArray := prog_6_method_35_code
def yX4_hyphen : MethodName := ⟨RX4, "hyphen", "(III)I"⟩
abbrev cX4_line : ByteArray := prog_6_method_36_code
def yX4_line : MethodName := ⟨RX4, "line", "(III)I"⟩
abbrev cX4_strain : ByteArray := prog_6_method_37_code
def yX4_strain : MethodName := ⟨RX4, "strain", "()I"⟩
abbrev cX4_hasBoxes : ByteArray := prog_6_method_38_code
def yX4_hasBoxes : MethodName := ⟨RX4, "hasBoxes", "(I)Z"⟩
abbrev cX4_faultAt : ByteArray := prog_6_method_39_code
def yX4_faultAt : MethodName := ⟨RX4, "faultAt", "(II)I"⟩
abbrev cX4_faults : ByteArray := prog_6_method_40_code
def yX4_faults : MethodName := ⟨RX4, "faults", "()I"⟩
abbrev cX4_fault : ByteArray := prog_6_method_41_code
def yX4_fault : MethodName := ⟨RX4, "fault", "(II)I"⟩
abbrev cX4_areAlikeAt : ByteArray := prog_6_method_42_code
def yX4_areAlikeAt : MethodName := ⟨RX4, "areAlikeAt", "(III)Z"⟩
abbrev cX4_areAlike : ByteArray := prog_6_method_43_code
def yX4_areAlike : MethodName := ⟨RX4, "areAlike", "(II)Z"⟩
abbrev cX4_sharedWith : ByteArray := prog_6_method_44_code
def yX4_sharedWith : MethodName := ⟨RX4, "sharedWith", "(I)I"⟩
abbrev cX4_shares : ByteArray := prog_6_method_45_code
def yX4_shares : MethodName := ⟨RX4, "shares", "(I)I"⟩
abbrev cX4_row : ByteArray := prog_6_method_46_code
def yX4_row : MethodName := ⟨RX4, "row", "(I)I"⟩
abbrev cX4_in : ByteArray := prog_6_method_47_code
def yX4_in : MethodName := ⟨RX4, "in", "(II)I"⟩
abbrev cX4_pattern : ByteArray := prog_6_method_48_code
def yX4_pattern : MethodName := ⟨RX4, "pattern", "(JI)I"⟩
abbrev cX4_letter : ByteArray := prog_6_method_49_code
def yX4_letter : MethodName := ⟨RX4, "letter", "(I)I"⟩
abbrev cX4_sides : ByteArray := prog_6_method_50_code
def yX4_sides : MethodName := ⟨RX4, "sides", "(II)I"⟩
abbrev cX4_signAt : ByteArray := prog_6_method_51_code
def yX4_signAt : MethodName := ⟨RX4, "signAt", "(I)I"⟩
abbrev cX4_stands : ByteArray := prog_6_method_52_code
def yX4_stands : MethodName := ⟨RX4, "stands", "(II)Z"⟩
abbrev cX4_greatest : ByteArray := prog_6_method_53_code
def yX4_greatest : MethodName := ⟨RX4, "greatest", "(I)I"⟩
abbrev cX4_cuts : ByteArray := prog_6_method_54_code
def yX4_cuts : MethodName := ⟨RX4, "cuts", "()I"⟩
abbrev cX4_cut : ByteArray := prog_6_method_55_code
def yX4_cut : MethodName := ⟨RX4, "cut", "(I)I"⟩
abbrev cX4_told : ByteArray := prog_6_method_56_code
def yX4_told : MethodName := ⟨RX4, "told", "(I)I"⟩
abbrev cX4_clear : ByteArray := prog_6_method_57_code
def yX4_clear : MethodName := ⟨RX4, "clear", "()I"⟩
def RJx00060 : String := "java/lang/ArrayIndexOutOfBoundsException"
def TJx00060 : u_T := fun k => match k with
  | 0 => ("java/lang/Throwable", "backtrace", "Ljava/lang/Object;", false)
  | 1 => ("java/lang/Throwable", "detailMessage", "Ljava/lang/String;", false)
  | 2 => ("java/lang/Throwable", "cause", "Ljava/lang/Throwable;", false)
  | 3 => ("java/lang/Throwable", "stackTrace", "[Ljava/lang/StackTraceElement;", false)
  | 4 => ("java/lang/Throwable", "depth", "I", false)
  | _ => ("java/lang/Throwable", "suppressedExceptions", "Ljava/util/List;", false)
def tyJx00060 : Nat → FieldType := fun k => match k with
  | 0 => .object "java/lang/Object"
  | 1 => .object "java/lang/String"
  | 2 => .object "java/lang/Throwable"
  | 3 => .array (.object "java/lang/StackTraceElement")
  | 4 => .int
  | _ => .object "java/util/List"
abbrev wsJx000600 : List Cond := u_ws RJx00060 TJx00060 6
theorem nmJx00060 : ∀ a, a < 6 → ∀ b, b < 6 → a ≠ b → (TJx00060 a).2.1 ≠ (TJx00060 b).2.1 := by decide +kernel
theorem tyJx00060_ok : ∀ k, k < 6 → parseFieldDescriptor (TJx00060 k).2.2.1 = some (tyJx00060 k) := by decide +kernel
def RJ9 : String := "java/lang/Math"
def TJ9 : u_T := fun k => match k with
  | _ => ("", "", "", false)
def tyJ9 : Nat → FieldType := fun k => match k with
  | _ => .int
abbrev wsJ90 : List Cond := u_ws RJ9 TJ9 0
theorem nmJ9 : ∀ a, a < 0 → ∀ b, b < 0 → a ≠ b → (TJ9 a).2.1 ≠ (TJ9 b).2.1 := by decide +kernel
theorem tyJ9_ok : ∀ k, k < 0 → parseFieldDescriptor (TJ9 k).2.2.1 = some (tyJ9 k) := by decide +kernel
def RJ0 : String := "java/lang/String"
def TJ0 : u_T := fun k => match k with
  | 0 => ("java/lang/String", "value", "[B", true)
  | _ => ("java/lang/String", "coder", "B", true)
def tyJ0 : Nat → FieldType := fun k => match k with
  | 0 => .array .byte
  | _ => .byte
abbrev wsJ00 : List Cond := u_ws RJ0 TJ0 2
theorem nmJ0 : ∀ a, a < 2 → ∀ b, b < 2 → a ≠ b → (TJ0 a).2.1 ≠ (TJ0 b).2.1 := by decide +kernel
theorem tyJ0_ok : ∀ k, k < 2 → parseFieldDescriptor (TJ0 k).2.2.1 = some (tyJ0 k) := by decide +kernel
def RL : String := "WordRowsLaw"
abbrev cL_hyphen : ByteArray := method_3_code
def yL_hyphen : MethodName := ⟨RL, "hyphen", "(LWordRows;III[J)I"⟩
abbrev cL_strain : ByteArray := method_4_code
def yL_strain : MethodName := ⟨RL, "strain", "(LWordRows;[J)I"⟩
abbrev cL_cut : ByteArray := method_5_code
def yL_cut : MethodName := ⟨RL, "cut", "(LWordRows;I[J)I"⟩
abbrev cL_law : ByteArray := code
def yL_law : MethodName := ⟨RL, "law", "([I)Z"⟩
abbrev vwCl : List vw_C := [(RJ0, TJ0, 2), (RJx00060, TJx00060, 6), (RX0, TX0, 11), (RX1, TX1, 9), (RX2, TX2, 9), (RX3, TX3, 9), (RX4, TX4, 32)]
end
section
theorem dX0_init_0 : decode cX0_init 0 = .ok (.aload_n 0, 1) := by decide +kernel
theorem dX0_init_1 : decode cX0_init 1 = .ok (.invokespecial 3, 3) := by decide +kernel
theorem dX0_init_4 : decode cX0_init 4 = .ok (.aload_n 0, 1) := by decide +kernel
theorem dX0_init_5 : decode cX0_init 5 = .ok (.bipush 30, 2) := by decide +kernel
theorem dX0_init_7 : decode cX0_init 7 = .ok (.newarray .int, 2) := by decide +kernel
theorem dX0_init_9 : decode cX0_init 9 = .ok (.putfield 9, 3) := by decide +kernel
theorem dX0_init_12 : decode cX0_init 12 = .ok (.aload_n 0, 1) := by decide +kernel
theorem dX0_init_13 : decode cX0_init 13 = .ok (.bipush 30, 2) := by decide +kernel
theorem dX0_init_15 : decode cX0_init 15 = .ok (.newarray .int, 2) := by decide +kernel
theorem dX0_init_17 : decode cX0_init 17 = .ok (.putfield 15, 3) := by decide +kernel
theorem dX0_init_20 : decode cX0_init 20 = .ok (.aload_n 0, 1) := by decide +kernel
theorem dX0_init_21 : decode cX0_init 21 = .ok (.bipush 30, 2) := by decide +kernel
theorem dX0_init_23 : decode cX0_init 23 = .ok (.newarray .int, 2) := by decide +kernel
theorem dX0_init_25 : decode cX0_init 25 = .ok (.putfield 18, 3) := by decide +kernel
theorem dX0_init_28 : decode cX0_init 28 = .ok (.aload_n 0, 1) := by decide +kernel
theorem dX0_init_29 : decode cX0_init 29 = .ok (.bipush 26, 2) := by decide +kernel
theorem dX0_init_31 : decode cX0_init 31 = .ok (.newarray .int, 2) := by decide +kernel
theorem dX0_init_33 : decode cX0_init 33 = .ok (.putfield 21, 3) := by decide +kernel
theorem dX0_init_36 : decode cX0_init 36 = .ok (.aload_n 0, 1) := by decide +kernel
theorem dX0_init_37 : decode cX0_init 37 = .ok (.bipush 27, 2) := by decide +kernel
theorem dX0_init_39 : decode cX0_init 39 = .ok (.newarray .int, 2) := by decide +kernel
theorem dX0_init_41 : decode cX0_init 41 = .ok (.putfield 24, 3) := by decide +kernel
theorem dX0_init_44 : decode cX0_init 44 = .ok (.aload_n 0, 1) := by decide +kernel
theorem dX0_init_45 : decode cX0_init 45 = .ok (.iconst 2, 1) := by decide +kernel
theorem dX0_init_46 : decode cX0_init 46 = .ok (.putfield 27, 3) := by decide +kernel
theorem dX0_init_49 : decode cX0_init 49 = .ok (.aload_n 0, 1) := by decide +kernel
theorem dX0_init_50 : decode cX0_init 50 = .ok (.iconst 3, 1) := by decide +kernel
theorem dX0_init_51 : decode cX0_init 51 = .ok (.putfield 31, 3) := by decide +kernel
theorem dX0_init_54 : decode cX0_init 54 = .ok (.aload_n 0, 1) := by decide +kernel
theorem dX0_init_55 : decode cX0_init 55 = .ok (.bipush 24, 2) := by decide +kernel
theorem dX0_init_57 : decode cX0_init 57 = .ok (.newarray .int, 2) := by decide +kernel
theorem dX0_init_59 : decode cX0_init 59 = .ok (.putfield 34, 3) := by decide +kernel
theorem dX0_init_62 : decode cX0_init 62 = .ok (.return_, 1) := by decide +kernel
theorem dX0_empty_0 : decode cX0_empty 0 = .ok (.aload_n 0, 1) := by decide +kernel
theorem dX0_empty_1 : decode cX0_empty 1 = .ok (.iconst 0, 1) := by decide +kernel
theorem dX0_empty_2 : decode cX0_empty 2 = .ok (.putfield 37, 3) := by decide +kernel
theorem dX0_empty_5 : decode cX0_empty 5 = .ok (.aload_n 0, 1) := by decide +kernel
theorem dX0_empty_6 : decode cX0_empty 6 = .ok (.iconst 0, 1) := by decide +kernel
theorem dX0_empty_7 : decode cX0_empty 7 = .ok (.putfield 40, 3) := by decide +kernel
theorem dX0_empty_10 : decode cX0_empty 10 = .ok (.aload_n 0, 1) := by decide +kernel
theorem dX0_empty_11 : decode cX0_empty 11 = .ok (.iconst 2, 1) := by decide +kernel
theorem dX0_empty_12 : decode cX0_empty 12 = .ok (.putfield 27, 3) := by decide +kernel
theorem dX0_empty_15 : decode cX0_empty 15 = .ok (.aload_n 0, 1) := by decide +kernel
theorem dX0_empty_16 : decode cX0_empty 16 = .ok (.iconst 3, 1) := by decide +kernel
theorem dX0_empty_17 : decode cX0_empty 17 = .ok (.putfield 31, 3) := by decide +kernel
theorem dX0_empty_20 : decode cX0_empty 20 = .ok (.aload_n 0, 1) := by decide +kernel
theorem dX0_empty_21 : decode cX0_empty 21 = .ok (.iconst 0, 1) := by decide +kernel
theorem dX0_empty_22 : decode cX0_empty 22 = .ok (.putfield 43, 3) := by decide +kernel
theorem dX0_empty_25 : decode cX0_empty 25 = .ok (.return_, 1) := by decide +kernel
theorem dX0_signCount_0 : decode cX0_signCount 0 = .ok (.iconst 0, 1) := by decide +kernel
theorem dX0_signCount_1 : decode cX0_signCount 1 = .ok (.istore_n 2, 1) := by decide +kernel
theorem dX0_signCount_2 : decode cX0_signCount 2 = .ok (.iload_n 2, 1) := by decide +kernel
theorem dX0_signCount_3 : decode cX0_signCount 3 = .ok (.bipush 6, 2) := by decide +kernel
theorem dX0_signCount_5 : decode cX0_signCount 5 = .ok (.if_icmp .ge 17, 3) := by decide +kernel
theorem dX0_signCount_8 : decode cX0_signCount 8 = .ok (.lload_n 0, 1) := by decide +kernel
theorem dX0_signCount_9 : decode cX0_signCount 9 = .ok (.iload_n 2, 1) := by decide +kernel
theorem dX0_signCount_10 : decode cX0_signCount 10 = .ok (.invokestatic 46, 3) := by decide +kernel
theorem dX0_signCount_13 : decode cX0_signCount 13 = .ok (.ifCond .eq 9, 3) := by decide +kernel
theorem dX0_signCount_16 : decode cX0_signCount 16 = .ok (.iinc 2 1, 3) := by decide +kernel
theorem dX0_signCount_19 : decode cX0_signCount 19 = .ok (.goto (-17), 3) := by decide +kernel
theorem dX0_signCount_22 : decode cX0_signCount 22 = .ok (.lload_n 0, 1) := by decide +kernel
theorem dX0_signCount_23 : decode cX0_signCount 23 = .ok (.iconst 5, 1) := by decide +kernel
theorem dX0_signCount_24 : decode cX0_signCount 24 = .ok (.iload_n 2, 1) := by decide +kernel
theorem dX0_signCount_25 : decode cX0_signCount 25 = .ok (.imul, 1) := by decide +kernel
theorem dX0_signCount_26 : decode cX0_signCount 26 = .ok (.lshr, 1) := by decide +kernel
theorem dX0_signCount_27 : decode cX0_signCount 27 = .ok (.lconst 0, 1) := by decide +kernel
theorem dX0_signCount_28 : decode cX0_signCount 28 = .ok (.lcmp, 1) := by decide +kernel
theorem dX0_signCount_29 : decode cX0_signCount 29 = .ok (.ifCond .eq 7, 3) := by decide +kernel
theorem dX0_signCount_32 : decode cX0_signCount 32 = .ok (.iconst 1, 1) := by decide +kernel
theorem dX0_signCount_33 : decode cX0_signCount 33 = .ok (.goto 4, 3) := by decide +kernel
theorem dX0_signCount_36 : decode cX0_signCount 36 = .ok (.iconst 0, 1) := by decide +kernel
theorem dX0_signCount_37 : decode cX0_signCount 37 = .ok (.istore_n 3, 1) := by decide +kernel
theorem dX0_signCount_38 : decode cX0_signCount 38 = .ok (.iload_n 3, 1) := by decide +kernel
theorem dX0_signCount_39 : decode cX0_signCount 39 = .ok (.ifCond .ne 15, 3) := by decide +kernel
theorem dX0_signCount_42 : decode cX0_signCount 42 = .ok (.lload_n 0, 1) := by decide +kernel
theorem dX0_signCount_43 : decode cX0_signCount 43 = .ok (.iload_n 2, 1) := by decide +kernel
theorem dX0_signCount_44 : decode cX0_signCount 44 = .ok (.invokestatic 50, 3) := by decide +kernel
theorem dX0_signCount_47 : decode cX0_signCount 47 = .ok (.ifCond .eq 7, 3) := by decide +kernel
theorem dX0_signCount_50 : decode cX0_signCount 50 = .ok (.iload_n 2, 1) := by decide +kernel
theorem dX0_signCount_51 : decode cX0_signCount 51 = .ok (.goto 4, 3) := by decide +kernel
theorem dX0_signCount_54 : decode cX0_signCount 54 = .ok (.iconst 0, 1) := by decide +kernel
theorem dX0_signCount_55 : decode cX0_signCount 55 = .ok (.ireturn, 1) := by decide +kernel
theorem dX0_areSigns_0 : decode cX0_areSigns 0 = .ok (.iconst 0, 1) := by decide +kernel
theorem dX0_areSigns_1 : decode cX0_areSigns 1 = .ok (.istore_n 3, 1) := by decide +kernel
theorem dX0_areSigns_2 : decode cX0_areSigns 2 = .ok (.iconst 0, 1) := by decide +kernel
theorem dX0_areSigns_3 : decode cX0_areSigns 3 = .ok (.istore 4, 2) := by decide +kernel
theorem dX0_areSigns_5 : decode cX0_areSigns 5 = .ok (.iload 4, 2) := by decide +kernel
theorem dX0_areSigns_7 : decode cX0_areSigns 7 = .ok (.iload_n 2, 1) := by decide +kernel
theorem dX0_areSigns_8 : decode cX0_areSigns 8 = .ok (.if_icmp .ge 75, 3) := by decide +kernel
theorem dX0_areSigns_11 : decode cX0_areSigns 11 = .ok (.lload_n 0, 1) := by decide +kernel
theorem dX0_areSigns_12 : decode cX0_areSigns 12 = .ok (.iload 4, 2) := by decide +kernel
theorem dX0_areSigns_14 : decode cX0_areSigns 14 = .ok (.invokestatic 46, 3) := by decide +kernel
theorem dX0_areSigns_17 : decode cX0_areSigns 17 = .ok (.istore 5, 2) := by decide +kernel
theorem dX0_areSigns_19 : decode cX0_areSigns 19 = .ok (.iload 4, 2) := by decide +kernel
theorem dX0_areSigns_21 : decode cX0_areSigns 21 = .ok (.ifCond .le 15, 3) := by decide +kernel
theorem dX0_areSigns_24 : decode cX0_areSigns 24 = .ok (.iload 4, 2) := by decide +kernel
theorem dX0_areSigns_26 : decode cX0_areSigns 26 = .ok (.iload_n 2, 1) := by decide +kernel
theorem dX0_areSigns_27 : decode cX0_areSigns 27 = .ok (.iconst 1, 1) := by decide +kernel
theorem dX0_areSigns_28 : decode cX0_areSigns 28 = .ok (.isub, 1) := by decide +kernel
theorem dX0_areSigns_29 : decode cX0_areSigns 29 = .ok (.if_icmp .ge 7, 3) := by decide +kernel
theorem dX0_areSigns_32 : decode cX0_areSigns 32 = .ok (.iconst 1, 1) := by decide +kernel
theorem dX0_areSigns_33 : decode cX0_areSigns 33 = .ok (.goto 4, 3) := by decide +kernel
theorem dX0_areSigns_36 : decode cX0_areSigns 36 = .ok (.iconst 0, 1) := by decide +kernel
theorem dX0_areSigns_37 : decode cX0_areSigns 37 = .ok (.istore 6, 2) := by decide +kernel
theorem dX0_areSigns_39 : decode cX0_areSigns 39 = .ok (.iload 5, 2) := by decide +kernel
theorem dX0_areSigns_41 : decode cX0_areSigns 41 = .ok (.bipush 27, 2) := by decide +kernel
theorem dX0_areSigns_43 : decode cX0_areSigns 43 = .ok (.if_icmp .gt 15, 3) := by decide +kernel
theorem dX0_areSigns_46 : decode cX0_areSigns 46 = .ok (.iload 5, 2) := by decide +kernel
theorem dX0_areSigns_48 : decode cX0_areSigns 48 = .ok (.bipush 27, 2) := by decide +kernel
theorem dX0_areSigns_50 : decode cX0_areSigns 50 = .ok (.if_icmp .ne 10, 3) := by decide +kernel
theorem dX0_areSigns_53 : decode cX0_areSigns 53 = .ok (.iload 6, 2) := by decide +kernel
theorem dX0_areSigns_55 : decode cX0_areSigns 55 = .ok (.ifCond .eq 5, 3) := by decide +kernel
theorem dX0_areSigns_58 : decode cX0_areSigns 58 = .ok (.iconst 0, 1) := by decide +kernel
theorem dX0_areSigns_59 : decode cX0_areSigns 59 = .ok (.ireturn, 1) := by decide +kernel
theorem dX0_areSigns_60 : decode cX0_areSigns 60 = .ok (.iload_n 3, 1) := by decide +kernel
theorem dX0_areSigns_61 : decode cX0_areSigns 61 = .ok (.ifCond .ne 10, 3) := by decide +kernel
theorem dX0_areSigns_64 : decode cX0_areSigns 64 = .ok (.iload 5, 2) := by decide +kernel
theorem dX0_areSigns_66 : decode cX0_areSigns 66 = .ok (.bipush 26, 2) := by decide +kernel
theorem dX0_areSigns_68 : decode cX0_areSigns 68 = .ok (.if_icmp .gt 7, 3) := by decide +kernel
theorem dX0_areSigns_71 : decode cX0_areSigns 71 = .ok (.iconst 1, 1) := by decide +kernel
theorem dX0_areSigns_72 : decode cX0_areSigns 72 = .ok (.goto 4, 3) := by decide +kernel
theorem dX0_areSigns_75 : decode cX0_areSigns 75 = .ok (.iconst 0, 1) := by decide +kernel
theorem dX0_areSigns_76 : decode cX0_areSigns 76 = .ok (.istore_n 3, 1) := by decide +kernel
theorem dX0_areSigns_77 : decode cX0_areSigns 77 = .ok (.iinc 4 1, 3) := by decide +kernel
theorem dX0_areSigns_80 : decode cX0_areSigns 80 = .ok (.goto (-75), 3) := by decide +kernel
theorem dX0_areSigns_83 : decode cX0_areSigns 83 = .ok (.iload_n 3, 1) := by decide +kernel
theorem dX0_areSigns_84 : decode cX0_areSigns 84 = .ok (.ireturn, 1) := by decide +kernel
theorem dX0_signAt_0 : decode cX0_signAt 0 = .ok (.lload_n 0, 1) := by decide +kernel
theorem dX0_signAt_1 : decode cX0_signAt 1 = .ok (.iconst 5, 1) := by decide +kernel
theorem dX0_signAt_2 : decode cX0_signAt 2 = .ok (.iload_n 2, 1) := by decide +kernel
theorem dX0_signAt_3 : decode cX0_signAt 3 = .ok (.imul, 1) := by decide +kernel
theorem dX0_signAt_4 : decode cX0_signAt 4 = .ok (.lshr, 1) := by decide +kernel
theorem dX0_signAt_5 : decode cX0_signAt 5 = .ok (.l2i, 1) := by decide +kernel
theorem dX0_signAt_6 : decode cX0_signAt 6 = .ok (.bipush 31, 2) := by decide +kernel
theorem dX0_signAt_8 : decode cX0_signAt 8 = .ok (.iand, 1) := by decide +kernel
theorem dX0_signAt_9 : decode cX0_signAt 9 = .ok (.ireturn, 1) := by decide +kernel
theorem dX0_areValuesFor_0 : decode cX0_areValuesFor 0 = .ok (.iload_n 1, 1) := by decide +kernel
theorem dX0_areValuesFor_1 : decode cX0_areValuesFor 1 = .ok (.istore_n 2, 1) := by decide +kernel
theorem dX0_areValuesFor_2 : decode cX0_areValuesFor 2 = .ok (.iconst 0, 1) := by decide +kernel
theorem dX0_areValuesFor_3 : decode cX0_areValuesFor 3 = .ok (.istore_n 3, 1) := by decide +kernel
theorem dX0_areValuesFor_4 : decode cX0_areValuesFor 4 = .ok (.iload_n 3, 1) := by decide +kernel
theorem dX0_areValuesFor_5 : decode cX0_areValuesFor 5 = .ok (.iload_n 0, 1) := by decide +kernel
theorem dX0_areValuesFor_6 : decode cX0_areValuesFor 6 = .ok (.if_icmp .gt 14, 3) := by decide +kernel
theorem dX0_areValuesFor_9 : decode cX0_areValuesFor 9 = .ok (.iload_n 2, 1) := by decide +kernel
theorem dX0_areValuesFor_10 : decode cX0_areValuesFor 10 = .ok (.bipush 10, 2) := by decide +kernel
theorem dX0_areValuesFor_12 : decode cX0_areValuesFor 12 = .ok (.idiv, 1) := by decide +kernel
theorem dX0_areValuesFor_13 : decode cX0_areValuesFor 13 = .ok (.istore_n 2, 1) := by decide +kernel
theorem dX0_areValuesFor_14 : decode cX0_areValuesFor 14 = .ok (.iinc 3 1, 3) := by decide +kernel
theorem dX0_areValuesFor_17 : decode cX0_areValuesFor 17 = .ok (.goto (-13), 3) := by decide +kernel
theorem dX0_areValuesFor_20 : decode cX0_areValuesFor 20 = .ok (.iload_n 1, 1) := by decide +kernel
theorem dX0_areValuesFor_21 : decode cX0_areValuesFor 21 = .ok (.ifCond .lt 11, 3) := by decide +kernel
theorem dX0_areValuesFor_24 : decode cX0_areValuesFor 24 = .ok (.iload_n 2, 1) := by decide +kernel
theorem dX0_areValuesFor_25 : decode cX0_areValuesFor 25 = .ok (.ifCond .ne 7, 3) := by decide +kernel
theorem dX0_areValuesFor_28 : decode cX0_areValuesFor 28 = .ok (.iconst 1, 1) := by decide +kernel
theorem dX0_areValuesFor_29 : decode cX0_areValuesFor 29 = .ok (.goto 4, 3) := by decide +kernel
theorem dX0_areValuesFor_32 : decode cX0_areValuesFor 32 = .ok (.iconst 0, 1) := by decide +kernel
theorem dX0_areValuesFor_33 : decode cX0_areValuesFor 33 = .ok (.ireturn, 1) := by decide +kernel
theorem dX0_addPattern_0 : decode cX0_addPattern 0 = .ok (.aload_n 0, 1) := by decide +kernel
theorem dX0_addPattern_1 : decode cX0_addPattern 1 = .ok (.getfield 9, 3) := by decide +kernel
theorem dX0_addPattern_4 : decode cX0_addPattern 4 = .ok (.aload_n 0, 1) := by decide +kernel
theorem dX0_addPattern_5 : decode cX0_addPattern 5 = .ok (.getfield 37, 3) := by decide +kernel
theorem dX0_addPattern_8 : decode cX0_addPattern 8 = .ok (.iload_n 1, 1) := by decide +kernel
theorem dX0_addPattern_9 : decode cX0_addPattern 9 = .ok (.iastore, 1) := by decide +kernel
theorem dX0_addPattern_10 : decode cX0_addPattern 10 = .ok (.aload_n 0, 1) := by decide +kernel
theorem dX0_addPattern_11 : decode cX0_addPattern 11 = .ok (.getfield 15, 3) := by decide +kernel
theorem dX0_addPattern_14 : decode cX0_addPattern 14 = .ok (.aload_n 0, 1) := by decide +kernel
theorem dX0_addPattern_15 : decode cX0_addPattern 15 = .ok (.getfield 37, 3) := by decide +kernel
theorem dX0_addPattern_18 : decode cX0_addPattern 18 = .ok (.iload_n 2, 1) := by decide +kernel
theorem dX0_addPattern_19 : decode cX0_addPattern 19 = .ok (.iastore, 1) := by decide +kernel
theorem dX0_addPattern_20 : decode cX0_addPattern 20 = .ok (.aload_n 0, 1) := by decide +kernel
theorem dX0_addPattern_21 : decode cX0_addPattern 21 = .ok (.getfield 18, 3) := by decide +kernel
theorem dX0_addPattern_24 : decode cX0_addPattern 24 = .ok (.aload_n 0, 1) := by decide +kernel
theorem dX0_addPattern_25 : decode cX0_addPattern 25 = .ok (.getfield 37, 3) := by decide +kernel
theorem dX0_addPattern_28 : decode cX0_addPattern 28 = .ok (.iload_n 3, 1) := by decide +kernel
theorem dX0_addPattern_29 : decode cX0_addPattern 29 = .ok (.iastore, 1) := by decide +kernel
theorem dX0_addPattern_30 : decode cX0_addPattern 30 = .ok (.aload_n 0, 1) := by decide +kernel
theorem dX0_addPattern_31 : decode cX0_addPattern 31 = .ok (.dup, 1) := by decide +kernel
theorem dX0_addPattern_32 : decode cX0_addPattern 32 = .ok (.getfield 37, 3) := by decide +kernel
theorem dX0_addPattern_35 : decode cX0_addPattern 35 = .ok (.iconst 1, 1) := by decide +kernel
theorem dX0_addPattern_36 : decode cX0_addPattern 36 = .ok (.iadd, 1) := by decide +kernel
theorem dX0_addPattern_37 : decode cX0_addPattern 37 = .ok (.putfield 37, 3) := by decide +kernel
theorem dX0_addPattern_40 : decode cX0_addPattern 40 = .ok (.aload_n 0, 1) := by decide +kernel
theorem dX0_addPattern_41 : decode cX0_addPattern 41 = .ok (.getfield 37, 3) := by decide +kernel
theorem dX0_addPattern_44 : decode cX0_addPattern 44 = .ok (.iconst 1, 1) := by decide +kernel
theorem dX0_addPattern_45 : decode cX0_addPattern 45 = .ok (.isub, 1) := by decide +kernel
theorem dX0_addPattern_46 : decode cX0_addPattern 46 = .ok (.ireturn, 1) := by decide +kernel
theorem dX0_addLetter_0 : decode cX0_addLetter 0 = .ok (.aload_n 0, 1) := by decide +kernel
theorem dX0_addLetter_1 : decode cX0_addLetter 1 = .ok (.dup, 1) := by decide +kernel
theorem dX0_addLetter_2 : decode cX0_addLetter 2 = .ok (.getfield 40, 3) := by decide +kernel
theorem dX0_addLetter_5 : decode cX0_addLetter 5 = .ok (.iconst 1, 1) := by decide +kernel
theorem dX0_addLetter_6 : decode cX0_addLetter 6 = .ok (.iadd, 1) := by decide +kernel
theorem dX0_addLetter_7 : decode cX0_addLetter 7 = .ok (.putfield 40, 3) := by decide +kernel
theorem dX0_addLetter_10 : decode cX0_addLetter 10 = .ok (.aload_n 0, 1) := by decide +kernel
theorem dX0_addLetter_11 : decode cX0_addLetter 11 = .ok (.getfield 21, 3) := by decide +kernel
theorem dX0_addLetter_14 : decode cX0_addLetter 14 = .ok (.aload_n 0, 1) := by decide +kernel
theorem dX0_addLetter_15 : decode cX0_addLetter 15 = .ok (.getfield 40, 3) := by decide +kernel
theorem dX0_addLetter_18 : decode cX0_addLetter 18 = .ok (.iload_n 1, 1) := by decide +kernel
theorem dX0_addLetter_19 : decode cX0_addLetter 19 = .ok (.iastore, 1) := by decide +kernel
theorem dX0_addLetter_20 : decode cX0_addLetter 20 = .ok (.aload_n 0, 1) := by decide +kernel
theorem dX0_addLetter_21 : decode cX0_addLetter 21 = .ok (.getfield 40, 3) := by decide +kernel
theorem dX0_addLetter_24 : decode cX0_addLetter 24 = .ok (.ireturn, 1) := by decide +kernel
theorem dX0_changeAhead_0 : decode cX0_changeAhead 0 = .ok (.aload_n 0, 1) := by decide +kernel
theorem dX0_changeAhead_1 : decode cX0_changeAhead 1 = .ok (.getfield 27, 3) := by decide +kernel
theorem dX0_changeAhead_4 : decode cX0_changeAhead 4 = .ok (.istore_n 2, 1) := by decide +kernel
theorem dX0_changeAhead_5 : decode cX0_changeAhead 5 = .ok (.aload_n 0, 1) := by decide +kernel
theorem dX0_changeAhead_6 : decode cX0_changeAhead 6 = .ok (.iload_n 1, 1) := by decide +kernel
theorem dX0_changeAhead_7 : decode cX0_changeAhead 7 = .ok (.putfield 27, 3) := by decide +kernel
theorem dX0_changeAhead_10 : decode cX0_changeAhead 10 = .ok (.iload_n 2, 1) := by decide +kernel
theorem dX0_changeAhead_11 : decode cX0_changeAhead 11 = .ok (.ireturn, 1) := by decide +kernel
theorem dX0_changeBehind_0 : decode cX0_changeBehind 0 = .ok (.aload_n 0, 1) := by decide +kernel
theorem dX0_changeBehind_1 : decode cX0_changeBehind 1 = .ok (.getfield 31, 3) := by decide +kernel
theorem dX0_changeBehind_4 : decode cX0_changeBehind 4 = .ok (.istore_n 2, 1) := by decide +kernel
theorem dX0_changeBehind_5 : decode cX0_changeBehind 5 = .ok (.aload_n 0, 1) := by decide +kernel
theorem dX0_changeBehind_6 : decode cX0_changeBehind 6 = .ok (.iload_n 1, 1) := by decide +kernel
theorem dX0_changeBehind_7 : decode cX0_changeBehind 7 = .ok (.putfield 31, 3) := by decide +kernel
theorem dX0_changeBehind_10 : decode cX0_changeBehind 10 = .ok (.iload_n 2, 1) := by decide +kernel
theorem dX0_changeBehind_11 : decode cX0_changeBehind 11 = .ok (.ireturn, 1) := by decide +kernel
theorem dX0_findCuts_0 : decode cX0_findCuts 0 = .ok (.aload_n 0, 1) := by decide +kernel
theorem dX0_findCuts_1 : decode cX0_findCuts 1 = .ok (.invokevirtual 54, 3) := by decide +kernel
theorem dX0_findCuts_4 : decode cX0_findCuts 4 = .ok (.aload_n 0, 1) := by decide +kernel
theorem dX0_findCuts_5 : decode cX0_findCuts 5 = .ok (.iconst 0, 1) := by decide +kernel
theorem dX0_findCuts_6 : decode cX0_findCuts 6 = .ok (.putfield 43, 3) := by decide +kernel
theorem dX0_findCuts_9 : decode cX0_findCuts 9 = .ok (.aload_n 0, 1) := by decide +kernel
theorem dX0_findCuts_10 : decode cX0_findCuts 10 = .ok (.getfield 27, 3) := by decide +kernel
theorem dX0_findCuts_13 : decode cX0_findCuts 13 = .ok (.istore_n 1, 1) := by decide +kernel
theorem dX0_findCuts_14 : decode cX0_findCuts 14 = .ok (.iload_n 1, 1) := by decide +kernel
theorem dX0_findCuts_15 : decode cX0_findCuts 15 = .ok (.aload_n 0, 1) := by decide +kernel
theorem dX0_findCuts_16 : decode cX0_findCuts 16 = .ok (.getfield 40, 3) := by decide +kernel
theorem dX0_findCuts_19 : decode cX0_findCuts 19 = .ok (.aload_n 0, 1) := by decide +kernel
theorem dX0_findCuts_20 : decode cX0_findCuts 20 = .ok (.getfield 31, 3) := by decide +kernel
theorem dX0_findCuts_23 : decode cX0_findCuts 23 = .ok (.isub, 1) := by decide +kernel
theorem dX0_findCuts_24 : decode cX0_findCuts 24 = .ok (.if_icmp .gt 43, 3) := by decide +kernel
theorem dX0_findCuts_27 : decode cX0_findCuts 27 = .ok (.aload_n 0, 1) := by decide +kernel
theorem dX0_findCuts_28 : decode cX0_findCuts 28 = .ok (.getfield 24, 3) := by decide +kernel
theorem dX0_findCuts_31 : decode cX0_findCuts 31 = .ok (.iload_n 1, 1) := by decide +kernel
theorem dX0_findCuts_32 : decode cX0_findCuts 32 = .ok (.iconst 1, 1) := by decide +kernel
theorem dX0_findCuts_33 : decode cX0_findCuts 33 = .ok (.iadd, 1) := by decide +kernel
theorem dX0_findCuts_34 : decode cX0_findCuts 34 = .ok (.iaload, 1) := by decide +kernel
theorem dX0_findCuts_35 : decode cX0_findCuts 35 = .ok (.iconst 2, 1) := by decide +kernel
theorem dX0_findCuts_36 : decode cX0_findCuts 36 = .ok (.irem, 1) := by decide +kernel
theorem dX0_findCuts_37 : decode cX0_findCuts 37 = .ok (.iconst 1, 1) := by decide +kernel
theorem dX0_findCuts_38 : decode cX0_findCuts 38 = .ok (.if_icmp .ne 23, 3) := by decide +kernel
theorem dX0_findCuts_41 : decode cX0_findCuts 41 = .ok (.aload_n 0, 1) := by decide +kernel
theorem dX0_findCuts_42 : decode cX0_findCuts 42 = .ok (.getfield 34, 3) := by decide +kernel
theorem dX0_findCuts_45 : decode cX0_findCuts 45 = .ok (.aload_n 0, 1) := by decide +kernel
theorem dX0_findCuts_46 : decode cX0_findCuts 46 = .ok (.getfield 43, 3) := by decide +kernel
theorem dX0_findCuts_49 : decode cX0_findCuts 49 = .ok (.iload_n 1, 1) := by decide +kernel
theorem dX0_findCuts_50 : decode cX0_findCuts 50 = .ok (.iastore, 1) := by decide +kernel
theorem dX0_findCuts_51 : decode cX0_findCuts 51 = .ok (.aload_n 0, 1) := by decide +kernel
theorem dX0_findCuts_52 : decode cX0_findCuts 52 = .ok (.dup, 1) := by decide +kernel
theorem dX0_findCuts_53 : decode cX0_findCuts 53 = .ok (.getfield 43, 3) := by decide +kernel
theorem dX0_findCuts_56 : decode cX0_findCuts 56 = .ok (.iconst 1, 1) := by decide +kernel
theorem dX0_findCuts_57 : decode cX0_findCuts 57 = .ok (.iadd, 1) := by decide +kernel
theorem dX0_findCuts_58 : decode cX0_findCuts 58 = .ok (.putfield 43, 3) := by decide +kernel
theorem dX0_findCuts_61 : decode cX0_findCuts 61 = .ok (.iinc 1 1, 3) := by decide +kernel
theorem dX0_findCuts_64 : decode cX0_findCuts 64 = .ok (.goto (-50), 3) := by decide +kernel
theorem dX0_findCuts_67 : decode cX0_findCuts 67 = .ok (.aload_n 0, 1) := by decide +kernel
theorem dX0_findCuts_68 : decode cX0_findCuts 68 = .ok (.getfield 43, 3) := by decide +kernel
theorem dX0_findCuts_71 : decode cX0_findCuts 71 = .ok (.ireturn, 1) := by decide +kernel
theorem dX0_weighPlaces_0 : decode cX0_weighPlaces 0 = .ok (.aload_n 0, 1) := by decide +kernel
theorem dX0_weighPlaces_1 : decode cX0_weighPlaces 1 = .ok (.getfield 21, 3) := by decide +kernel
theorem dX0_weighPlaces_4 : decode cX0_weighPlaces 4 = .ok (.iconst 0, 1) := by decide +kernel
theorem dX0_weighPlaces_5 : decode cX0_weighPlaces 5 = .ok (.bipush 27, 2) := by decide +kernel
theorem dX0_weighPlaces_7 : decode cX0_weighPlaces 7 = .ok (.iastore, 1) := by decide +kernel
theorem dX0_weighPlaces_8 : decode cX0_weighPlaces 8 = .ok (.aload_n 0, 1) := by decide +kernel
theorem dX0_weighPlaces_9 : decode cX0_weighPlaces 9 = .ok (.getfield 21, 3) := by decide +kernel
theorem dX0_weighPlaces_12 : decode cX0_weighPlaces 12 = .ok (.aload_n 0, 1) := by decide +kernel
theorem dX0_weighPlaces_13 : decode cX0_weighPlaces 13 = .ok (.getfield 40, 3) := by decide +kernel
theorem dX0_weighPlaces_16 : decode cX0_weighPlaces 16 = .ok (.iconst 1, 1) := by decide +kernel
theorem dX0_weighPlaces_17 : decode cX0_weighPlaces 17 = .ok (.iadd, 1) := by decide +kernel
theorem dX0_weighPlaces_18 : decode cX0_weighPlaces 18 = .ok (.bipush 27, 2) := by decide +kernel
theorem dX0_weighPlaces_20 : decode cX0_weighPlaces 20 = .ok (.iastore, 1) := by decide +kernel
theorem dX0_weighPlaces_21 : decode cX0_weighPlaces 21 = .ok (.iconst 0, 1) := by decide +kernel
theorem dX0_weighPlaces_22 : decode cX0_weighPlaces 22 = .ok (.istore_n 1, 1) := by decide +kernel
theorem dX0_weighPlaces_23 : decode cX0_weighPlaces 23 = .ok (.iload_n 1, 1) := by decide +kernel
theorem dX0_weighPlaces_24 : decode cX0_weighPlaces 24 = .ok (.aload_n 0, 1) := by decide +kernel
theorem dX0_weighPlaces_25 : decode cX0_weighPlaces 25 = .ok (.getfield 40, 3) := by decide +kernel
theorem dX0_weighPlaces_28 : decode cX0_weighPlaces 28 = .ok (.iconst 2, 1) := by decide +kernel
theorem dX0_weighPlaces_29 : decode cX0_weighPlaces 29 = .ok (.iadd, 1) := by decide +kernel
theorem dX0_weighPlaces_30 : decode cX0_weighPlaces 30 = .ok (.if_icmp .gt 16, 3) := by decide +kernel
theorem dX0_weighPlaces_33 : decode cX0_weighPlaces 33 = .ok (.aload_n 0, 1) := by decide +kernel
theorem dX0_weighPlaces_34 : decode cX0_weighPlaces 34 = .ok (.getfield 24, 3) := by decide +kernel
theorem dX0_weighPlaces_37 : decode cX0_weighPlaces 37 = .ok (.iload_n 1, 1) := by decide +kernel
theorem dX0_weighPlaces_38 : decode cX0_weighPlaces 38 = .ok (.iconst 0, 1) := by decide +kernel
theorem dX0_weighPlaces_39 : decode cX0_weighPlaces 39 = .ok (.iastore, 1) := by decide +kernel
theorem dX0_weighPlaces_40 : decode cX0_weighPlaces 40 = .ok (.iinc 1 1, 3) := by decide +kernel
theorem dX0_weighPlaces_43 : decode cX0_weighPlaces 43 = .ok (.goto (-20), 3) := by decide +kernel
theorem dX0_weighPlaces_46 : decode cX0_weighPlaces 46 = .ok (.iconst 0, 1) := by decide +kernel
theorem dX0_weighPlaces_47 : decode cX0_weighPlaces 47 = .ok (.istore_n 1, 1) := by decide +kernel
theorem dX0_weighPlaces_48 : decode cX0_weighPlaces 48 = .ok (.iload_n 1, 1) := by decide +kernel
theorem dX0_weighPlaces_49 : decode cX0_weighPlaces 49 = .ok (.aload_n 0, 1) := by decide +kernel
theorem dX0_weighPlaces_50 : decode cX0_weighPlaces 50 = .ok (.getfield 37, 3) := by decide +kernel
theorem dX0_weighPlaces_53 : decode cX0_weighPlaces 53 = .ok (.if_icmp .ge 49, 3) := by decide +kernel
theorem dX0_weighPlaces_56 : decode cX0_weighPlaces 56 = .ok (.iconst 0, 1) := by decide +kernel
theorem dX0_weighPlaces_57 : decode cX0_weighPlaces 57 = .ok (.istore_n 2, 1) := by decide +kernel
theorem dX0_weighPlaces_58 : decode cX0_weighPlaces 58 = .ok (.iload_n 2, 1) := by decide +kernel
theorem dX0_weighPlaces_59 : decode cX0_weighPlaces 59 = .ok (.aload_n 0, 1) := by decide +kernel
theorem dX0_weighPlaces_60 : decode cX0_weighPlaces 60 = .ok (.getfield 15, 3) := by decide +kernel
theorem dX0_weighPlaces_63 : decode cX0_weighPlaces 63 = .ok (.iload_n 1, 1) := by decide +kernel
theorem dX0_weighPlaces_64 : decode cX0_weighPlaces 64 = .ok (.iaload, 1) := by decide +kernel
theorem dX0_weighPlaces_65 : decode cX0_weighPlaces 65 = .ok (.iadd, 1) := by decide +kernel
theorem dX0_weighPlaces_66 : decode cX0_weighPlaces 66 = .ok (.aload_n 0, 1) := by decide +kernel
theorem dX0_weighPlaces_67 : decode cX0_weighPlaces 67 = .ok (.getfield 40, 3) := by decide +kernel
theorem dX0_weighPlaces_70 : decode cX0_weighPlaces 70 = .ok (.iconst 2, 1) := by decide +kernel
theorem dX0_weighPlaces_71 : decode cX0_weighPlaces 71 = .ok (.iadd, 1) := by decide +kernel
theorem dX0_weighPlaces_72 : decode cX0_weighPlaces 72 = .ok (.if_icmp .gt 24, 3) := by decide +kernel
theorem dX0_weighPlaces_75 : decode cX0_weighPlaces 75 = .ok (.aload_n 0, 1) := by decide +kernel
theorem dX0_weighPlaces_76 : decode cX0_weighPlaces 76 = .ok (.iload_n 1, 1) := by decide +kernel
theorem dX0_weighPlaces_77 : decode cX0_weighPlaces 77 = .ok (.iload_n 2, 1) := by decide +kernel
theorem dX0_weighPlaces_78 : decode cX0_weighPlaces 78 = .ok (.invokevirtual 57, 3) := by decide +kernel
theorem dX0_weighPlaces_81 : decode cX0_weighPlaces 81 = .ok (.ifCond .eq 9, 3) := by decide +kernel
theorem dX0_weighPlaces_84 : decode cX0_weighPlaces 84 = .ok (.aload_n 0, 1) := by decide +kernel
theorem dX0_weighPlaces_85 : decode cX0_weighPlaces 85 = .ok (.iload_n 1, 1) := by decide +kernel
theorem dX0_weighPlaces_86 : decode cX0_weighPlaces 86 = .ok (.iload_n 2, 1) := by decide +kernel
theorem dX0_weighPlaces_87 : decode cX0_weighPlaces 87 = .ok (.invokevirtual 61, 3) := by decide +kernel
theorem dX0_weighPlaces_90 : decode cX0_weighPlaces 90 = .ok (.iinc 2 1, 3) := by decide +kernel
theorem dX0_weighPlaces_93 : decode cX0_weighPlaces 93 = .ok (.goto (-35), 3) := by decide +kernel
theorem dX0_weighPlaces_96 : decode cX0_weighPlaces 96 = .ok (.iinc 1 1, 3) := by decide +kernel
theorem dX0_weighPlaces_99 : decode cX0_weighPlaces 99 = .ok (.goto (-51), 3) := by decide +kernel
theorem dX0_weighPlaces_102 : decode cX0_weighPlaces 102 = .ok (.return_, 1) := by decide +kernel
theorem dX0_standsAt_0 : decode cX0_standsAt 0 = .ok (.iconst 0, 1) := by decide +kernel
theorem dX0_standsAt_1 : decode cX0_standsAt 1 = .ok (.istore_n 3, 1) := by decide +kernel
theorem dX0_standsAt_2 : decode cX0_standsAt 2 = .ok (.iload_n 3, 1) := by decide +kernel
theorem dX0_standsAt_3 : decode cX0_standsAt 3 = .ok (.aload_n 0, 1) := by decide +kernel
theorem dX0_standsAt_4 : decode cX0_standsAt 4 = .ok (.getfield 15, 3) := by decide +kernel
theorem dX0_standsAt_7 : decode cX0_standsAt 7 = .ok (.iload_n 1, 1) := by decide +kernel
theorem dX0_standsAt_8 : decode cX0_standsAt 8 = .ok (.iaload, 1) := by decide +kernel
theorem dX0_standsAt_9 : decode cX0_standsAt 9 = .ok (.if_icmp .ge 33, 3) := by decide +kernel
theorem dX0_standsAt_12 : decode cX0_standsAt 12 = .ok (.aload_n 0, 1) := by decide +kernel
theorem dX0_standsAt_13 : decode cX0_standsAt 13 = .ok (.getfield 21, 3) := by decide +kernel
theorem dX0_standsAt_16 : decode cX0_standsAt 16 = .ok (.iload_n 2, 1) := by decide +kernel
theorem dX0_standsAt_17 : decode cX0_standsAt 17 = .ok (.iload_n 3, 1) := by decide +kernel
theorem dX0_standsAt_18 : decode cX0_standsAt 18 = .ok (.iadd, 1) := by decide +kernel
theorem dX0_standsAt_19 : decode cX0_standsAt 19 = .ok (.iaload, 1) := by decide +kernel
theorem dX0_standsAt_20 : decode cX0_standsAt 20 = .ok (.aload_n 0, 1) := by decide +kernel
theorem dX0_standsAt_21 : decode cX0_standsAt 21 = .ok (.getfield 9, 3) := by decide +kernel
theorem dX0_standsAt_24 : decode cX0_standsAt 24 = .ok (.iload_n 1, 1) := by decide +kernel
theorem dX0_standsAt_25 : decode cX0_standsAt 25 = .ok (.iaload, 1) := by decide +kernel
theorem dX0_standsAt_26 : decode cX0_standsAt 26 = .ok (.i2l, 1) := by decide +kernel
theorem dX0_standsAt_27 : decode cX0_standsAt 27 = .ok (.iload_n 3, 1) := by decide +kernel
theorem dX0_standsAt_28 : decode cX0_standsAt 28 = .ok (.invokestatic 46, 3) := by decide +kernel
theorem dX0_standsAt_31 : decode cX0_standsAt 31 = .ok (.if_icmp .eq 5, 3) := by decide +kernel
theorem dX0_standsAt_34 : decode cX0_standsAt 34 = .ok (.iconst 0, 1) := by decide +kernel
theorem dX0_standsAt_35 : decode cX0_standsAt 35 = .ok (.ireturn, 1) := by decide +kernel
theorem dX0_standsAt_36 : decode cX0_standsAt 36 = .ok (.iinc 3 1, 3) := by decide +kernel
theorem dX0_standsAt_39 : decode cX0_standsAt 39 = .ok (.goto (-37), 3) := by decide +kernel
theorem dX0_standsAt_42 : decode cX0_standsAt 42 = .ok (.iconst 1, 1) := by decide +kernel
theorem dX0_standsAt_43 : decode cX0_standsAt 43 = .ok (.ireturn, 1) := by decide +kernel
theorem dX0_raiseValues_0 : decode cX0_raiseValues 0 = .ok (.aload_n 0, 1) := by decide +kernel
theorem dX0_raiseValues_1 : decode cX0_raiseValues 1 = .ok (.getfield 18, 3) := by decide +kernel
theorem dX0_raiseValues_4 : decode cX0_raiseValues 4 = .ok (.iload_n 1, 1) := by decide +kernel
theorem dX0_raiseValues_5 : decode cX0_raiseValues 5 = .ok (.iaload, 1) := by decide +kernel
theorem dX0_raiseValues_6 : decode cX0_raiseValues 6 = .ok (.istore_n 3, 1) := by decide +kernel
theorem dX0_raiseValues_7 : decode cX0_raiseValues 7 = .ok (.iconst 0, 1) := by decide +kernel
theorem dX0_raiseValues_8 : decode cX0_raiseValues 8 = .ok (.istore 4, 2) := by decide +kernel
theorem dX0_raiseValues_10 : decode cX0_raiseValues 10 = .ok (.iload 4, 2) := by decide +kernel
theorem dX0_raiseValues_12 : decode cX0_raiseValues 12 = .ok (.aload_n 0, 1) := by decide +kernel
theorem dX0_raiseValues_13 : decode cX0_raiseValues 13 = .ok (.getfield 15, 3) := by decide +kernel
theorem dX0_raiseValues_16 : decode cX0_raiseValues 16 = .ok (.iload_n 1, 1) := by decide +kernel
theorem dX0_raiseValues_17 : decode cX0_raiseValues 17 = .ok (.iaload, 1) := by decide +kernel
theorem dX0_raiseValues_18 : decode cX0_raiseValues 18 = .ok (.if_icmp .gt 39, 3) := by decide +kernel
theorem dX0_raiseValues_21 : decode cX0_raiseValues 21 = .ok (.aload_n 0, 1) := by decide +kernel
theorem dX0_raiseValues_22 : decode cX0_raiseValues 22 = .ok (.getfield 24, 3) := by decide +kernel
theorem dX0_raiseValues_25 : decode cX0_raiseValues 25 = .ok (.iload_n 2, 1) := by decide +kernel
theorem dX0_raiseValues_26 : decode cX0_raiseValues 26 = .ok (.iload 4, 2) := by decide +kernel
theorem dX0_raiseValues_28 : decode cX0_raiseValues 28 = .ok (.iadd, 1) := by decide +kernel
theorem dX0_raiseValues_29 : decode cX0_raiseValues 29 = .ok (.aload_n 0, 1) := by decide +kernel
theorem dX0_raiseValues_30 : decode cX0_raiseValues 30 = .ok (.getfield 24, 3) := by decide +kernel
theorem dX0_raiseValues_33 : decode cX0_raiseValues 33 = .ok (.iload_n 2, 1) := by decide +kernel
theorem dX0_raiseValues_34 : decode cX0_raiseValues 34 = .ok (.iload 4, 2) := by decide +kernel
theorem dX0_raiseValues_36 : decode cX0_raiseValues 36 = .ok (.iadd, 1) := by decide +kernel
theorem dX0_raiseValues_37 : decode cX0_raiseValues 37 = .ok (.iaload, 1) := by decide +kernel
theorem dX0_raiseValues_38 : decode cX0_raiseValues 38 = .ok (.iload_n 3, 1) := by decide +kernel
theorem dX0_raiseValues_39 : decode cX0_raiseValues 39 = .ok (.bipush 10, 2) := by decide +kernel
theorem dX0_raiseValues_41 : decode cX0_raiseValues 41 = .ok (.irem, 1) := by decide +kernel
theorem dX0_raiseValues_42 : decode cX0_raiseValues 42 = .ok (.invokestatic 65, 3) := by decide +kernel
theorem dX0_raiseValues_45 : decode cX0_raiseValues 45 = .ok (.iastore, 1) := by decide +kernel
theorem dX0_raiseValues_46 : decode cX0_raiseValues 46 = .ok (.iload_n 3, 1) := by decide +kernel
theorem dX0_raiseValues_47 : decode cX0_raiseValues 47 = .ok (.bipush 10, 2) := by decide +kernel
theorem dX0_raiseValues_49 : decode cX0_raiseValues 49 = .ok (.idiv, 1) := by decide +kernel
theorem dX0_raiseValues_50 : decode cX0_raiseValues 50 = .ok (.istore_n 3, 1) := by decide +kernel
theorem dX0_raiseValues_51 : decode cX0_raiseValues 51 = .ok (.iinc 4 1, 3) := by decide +kernel
theorem dX0_raiseValues_54 : decode cX0_raiseValues 54 = .ok (.goto (-44), 3) := by decide +kernel
theorem dX0_raiseValues_57 : decode cX0_raiseValues 57 = .ok (.return_, 1) := by decide +kernel
theorem dX1_init_0 : decode cX1_init 0 = .ok (.aload_n 0, 1) := by decide +kernel
theorem dX1_init_1 : decode cX1_init 1 = .ok (.invokespecial 3, 3) := by decide +kernel
theorem dX1_init_4 : decode cX1_init 4 = .ok (.return_, 1) := by decide +kernel
theorem dX1_become_0 : decode cX1_become 0 = .ok (.aload_n 0, 1) := by decide +kernel
theorem dX1_become_1 : decode cX1_become 1 = .ok (.iload_n 1, 1) := by decide +kernel
theorem dX1_become_2 : decode cX1_become 2 = .ok (.putfield 9, 3) := by decide +kernel
theorem dX1_become_5 : decode cX1_become 5 = .ok (.aload_n 0, 1) := by decide +kernel
theorem dX1_become_6 : decode cX1_become 6 = .ok (.iload_n 2, 1) := by decide +kernel
theorem dX1_become_7 : decode cX1_become 7 = .ok (.putfield 15, 3) := by decide +kernel
theorem dX1_become_10 : decode cX1_become 10 = .ok (.aload_n 0, 1) := by decide +kernel
theorem dX1_become_11 : decode cX1_become 11 = .ok (.iload_n 3, 1) := by decide +kernel
theorem dX1_become_12 : decode cX1_become 12 = .ok (.putfield 18, 3) := by decide +kernel
theorem dX1_become_15 : decode cX1_become 15 = .ok (.aload_n 0, 1) := by decide +kernel
theorem dX1_become_16 : decode cX1_become 16 = .ok (.iconst 0, 1) := by decide +kernel
theorem dX1_become_17 : decode cX1_become 17 = .ok (.putfield 22, 3) := by decide +kernel
theorem dX1_become_20 : decode cX1_become 20 = .ok (.aload_n 0, 1) := by decide +kernel
theorem dX1_become_21 : decode cX1_become 21 = .ok (.iconst (-1), 1) := by decide +kernel
theorem dX1_become_22 : decode cX1_become 22 = .ok (.putfield 25, 3) := by decide +kernel
theorem dX1_become_25 : decode cX1_become 25 = .ok (.aload_n 0, 1) := by decide +kernel
theorem dX1_become_26 : decode cX1_become 26 = .ok (.iconst (-1), 1) := by decide +kernel
theorem dX1_become_27 : decode cX1_become 27 = .ok (.putfield 28, 3) := by decide +kernel
theorem dX1_become_30 : decode cX1_become 30 = .ok (.aload_n 0, 1) := by decide +kernel
theorem dX1_become_31 : decode cX1_become 31 = .ok (.iconst (-1), 1) := by decide +kernel
theorem dX1_become_32 : decode cX1_become 32 = .ok (.putfield 31, 3) := by decide +kernel
theorem dX1_become_35 : decode cX1_become 35 = .ok (.aload_n 0, 1) := by decide +kernel
theorem dX1_become_36 : decode cX1_become 36 = .ok (.iconst 0, 1) := by decide +kernel
theorem dX1_become_37 : decode cX1_become 37 = .ok (.putfield 34, 3) := by decide +kernel
theorem dX1_become_40 : decode cX1_become 40 = .ok (.aload_n 0, 1) := by decide +kernel
theorem dX1_become_41 : decode cX1_become 41 = .ok (.iconst 0, 1) := by decide +kernel
theorem dX1_become_42 : decode cX1_become 42 = .ok (.putfield 37, 3) := by decide +kernel
theorem dX1_become_45 : decode cX1_become 45 = .ok (.return_, 1) := by decide +kernel
theorem dX1_end_0 : decode cX1_end 0 = .ok (.aload_n 0, 1) := by decide +kernel
theorem dX1_end_1 : decode cX1_end 1 = .ok (.getfield 34, 3) := by decide +kernel
theorem dX1_end_4 : decode cX1_end 4 = .ok (.aload_n 0, 1) := by decide +kernel
theorem dX1_end_5 : decode cX1_end 5 = .ok (.getfield 9, 3) := by decide +kernel
theorem dX1_end_8 : decode cX1_end 8 = .ok (.iadd, 1) := by decide +kernel
theorem dX1_end_9 : decode cX1_end 9 = .ok (.ireturn, 1) := by decide +kernel
theorem dX2_init_0 : decode cX2_init 0 = .ok (.aload_n 0, 1) := by decide +kernel
theorem dX2_init_1 : decode cX2_init 1 = .ok (.invokespecial 3, 3) := by decide +kernel
theorem dX2_init_4 : decode cX2_init 4 = .ok (.aload_n 0, 1) := by decide +kernel
theorem dX2_init_5 : decode cX2_init 5 = .ok (.bipush 60, 2) := by decide +kernel
theorem dX2_init_7 : decode cX2_init 7 = .ok (.newarray .int, 2) := by decide +kernel
theorem dX2_init_9 : decode cX2_init 9 = .ok (.putfield 9, 3) := by decide +kernel
theorem dX2_init_12 : decode cX2_init 12 = .ok (.aload_n 0, 1) := by decide +kernel
theorem dX2_init_13 : decode cX2_init 13 = .ok (.bipush 120, 2) := by decide +kernel
theorem dX2_init_15 : decode cX2_init 15 = .ok (.newarray .int, 2) := by decide +kernel
theorem dX2_init_17 : decode cX2_init 17 = .ok (.putfield 15, 3) := by decide +kernel
theorem dX2_init_20 : decode cX2_init 20 = .ok (.aload_n 0, 1) := by decide +kernel
theorem dX2_init_21 : decode cX2_init 21 = .ok (.bipush 120, 2) := by decide +kernel
theorem dX2_init_23 : decode cX2_init 23 = .ok (.newarray .int, 2) := by decide +kernel
theorem dX2_init_25 : decode cX2_init 25 = .ok (.putfield 18, 3) := by decide +kernel
theorem dX2_init_28 : decode cX2_init 28 = .ok (.aload_n 0, 1) := by decide +kernel
theorem dX2_init_29 : decode cX2_init 29 = .ok (.bipush 120, 2) := by decide +kernel
theorem dX2_init_31 : decode cX2_init 31 = .ok (.newarray .boolean, 2) := by decide +kernel
theorem dX2_init_33 : decode cX2_init 33 = .ok (.putfield 21, 3) := by decide +kernel
theorem dX2_init_36 : decode cX2_init 36 = .ok (.aload_n 0, 1) := by decide +kernel
theorem dX2_init_37 : decode cX2_init 37 = .ok (.bipush 60, 2) := by decide +kernel
theorem dX2_init_39 : decode cX2_init 39 = .ok (.newarray .int, 2) := by decide +kernel
theorem dX2_init_41 : decode cX2_init 41 = .ok (.putfield 25, 3) := by decide +kernel
theorem dX2_init_44 : decode cX2_init 44 = .ok (.aload_n 0, 1) := by decide +kernel
theorem dX2_init_45 : decode cX2_init 45 = .ok (.iconst 0, 1) := by decide +kernel
theorem dX2_init_46 : decode cX2_init 46 = .ok (.putfield 28, 3) := by decide +kernel
theorem dX2_init_49 : decode cX2_init 49 = .ok (.return_, 1) := by decide +kernel
theorem dX2_empty_0 : decode cX2_empty 0 = .ok (.iconst 0, 1) := by decide +kernel
theorem dX2_empty_1 : decode cX2_empty 1 = .ok (.istore_n 1, 1) := by decide +kernel
theorem dX2_empty_2 : decode cX2_empty 2 = .ok (.iload_n 1, 1) := by decide +kernel
theorem dX2_empty_3 : decode cX2_empty 3 = .ok (.bipush 60, 2) := by decide +kernel
theorem dX2_empty_5 : decode cX2_empty 5 = .ok (.if_icmp .ge 16, 3) := by decide +kernel
theorem dX2_empty_8 : decode cX2_empty 8 = .ok (.aload_n 0, 1) := by decide +kernel
theorem dX2_empty_9 : decode cX2_empty 9 = .ok (.getfield 9, 3) := by decide +kernel
theorem dX2_empty_12 : decode cX2_empty 12 = .ok (.iload_n 1, 1) := by decide +kernel
theorem dX2_empty_13 : decode cX2_empty 13 = .ok (.iconst 0, 1) := by decide +kernel
theorem dX2_empty_14 : decode cX2_empty 14 = .ok (.iastore, 1) := by decide +kernel
theorem dX2_empty_15 : decode cX2_empty 15 = .ok (.iinc 1 1, 3) := by decide +kernel
theorem dX2_empty_18 : decode cX2_empty 18 = .ok (.goto (-16), 3) := by decide +kernel
theorem dX2_empty_21 : decode cX2_empty 21 = .ok (.aload_n 0, 1) := by decide +kernel
theorem dX2_empty_22 : decode cX2_empty 22 = .ok (.iconst 0, 1) := by decide +kernel
theorem dX2_empty_23 : decode cX2_empty 23 = .ok (.putfield 32, 3) := by decide +kernel
theorem dX2_empty_26 : decode cX2_empty 26 = .ok (.aload_n 0, 1) := by decide +kernel
theorem dX2_empty_27 : decode cX2_empty 27 = .ok (.iconst 0, 1) := by decide +kernel
theorem dX2_empty_28 : decode cX2_empty 28 = .ok (.putfield 28, 3) := by decide +kernel
theorem dX2_empty_31 : decode cX2_empty 31 = .ok (.aload_n 0, 1) := by decide +kernel
theorem dX2_empty_32 : decode cX2_empty 32 = .ok (.iconst 0, 1) := by decide +kernel
theorem dX2_empty_33 : decode cX2_empty 33 = .ok (.putfield 35, 3) := by decide +kernel
theorem dX2_empty_36 : decode cX2_empty 36 = .ok (.return_, 1) := by decide +kernel
theorem dX2_addSyllable_0 : decode cX2_addSyllable 0 = .ok (.iconst 2, 1) := by decide +kernel
theorem dX2_addSyllable_1 : decode cX2_addSyllable 1 = .ok (.iload_n 1, 1) := by decide +kernel
theorem dX2_addSyllable_2 : decode cX2_addSyllable 2 = .ok (.imul, 1) := by decide +kernel
theorem dX2_addSyllable_3 : decode cX2_addSyllable 3 = .ok (.aload_n 0, 1) := by decide +kernel
theorem dX2_addSyllable_4 : decode cX2_addSyllable 4 = .ok (.getfield 9, 3) := by decide +kernel
theorem dX2_addSyllable_7 : decode cX2_addSyllable 7 = .ok (.iload_n 1, 1) := by decide +kernel
theorem dX2_addSyllable_8 : decode cX2_addSyllable 8 = .ok (.iaload, 1) := by decide +kernel
theorem dX2_addSyllable_9 : decode cX2_addSyllable 9 = .ok (.iadd, 1) := by decide +kernel
theorem dX2_addSyllable_10 : decode cX2_addSyllable 10 = .ok (.istore 5, 2) := by decide +kernel
theorem dX2_addSyllable_12 : decode cX2_addSyllable 12 = .ok (.aload_n 0, 1) := by decide +kernel
theorem dX2_addSyllable_13 : decode cX2_addSyllable 13 = .ok (.getfield 15, 3) := by decide +kernel
theorem dX2_addSyllable_16 : decode cX2_addSyllable 16 = .ok (.iload 5, 2) := by decide +kernel
theorem dX2_addSyllable_18 : decode cX2_addSyllable 18 = .ok (.iload_n 2, 1) := by decide +kernel
theorem dX2_addSyllable_19 : decode cX2_addSyllable 19 = .ok (.iastore, 1) := by decide +kernel
theorem dX2_addSyllable_20 : decode cX2_addSyllable 20 = .ok (.aload_n 0, 1) := by decide +kernel
theorem dX2_addSyllable_21 : decode cX2_addSyllable 21 = .ok (.getfield 18, 3) := by decide +kernel
theorem dX2_addSyllable_24 : decode cX2_addSyllable 24 = .ok (.iload 5, 2) := by decide +kernel
theorem dX2_addSyllable_26 : decode cX2_addSyllable 26 = .ok (.iload_n 3, 1) := by decide +kernel
theorem dX2_addSyllable_27 : decode cX2_addSyllable 27 = .ok (.iastore, 1) := by decide +kernel
theorem dX2_addSyllable_28 : decode cX2_addSyllable 28 = .ok (.aload_n 0, 1) := by decide +kernel
theorem dX2_addSyllable_29 : decode cX2_addSyllable 29 = .ok (.getfield 21, 3) := by decide +kernel
theorem dX2_addSyllable_32 : decode cX2_addSyllable 32 = .ok (.iload 5, 2) := by decide +kernel
theorem dX2_addSyllable_34 : decode cX2_addSyllable 34 = .ok (.iload 4, 2) := by decide +kernel
theorem dX2_addSyllable_36 : decode cX2_addSyllable 36 = .ok (.bastore, 1) := by decide +kernel
theorem dX2_addSyllable_37 : decode cX2_addSyllable 37 = .ok (.aload_n 0, 1) := by decide +kernel
theorem dX2_addSyllable_38 : decode cX2_addSyllable 38 = .ok (.getfield 9, 3) := by decide +kernel
theorem dX2_addSyllable_41 : decode cX2_addSyllable 41 = .ok (.iload_n 1, 1) := by decide +kernel
theorem dX2_addSyllable_42 : decode cX2_addSyllable 42 = .ok (.dup2, 1) := by decide +kernel
theorem dX2_addSyllable_43 : decode cX2_addSyllable 43 = .ok (.iaload, 1) := by decide +kernel
theorem dX2_addSyllable_44 : decode cX2_addSyllable 44 = .ok (.iconst 1, 1) := by decide +kernel
theorem dX2_addSyllable_45 : decode cX2_addSyllable 45 = .ok (.iadd, 1) := by decide +kernel
theorem dX2_addSyllable_46 : decode cX2_addSyllable 46 = .ok (.iastore, 1) := by decide +kernel
theorem dX2_addSyllable_47 : decode cX2_addSyllable 47 = .ok (.aload_n 0, 1) := by decide +kernel
theorem dX2_addSyllable_48 : decode cX2_addSyllable 48 = .ok (.dup, 1) := by decide +kernel
theorem dX2_addSyllable_49 : decode cX2_addSyllable 49 = .ok (.getfield 32, 3) := by decide +kernel
theorem dX2_addSyllable_52 : decode cX2_addSyllable 52 = .ok (.iconst 1, 1) := by decide +kernel
theorem dX2_addSyllable_53 : decode cX2_addSyllable 53 = .ok (.iadd, 1) := by decide +kernel
theorem dX2_addSyllable_54 : decode cX2_addSyllable 54 = .ok (.putfield 32, 3) := by decide +kernel
theorem dX2_addSyllable_57 : decode cX2_addSyllable 57 = .ok (.aload_n 0, 1) := by decide +kernel
theorem dX2_addSyllable_58 : decode cX2_addSyllable 58 = .ok (.getfield 9, 3) := by decide +kernel
theorem dX2_addSyllable_61 : decode cX2_addSyllable 61 = .ok (.iload_n 1, 1) := by decide +kernel
theorem dX2_addSyllable_62 : decode cX2_addSyllable 62 = .ok (.iaload, 1) := by decide +kernel
theorem dX2_addSyllable_63 : decode cX2_addSyllable 63 = .ok (.ireturn, 1) := by decide +kernel
theorem dX2_removeSyllables_0 : decode cX2_removeSyllables 0 = .ok (.aload_n 0, 1) := by decide +kernel
theorem dX2_removeSyllables_1 : decode cX2_removeSyllables 1 = .ok (.getfield 9, 3) := by decide +kernel
theorem dX2_removeSyllables_4 : decode cX2_removeSyllables 4 = .ok (.iload_n 1, 1) := by decide +kernel
theorem dX2_removeSyllables_5 : decode cX2_removeSyllables 5 = .ok (.iaload, 1) := by decide +kernel
theorem dX2_removeSyllables_6 : decode cX2_removeSyllables 6 = .ok (.istore_n 2, 1) := by decide +kernel
theorem dX2_removeSyllables_7 : decode cX2_removeSyllables 7 = .ok (.aload_n 0, 1) := by decide +kernel
theorem dX2_removeSyllables_8 : decode cX2_removeSyllables 8 = .ok (.getfield 9, 3) := by decide +kernel
theorem dX2_removeSyllables_11 : decode cX2_removeSyllables 11 = .ok (.iload_n 1, 1) := by decide +kernel
theorem dX2_removeSyllables_12 : decode cX2_removeSyllables 12 = .ok (.iconst 0, 1) := by decide +kernel
theorem dX2_removeSyllables_13 : decode cX2_removeSyllables 13 = .ok (.iastore, 1) := by decide +kernel
theorem dX2_removeSyllables_14 : decode cX2_removeSyllables 14 = .ok (.aload_n 0, 1) := by decide +kernel
theorem dX2_removeSyllables_15 : decode cX2_removeSyllables 15 = .ok (.dup, 1) := by decide +kernel
theorem dX2_removeSyllables_16 : decode cX2_removeSyllables 16 = .ok (.getfield 32, 3) := by decide +kernel
theorem dX2_removeSyllables_19 : decode cX2_removeSyllables 19 = .ok (.iload_n 2, 1) := by decide +kernel
theorem dX2_removeSyllables_20 : decode cX2_removeSyllables 20 = .ok (.isub, 1) := by decide +kernel
theorem dX2_removeSyllables_21 : decode cX2_removeSyllables 21 = .ok (.putfield 32, 3) := by decide +kernel
theorem dX2_removeSyllables_24 : decode cX2_removeSyllables 24 = .ok (.iload_n 2, 1) := by decide +kernel
theorem dX2_removeSyllables_25 : decode cX2_removeSyllables 25 = .ok (.ireturn, 1) := by decide +kernel
theorem dX2_hasBoxes_0 : decode cX2_hasBoxes 0 = .ok (.aload_n 0, 1) := by decide +kernel
theorem dX2_hasBoxes_1 : decode cX2_hasBoxes 1 = .ok (.getfield 32, 3) := by decide +kernel
theorem dX2_hasBoxes_4 : decode cX2_hasBoxes 4 = .ok (.ifCond .le 7, 3) := by decide +kernel
theorem dX2_hasBoxes_7 : decode cX2_hasBoxes 7 = .ok (.iconst 1, 1) := by decide +kernel
theorem dX2_hasBoxes_8 : decode cX2_hasBoxes 8 = .ok (.goto 4, 3) := by decide +kernel
theorem dX2_hasBoxes_11 : decode cX2_hasBoxes 11 = .ok (.iconst 0, 1) := by decide +kernel
theorem dX2_hasBoxes_12 : decode cX2_hasBoxes 12 = .ok (.ireturn, 1) := by decide +kernel
theorem dX2_hasBox_0 : decode cX2_hasBox 0 = .ok (.aload_n 0, 1) := by decide +kernel
theorem dX2_hasBox_1 : decode cX2_hasBox 1 = .ok (.getfield 9, 3) := by decide +kernel
theorem dX2_hasBox_4 : decode cX2_hasBox 4 = .ok (.iload_n 1, 1) := by decide +kernel
theorem dX2_hasBox_5 : decode cX2_hasBox 5 = .ok (.iaload, 1) := by decide +kernel
theorem dX2_hasBox_6 : decode cX2_hasBox 6 = .ok (.ifCond .le 7, 3) := by decide +kernel
theorem dX2_hasBox_9 : decode cX2_hasBox 9 = .ok (.iconst 1, 1) := by decide +kernel
theorem dX2_hasBox_10 : decode cX2_hasBox 10 = .ok (.goto 4, 3) := by decide +kernel
theorem dX2_hasBox_13 : decode cX2_hasBox 13 = .ok (.iconst 0, 1) := by decide +kernel
theorem dX2_hasBox_14 : decode cX2_hasBox 14 = .ok (.ireturn, 1) := by decide +kernel
theorem dX2_isTied_0 : decode cX2_isTied 0 = .ok (.aload_n 0, 1) := by decide +kernel
theorem dX2_isTied_1 : decode cX2_isTied 1 = .ok (.getfield 9, 3) := by decide +kernel
theorem dX2_isTied_4 : decode cX2_isTied 4 = .ok (.iload_n 1, 1) := by decide +kernel
theorem dX2_isTied_5 : decode cX2_isTied 5 = .ok (.iaload, 1) := by decide +kernel
theorem dX2_isTied_6 : decode cX2_isTied 6 = .ok (.iconst 2, 1) := by decide +kernel
theorem dX2_isTied_7 : decode cX2_isTied 7 = .ok (.if_icmp .ne 7, 3) := by decide +kernel
theorem dX2_isTied_10 : decode cX2_isTied 10 = .ok (.iconst 1, 1) := by decide +kernel
theorem dX2_isTied_11 : decode cX2_isTied 11 = .ok (.goto 4, 3) := by decide +kernel
theorem dX2_isTied_14 : decode cX2_isTied 14 = .ok (.iconst 0, 1) := by decide +kernel
theorem dX2_isTied_15 : decode cX2_isTied 15 = .ok (.ireturn, 1) := by decide +kernel
theorem dX2_isGoingOn_0 : decode cX2_isGoingOn 0 = .ok (.iconst 2, 1) := by decide +kernel
theorem dX2_isGoingOn_1 : decode cX2_isGoingOn 1 = .ok (.iload_n 1, 1) := by decide +kernel
theorem dX2_isGoingOn_2 : decode cX2_isGoingOn 2 = .ok (.imul, 1) := by decide +kernel
theorem dX2_isGoingOn_3 : decode cX2_isGoingOn 3 = .ok (.istore_n 2, 1) := by decide +kernel
theorem dX2_isGoingOn_4 : decode cX2_isGoingOn 4 = .ok (.aload_n 0, 1) := by decide +kernel
theorem dX2_isGoingOn_5 : decode cX2_isGoingOn 5 = .ok (.iload_n 1, 1) := by decide +kernel
theorem dX2_isGoingOn_6 : decode cX2_isGoingOn 6 = .ok (.invokevirtual 39, 3) := by decide +kernel
theorem dX2_isGoingOn_9 : decode cX2_isGoingOn 9 = .ok (.ifCond .eq 14, 3) := by decide +kernel
theorem dX2_isGoingOn_12 : decode cX2_isGoingOn 12 = .ok (.aload_n 0, 1) := by decide +kernel
theorem dX2_isGoingOn_13 : decode cX2_isGoingOn 13 = .ok (.getfield 21, 3) := by decide +kernel
theorem dX2_isGoingOn_16 : decode cX2_isGoingOn 16 = .ok (.iload_n 2, 1) := by decide +kernel
theorem dX2_isGoingOn_17 : decode cX2_isGoingOn 17 = .ok (.iconst 1, 1) := by decide +kernel
theorem dX2_isGoingOn_18 : decode cX2_isGoingOn 18 = .ok (.iadd, 1) := by decide +kernel
theorem dX2_isGoingOn_19 : decode cX2_isGoingOn 19 = .ok (.baload, 1) := by decide +kernel
theorem dX2_isGoingOn_20 : decode cX2_isGoingOn 20 = .ok (.goto 9, 3) := by decide +kernel
theorem dX2_isGoingOn_23 : decode cX2_isGoingOn 23 = .ok (.aload_n 0, 1) := by decide +kernel
theorem dX2_isGoingOn_24 : decode cX2_isGoingOn 24 = .ok (.getfield 21, 3) := by decide +kernel
theorem dX2_isGoingOn_27 : decode cX2_isGoingOn 27 = .ok (.iload_n 2, 1) := by decide +kernel
theorem dX2_isGoingOn_28 : decode cX2_isGoingOn 28 = .ok (.baload, 1) := by decide +kernel
theorem dX2_isGoingOn_29 : decode cX2_isGoingOn 29 = .ok (.ireturn, 1) := by decide +kernel
theorem dX2_boxWidth_0 : decode cX2_boxWidth 0 = .ok (.iconst 2, 1) := by decide +kernel
theorem dX2_boxWidth_1 : decode cX2_boxWidth 1 = .ok (.iload_n 1, 1) := by decide +kernel
theorem dX2_boxWidth_2 : decode cX2_boxWidth 2 = .ok (.imul, 1) := by decide +kernel
theorem dX2_boxWidth_3 : decode cX2_boxWidth 3 = .ok (.istore_n 2, 1) := by decide +kernel
theorem dX2_boxWidth_4 : decode cX2_boxWidth 4 = .ok (.aload_n 0, 1) := by decide +kernel
theorem dX2_boxWidth_5 : decode cX2_boxWidth 5 = .ok (.iload_n 1, 1) := by decide +kernel
theorem dX2_boxWidth_6 : decode cX2_boxWidth 6 = .ok (.invokevirtual 39, 3) := by decide +kernel
theorem dX2_boxWidth_9 : decode cX2_boxWidth 9 = .ok (.ifCond .eq 23, 3) := by decide +kernel
theorem dX2_boxWidth_12 : decode cX2_boxWidth 12 = .ok (.aload_n 0, 1) := by decide +kernel
theorem dX2_boxWidth_13 : decode cX2_boxWidth 13 = .ok (.getfield 15, 3) := by decide +kernel
theorem dX2_boxWidth_16 : decode cX2_boxWidth 16 = .ok (.iload_n 2, 1) := by decide +kernel
theorem dX2_boxWidth_17 : decode cX2_boxWidth 17 = .ok (.iaload, 1) := by decide +kernel
theorem dX2_boxWidth_18 : decode cX2_boxWidth 18 = .ok (.iconst 5, 1) := by decide +kernel
theorem dX2_boxWidth_19 : decode cX2_boxWidth 19 = .ok (.iadd, 1) := by decide +kernel
theorem dX2_boxWidth_20 : decode cX2_boxWidth 20 = .ok (.aload_n 0, 1) := by decide +kernel
theorem dX2_boxWidth_21 : decode cX2_boxWidth 21 = .ok (.getfield 15, 3) := by decide +kernel
theorem dX2_boxWidth_24 : decode cX2_boxWidth 24 = .ok (.iload_n 2, 1) := by decide +kernel
theorem dX2_boxWidth_25 : decode cX2_boxWidth 25 = .ok (.iconst 1, 1) := by decide +kernel
theorem dX2_boxWidth_26 : decode cX2_boxWidth 26 = .ok (.iadd, 1) := by decide +kernel
theorem dX2_boxWidth_27 : decode cX2_boxWidth 27 = .ok (.iaload, 1) := by decide +kernel
theorem dX2_boxWidth_28 : decode cX2_boxWidth 28 = .ok (.iadd, 1) := by decide +kernel
theorem dX2_boxWidth_29 : decode cX2_boxWidth 29 = .ok (.goto 9, 3) := by decide +kernel
theorem dX2_boxWidth_32 : decode cX2_boxWidth 32 = .ok (.aload_n 0, 1) := by decide +kernel
theorem dX2_boxWidth_33 : decode cX2_boxWidth 33 = .ok (.getfield 15, 3) := by decide +kernel
theorem dX2_boxWidth_36 : decode cX2_boxWidth 36 = .ok (.iload_n 2, 1) := by decide +kernel
theorem dX2_boxWidth_37 : decode cX2_boxWidth 37 = .ok (.iaload, 1) := by decide +kernel
theorem dX2_boxWidth_38 : decode cX2_boxWidth 38 = .ok (.ireturn, 1) := by decide +kernel
theorem dX2_boxEnd_0 : decode cX2_boxEnd 0 = .ok (.aload_n 0, 1) := by decide +kernel
theorem dX2_boxEnd_1 : decode cX2_boxEnd 1 = .ok (.getfield 25, 3) := by decide +kernel
theorem dX2_boxEnd_4 : decode cX2_boxEnd 4 = .ok (.iload_n 1, 1) := by decide +kernel
theorem dX2_boxEnd_5 : decode cX2_boxEnd 5 = .ok (.iaload, 1) := by decide +kernel
theorem dX2_boxEnd_6 : decode cX2_boxEnd 6 = .ok (.aload_n 0, 1) := by decide +kernel
theorem dX2_boxEnd_7 : decode cX2_boxEnd 7 = .ok (.iload_n 1, 1) := by decide +kernel
theorem dX2_boxEnd_8 : decode cX2_boxEnd 8 = .ok (.invokevirtual 43, 3) := by decide +kernel
theorem dX2_boxEnd_11 : decode cX2_boxEnd 11 = .ok (.iadd, 1) := by decide +kernel
theorem dX2_boxEnd_12 : decode cX2_boxEnd 12 = .ok (.ireturn, 1) := by decide +kernel
theorem dX2_offset_0 : decode cX2_offset 0 = .ok (.aload_n 0, 1) := by decide +kernel
theorem dX2_offset_1 : decode cX2_offset 1 = .ok (.getfield 28, 3) := by decide +kernel
theorem dX2_offset_4 : decode cX2_offset 4 = .ok (.lookupswitch 38 #[(0, 28), (1, 36)], 28) := by decide +kernel
theorem dX2_offset_32 : decode cX2_offset 32 = .ok (.aload_n 0, 1) := by decide +kernel
theorem dX2_offset_33 : decode cX2_offset 33 = .ok (.iload_n 1, 1) := by decide +kernel
theorem dX2_offset_34 : decode cX2_offset 34 = .ok (.invokevirtual 43, 3) := by decide +kernel
theorem dX2_offset_37 : decode cX2_offset 37 = .ok (.iconst 2, 1) := by decide +kernel
theorem dX2_offset_38 : decode cX2_offset 38 = .ok (.idiv, 1) := by decide +kernel
theorem dX2_offset_39 : decode cX2_offset 39 = .ok (.ireturn, 1) := by decide +kernel
theorem dX2_offset_40 : decode cX2_offset 40 = .ok (.iconst 0, 1) := by decide +kernel
theorem dX2_offset_41 : decode cX2_offset 41 = .ok (.ireturn, 1) := by decide +kernel
theorem dX2_offset_42 : decode cX2_offset 42 = .ok (.aload_n 0, 1) := by decide +kernel
theorem dX2_offset_43 : decode cX2_offset 43 = .ok (.getfield 18, 3) := by decide +kernel
theorem dX2_offset_46 : decode cX2_offset 46 = .ok (.iconst 2, 1) := by decide +kernel
theorem dX2_offset_47 : decode cX2_offset 47 = .ok (.iload_n 1, 1) := by decide +kernel
theorem dX2_offset_48 : decode cX2_offset 48 = .ok (.imul, 1) := by decide +kernel
theorem dX2_offset_49 : decode cX2_offset 49 = .ok (.iaload, 1) := by decide +kernel
theorem dX2_offset_50 : decode cX2_offset 50 = .ok (.ireturn, 1) := by decide +kernel
theorem dX2_placeBox_0 : decode cX2_placeBox 0 = .ok (.aload_n 0, 1) := by decide +kernel
theorem dX2_placeBox_1 : decode cX2_placeBox 1 = .ok (.getfield 25, 3) := by decide +kernel
theorem dX2_placeBox_4 : decode cX2_placeBox 4 = .ok (.iload_n 1, 1) := by decide +kernel
theorem dX2_placeBox_5 : decode cX2_placeBox 5 = .ok (.aload_n 0, 1) := by decide +kernel
theorem dX2_placeBox_6 : decode cX2_placeBox 6 = .ok (.getfield 47, 3) := by decide +kernel
theorem dX2_placeBox_9 : decode cX2_placeBox 9 = .ok (.iload_n 2, 1) := by decide +kernel
theorem dX2_placeBox_10 : decode cX2_placeBox 10 = .ok (.aload_n 0, 1) := by decide +kernel
theorem dX2_placeBox_11 : decode cX2_placeBox 11 = .ok (.iload_n 1, 1) := by decide +kernel
theorem dX2_placeBox_12 : decode cX2_placeBox 12 = .ok (.invokevirtual 50, 3) := by decide +kernel
theorem dX2_placeBox_15 : decode cX2_placeBox 15 = .ok (.isub, 1) := by decide +kernel
theorem dX2_placeBox_16 : decode cX2_placeBox 16 = .ok (.invokestatic 53, 3) := by decide +kernel
theorem dX2_placeBox_19 : decode cX2_placeBox 19 = .ok (.iastore, 1) := by decide +kernel
theorem dX2_placeBox_20 : decode cX2_placeBox 20 = .ok (.aload_n 0, 1) := by decide +kernel
theorem dX2_placeBox_21 : decode cX2_placeBox 21 = .ok (.iload_n 1, 1) := by decide +kernel
theorem dX2_placeBox_22 : decode cX2_placeBox 22 = .ok (.invokevirtual 59, 3) := by decide +kernel
theorem dX2_placeBox_25 : decode cX2_placeBox 25 = .ok (.istore_n 3, 1) := by decide +kernel
theorem dX2_placeBox_26 : decode cX2_placeBox 26 = .ok (.aload_n 0, 1) := by decide +kernel
theorem dX2_placeBox_27 : decode cX2_placeBox 27 = .ok (.iload_n 3, 1) := by decide +kernel
theorem dX2_placeBox_28 : decode cX2_placeBox 28 = .ok (.aload_n 0, 1) := by decide +kernel
theorem dX2_placeBox_29 : decode cX2_placeBox 29 = .ok (.iload_n 1, 1) := by decide +kernel
theorem dX2_placeBox_30 : decode cX2_placeBox 30 = .ok (.invokevirtual 62, 3) := by decide +kernel
theorem dX2_placeBox_33 : decode cX2_placeBox 33 = .ok (.ifCond .eq 7, 3) := by decide +kernel
theorem dX2_placeBox_36 : decode cX2_placeBox 36 = .ok (.iconst 4, 1) := by decide +kernel
theorem dX2_placeBox_37 : decode cX2_placeBox 37 = .ok (.goto 5, 3) := by decide +kernel
theorem dX2_placeBox_40 : decode cX2_placeBox 40 = .ok (.bipush 12, 2) := by decide +kernel
theorem dX2_placeBox_42 : decode cX2_placeBox 42 = .ok (.iadd, 1) := by decide +kernel
theorem dX2_placeBox_43 : decode cX2_placeBox 43 = .ok (.putfield 47, 3) := by decide +kernel
theorem dX2_placeBox_46 : decode cX2_placeBox 46 = .ok (.iload_n 3, 1) := by decide +kernel
theorem dX2_placeBox_47 : decode cX2_placeBox 47 = .ok (.ireturn, 1) := by decide +kernel
theorem dX2_nextBox_0 : decode cX2_nextBox 0 = .ok (.iload_n 1, 1) := by decide +kernel
theorem dX2_nextBox_1 : decode cX2_nextBox 1 = .ok (.iconst 1, 1) := by decide +kernel
theorem dX2_nextBox_2 : decode cX2_nextBox 2 = .ok (.iadd, 1) := by decide +kernel
theorem dX2_nextBox_3 : decode cX2_nextBox 3 = .ok (.istore_n 2, 1) := by decide +kernel
theorem dX2_nextBox_4 : decode cX2_nextBox 4 = .ok (.iload_n 2, 1) := by decide +kernel
theorem dX2_nextBox_5 : decode cX2_nextBox 5 = .ok (.bipush 60, 2) := by decide +kernel
theorem dX2_nextBox_7 : decode cX2_nextBox 7 = .ok (.if_icmp .ge 19, 3) := by decide +kernel
theorem dX2_nextBox_10 : decode cX2_nextBox 10 = .ok (.aload_n 0, 1) := by decide +kernel
theorem dX2_nextBox_11 : decode cX2_nextBox 11 = .ok (.iload_n 2, 1) := by decide +kernel
theorem dX2_nextBox_12 : decode cX2_nextBox 12 = .ok (.invokevirtual 65, 3) := by decide +kernel
theorem dX2_nextBox_15 : decode cX2_nextBox 15 = .ok (.ifCond .eq 5, 3) := by decide +kernel
theorem dX2_nextBox_18 : decode cX2_nextBox 18 = .ok (.iload_n 2, 1) := by decide +kernel
theorem dX2_nextBox_19 : decode cX2_nextBox 19 = .ok (.ireturn, 1) := by decide +kernel
theorem dX2_nextBox_20 : decode cX2_nextBox 20 = .ok (.iinc 2 1, 3) := by decide +kernel
theorem dX2_nextBox_23 : decode cX2_nextBox 23 = .ok (.goto (-19), 3) := by decide +kernel
theorem dX2_nextBox_26 : decode cX2_nextBox 26 = .ok (.iconst (-1), 1) := by decide +kernel
theorem dX2_nextBox_27 : decode cX2_nextBox 27 = .ok (.ireturn, 1) := by decide +kernel
theorem dX2_lastBox_0 : decode cX2_lastBox 0 = .ok (.bipush 59, 2) := by decide +kernel
theorem dX2_lastBox_2 : decode cX2_lastBox 2 = .ok (.istore_n 1, 1) := by decide +kernel
theorem dX2_lastBox_3 : decode cX2_lastBox 3 = .ok (.iload_n 1, 1) := by decide +kernel
theorem dX2_lastBox_4 : decode cX2_lastBox 4 = .ok (.ifCond .lt 19, 3) := by decide +kernel
theorem dX2_lastBox_7 : decode cX2_lastBox 7 = .ok (.aload_n 0, 1) := by decide +kernel
theorem dX2_lastBox_8 : decode cX2_lastBox 8 = .ok (.iload_n 1, 1) := by decide +kernel
theorem dX2_lastBox_9 : decode cX2_lastBox 9 = .ok (.invokevirtual 65, 3) := by decide +kernel
theorem dX2_lastBox_12 : decode cX2_lastBox 12 = .ok (.ifCond .eq 5, 3) := by decide +kernel
theorem dX2_lastBox_15 : decode cX2_lastBox 15 = .ok (.iload_n 1, 1) := by decide +kernel
theorem dX2_lastBox_16 : decode cX2_lastBox 16 = .ok (.ireturn, 1) := by decide +kernel
theorem dX2_lastBox_17 : decode cX2_lastBox 17 = .ok (.iinc 1 (-1), 3) := by decide +kernel
theorem dX2_lastBox_20 : decode cX2_lastBox 20 = .ok (.goto (-17), 3) := by decide +kernel
theorem dX2_lastBox_23 : decode cX2_lastBox 23 = .ok (.iconst (-1), 1) := by decide +kernel
theorem dX2_lastBox_24 : decode cX2_lastBox 24 = .ok (.ireturn, 1) := by decide +kernel
theorem dX2_hyphenRoom_0 : decode cX2_hyphenRoom 0 = .ok (.aload_n 0, 1) := by decide +kernel
theorem dX2_hyphenRoom_1 : decode cX2_hyphenRoom 1 = .ok (.iload_n 1, 1) := by decide +kernel
theorem dX2_hyphenRoom_2 : decode cX2_hyphenRoom 2 = .ok (.invokevirtual 68, 3) := by decide +kernel
theorem dX2_hyphenRoom_5 : decode cX2_hyphenRoom 5 = .ok (.istore_n 2, 1) := by decide +kernel
theorem dX2_hyphenRoom_6 : decode cX2_hyphenRoom 6 = .ok (.iload_n 2, 1) := by decide +kernel
theorem dX2_hyphenRoom_7 : decode cX2_hyphenRoom 7 = .ok (.iconst (-1), 1) := by decide +kernel
theorem dX2_hyphenRoom_8 : decode cX2_hyphenRoom 8 = .ok (.if_icmp .eq 11, 3) := by decide +kernel
theorem dX2_hyphenRoom_11 : decode cX2_hyphenRoom 11 = .ok (.aload_n 0, 1) := by decide +kernel
theorem dX2_hyphenRoom_12 : decode cX2_hyphenRoom 12 = .ok (.iload_n 1, 1) := by decide +kernel
theorem dX2_hyphenRoom_13 : decode cX2_hyphenRoom 13 = .ok (.invokevirtual 62, 3) := by decide +kernel
theorem dX2_hyphenRoom_16 : decode cX2_hyphenRoom 16 = .ok (.ifCond .ne 5, 3) := by decide +kernel
theorem dX2_hyphenRoom_19 : decode cX2_hyphenRoom 19 = .ok (.iconst 0, 1) := by decide +kernel
theorem dX2_hyphenRoom_20 : decode cX2_hyphenRoom 20 = .ok (.ireturn, 1) := by decide +kernel
theorem dX2_hyphenRoom_21 : decode cX2_hyphenRoom 21 = .ok (.aload_n 0, 1) := by decide +kernel
theorem dX2_hyphenRoom_22 : decode cX2_hyphenRoom 22 = .ok (.getfield 25, 3) := by decide +kernel
theorem dX2_hyphenRoom_25 : decode cX2_hyphenRoom 25 = .ok (.iload_n 2, 1) := by decide +kernel
theorem dX2_hyphenRoom_26 : decode cX2_hyphenRoom 26 = .ok (.iaload, 1) := by decide +kernel
theorem dX2_hyphenRoom_27 : decode cX2_hyphenRoom 27 = .ok (.aload_n 0, 1) := by decide +kernel
theorem dX2_hyphenRoom_28 : decode cX2_hyphenRoom 28 = .ok (.iload_n 1, 1) := by decide +kernel
theorem dX2_hyphenRoom_29 : decode cX2_hyphenRoom 29 = .ok (.invokevirtual 59, 3) := by decide +kernel
theorem dX2_hyphenRoom_32 : decode cX2_hyphenRoom 32 = .ok (.isub, 1) := by decide +kernel
theorem dX2_hyphenRoom_33 : decode cX2_hyphenRoom 33 = .ok (.ireturn, 1) := by decide +kernel
theorem dX2_hasSameSyllables_0 : decode cX2_hasSameSyllables 0 = .ok (.aload_n 0, 1) := by decide +kernel
theorem dX2_hasSameSyllables_1 : decode cX2_hasSameSyllables 1 = .ok (.getfield 9, 3) := by decide +kernel
theorem dX2_hasSameSyllables_4 : decode cX2_hasSameSyllables 4 = .ok (.iload_n 2, 1) := by decide +kernel
theorem dX2_hasSameSyllables_5 : decode cX2_hasSameSyllables 5 = .ok (.iaload, 1) := by decide +kernel
theorem dX2_hasSameSyllables_6 : decode cX2_hasSameSyllables 6 = .ok (.aload_n 1, 1) := by decide +kernel
theorem dX2_hasSameSyllables_7 : decode cX2_hasSameSyllables 7 = .ok (.getfield 9, 3) := by decide +kernel
theorem dX2_hasSameSyllables_10 : decode cX2_hasSameSyllables 10 = .ok (.iload_n 2, 1) := by decide +kernel
theorem dX2_hasSameSyllables_11 : decode cX2_hasSameSyllables 11 = .ok (.iaload, 1) := by decide +kernel
theorem dX2_hasSameSyllables_12 : decode cX2_hasSameSyllables 12 = .ok (.if_icmp .eq 5, 3) := by decide +kernel
theorem dX2_hasSameSyllables_15 : decode cX2_hasSameSyllables 15 = .ok (.iconst 0, 1) := by decide +kernel
theorem dX2_hasSameSyllables_16 : decode cX2_hasSameSyllables 16 = .ok (.ireturn, 1) := by decide +kernel
theorem dX2_hasSameSyllables_17 : decode cX2_hasSameSyllables 17 = .ok (.iconst 2, 1) := by decide +kernel
theorem dX2_hasSameSyllables_18 : decode cX2_hasSameSyllables 18 = .ok (.iload_n 2, 1) := by decide +kernel
theorem dX2_hasSameSyllables_19 : decode cX2_hasSameSyllables 19 = .ok (.imul, 1) := by decide +kernel
theorem dX2_hasSameSyllables_20 : decode cX2_hasSameSyllables 20 = .ok (.istore_n 3, 1) := by decide +kernel
theorem dX2_hasSameSyllables_21 : decode cX2_hasSameSyllables 21 = .ok (.iload_n 3, 1) := by decide +kernel
theorem dX2_hasSameSyllables_22 : decode cX2_hasSameSyllables 22 = .ok (.istore 4, 2) := by decide +kernel
theorem dX2_hasSameSyllables_24 : decode cX2_hasSameSyllables 24 = .ok (.iload 4, 2) := by decide +kernel
theorem dX2_hasSameSyllables_26 : decode cX2_hasSameSyllables 26 = .ok (.iload_n 3, 1) := by decide +kernel
theorem dX2_hasSameSyllables_27 : decode cX2_hasSameSyllables 27 = .ok (.aload_n 0, 1) := by decide +kernel
theorem dX2_hasSameSyllables_28 : decode cX2_hasSameSyllables 28 = .ok (.getfield 9, 3) := by decide +kernel
theorem dX2_hasSameSyllables_31 : decode cX2_hasSameSyllables 31 = .ok (.iload_n 2, 1) := by decide +kernel
theorem dX2_hasSameSyllables_32 : decode cX2_hasSameSyllables 32 = .ok (.iaload, 1) := by decide +kernel
theorem dX2_hasSameSyllables_33 : decode cX2_hasSameSyllables 33 = .ok (.iadd, 1) := by decide +kernel
theorem dX2_hasSameSyllables_34 : decode cX2_hasSameSyllables 34 = .ok (.if_icmp .ge 62, 3) := by decide +kernel
theorem dX2_hasSameSyllables_37 : decode cX2_hasSameSyllables 37 = .ok (.aload_n 0, 1) := by decide +kernel
theorem dX2_hasSameSyllables_38 : decode cX2_hasSameSyllables 38 = .ok (.getfield 15, 3) := by decide +kernel
theorem dX2_hasSameSyllables_41 : decode cX2_hasSameSyllables 41 = .ok (.iload 4, 2) := by decide +kernel
theorem dX2_hasSameSyllables_43 : decode cX2_hasSameSyllables 43 = .ok (.iaload, 1) := by decide +kernel
theorem dX2_hasSameSyllables_44 : decode cX2_hasSameSyllables 44 = .ok (.aload_n 1, 1) := by decide +kernel
theorem dX2_hasSameSyllables_45 : decode cX2_hasSameSyllables 45 = .ok (.getfield 15, 3) := by decide +kernel
theorem dX2_hasSameSyllables_48 : decode cX2_hasSameSyllables 48 = .ok (.iload 4, 2) := by decide +kernel
theorem dX2_hasSameSyllables_50 : decode cX2_hasSameSyllables 50 = .ok (.iaload, 1) := by decide +kernel
theorem dX2_hasSameSyllables_51 : decode cX2_hasSameSyllables 51 = .ok (.if_icmp .ne 37, 3) := by decide +kernel
theorem dX2_hasSameSyllables_54 : decode cX2_hasSameSyllables 54 = .ok (.aload_n 0, 1) := by decide +kernel
theorem dX2_hasSameSyllables_55 : decode cX2_hasSameSyllables 55 = .ok (.getfield 18, 3) := by decide +kernel
theorem dX2_hasSameSyllables_58 : decode cX2_hasSameSyllables 58 = .ok (.iload 4, 2) := by decide +kernel
theorem dX2_hasSameSyllables_60 : decode cX2_hasSameSyllables 60 = .ok (.iaload, 1) := by decide +kernel
theorem dX2_hasSameSyllables_61 : decode cX2_hasSameSyllables 61 = .ok (.aload_n 1, 1) := by decide +kernel
theorem dX2_hasSameSyllables_62 : decode cX2_hasSameSyllables 62 = .ok (.getfield 18, 3) := by decide +kernel
theorem dX2_hasSameSyllables_65 : decode cX2_hasSameSyllables 65 = .ok (.iload 4, 2) := by decide +kernel
theorem dX2_hasSameSyllables_67 : decode cX2_hasSameSyllables 67 = .ok (.iaload, 1) := by decide +kernel
theorem dX2_hasSameSyllables_68 : decode cX2_hasSameSyllables 68 = .ok (.if_icmp .ne 20, 3) := by decide +kernel
theorem dX2_hasSameSyllables_71 : decode cX2_hasSameSyllables 71 = .ok (.aload_n 0, 1) := by decide +kernel
theorem dX2_hasSameSyllables_72 : decode cX2_hasSameSyllables 72 = .ok (.getfield 21, 3) := by decide +kernel
theorem dX2_hasSameSyllables_75 : decode cX2_hasSameSyllables 75 = .ok (.iload 4, 2) := by decide +kernel
theorem dX2_hasSameSyllables_77 : decode cX2_hasSameSyllables 77 = .ok (.baload, 1) := by decide +kernel
theorem dX2_hasSameSyllables_78 : decode cX2_hasSameSyllables 78 = .ok (.aload_n 1, 1) := by decide +kernel
theorem dX2_hasSameSyllables_79 : decode cX2_hasSameSyllables 79 = .ok (.getfield 21, 3) := by decide +kernel
theorem dX2_hasSameSyllables_82 : decode cX2_hasSameSyllables 82 = .ok (.iload 4, 2) := by decide +kernel
theorem dX2_hasSameSyllables_84 : decode cX2_hasSameSyllables 84 = .ok (.baload, 1) := by decide +kernel
theorem dX2_hasSameSyllables_85 : decode cX2_hasSameSyllables 85 = .ok (.if_icmp .eq 5, 3) := by decide +kernel
theorem dX2_hasSameSyllables_88 : decode cX2_hasSameSyllables 88 = .ok (.iconst 0, 1) := by decide +kernel
theorem dX2_hasSameSyllables_89 : decode cX2_hasSameSyllables 89 = .ok (.ireturn, 1) := by decide +kernel
theorem dX2_hasSameSyllables_90 : decode cX2_hasSameSyllables 90 = .ok (.iinc 4 1, 3) := by decide +kernel
theorem dX2_hasSameSyllables_93 : decode cX2_hasSameSyllables 93 = .ok (.goto (-69), 3) := by decide +kernel
theorem dX2_hasSameSyllables_96 : decode cX2_hasSameSyllables 96 = .ok (.iconst 1, 1) := by decide +kernel
theorem dX2_hasSameSyllables_97 : decode cX2_hasSameSyllables 97 = .ok (.ireturn, 1) := by decide +kernel
end
section
theorem dX3_init_0 : decode cX3_init 0 = .ok (.aload_n 0, 1) := by decide +kernel
theorem dX3_init_1 : decode cX3_init 1 = .ok (.invokespecial 1, 3) := by decide +kernel
theorem dX3_init_4 : decode cX3_init 4 = .ok (.aload_n 0, 1) := by decide +kernel
theorem dX3_init_5 : decode cX3_init 5 = .ok (.bipush 60, 2) := by decide +kernel
theorem dX3_init_7 : decode cX3_init 7 = .ok (.anewarray 9, 3) := by decide +kernel
theorem dX3_init_10 : decode cX3_init 10 = .ok (.putfield 11, 3) := by decide +kernel
theorem dX3_init_13 : decode cX3_init 13 = .ok (.aload_n 0, 1) := by decide +kernel
theorem dX3_init_14 : decode cX3_init 14 = .ok (.iconst 4, 1) := by decide +kernel
theorem dX3_init_15 : decode cX3_init 15 = .ok (.anewarray 15, 3) := by decide +kernel
theorem dX3_init_18 : decode cX3_init 18 = .ok (.putfield 17, 3) := by decide +kernel
theorem dX3_init_21 : decode cX3_init 21 = .ok (.aload_n 0, 1) := by decide +kernel
theorem dX3_init_22 : decode cX3_init 22 = .ok (.new 21, 3) := by decide +kernel
theorem dX3_init_25 : decode cX3_init 25 = .ok (.dup, 1) := by decide +kernel
theorem dX3_init_26 : decode cX3_init 26 = .ok (.invokespecial 23, 3) := by decide +kernel
theorem dX3_init_29 : decode cX3_init 29 = .ok (.putfield 24, 3) := by decide +kernel
theorem dX3_init_32 : decode cX3_init 32 = .ok (.aload_n 0, 1) := by decide +kernel
theorem dX3_init_33 : decode cX3_init 33 = .ok (.sipush 240, 3) := by decide +kernel
theorem dX3_init_36 : decode cX3_init 36 = .ok (.newarray .int, 2) := by decide +kernel
theorem dX3_init_38 : decode cX3_init 38 = .ok (.putfield 28, 3) := by decide +kernel
theorem dX3_init_41 : decode cX3_init 41 = .ok (.aload_n 0, 1) := by decide +kernel
theorem dX3_init_42 : decode cX3_init 42 = .ok (.sipush 2000, 3) := by decide +kernel
theorem dX3_init_45 : decode cX3_init 45 = .ok (.putfield 32, 3) := by decide +kernel
theorem dX3_init_48 : decode cX3_init 48 = .ok (.iconst 0, 1) := by decide +kernel
theorem dX3_init_49 : decode cX3_init 49 = .ok (.istore_n 1, 1) := by decide +kernel
theorem dX3_init_50 : decode cX3_init 50 = .ok (.iload_n 1, 1) := by decide +kernel
theorem dX3_init_51 : decode cX3_init 51 = .ok (.bipush 60, 2) := by decide +kernel
theorem dX3_init_53 : decode cX3_init 53 = .ok (.if_icmp .ge 22, 3) := by decide +kernel
theorem dX3_init_56 : decode cX3_init 56 = .ok (.aload_n 0, 1) := by decide +kernel
theorem dX3_init_57 : decode cX3_init 57 = .ok (.getfield 11, 3) := by decide +kernel
theorem dX3_init_60 : decode cX3_init 60 = .ok (.iload_n 1, 1) := by decide +kernel
theorem dX3_init_61 : decode cX3_init 61 = .ok (.new 9, 3) := by decide +kernel
theorem dX3_init_64 : decode cX3_init 64 = .ok (.dup, 1) := by decide +kernel
theorem dX3_init_65 : decode cX3_init 65 = .ok (.invokespecial 36, 3) := by decide +kernel
theorem dX3_init_68 : decode cX3_init 68 = .ok (.aastore, 1) := by decide +kernel
theorem dX3_init_69 : decode cX3_init 69 = .ok (.iinc 1 1, 3) := by decide +kernel
theorem dX3_init_72 : decode cX3_init 72 = .ok (.goto (-22), 3) := by decide +kernel
theorem dX3_init_75 : decode cX3_init 75 = .ok (.iconst 0, 1) := by decide +kernel
theorem dX3_init_76 : decode cX3_init 76 = .ok (.istore_n 1, 1) := by decide +kernel
theorem dX3_init_77 : decode cX3_init 77 = .ok (.iload_n 1, 1) := by decide +kernel
theorem dX3_init_78 : decode cX3_init 78 = .ok (.iconst 4, 1) := by decide +kernel
theorem dX3_init_79 : decode cX3_init 79 = .ok (.if_icmp .ge 22, 3) := by decide +kernel
theorem dX3_init_82 : decode cX3_init 82 = .ok (.aload_n 0, 1) := by decide +kernel
theorem dX3_init_83 : decode cX3_init 83 = .ok (.getfield 17, 3) := by decide +kernel
theorem dX3_init_86 : decode cX3_init 86 = .ok (.iload_n 1, 1) := by decide +kernel
theorem dX3_init_87 : decode cX3_init 87 = .ok (.new 15, 3) := by decide +kernel
theorem dX3_init_90 : decode cX3_init 90 = .ok (.dup, 1) := by decide +kernel
theorem dX3_init_91 : decode cX3_init 91 = .ok (.invokespecial 37, 3) := by decide +kernel
theorem dX3_init_94 : decode cX3_init 94 = .ok (.aastore, 1) := by decide +kernel
theorem dX3_init_95 : decode cX3_init 95 = .ok (.iinc 1 1, 3) := by decide +kernel
theorem dX3_init_98 : decode cX3_init 98 = .ok (.goto (-21), 3) := by decide +kernel
theorem dX3_init_101 : decode cX3_init 101 = .ok (.return_, 1) := by decide +kernel
theorem dX3_note_0 : decode cX3_note 0 = .ok (.iload_n 1, 1) := by decide +kernel
theorem dX3_note_1 : decode cX3_note 1 = .ok (.bipush 10, 2) := by decide +kernel
theorem dX3_note_3 : decode cX3_note 3 = .ok (.sipush 200, 3) := by decide +kernel
theorem dX3_note_6 : decode cX3_note 6 = .ok (.invokestatic 38, 3) := by decide +kernel
theorem dX3_note_9 : decode cX3_note 9 = .ok (.ifCond .ne 13, 3) := by decide +kernel
theorem dX3_note_12 : decode cX3_note 12 = .ok (.iload_n 2, 1) := by decide +kernel
theorem dX3_note_13 : decode cX3_note 13 = .ok (.iconst 1, 1) := by decide +kernel
theorem dX3_note_14 : decode cX3_note 14 = .ok (.bipush 64, 2) := by decide +kernel
theorem dX3_note_16 : decode cX3_note 16 = .ok (.invokestatic 38, 3) := by decide +kernel
theorem dX3_note_19 : decode cX3_note 19 = .ok (.ifCond .eq 6, 3) := by decide +kernel
theorem dX3_note_22 : decode cX3_note 22 = .ok (.ldc 42, 2) := by decide +kernel
theorem dX3_note_24 : decode cX3_note 24 = .ok (.ireturn, 1) := by decide +kernel
theorem dX3_note_25 : decode cX3_note 25 = .ok (.aload_n 0, 1) := by decide +kernel
theorem dX3_note_26 : decode cX3_note 26 = .ok (.getfield 43, 3) := by decide +kernel
theorem dX3_note_29 : decode cX3_note 29 = .ok (.bipush 60, 2) := by decide +kernel
theorem dX3_note_31 : decode cX3_note 31 = .ok (.if_icmp .lt 6, 3) := by decide +kernel
theorem dX3_note_34 : decode cX3_note 34 = .ok (.ldc 46, 2) := by decide +kernel
theorem dX3_note_36 : decode cX3_note 36 = .ok (.ireturn, 1) := by decide +kernel
theorem dX3_note_37 : decode cX3_note 37 = .ok (.aload_n 0, 1) := by decide +kernel
theorem dX3_note_38 : decode cX3_note 38 = .ok (.getfield 11, 3) := by decide +kernel
theorem dX3_note_41 : decode cX3_note 41 = .ok (.aload_n 0, 1) := by decide +kernel
theorem dX3_note_42 : decode cX3_note 42 = .ok (.getfield 43, 3) := by decide +kernel
theorem dX3_note_45 : decode cX3_note 45 = .ok (.aaload, 1) := by decide +kernel
theorem dX3_note_46 : decode cX3_note 46 = .ok (.iload_n 1, 1) := by decide +kernel
theorem dX3_note_47 : decode cX3_note 47 = .ok (.iload_n 2, 1) := by decide +kernel
theorem dX3_note_48 : decode cX3_note 48 = .ok (.iload_n 3, 1) := by decide +kernel
theorem dX3_note_49 : decode cX3_note 49 = .ok (.invokevirtual 47, 3) := by decide +kernel
theorem dX3_note_52 : decode cX3_note 52 = .ok (.aload_n 0, 1) := by decide +kernel
theorem dX3_note_53 : decode cX3_note 53 = .ok (.dup, 1) := by decide +kernel
theorem dX3_note_54 : decode cX3_note 54 = .ok (.getfield 43, 3) := by decide +kernel
theorem dX3_note_57 : decode cX3_note 57 = .ok (.iconst 1, 1) := by decide +kernel
theorem dX3_note_58 : decode cX3_note 58 = .ok (.iadd, 1) := by decide +kernel
theorem dX3_note_59 : decode cX3_note 59 = .ok (.putfield 43, 3) := by decide +kernel
theorem dX3_note_62 : decode cX3_note 62 = .ok (.aload_n 0, 1) := by decide +kernel
theorem dX3_note_63 : decode cX3_note 63 = .ok (.iconst 0, 1) := by decide +kernel
theorem dX3_note_64 : decode cX3_note 64 = .ok (.putfield 51, 3) := by decide +kernel
theorem dX3_note_67 : decode cX3_note 67 = .ok (.aload_n 0, 1) := by decide +kernel
theorem dX3_note_68 : decode cX3_note 68 = .ok (.getfield 43, 3) := by decide +kernel
theorem dX3_note_71 : decode cX3_note 71 = .ok (.iconst 1, 1) := by decide +kernel
theorem dX3_note_72 : decode cX3_note 72 = .ok (.isub, 1) := by decide +kernel
theorem dX3_note_73 : decode cX3_note 73 = .ok (.ireturn, 1) := by decide +kernel
theorem dX3_syllable_0 : decode cX3_syllable 0 = .ok (.aload_n 0, 1) := by decide +kernel
theorem dX3_syllable_1 : decode cX3_syllable 1 = .ok (.iload_n 1, 1) := by decide +kernel
theorem dX3_syllable_2 : decode cX3_syllable 2 = .ok (.invokevirtual 55, 3) := by decide +kernel
theorem dX3_syllable_5 : decode cX3_syllable 5 = .ok (.ifCond .eq 10, 3) := by decide +kernel
theorem dX3_syllable_8 : decode cX3_syllable 8 = .ok (.iload_n 2, 1) := by decide +kernel
theorem dX3_syllable_9 : decode cX3_syllable 9 = .ok (.invokestatic 59, 3) := by decide +kernel
theorem dX3_syllable_12 : decode cX3_syllable 12 = .ok (.ifCond .ne 6, 3) := by decide +kernel
theorem dX3_syllable_15 : decode cX3_syllable 15 = .ok (.ldc 62, 2) := by decide +kernel
theorem dX3_syllable_17 : decode cX3_syllable 17 = .ok (.ireturn, 1) := by decide +kernel
theorem dX3_syllable_18 : decode cX3_syllable 18 = .ok (.iload_n 3, 1) := by decide +kernel
theorem dX3_syllable_19 : decode cX3_syllable 19 = .ok (.iconst 1, 1) := by decide +kernel
theorem dX3_syllable_20 : decode cX3_syllable 20 = .ok (.sipush 200, 3) := by decide +kernel
theorem dX3_syllable_23 : decode cX3_syllable 23 = .ok (.invokestatic 38, 3) := by decide +kernel
theorem dX3_syllable_26 : decode cX3_syllable 26 = .ok (.ifCond .ne 13, 3) := by decide +kernel
theorem dX3_syllable_29 : decode cX3_syllable 29 = .ok (.iload 4, 2) := by decide +kernel
theorem dX3_syllable_31 : decode cX3_syllable 31 = .ok (.iconst 0, 1) := by decide +kernel
theorem dX3_syllable_32 : decode cX3_syllable 32 = .ok (.iload_n 3, 1) := by decide +kernel
theorem dX3_syllable_33 : decode cX3_syllable 33 = .ok (.invokestatic 38, 3) := by decide +kernel
theorem dX3_syllable_36 : decode cX3_syllable 36 = .ok (.ifCond .eq 6, 3) := by decide +kernel
theorem dX3_syllable_39 : decode cX3_syllable 39 = .ok (.ldc 42, 2) := by decide +kernel
theorem dX3_syllable_41 : decode cX3_syllable 41 = .ok (.ireturn, 1) := by decide +kernel
theorem dX3_syllable_42 : decode cX3_syllable 42 = .ok (.aload_n 0, 1) := by decide +kernel
theorem dX3_syllable_43 : decode cX3_syllable 43 = .ok (.iload_n 1, 1) := by decide +kernel
theorem dX3_syllable_44 : decode cX3_syllable 44 = .ok (.iload_n 2, 1) := by decide +kernel
theorem dX3_syllable_45 : decode cX3_syllable 45 = .ok (.invokevirtual 63, 3) := by decide +kernel
theorem dX3_syllable_48 : decode cX3_syllable 48 = .ok (.ifCond .ne 6, 3) := by decide +kernel
theorem dX3_syllable_51 : decode cX3_syllable 51 = .ok (.ldc 67, 2) := by decide +kernel
theorem dX3_syllable_53 : decode cX3_syllable 53 = .ok (.ireturn, 1) := by decide +kernel
theorem dX3_syllable_54 : decode cX3_syllable 54 = .ok (.aload_n 0, 1) := by decide +kernel
theorem dX3_syllable_55 : decode cX3_syllable 55 = .ok (.getfield 17, 3) := by decide +kernel
theorem dX3_syllable_58 : decode cX3_syllable 58 = .ok (.iload_n 2, 1) := by decide +kernel
theorem dX3_syllable_59 : decode cX3_syllable 59 = .ok (.aaload, 1) := by decide +kernel
theorem dX3_syllable_60 : decode cX3_syllable 60 = .ok (.getfield 68, 3) := by decide +kernel
theorem dX3_syllable_63 : decode cX3_syllable 63 = .ok (.iload_n 1, 1) := by decide +kernel
theorem dX3_syllable_64 : decode cX3_syllable 64 = .ok (.iaload, 1) := by decide +kernel
theorem dX3_syllable_65 : decode cX3_syllable 65 = .ok (.iconst 2, 1) := by decide +kernel
theorem dX3_syllable_66 : decode cX3_syllable 66 = .ok (.if_icmp .lt 6, 3) := by decide +kernel
theorem dX3_syllable_69 : decode cX3_syllable 69 = .ok (.ldc 46, 2) := by decide +kernel
theorem dX3_syllable_71 : decode cX3_syllable 71 = .ok (.ireturn, 1) := by decide +kernel
theorem dX3_syllable_72 : decode cX3_syllable 72 = .ok (.aload_n 0, 1) := by decide +kernel
theorem dX3_syllable_73 : decode cX3_syllable 73 = .ok (.iconst 0, 1) := by decide +kernel
theorem dX3_syllable_74 : decode cX3_syllable 74 = .ok (.putfield 51, 3) := by decide +kernel
theorem dX3_syllable_77 : decode cX3_syllable 77 = .ok (.aload_n 0, 1) := by decide +kernel
theorem dX3_syllable_78 : decode cX3_syllable 78 = .ok (.getfield 17, 3) := by decide +kernel
theorem dX3_syllable_81 : decode cX3_syllable 81 = .ok (.iload_n 2, 1) := by decide +kernel
theorem dX3_syllable_82 : decode cX3_syllable 82 = .ok (.aaload, 1) := by decide +kernel
theorem dX3_syllable_83 : decode cX3_syllable 83 = .ok (.iload_n 1, 1) := by decide +kernel
theorem dX3_syllable_84 : decode cX3_syllable 84 = .ok (.iload_n 3, 1) := by decide +kernel
theorem dX3_syllable_85 : decode cX3_syllable 85 = .ok (.iload 4, 2) := by decide +kernel
theorem dX3_syllable_87 : decode cX3_syllable 87 = .ok (.iload 5, 2) := by decide +kernel
theorem dX3_syllable_89 : decode cX3_syllable 89 = .ok (.invokevirtual 71, 3) := by decide +kernel
theorem dX3_syllable_92 : decode cX3_syllable 92 = .ok (.ireturn, 1) := by decide +kernel
theorem dX3_wipe_0 : decode cX3_wipe 0 = .ok (.aload_n 0, 1) := by decide +kernel
theorem dX3_wipe_1 : decode cX3_wipe 1 = .ok (.iload_n 1, 1) := by decide +kernel
theorem dX3_wipe_2 : decode cX3_wipe 2 = .ok (.invokevirtual 55, 3) := by decide +kernel
theorem dX3_wipe_5 : decode cX3_wipe 5 = .ok (.ifCond .eq 10, 3) := by decide +kernel
theorem dX3_wipe_8 : decode cX3_wipe 8 = .ok (.iload_n 2, 1) := by decide +kernel
theorem dX3_wipe_9 : decode cX3_wipe 9 = .ok (.invokestatic 59, 3) := by decide +kernel
theorem dX3_wipe_12 : decode cX3_wipe 12 = .ok (.ifCond .ne 6, 3) := by decide +kernel
theorem dX3_wipe_15 : decode cX3_wipe 15 = .ok (.ldc 62, 2) := by decide +kernel
theorem dX3_wipe_17 : decode cX3_wipe 17 = .ok (.ireturn, 1) := by decide +kernel
theorem dX3_wipe_18 : decode cX3_wipe 18 = .ok (.aload_n 0, 1) := by decide +kernel
theorem dX3_wipe_19 : decode cX3_wipe 19 = .ok (.iconst 0, 1) := by decide +kernel
theorem dX3_wipe_20 : decode cX3_wipe 20 = .ok (.putfield 51, 3) := by decide +kernel
theorem dX3_wipe_23 : decode cX3_wipe 23 = .ok (.aload_n 0, 1) := by decide +kernel
theorem dX3_wipe_24 : decode cX3_wipe 24 = .ok (.getfield 17, 3) := by decide +kernel
theorem dX3_wipe_27 : decode cX3_wipe 27 = .ok (.iload_n 2, 1) := by decide +kernel
theorem dX3_wipe_28 : decode cX3_wipe 28 = .ok (.aaload, 1) := by decide +kernel
theorem dX3_wipe_29 : decode cX3_wipe 29 = .ok (.iload_n 1, 1) := by decide +kernel
theorem dX3_wipe_30 : decode cX3_wipe 30 = .ok (.invokevirtual 75, 3) := by decide +kernel
theorem dX3_wipe_33 : decode cX3_wipe 33 = .ok (.ireturn, 1) := by decide +kernel
theorem dX3_chord_0 : decode cX3_chord 0 = .ok (.aload_n 0, 1) := by decide +kernel
theorem dX3_chord_1 : decode cX3_chord 1 = .ok (.iload_n 1, 1) := by decide +kernel
theorem dX3_chord_2 : decode cX3_chord 2 = .ok (.invokevirtual 55, 3) := by decide +kernel
theorem dX3_chord_5 : decode cX3_chord 5 = .ok (.ifCond .ne 6, 3) := by decide +kernel
theorem dX3_chord_8 : decode cX3_chord 8 = .ok (.ldc 62, 2) := by decide +kernel
theorem dX3_chord_10 : decode cX3_chord 10 = .ok (.ireturn, 1) := by decide +kernel
theorem dX3_chord_11 : decode cX3_chord 11 = .ok (.iload_n 2, 1) := by decide +kernel
theorem dX3_chord_12 : decode cX3_chord 12 = .ok (.iconst 0, 1) := by decide +kernel
theorem dX3_chord_13 : decode cX3_chord 13 = .ok (.sipush 200, 3) := by decide +kernel
theorem dX3_chord_16 : decode cX3_chord 16 = .ok (.invokestatic 38, 3) := by decide +kernel
theorem dX3_chord_19 : decode cX3_chord 19 = .ok (.ifCond .eq 6, 3) := by decide +kernel
theorem dX3_chord_22 : decode cX3_chord 22 = .ok (.ldc 42, 2) := by decide +kernel
theorem dX3_chord_24 : decode cX3_chord 24 = .ok (.ireturn, 1) := by decide +kernel
theorem dX3_chord_25 : decode cX3_chord 25 = .ok (.aload_n 0, 1) := by decide +kernel
theorem dX3_chord_26 : decode cX3_chord 26 = .ok (.getfield 11, 3) := by decide +kernel
theorem dX3_chord_29 : decode cX3_chord 29 = .ok (.iload_n 1, 1) := by decide +kernel
theorem dX3_chord_30 : decode cX3_chord 30 = .ok (.aaload, 1) := by decide +kernel
theorem dX3_chord_31 : decode cX3_chord 31 = .ok (.getfield 79, 3) := by decide +kernel
theorem dX3_chord_34 : decode cX3_chord 34 = .ok (.istore_n 3, 1) := by decide +kernel
theorem dX3_chord_35 : decode cX3_chord 35 = .ok (.aload_n 0, 1) := by decide +kernel
theorem dX3_chord_36 : decode cX3_chord 36 = .ok (.getfield 11, 3) := by decide +kernel
theorem dX3_chord_39 : decode cX3_chord 39 = .ok (.iload_n 1, 1) := by decide +kernel
theorem dX3_chord_40 : decode cX3_chord 40 = .ok (.aaload, 1) := by decide +kernel
theorem dX3_chord_41 : decode cX3_chord 41 = .ok (.iload_n 2, 1) := by decide +kernel
theorem dX3_chord_42 : decode cX3_chord 42 = .ok (.putfield 79, 3) := by decide +kernel
theorem dX3_chord_45 : decode cX3_chord 45 = .ok (.aload_n 0, 1) := by decide +kernel
theorem dX3_chord_46 : decode cX3_chord 46 = .ok (.iconst 0, 1) := by decide +kernel
theorem dX3_chord_47 : decode cX3_chord 47 = .ok (.putfield 51, 3) := by decide +kernel
theorem dX3_chord_50 : decode cX3_chord 50 = .ok (.iload_n 3, 1) := by decide +kernel
theorem dX3_chord_51 : decode cX3_chord 51 = .ok (.ireturn, 1) := by decide +kernel
theorem dX3_melisma_0 : decode cX3_melisma 0 = .ok (.aload_n 0, 1) := by decide +kernel
theorem dX3_melisma_1 : decode cX3_melisma 1 = .ok (.iload_n 1, 1) := by decide +kernel
theorem dX3_melisma_2 : decode cX3_melisma 2 = .ok (.invokevirtual 55, 3) := by decide +kernel
theorem dX3_melisma_5 : decode cX3_melisma 5 = .ok (.ifCond .ne 6, 3) := by decide +kernel
theorem dX3_melisma_8 : decode cX3_melisma 8 = .ok (.ldc 62, 2) := by decide +kernel
theorem dX3_melisma_10 : decode cX3_melisma 10 = .ok (.ireturn, 1) := by decide +kernel
theorem dX3_melisma_11 : decode cX3_melisma 11 = .ok (.iload_n 2, 1) := by decide +kernel
theorem dX3_melisma_12 : decode cX3_melisma 12 = .ok (.iconst 2, 1) := by decide +kernel
theorem dX3_melisma_13 : decode cX3_melisma 13 = .ok (.bipush 20, 2) := by decide +kernel
theorem dX3_melisma_15 : decode cX3_melisma 15 = .ok (.invokestatic 38, 3) := by decide +kernel
theorem dX3_melisma_18 : decode cX3_melisma 18 = .ok (.ifCond .ne 13, 3) := by decide +kernel
theorem dX3_melisma_21 : decode cX3_melisma 21 = .ok (.iload_n 2, 1) := by decide +kernel
theorem dX3_melisma_22 : decode cX3_melisma 22 = .ok (.aload_n 0, 1) := by decide +kernel
theorem dX3_melisma_23 : decode cX3_melisma 23 = .ok (.getfield 43, 3) := by decide +kernel
theorem dX3_melisma_26 : decode cX3_melisma 26 = .ok (.iload_n 1, 1) := by decide +kernel
theorem dX3_melisma_27 : decode cX3_melisma 27 = .ok (.isub, 1) := by decide +kernel
theorem dX3_melisma_28 : decode cX3_melisma 28 = .ok (.if_icmp .le 6, 3) := by decide +kernel
theorem dX3_melisma_31 : decode cX3_melisma 31 = .ok (.ldc 42, 2) := by decide +kernel
theorem dX3_melisma_33 : decode cX3_melisma 33 = .ok (.ireturn, 1) := by decide +kernel
theorem dX3_melisma_34 : decode cX3_melisma 34 = .ok (.aload_n 0, 1) := by decide +kernel
theorem dX3_melisma_35 : decode cX3_melisma 35 = .ok (.iload_n 1, 1) := by decide +kernel
theorem dX3_melisma_36 : decode cX3_melisma 36 = .ok (.iload_n 2, 1) := by decide +kernel
theorem dX3_melisma_37 : decode cX3_melisma 37 = .ok (.invokevirtual 82, 3) := by decide +kernel
theorem dX3_melisma_40 : decode cX3_melisma 40 = .ok (.ifCond .ne 6, 3) := by decide +kernel
theorem dX3_melisma_43 : decode cX3_melisma 43 = .ok (.ldc 67, 2) := by decide +kernel
theorem dX3_melisma_45 : decode cX3_melisma 45 = .ok (.ireturn, 1) := by decide +kernel
theorem dX3_melisma_46 : decode cX3_melisma 46 = .ok (.iload_n 1, 1) := by decide +kernel
theorem dX3_melisma_47 : decode cX3_melisma 47 = .ok (.istore_n 3, 1) := by decide +kernel
theorem dX3_melisma_48 : decode cX3_melisma 48 = .ok (.iload_n 3, 1) := by decide +kernel
theorem dX3_melisma_49 : decode cX3_melisma 49 = .ok (.iload_n 1, 1) := by decide +kernel
theorem dX3_melisma_50 : decode cX3_melisma 50 = .ok (.iload_n 2, 1) := by decide +kernel
theorem dX3_melisma_51 : decode cX3_melisma 51 = .ok (.iadd, 1) := by decide +kernel
theorem dX3_melisma_52 : decode cX3_melisma 52 = .ok (.if_icmp .ge 33, 3) := by decide +kernel
theorem dX3_melisma_55 : decode cX3_melisma 55 = .ok (.aload_n 0, 1) := by decide +kernel
theorem dX3_melisma_56 : decode cX3_melisma 56 = .ok (.getfield 11, 3) := by decide +kernel
theorem dX3_melisma_59 : decode cX3_melisma 59 = .ok (.iload_n 3, 1) := by decide +kernel
theorem dX3_melisma_60 : decode cX3_melisma 60 = .ok (.aaload, 1) := by decide +kernel
theorem dX3_melisma_61 : decode cX3_melisma 61 = .ok (.iload_n 1, 1) := by decide +kernel
theorem dX3_melisma_62 : decode cX3_melisma 62 = .ok (.putfield 85, 3) := by decide +kernel
theorem dX3_melisma_65 : decode cX3_melisma 65 = .ok (.aload_n 0, 1) := by decide +kernel
theorem dX3_melisma_66 : decode cX3_melisma 66 = .ok (.getfield 11, 3) := by decide +kernel
theorem dX3_melisma_69 : decode cX3_melisma 69 = .ok (.iload_n 3, 1) := by decide +kernel
theorem dX3_melisma_70 : decode cX3_melisma 70 = .ok (.aaload, 1) := by decide +kernel
theorem dX3_melisma_71 : decode cX3_melisma 71 = .ok (.iload_n 1, 1) := by decide +kernel
theorem dX3_melisma_72 : decode cX3_melisma 72 = .ok (.iload_n 2, 1) := by decide +kernel
theorem dX3_melisma_73 : decode cX3_melisma 73 = .ok (.iadd, 1) := by decide +kernel
theorem dX3_melisma_74 : decode cX3_melisma 74 = .ok (.iconst 1, 1) := by decide +kernel
theorem dX3_melisma_75 : decode cX3_melisma 75 = .ok (.isub, 1) := by decide +kernel
theorem dX3_melisma_76 : decode cX3_melisma 76 = .ok (.putfield 88, 3) := by decide +kernel
theorem dX3_melisma_79 : decode cX3_melisma 79 = .ok (.iinc 3 1, 3) := by decide +kernel
theorem dX3_melisma_82 : decode cX3_melisma 82 = .ok (.goto (-34), 3) := by decide +kernel
theorem dX3_melisma_85 : decode cX3_melisma 85 = .ok (.aload_n 0, 1) := by decide +kernel
theorem dX3_melisma_86 : decode cX3_melisma 86 = .ok (.dup, 1) := by decide +kernel
theorem dX3_melisma_87 : decode cX3_melisma 87 = .ok (.getfield 91, 3) := by decide +kernel
theorem dX3_melisma_90 : decode cX3_melisma 90 = .ok (.iconst 1, 1) := by decide +kernel
theorem dX3_melisma_91 : decode cX3_melisma 91 = .ok (.iadd, 1) := by decide +kernel
theorem dX3_melisma_92 : decode cX3_melisma 92 = .ok (.putfield 91, 3) := by decide +kernel
theorem dX3_melisma_95 : decode cX3_melisma 95 = .ok (.aload_n 0, 1) := by decide +kernel
theorem dX3_melisma_96 : decode cX3_melisma 96 = .ok (.iconst 0, 1) := by decide +kernel
theorem dX3_melisma_97 : decode cX3_melisma 97 = .ok (.putfield 51, 3) := by decide +kernel
theorem dX3_melisma_100 : decode cX3_melisma 100 = .ok (.aload_n 0, 1) := by decide +kernel
theorem dX3_melisma_101 : decode cX3_melisma 101 = .ok (.getfield 91, 3) := by decide +kernel
theorem dX3_melisma_104 : decode cX3_melisma 104 = .ok (.ireturn, 1) := by decide +kernel
theorem dX3_refrain_0 : decode cX3_refrain 0 = .ok (.aload_n 0, 1) := by decide +kernel
theorem dX3_refrain_1 : decode cX3_refrain 1 = .ok (.iload_n 1, 1) := by decide +kernel
theorem dX3_refrain_2 : decode cX3_refrain 2 = .ok (.invokevirtual 55, 3) := by decide +kernel
theorem dX3_refrain_5 : decode cX3_refrain 5 = .ok (.ifCond .ne 6, 3) := by decide +kernel
theorem dX3_refrain_8 : decode cX3_refrain 8 = .ok (.ldc 62, 2) := by decide +kernel
theorem dX3_refrain_10 : decode cX3_refrain 10 = .ok (.ireturn, 1) := by decide +kernel
theorem dX3_refrain_11 : decode cX3_refrain 11 = .ok (.iload_n 2, 1) := by decide +kernel
theorem dX3_refrain_12 : decode cX3_refrain 12 = .ok (.iconst 1, 1) := by decide +kernel
theorem dX3_refrain_13 : decode cX3_refrain 13 = .ok (.bipush 60, 2) := by decide +kernel
theorem dX3_refrain_15 : decode cX3_refrain 15 = .ok (.invokestatic 38, 3) := by decide +kernel
theorem dX3_refrain_18 : decode cX3_refrain 18 = .ok (.ifCond .ne 13, 3) := by decide +kernel
theorem dX3_refrain_21 : decode cX3_refrain 21 = .ok (.iload_n 2, 1) := by decide +kernel
theorem dX3_refrain_22 : decode cX3_refrain 22 = .ok (.aload_n 0, 1) := by decide +kernel
theorem dX3_refrain_23 : decode cX3_refrain 23 = .ok (.getfield 43, 3) := by decide +kernel
theorem dX3_refrain_26 : decode cX3_refrain 26 = .ok (.iload_n 1, 1) := by decide +kernel
theorem dX3_refrain_27 : decode cX3_refrain 27 = .ok (.isub, 1) := by decide +kernel
theorem dX3_refrain_28 : decode cX3_refrain 28 = .ok (.if_icmp .le 6, 3) := by decide +kernel
theorem dX3_refrain_31 : decode cX3_refrain 31 = .ok (.ldc 42, 2) := by decide +kernel
theorem dX3_refrain_33 : decode cX3_refrain 33 = .ok (.ireturn, 1) := by decide +kernel
theorem dX3_refrain_34 : decode cX3_refrain 34 = .ok (.aload_n 0, 1) := by decide +kernel
theorem dX3_refrain_35 : decode cX3_refrain 35 = .ok (.iload_n 1, 1) := by decide +kernel
theorem dX3_refrain_36 : decode cX3_refrain 36 = .ok (.iload_n 2, 1) := by decide +kernel
theorem dX3_refrain_37 : decode cX3_refrain 37 = .ok (.invokevirtual 94, 3) := by decide +kernel
theorem dX3_refrain_40 : decode cX3_refrain 40 = .ok (.ifCond .ne 6, 3) := by decide +kernel
theorem dX3_refrain_43 : decode cX3_refrain 43 = .ok (.ldc 67, 2) := by decide +kernel
theorem dX3_refrain_45 : decode cX3_refrain 45 = .ok (.ireturn, 1) := by decide +kernel
theorem dX3_refrain_46 : decode cX3_refrain 46 = .ok (.aload_n 0, 1) := by decide +kernel
theorem dX3_refrain_47 : decode cX3_refrain 47 = .ok (.getfield 97, 3) := by decide +kernel
theorem dX3_refrain_50 : decode cX3_refrain 50 = .ok (.iconst 3, 1) := by decide +kernel
theorem dX3_refrain_51 : decode cX3_refrain 51 = .ok (.if_icmp .lt 6, 3) := by decide +kernel
theorem dX3_refrain_54 : decode cX3_refrain 54 = .ok (.ldc 46, 2) := by decide +kernel
theorem dX3_refrain_56 : decode cX3_refrain 56 = .ok (.ireturn, 1) := by decide +kernel
theorem dX3_refrain_57 : decode cX3_refrain 57 = .ok (.iload_n 1, 1) := by decide +kernel
theorem dX3_refrain_58 : decode cX3_refrain 58 = .ok (.istore_n 3, 1) := by decide +kernel
theorem dX3_refrain_59 : decode cX3_refrain 59 = .ok (.iload_n 3, 1) := by decide +kernel
theorem dX3_refrain_60 : decode cX3_refrain 60 = .ok (.iload_n 1, 1) := by decide +kernel
theorem dX3_refrain_61 : decode cX3_refrain 61 = .ok (.iload_n 2, 1) := by decide +kernel
theorem dX3_refrain_62 : decode cX3_refrain 62 = .ok (.iadd, 1) := by decide +kernel
theorem dX3_refrain_63 : decode cX3_refrain 63 = .ok (.if_icmp .ge 19, 3) := by decide +kernel
theorem dX3_refrain_66 : decode cX3_refrain 66 = .ok (.aload_n 0, 1) := by decide +kernel
theorem dX3_refrain_67 : decode cX3_refrain 67 = .ok (.getfield 11, 3) := by decide +kernel
theorem dX3_refrain_70 : decode cX3_refrain 70 = .ok (.iload_n 3, 1) := by decide +kernel
theorem dX3_refrain_71 : decode cX3_refrain 71 = .ok (.aaload, 1) := by decide +kernel
theorem dX3_refrain_72 : decode cX3_refrain 72 = .ok (.iload_n 1, 1) := by decide +kernel
theorem dX3_refrain_73 : decode cX3_refrain 73 = .ok (.putfield 100, 3) := by decide +kernel
theorem dX3_refrain_76 : decode cX3_refrain 76 = .ok (.iinc 3 1, 3) := by decide +kernel
theorem dX3_refrain_79 : decode cX3_refrain 79 = .ok (.goto (-20), 3) := by decide +kernel
theorem dX3_refrain_82 : decode cX3_refrain 82 = .ok (.aload_n 0, 1) := by decide +kernel
theorem dX3_refrain_83 : decode cX3_refrain 83 = .ok (.dup, 1) := by decide +kernel
theorem dX3_refrain_84 : decode cX3_refrain 84 = .ok (.getfield 97, 3) := by decide +kernel
theorem dX3_refrain_87 : decode cX3_refrain 87 = .ok (.iconst 1, 1) := by decide +kernel
theorem dX3_refrain_88 : decode cX3_refrain 88 = .ok (.iadd, 1) := by decide +kernel
theorem dX3_refrain_89 : decode cX3_refrain 89 = .ok (.putfield 97, 3) := by decide +kernel
theorem dX3_refrain_92 : decode cX3_refrain 92 = .ok (.aload_n 0, 1) := by decide +kernel
theorem dX3_refrain_93 : decode cX3_refrain 93 = .ok (.iconst 0, 1) := by decide +kernel
theorem dX3_refrain_94 : decode cX3_refrain 94 = .ok (.putfield 51, 3) := by decide +kernel
theorem dX3_refrain_97 : decode cX3_refrain 97 = .ok (.aload_n 0, 1) := by decide +kernel
theorem dX3_refrain_98 : decode cX3_refrain 98 = .ok (.getfield 97, 3) := by decide +kernel
theorem dX3_refrain_101 : decode cX3_refrain 101 = .ok (.ireturn, 1) := by decide +kernel
theorem dX3_align_0 : decode cX3_align 0 = .ok (.iload_n 1, 1) := by decide +kernel
theorem dX3_align_1 : decode cX3_align 1 = .ok (.invokestatic 59, 3) := by decide +kernel
theorem dX3_align_4 : decode cX3_align 4 = .ok (.ifCond .ne 6, 3) := by decide +kernel
theorem dX3_align_7 : decode cX3_align 7 = .ok (.ldc 62, 2) := by decide +kernel
theorem dX3_align_9 : decode cX3_align 9 = .ok (.ireturn, 1) := by decide +kernel
theorem dX3_align_10 : decode cX3_align 10 = .ok (.iload_n 2, 1) := by decide +kernel
theorem dX3_align_11 : decode cX3_align 11 = .ok (.iconst 0, 1) := by decide +kernel
theorem dX3_align_12 : decode cX3_align 12 = .ok (.iconst 2, 1) := by decide +kernel
theorem dX3_align_13 : decode cX3_align 13 = .ok (.invokestatic 38, 3) := by decide +kernel
theorem dX3_align_16 : decode cX3_align 16 = .ok (.ifCond .eq 6, 3) := by decide +kernel
theorem dX3_align_19 : decode cX3_align 19 = .ok (.ldc 42, 2) := by decide +kernel
theorem dX3_align_21 : decode cX3_align 21 = .ok (.ireturn, 1) := by decide +kernel
theorem dX3_align_22 : decode cX3_align 22 = .ok (.aload_n 0, 1) := by decide +kernel
theorem dX3_align_23 : decode cX3_align 23 = .ok (.getfield 17, 3) := by decide +kernel
theorem dX3_align_26 : decode cX3_align 26 = .ok (.iload_n 1, 1) := by decide +kernel
theorem dX3_align_27 : decode cX3_align 27 = .ok (.aaload, 1) := by decide +kernel
theorem dX3_align_28 : decode cX3_align 28 = .ok (.getfield 103, 3) := by decide +kernel
theorem dX3_align_31 : decode cX3_align 31 = .ok (.istore_n 3, 1) := by decide +kernel
theorem dX3_align_32 : decode cX3_align 32 = .ok (.aload_n 0, 1) := by decide +kernel
theorem dX3_align_33 : decode cX3_align 33 = .ok (.getfield 17, 3) := by decide +kernel
theorem dX3_align_36 : decode cX3_align 36 = .ok (.iload_n 1, 1) := by decide +kernel
theorem dX3_align_37 : decode cX3_align 37 = .ok (.aaload, 1) := by decide +kernel
theorem dX3_align_38 : decode cX3_align 38 = .ok (.iload_n 2, 1) := by decide +kernel
theorem dX3_align_39 : decode cX3_align 39 = .ok (.putfield 103, 3) := by decide +kernel
theorem dX3_align_42 : decode cX3_align 42 = .ok (.aload_n 0, 1) := by decide +kernel
theorem dX3_align_43 : decode cX3_align 43 = .ok (.iconst 0, 1) := by decide +kernel
theorem dX3_align_44 : decode cX3_align 44 = .ok (.putfield 51, 3) := by decide +kernel
theorem dX3_align_47 : decode cX3_align 47 = .ok (.iload_n 3, 1) := by decide +kernel
theorem dX3_align_48 : decode cX3_align 48 = .ok (.ireturn, 1) := by decide +kernel
theorem dX3_translation_0 : decode cX3_translation 0 = .ok (.iload_n 1, 1) := by decide +kernel
theorem dX3_translation_1 : decode cX3_translation 1 = .ok (.invokestatic 59, 3) := by decide +kernel
theorem dX3_translation_4 : decode cX3_translation 4 = .ok (.ifCond .ne 6, 3) := by decide +kernel
theorem dX3_translation_7 : decode cX3_translation 7 = .ok (.ldc 62, 2) := by decide +kernel
theorem dX3_translation_9 : decode cX3_translation 9 = .ok (.ireturn, 1) := by decide +kernel
theorem dX3_translation_10 : decode cX3_translation 10 = .ok (.aload_n 0, 1) := by decide +kernel
theorem dX3_translation_11 : decode cX3_translation 11 = .ok (.getfield 17, 3) := by decide +kernel
theorem dX3_translation_14 : decode cX3_translation 14 = .ok (.iload_n 1, 1) := by decide +kernel
theorem dX3_translation_15 : decode cX3_translation 15 = .ok (.aaload, 1) := by decide +kernel
theorem dX3_translation_16 : decode cX3_translation 16 = .ok (.getfield 106, 3) := by decide +kernel
theorem dX3_translation_19 : decode cX3_translation 19 = .ok (.invokestatic 109, 3) := by decide +kernel
theorem dX3_translation_22 : decode cX3_translation 22 = .ok (.istore_n 3, 1) := by decide +kernel
theorem dX3_translation_23 : decode cX3_translation 23 = .ok (.aload_n 0, 1) := by decide +kernel
theorem dX3_translation_24 : decode cX3_translation 24 = .ok (.getfield 17, 3) := by decide +kernel
theorem dX3_translation_27 : decode cX3_translation 27 = .ok (.iload_n 1, 1) := by decide +kernel
theorem dX3_translation_28 : decode cX3_translation 28 = .ok (.aaload, 1) := by decide +kernel
theorem dX3_translation_29 : decode cX3_translation 29 = .ok (.iload_n 2, 1) := by decide +kernel
theorem dX3_translation_30 : decode cX3_translation 30 = .ok (.putfield 106, 3) := by decide +kernel
theorem dX3_translation_33 : decode cX3_translation 33 = .ok (.aload_n 0, 1) := by decide +kernel
theorem dX3_translation_34 : decode cX3_translation 34 = .ok (.iconst 0, 1) := by decide +kernel
theorem dX3_translation_35 : decode cX3_translation 35 = .ok (.putfield 51, 3) := by decide +kernel
theorem dX3_translation_38 : decode cX3_translation 38 = .ok (.iload_n 3, 1) := by decide +kernel
theorem dX3_translation_39 : decode cX3_translation 39 = .ok (.ireturn, 1) := by decide +kernel
theorem dX3_limit_0 : decode cX3_limit 0 = .ok (.iload_n 1, 1) := by decide +kernel
theorem dX3_limit_1 : decode cX3_limit 1 = .ok (.bipush 100, 2) := by decide +kernel
theorem dX3_limit_3 : decode cX3_limit 3 = .ok (.sipush 30000, 3) := by decide +kernel
theorem dX3_limit_6 : decode cX3_limit 6 = .ok (.invokestatic 38, 3) := by decide +kernel
theorem dX3_limit_9 : decode cX3_limit 9 = .ok (.ifCond .eq 6, 3) := by decide +kernel
theorem dX3_limit_12 : decode cX3_limit 12 = .ok (.ldc 42, 2) := by decide +kernel
theorem dX3_limit_14 : decode cX3_limit 14 = .ok (.ireturn, 1) := by decide +kernel
theorem dX3_limit_15 : decode cX3_limit 15 = .ok (.aload_n 0, 1) := by decide +kernel
theorem dX3_limit_16 : decode cX3_limit 16 = .ok (.getfield 32, 3) := by decide +kernel
theorem dX3_limit_19 : decode cX3_limit 19 = .ok (.istore_n 2, 1) := by decide +kernel
theorem dX3_limit_20 : decode cX3_limit 20 = .ok (.aload_n 0, 1) := by decide +kernel
theorem dX3_limit_21 : decode cX3_limit 21 = .ok (.iload_n 1, 1) := by decide +kernel
theorem dX3_limit_22 : decode cX3_limit 22 = .ok (.putfield 32, 3) := by decide +kernel
theorem dX3_limit_25 : decode cX3_limit 25 = .ok (.aload_n 0, 1) := by decide +kernel
theorem dX3_limit_26 : decode cX3_limit 26 = .ok (.iconst 0, 1) := by decide +kernel
theorem dX3_limit_27 : decode cX3_limit 27 = .ok (.putfield 51, 3) := by decide +kernel
theorem dX3_limit_30 : decode cX3_limit 30 = .ok (.iload_n 2, 1) := by decide +kernel
theorem dX3_limit_31 : decode cX3_limit 31 = .ok (.ireturn, 1) := by decide +kernel
theorem dX3_place_0 : decode cX3_place 0 = .ok (.aload_n 0, 1) := by decide +kernel
theorem dX3_place_1 : decode cX3_place 1 = .ok (.invokevirtual 113, 3) := by decide +kernel
theorem dX3_place_4 : decode cX3_place 4 = .ok (.aload_n 0, 1) := by decide +kernel
theorem dX3_place_5 : decode cX3_place 5 = .ok (.getfield 32, 3) := by decide +kernel
theorem dX3_place_8 : decode cX3_place 8 = .ok (.isub, 1) := by decide +kernel
theorem dX3_place_9 : decode cX3_place 9 = .ok (.istore_n 1, 1) := by decide +kernel
theorem dX3_place_10 : decode cX3_place 10 = .ok (.aload_n 0, 1) := by decide +kernel
theorem dX3_place_11 : decode cX3_place 11 = .ok (.iconst 1, 1) := by decide +kernel
theorem dX3_place_12 : decode cX3_place 12 = .ok (.putfield 51, 3) := by decide +kernel
theorem dX3_place_15 : decode cX3_place 15 = .ok (.iload_n 1, 1) := by decide +kernel
theorem dX3_place_16 : decode cX3_place 16 = .ok (.iconst 0, 1) := by decide +kernel
theorem dX3_place_17 : decode cX3_place 17 = .ok (.invokestatic 117, 3) := by decide +kernel
theorem dX3_place_20 : decode cX3_place 20 = .ok (.ireturn, 1) := by decide +kernel
theorem dX3_x_0 : decode cX3_x 0 = .ok (.aload_n 0, 1) := by decide +kernel
theorem dX3_x_1 : decode cX3_x 1 = .ok (.iload_n 1, 1) := by decide +kernel
theorem dX3_x_2 : decode cX3_x 2 = .ok (.invokevirtual 55, 3) := by decide +kernel
theorem dX3_x_5 : decode cX3_x 5 = .ok (.ifCond .ne 6, 3) := by decide +kernel
theorem dX3_x_8 : decode cX3_x 8 = .ok (.ldc 62, 2) := by decide +kernel
theorem dX3_x_10 : decode cX3_x 10 = .ok (.ireturn, 1) := by decide +kernel
theorem dX3_x_11 : decode cX3_x 11 = .ok (.iload_n 2, 1) := by decide +kernel
theorem dX3_x_12 : decode cX3_x 12 = .ok (.iconst 0, 1) := by decide +kernel
theorem dX3_x_13 : decode cX3_x 13 = .ok (.iconst 1, 1) := by decide +kernel
theorem dX3_x_14 : decode cX3_x 14 = .ok (.invokestatic 38, 3) := by decide +kernel
theorem dX3_x_17 : decode cX3_x 17 = .ok (.ifCond .eq 6, 3) := by decide +kernel
theorem dX3_x_20 : decode cX3_x 20 = .ok (.ldc 42, 2) := by decide +kernel
theorem dX3_x_22 : decode cX3_x 22 = .ok (.ireturn, 1) := by decide +kernel
theorem dX3_x_23 : decode cX3_x 23 = .ok (.aload_n 0, 1) := by decide +kernel
theorem dX3_x_24 : decode cX3_x 24 = .ok (.getfield 51, 3) := by decide +kernel
theorem dX3_x_27 : decode cX3_x 27 = .ok (.ifCond .ne 6, 3) := by decide +kernel
theorem dX3_x_30 : decode cX3_x 30 = .ok (.ldc 67, 2) := by decide +kernel
theorem dX3_x_32 : decode cX3_x 32 = .ok (.ireturn, 1) := by decide +kernel
theorem dX3_x_33 : decode cX3_x 33 = .ok (.iload_n 2, 1) := by decide +kernel
theorem dX3_x_34 : decode cX3_x 34 = .ok (.ifCond .ne 15, 3) := by decide +kernel
theorem dX3_x_37 : decode cX3_x 37 = .ok (.aload_n 0, 1) := by decide +kernel
theorem dX3_x_38 : decode cX3_x 38 = .ok (.getfield 11, 3) := by decide +kernel
theorem dX3_x_41 : decode cX3_x 41 = .ok (.iload_n 1, 1) := by decide +kernel
theorem dX3_x_42 : decode cX3_x 42 = .ok (.aaload, 1) := by decide +kernel
theorem dX3_x_43 : decode cX3_x 43 = .ok (.getfield 123, 3) := by decide +kernel
theorem dX3_x_46 : decode cX3_x 46 = .ok (.goto 12, 3) := by decide +kernel
theorem dX3_x_49 : decode cX3_x 49 = .ok (.aload_n 0, 1) := by decide +kernel
theorem dX3_x_50 : decode cX3_x 50 = .ok (.getfield 11, 3) := by decide +kernel
theorem dX3_x_53 : decode cX3_x 53 = .ok (.iload_n 1, 1) := by decide +kernel
theorem dX3_x_54 : decode cX3_x 54 = .ok (.aaload, 1) := by decide +kernel
theorem dX3_x_55 : decode cX3_x 55 = .ok (.getfield 126, 3) := by decide +kernel
theorem dX3_x_58 : decode cX3_x 58 = .ok (.ireturn, 1) := by decide +kernel
theorem dX3_box_0 : decode cX3_box 0 = .ok (.aload_n 0, 1) := by decide +kernel
theorem dX3_box_1 : decode cX3_box 1 = .ok (.iload_n 1, 1) := by decide +kernel
theorem dX3_box_2 : decode cX3_box 2 = .ok (.iload_n 2, 1) := by decide +kernel
theorem dX3_box_3 : decode cX3_box 3 = .ok (.invokevirtual 129, 3) := by decide +kernel
theorem dX3_box_6 : decode cX3_box 6 = .ok (.ifCond .ne 6, 3) := by decide +kernel
theorem dX3_box_9 : decode cX3_box 9 = .ok (.ldc 62, 2) := by decide +kernel
theorem dX3_box_11 : decode cX3_box 11 = .ok (.ireturn, 1) := by decide +kernel
theorem dX3_box_12 : decode cX3_box 12 = .ok (.iload_n 3, 1) := by decide +kernel
theorem dX3_box_13 : decode cX3_box 13 = .ok (.iconst 0, 1) := by decide +kernel
theorem dX3_box_14 : decode cX3_box 14 = .ok (.iconst 4, 1) := by decide +kernel
theorem dX3_box_15 : decode cX3_box 15 = .ok (.invokestatic 38, 3) := by decide +kernel
theorem dX3_box_18 : decode cX3_box 18 = .ok (.ifCond .eq 6, 3) := by decide +kernel
theorem dX3_box_21 : decode cX3_box 21 = .ok (.ldc 42, 2) := by decide +kernel
theorem dX3_box_23 : decode cX3_box 23 = .ok (.ireturn, 1) := by decide +kernel
theorem dX3_box_24 : decode cX3_box 24 = .ok (.aload_n 0, 1) := by decide +kernel
theorem dX3_box_25 : decode cX3_box 25 = .ok (.getfield 51, 3) := by decide +kernel
theorem dX3_box_28 : decode cX3_box 28 = .ok (.ifCond .ne 6, 3) := by decide +kernel
theorem dX3_box_31 : decode cX3_box 31 = .ok (.ldc 67, 2) := by decide +kernel
theorem dX3_box_33 : decode cX3_box 33 = .ok (.ireturn, 1) := by decide +kernel
theorem dX3_box_34 : decode cX3_box 34 = .ok (.aload_n 0, 1) := by decide +kernel
theorem dX3_box_35 : decode cX3_box 35 = .ok (.getfield 17, 3) := by decide +kernel
theorem dX3_box_38 : decode cX3_box 38 = .ok (.iload_n 2, 1) := by decide +kernel
theorem dX3_box_39 : decode cX3_box 39 = .ok (.aaload, 1) := by decide +kernel
theorem dX3_box_40 : decode cX3_box 40 = .ok (.astore 4, 2) := by decide +kernel
theorem dX3_box_42 : decode cX3_box 42 = .ok (.iload_n 3, 1) := by decide +kernel
theorem dX3_box_43 : decode cX3_box 43 = .ok (.tableswitch 61 0 3 #[29, 37, 44, 54], 29) := by decide +kernel
theorem dX3_box_72 : decode cX3_box 72 = .ok (.aload 4, 2) := by decide +kernel
theorem dX3_box_74 : decode cX3_box 74 = .ok (.getfield 132, 3) := by decide +kernel
theorem dX3_box_77 : decode cX3_box 77 = .ok (.iload_n 1, 1) := by decide +kernel
theorem dX3_box_78 : decode cX3_box 78 = .ok (.iaload, 1) := by decide +kernel
theorem dX3_box_79 : decode cX3_box 79 = .ok (.ireturn, 1) := by decide +kernel
theorem dX3_box_80 : decode cX3_box 80 = .ok (.aload 4, 2) := by decide +kernel
theorem dX3_box_82 : decode cX3_box 82 = .ok (.iload_n 1, 1) := by decide +kernel
theorem dX3_box_83 : decode cX3_box 83 = .ok (.invokevirtual 135, 3) := by decide +kernel
theorem dX3_box_86 : decode cX3_box 86 = .ok (.ireturn, 1) := by decide +kernel
theorem dX3_box_87 : decode cX3_box 87 = .ok (.aload 4, 2) := by decide +kernel
theorem dX3_box_89 : decode cX3_box 89 = .ok (.iload_n 1, 1) := by decide +kernel
theorem dX3_box_90 : decode cX3_box 90 = .ok (.invokevirtual 138, 3) := by decide +kernel
theorem dX3_box_93 : decode cX3_box 93 = .ok (.invokestatic 109, 3) := by decide +kernel
theorem dX3_box_96 : decode cX3_box 96 = .ok (.ireturn, 1) := by decide +kernel
theorem dX3_box_97 : decode cX3_box 97 = .ok (.aload 4, 2) := by decide +kernel
theorem dX3_box_99 : decode cX3_box 99 = .ok (.iload_n 1, 1) := by decide +kernel
theorem dX3_box_100 : decode cX3_box 100 = .ok (.invokevirtual 141, 3) := by decide +kernel
theorem dX3_box_103 : decode cX3_box 103 = .ok (.ireturn, 1) := by decide +kernel
theorem dX3_box_104 : decode cX3_box 104 = .ok (.aload_n 0, 1) := by decide +kernel
theorem dX3_box_105 : decode cX3_box 105 = .ok (.getfield 11, 3) := by decide +kernel
theorem dX3_box_108 : decode cX3_box 108 = .ok (.iload_n 1, 1) := by decide +kernel
theorem dX3_box_109 : decode cX3_box 109 = .ok (.aaload, 1) := by decide +kernel
theorem dX3_box_110 : decode cX3_box 110 = .ok (.getfield 123, 3) := by decide +kernel
theorem dX3_box_113 : decode cX3_box 113 = .ok (.aload 4, 2) := by decide +kernel
theorem dX3_box_115 : decode cX3_box 115 = .ok (.getfield 132, 3) := by decide +kernel
theorem dX3_box_118 : decode cX3_box 118 = .ok (.iload_n 1, 1) := by decide +kernel
theorem dX3_box_119 : decode cX3_box 119 = .ok (.iaload, 1) := by decide +kernel
theorem dX3_box_120 : decode cX3_box 120 = .ok (.aload 4, 2) := by decide +kernel
theorem dX3_box_122 : decode cX3_box 122 = .ok (.iload_n 1, 1) := by decide +kernel
theorem dX3_box_123 : decode cX3_box 123 = .ok (.invokevirtual 141, 3) := by decide +kernel
theorem dX3_box_126 : decode cX3_box 126 = .ok (.invokestatic 38, 3) := by decide +kernel
theorem dX3_box_129 : decode cX3_box 129 = .ok (.ifCond .ne 7, 3) := by decide +kernel
theorem dX3_box_132 : decode cX3_box 132 = .ok (.iconst 1, 1) := by decide +kernel
theorem dX3_box_133 : decode cX3_box 133 = .ok (.goto 4, 3) := by decide +kernel
theorem dX3_box_136 : decode cX3_box 136 = .ok (.iconst 0, 1) := by decide +kernel
theorem dX3_box_137 : decode cX3_box 137 = .ok (.invokestatic 109, 3) := by decide +kernel
theorem dX3_box_140 : decode cX3_box 140 = .ok (.ireturn, 1) := by decide +kernel
theorem dX3_hyphens_0 : decode cX3_hyphens 0 = .ok (.aload_n 0, 1) := by decide +kernel
theorem dX3_hyphens_1 : decode cX3_hyphens 1 = .ok (.iload_n 1, 1) := by decide +kernel
theorem dX3_hyphens_2 : decode cX3_hyphens 2 = .ok (.iload_n 2, 1) := by decide +kernel
theorem dX3_hyphens_3 : decode cX3_hyphens 3 = .ok (.invokevirtual 129, 3) := by decide +kernel
theorem dX3_hyphens_6 : decode cX3_hyphens 6 = .ok (.ifCond .ne 6, 3) := by decide +kernel
theorem dX3_hyphens_9 : decode cX3_hyphens 9 = .ok (.ldc 62, 2) := by decide +kernel
theorem dX3_hyphens_11 : decode cX3_hyphens 11 = .ok (.ireturn, 1) := by decide +kernel
theorem dX3_hyphens_12 : decode cX3_hyphens 12 = .ok (.aload_n 0, 1) := by decide +kernel
theorem dX3_hyphens_13 : decode cX3_hyphens 13 = .ok (.getfield 51, 3) := by decide +kernel
theorem dX3_hyphens_16 : decode cX3_hyphens 16 = .ok (.ifCond .ne 6, 3) := by decide +kernel
theorem dX3_hyphens_19 : decode cX3_hyphens 19 = .ok (.ldc 67, 2) := by decide +kernel
theorem dX3_hyphens_21 : decode cX3_hyphens 21 = .ok (.ireturn, 1) := by decide +kernel
theorem dX3_hyphens_22 : decode cX3_hyphens 22 = .ok (.aload_n 0, 1) := by decide +kernel
theorem dX3_hyphens_23 : decode cX3_hyphens 23 = .ok (.getfield 17, 3) := by decide +kernel
theorem dX3_hyphens_26 : decode cX3_hyphens 26 = .ok (.iload_n 2, 1) := by decide +kernel
theorem dX3_hyphens_27 : decode cX3_hyphens 27 = .ok (.aaload, 1) := by decide +kernel
theorem dX3_hyphens_28 : decode cX3_hyphens 28 = .ok (.iload_n 1, 1) := by decide +kernel
theorem dX3_hyphens_29 : decode cX3_hyphens 29 = .ok (.invokevirtual 144, 3) := by decide +kernel
theorem dX3_hyphens_32 : decode cX3_hyphens 32 = .ok (.invokestatic 147, 3) := by decide +kernel
theorem dX3_hyphens_35 : decode cX3_hyphens 35 = .ok (.ireturn, 1) := by decide +kernel
theorem dX3_hyphen_0 : decode cX3_hyphen 0 = .ok (.aload_n 0, 1) := by decide +kernel
theorem dX3_hyphen_1 : decode cX3_hyphen 1 = .ok (.iload_n 1, 1) := by decide +kernel
theorem dX3_hyphen_2 : decode cX3_hyphen 2 = .ok (.iload_n 2, 1) := by decide +kernel
theorem dX3_hyphen_3 : decode cX3_hyphen 3 = .ok (.invokevirtual 129, 3) := by decide +kernel
theorem dX3_hyphen_6 : decode cX3_hyphen 6 = .ok (.ifCond .ne 6, 3) := by decide +kernel
theorem dX3_hyphen_9 : decode cX3_hyphen 9 = .ok (.ldc 62, 2) := by decide +kernel
theorem dX3_hyphen_11 : decode cX3_hyphen 11 = .ok (.ireturn, 1) := by decide +kernel
theorem dX3_hyphen_12 : decode cX3_hyphen 12 = .ok (.aload_n 0, 1) := by decide +kernel
theorem dX3_hyphen_13 : decode cX3_hyphen 13 = .ok (.getfield 51, 3) := by decide +kernel
theorem dX3_hyphen_16 : decode cX3_hyphen 16 = .ok (.ifCond .ne 6, 3) := by decide +kernel
theorem dX3_hyphen_19 : decode cX3_hyphen 19 = .ok (.ldc 67, 2) := by decide +kernel
theorem dX3_hyphen_21 : decode cX3_hyphen 21 = .ok (.ireturn, 1) := by decide +kernel
theorem dX3_hyphen_22 : decode cX3_hyphen 22 = .ok (.aload_n 0, 1) := by decide +kernel
theorem dX3_hyphen_23 : decode cX3_hyphen 23 = .ok (.getfield 17, 3) := by decide +kernel
theorem dX3_hyphen_26 : decode cX3_hyphen 26 = .ok (.iload_n 2, 1) := by decide +kernel
theorem dX3_hyphen_27 : decode cX3_hyphen 27 = .ok (.aaload, 1) := by decide +kernel
theorem dX3_hyphen_28 : decode cX3_hyphen 28 = .ok (.iload_n 1, 1) := by decide +kernel
theorem dX3_hyphen_29 : decode cX3_hyphen 29 = .ok (.invokevirtual 144, 3) := by decide +kernel
theorem dX3_hyphen_32 : decode cX3_hyphen 32 = .ok (.istore 4, 2) := by decide +kernel
theorem dX3_hyphen_34 : decode cX3_hyphen 34 = .ok (.iload 4, 2) := by decide +kernel
theorem dX3_hyphen_36 : decode cX3_hyphen 36 = .ok (.invokestatic 147, 3) := by decide +kernel
theorem dX3_hyphen_39 : decode cX3_hyphen 39 = .ok (.istore 5, 2) := by decide +kernel
theorem dX3_hyphen_41 : decode cX3_hyphen 41 = .ok (.iload 5, 2) := by decide +kernel
theorem dX3_hyphen_43 : decode cX3_hyphen 43 = .ok (.iconst 1, 1) := by decide +kernel
theorem dX3_hyphen_44 : decode cX3_hyphen 44 = .ok (.if_icmp .lt 15, 3) := by decide +kernel
theorem dX3_hyphen_47 : decode cX3_hyphen 47 = .ok (.iload_n 3, 1) := by decide +kernel
theorem dX3_hyphen_48 : decode cX3_hyphen 48 = .ok (.iconst 0, 1) := by decide +kernel
theorem dX3_hyphen_49 : decode cX3_hyphen 49 = .ok (.iload 5, 2) := by decide +kernel
theorem dX3_hyphen_51 : decode cX3_hyphen 51 = .ok (.iconst 1, 1) := by decide +kernel
theorem dX3_hyphen_52 : decode cX3_hyphen 52 = .ok (.isub, 1) := by decide +kernel
theorem dX3_hyphen_53 : decode cX3_hyphen 53 = .ok (.invokestatic 38, 3) := by decide +kernel
theorem dX3_hyphen_56 : decode cX3_hyphen 56 = .ok (.ifCond .eq 13, 3) := by decide +kernel
theorem dX3_hyphen_59 : decode cX3_hyphen 59 = .ok (.new 150, 3) := by decide +kernel
theorem dX3_hyphen_62 : decode cX3_hyphen 62 = .ok (.dup, 1) := by decide +kernel
theorem dX3_hyphen_63 : decode cX3_hyphen 63 = .ok (.ldc 152, 2) := by decide +kernel
theorem dX3_hyphen_65 : decode cX3_hyphen 65 = .ok (.invokespecial 154, 3) := by decide +kernel
theorem dX3_hyphen_68 : decode cX3_hyphen 68 = .ok (.athrow, 1) := by decide +kernel
theorem dX3_hyphen_69 : decode cX3_hyphen 69 = .ok (.aload_n 0, 1) := by decide +kernel
theorem dX3_hyphen_70 : decode cX3_hyphen 70 = .ok (.getfield 17, 3) := by decide +kernel
theorem dX3_hyphen_73 : decode cX3_hyphen 73 = .ok (.iload_n 2, 1) := by decide +kernel
theorem dX3_hyphen_74 : decode cX3_hyphen 74 = .ok (.aaload, 1) := by decide +kernel
theorem dX3_hyphen_75 : decode cX3_hyphen 75 = .ok (.iload_n 1, 1) := by decide +kernel
theorem dX3_hyphen_76 : decode cX3_hyphen 76 = .ok (.invokevirtual 141, 3) := by decide +kernel
theorem dX3_hyphen_79 : decode cX3_hyphen 79 = .ok (.iconst 2, 1) := by decide +kernel
theorem dX3_hyphen_80 : decode cX3_hyphen 80 = .ok (.iload_n 3, 1) := by decide +kernel
theorem dX3_hyphen_81 : decode cX3_hyphen 81 = .ok (.imul, 1) := by decide +kernel
theorem dX3_hyphen_82 : decode cX3_hyphen 82 = .ok (.iconst 1, 1) := by decide +kernel
theorem dX3_hyphen_83 : decode cX3_hyphen 83 = .ok (.iadd, 1) := by decide +kernel
theorem dX3_hyphen_84 : decode cX3_hyphen 84 = .ok (.iload 4, 2) := by decide +kernel
theorem dX3_hyphen_86 : decode cX3_hyphen 86 = .ok (.imul, 1) := by decide +kernel
theorem dX3_hyphen_87 : decode cX3_hyphen 87 = .ok (.iconst 2, 1) := by decide +kernel
theorem dX3_hyphen_88 : decode cX3_hyphen 88 = .ok (.iload 5, 2) := by decide +kernel
theorem dX3_hyphen_90 : decode cX3_hyphen 90 = .ok (.imul, 1) := by decide +kernel
theorem dX3_hyphen_91 : decode cX3_hyphen 91 = .ok (.idiv, 1) := by decide +kernel
theorem dX3_hyphen_92 : decode cX3_hyphen 92 = .ok (.iadd, 1) := by decide +kernel
theorem dX3_hyphen_93 : decode cX3_hyphen 93 = .ok (.iconst 3, 1) := by decide +kernel
theorem dX3_hyphen_94 : decode cX3_hyphen 94 = .ok (.isub, 1) := by decide +kernel
theorem dX3_hyphen_95 : decode cX3_hyphen 95 = .ok (.ireturn, 1) := by decide +kernel
theorem dX3_line_0 : decode cX3_line 0 = .ok (.aload_n 0, 1) := by decide +kernel
theorem dX3_line_1 : decode cX3_line 1 = .ok (.iload_n 1, 1) := by decide +kernel
theorem dX3_line_2 : decode cX3_line 2 = .ok (.iload_n 2, 1) := by decide +kernel
theorem dX3_line_3 : decode cX3_line 3 = .ok (.invokevirtual 129, 3) := by decide +kernel
theorem dX3_line_6 : decode cX3_line 6 = .ok (.ifCond .ne 6, 3) := by decide +kernel
theorem dX3_line_9 : decode cX3_line 9 = .ok (.ldc 62, 2) := by decide +kernel
theorem dX3_line_11 : decode cX3_line 11 = .ok (.ireturn, 1) := by decide +kernel
theorem dX3_line_12 : decode cX3_line 12 = .ok (.iload_n 3, 1) := by decide +kernel
theorem dX3_line_13 : decode cX3_line 13 = .ok (.iconst 0, 1) := by decide +kernel
theorem dX3_line_14 : decode cX3_line 14 = .ok (.iconst 1, 1) := by decide +kernel
theorem dX3_line_15 : decode cX3_line 15 = .ok (.invokestatic 38, 3) := by decide +kernel
theorem dX3_line_18 : decode cX3_line 18 = .ok (.ifCond .eq 6, 3) := by decide +kernel
theorem dX3_line_21 : decode cX3_line 21 = .ok (.ldc 42, 2) := by decide +kernel
theorem dX3_line_23 : decode cX3_line 23 = .ok (.ireturn, 1) := by decide +kernel
theorem dX3_line_24 : decode cX3_line 24 = .ok (.aload_n 0, 1) := by decide +kernel
theorem dX3_line_25 : decode cX3_line 25 = .ok (.getfield 51, 3) := by decide +kernel
theorem dX3_line_28 : decode cX3_line 28 = .ok (.ifCond .ne 6, 3) := by decide +kernel
theorem dX3_line_31 : decode cX3_line 31 = .ok (.ldc 67, 2) := by decide +kernel
theorem dX3_line_33 : decode cX3_line 33 = .ok (.ireturn, 1) := by decide +kernel
theorem dX3_line_34 : decode cX3_line 34 = .ok (.aload_n 0, 1) := by decide +kernel
theorem dX3_line_35 : decode cX3_line 35 = .ok (.getfield 17, 3) := by decide +kernel
theorem dX3_line_38 : decode cX3_line 38 = .ok (.iload_n 2, 1) := by decide +kernel
theorem dX3_line_39 : decode cX3_line 39 = .ok (.aaload, 1) := by decide +kernel
theorem dX3_line_40 : decode cX3_line 40 = .ok (.astore 4, 2) := by decide +kernel
theorem dX3_line_42 : decode cX3_line 42 = .ok (.aload_n 0, 1) := by decide +kernel
theorem dX3_line_43 : decode cX3_line 43 = .ok (.getfield 11, 3) := by decide +kernel
theorem dX3_line_46 : decode cX3_line 46 = .ok (.iload_n 1, 1) := by decide +kernel
theorem dX3_line_47 : decode cX3_line 47 = .ok (.aaload, 1) := by decide +kernel
theorem dX3_line_48 : decode cX3_line 48 = .ok (.getfield 85, 3) := by decide +kernel
theorem dX3_line_51 : decode cX3_line 51 = .ok (.iload_n 1, 1) := by decide +kernel
theorem dX3_line_52 : decode cX3_line 52 = .ok (.if_icmp .ne 12, 3) := by decide +kernel
theorem dX3_line_55 : decode cX3_line 55 = .ok (.aload 4, 2) := by decide +kernel
theorem dX3_line_57 : decode cX3_line 57 = .ok (.iload_n 1, 1) := by decide +kernel
theorem dX3_line_58 : decode cX3_line 58 = .ok (.invokevirtual 157, 3) := by decide +kernel
theorem dX3_line_61 : decode cX3_line 61 = .ok (.ifCond .eq 6, 3) := by decide +kernel
theorem dX3_line_64 : decode cX3_line 64 = .ok (.ldc 160, 2) := by decide +kernel
theorem dX3_line_66 : decode cX3_line 66 = .ok (.ireturn, 1) := by decide +kernel
theorem dX3_line_67 : decode cX3_line 67 = .ok (.aload 4, 2) := by decide +kernel
theorem dX3_line_69 : decode cX3_line 69 = .ok (.iload_n 1, 1) := by decide +kernel
theorem dX3_line_70 : decode cX3_line 70 = .ok (.invokevirtual 141, 3) := by decide +kernel
theorem dX3_line_73 : decode cX3_line 73 = .ok (.iconst 2, 1) := by decide +kernel
theorem dX3_line_74 : decode cX3_line 74 = .ok (.iadd, 1) := by decide +kernel
theorem dX3_line_75 : decode cX3_line 75 = .ok (.istore 5, 2) := by decide +kernel
theorem dX3_line_77 : decode cX3_line 77 = .ok (.aload_n 0, 1) := by decide +kernel
theorem dX3_line_78 : decode cX3_line 78 = .ok (.iload_n 1, 1) := by decide +kernel
theorem dX3_line_79 : decode cX3_line 79 = .ok (.aload 4, 2) := by decide +kernel
theorem dX3_line_81 : decode cX3_line 81 = .ok (.invokevirtual 161, 3) := by decide +kernel
theorem dX3_line_84 : decode cX3_line 84 = .ok (.istore 6, 2) := by decide +kernel
theorem dX3_line_86 : decode cX3_line 86 = .ok (.iload 6, 2) := by decide +kernel
theorem dX3_line_88 : decode cX3_line 88 = .ok (.iload 5, 2) := by decide +kernel
theorem dX3_line_90 : decode cX3_line 90 = .ok (.isub, 1) := by decide +kernel
theorem dX3_line_91 : decode cX3_line 91 = .ok (.bipush 10, 2) := by decide +kernel
theorem dX3_line_93 : decode cX3_line 93 = .ok (.if_icmp .ge 6, 3) := by decide +kernel
theorem dX3_line_96 : decode cX3_line 96 = .ok (.ldc 160, 2) := by decide +kernel
theorem dX3_line_98 : decode cX3_line 98 = .ok (.ireturn, 1) := by decide +kernel
theorem dX3_line_99 : decode cX3_line 99 = .ok (.iload_n 3, 1) := by decide +kernel
theorem dX3_line_100 : decode cX3_line 100 = .ok (.ifCond .ne 8, 3) := by decide +kernel
theorem dX3_line_103 : decode cX3_line 103 = .ok (.iload 5, 2) := by decide +kernel
theorem dX3_line_105 : decode cX3_line 105 = .ok (.goto 5, 3) := by decide +kernel
theorem dX3_line_108 : decode cX3_line 108 = .ok (.iload 6, 2) := by decide +kernel
theorem dX3_line_110 : decode cX3_line 110 = .ok (.ireturn, 1) := by decide +kernel
theorem dX3_strain_0 : decode cX3_strain 0 = .ok (.aload_n 0, 1) := by decide +kernel
theorem dX3_strain_1 : decode cX3_strain 1 = .ok (.getfield 51, 3) := by decide +kernel
theorem dX3_strain_4 : decode cX3_strain 4 = .ok (.ifCond .ne 6, 3) := by decide +kernel
theorem dX3_strain_7 : decode cX3_strain 7 = .ok (.ldc 67, 2) := by decide +kernel
theorem dX3_strain_9 : decode cX3_strain 9 = .ok (.ireturn, 1) := by decide +kernel
theorem dX3_strain_10 : decode cX3_strain 10 = .ok (.aload_n 0, 1) := by decide +kernel
theorem dX3_strain_11 : decode cX3_strain 11 = .ok (.getfield 43, 3) := by decide +kernel
theorem dX3_strain_14 : decode cX3_strain 14 = .ok (.ifCond .ne 7, 3) := by decide +kernel
theorem dX3_strain_17 : decode cX3_strain 17 = .ok (.iconst 0, 1) := by decide +kernel
theorem dX3_strain_18 : decode cX3_strain 18 = .ok (.goto 17, 3) := by decide +kernel
theorem dX3_strain_21 : decode cX3_strain 21 = .ok (.aload_n 0, 1) := by decide +kernel
theorem dX3_strain_22 : decode cX3_strain 22 = .ok (.getfield 11, 3) := by decide +kernel
theorem dX3_strain_25 : decode cX3_strain 25 = .ok (.aload_n 0, 1) := by decide +kernel
theorem dX3_strain_26 : decode cX3_strain 26 = .ok (.getfield 43, 3) := by decide +kernel
theorem dX3_strain_29 : decode cX3_strain 29 = .ok (.iconst 1, 1) := by decide +kernel
theorem dX3_strain_30 : decode cX3_strain 30 = .ok (.isub, 1) := by decide +kernel
theorem dX3_strain_31 : decode cX3_strain 31 = .ok (.aaload, 1) := by decide +kernel
theorem dX3_strain_32 : decode cX3_strain 32 = .ok (.getfield 123, 3) := by decide +kernel
theorem dX3_strain_35 : decode cX3_strain 35 = .ok (.istore_n 1, 1) := by decide +kernel
theorem dX3_strain_36 : decode cX3_strain 36 = .ok (.iload_n 1, 1) := by decide +kernel
theorem dX3_strain_37 : decode cX3_strain 37 = .ok (.ifCond .ne 13, 3) := by decide +kernel
theorem dX3_strain_40 : decode cX3_strain 40 = .ok (.new 165, 3) := by decide +kernel
theorem dX3_strain_43 : decode cX3_strain 43 = .ok (.dup, 1) := by decide +kernel
theorem dX3_strain_44 : decode cX3_strain 44 = .ok (.ldc 167, 2) := by decide +kernel
theorem dX3_strain_46 : decode cX3_strain 46 = .ok (.invokespecial 169, 3) := by decide +kernel
theorem dX3_strain_49 : decode cX3_strain 49 = .ok (.athrow, 1) := by decide +kernel
theorem dX3_strain_50 : decode cX3_strain 50 = .ok (.iconst 0, 1) := by decide +kernel
theorem dX3_strain_51 : decode cX3_strain 51 = .ok (.istore_n 2, 1) := by decide +kernel
theorem dX3_strain_52 : decode cX3_strain 52 = .ok (.iconst 0, 1) := by decide +kernel
theorem dX3_strain_53 : decode cX3_strain 53 = .ok (.istore_n 3, 1) := by decide +kernel
theorem dX3_strain_54 : decode cX3_strain 54 = .ok (.iload_n 3, 1) := by decide +kernel
theorem dX3_strain_55 : decode cX3_strain 55 = .ok (.aload_n 0, 1) := by decide +kernel
theorem dX3_strain_56 : decode cX3_strain 56 = .ok (.getfield 43, 3) := by decide +kernel
theorem dX3_strain_59 : decode cX3_strain 59 = .ok (.if_icmp .ge 21, 3) := by decide +kernel
theorem dX3_strain_62 : decode cX3_strain 62 = .ok (.iload_n 2, 1) := by decide +kernel
theorem dX3_strain_63 : decode cX3_strain 63 = .ok (.aload_n 0, 1) := by decide +kernel
theorem dX3_strain_64 : decode cX3_strain 64 = .ok (.getfield 11, 3) := by decide +kernel
theorem dX3_strain_67 : decode cX3_strain 67 = .ok (.iload_n 3, 1) := by decide +kernel
theorem dX3_strain_68 : decode cX3_strain 68 = .ok (.aaload, 1) := by decide +kernel
theorem dX3_strain_69 : decode cX3_strain 69 = .ok (.getfield 126, 3) := by decide +kernel
theorem dX3_strain_72 : decode cX3_strain 72 = .ok (.iadd, 1) := by decide +kernel
theorem dX3_strain_73 : decode cX3_strain 73 = .ok (.istore_n 2, 1) := by decide +kernel
theorem dX3_strain_74 : decode cX3_strain 74 = .ok (.iinc 3 1, 3) := by decide +kernel
theorem dX3_strain_77 : decode cX3_strain 77 = .ok (.goto (-23), 3) := by decide +kernel
theorem dX3_strain_80 : decode cX3_strain 80 = .ok (.sipush 1000, 3) := by decide +kernel
theorem dX3_strain_83 : decode cX3_strain 83 = .ok (.iload_n 2, 1) := by decide +kernel
theorem dX3_strain_84 : decode cX3_strain 84 = .ok (.imul, 1) := by decide +kernel
theorem dX3_strain_85 : decode cX3_strain 85 = .ok (.iload_n 1, 1) := by decide +kernel
theorem dX3_strain_86 : decode cX3_strain 86 = .ok (.idiv, 1) := by decide +kernel
theorem dX3_strain_87 : decode cX3_strain 87 = .ok (.ireturn, 1) := by decide +kernel
theorem dX3_faults_0 : decode cX3_faults 0 = .ok (.aload_n 0, 1) := by decide +kernel
theorem dX3_faults_1 : decode cX3_faults 1 = .ok (.invokevirtual 170, 3) := by decide +kernel
theorem dX3_faults_4 : decode cX3_faults 4 = .ok (.ireturn, 1) := by decide +kernel
theorem dX3_fault_0 : decode cX3_fault 0 = .ok (.aload_n 0, 1) := by decide +kernel
theorem dX3_fault_1 : decode cX3_fault 1 = .ok (.invokevirtual 170, 3) := by decide +kernel
theorem dX3_fault_4 : decode cX3_fault 4 = .ok (.istore_n 3, 1) := by decide +kernel
theorem dX3_fault_5 : decode cX3_fault 5 = .ok (.iload_n 1, 1) := by decide +kernel
theorem dX3_fault_6 : decode cX3_fault 6 = .ok (.iconst 0, 1) := by decide +kernel
theorem dX3_fault_7 : decode cX3_fault 7 = .ok (.iload_n 3, 1) := by decide +kernel
theorem dX3_fault_8 : decode cX3_fault 8 = .ok (.iconst 1, 1) := by decide +kernel
theorem dX3_fault_9 : decode cX3_fault 9 = .ok (.isub, 1) := by decide +kernel
theorem dX3_fault_10 : decode cX3_fault 10 = .ok (.invokestatic 38, 3) := by decide +kernel
theorem dX3_fault_13 : decode cX3_fault 13 = .ok (.ifCond .eq 6, 3) := by decide +kernel
theorem dX3_fault_16 : decode cX3_fault 16 = .ok (.ldc 62, 2) := by decide +kernel
theorem dX3_fault_18 : decode cX3_fault 18 = .ok (.ireturn, 1) := by decide +kernel
theorem dX3_fault_19 : decode cX3_fault 19 = .ok (.iload_n 2, 1) := by decide +kernel
theorem dX3_fault_20 : decode cX3_fault 20 = .ok (.iconst 0, 1) := by decide +kernel
theorem dX3_fault_21 : decode cX3_fault 21 = .ok (.iconst 2, 1) := by decide +kernel
theorem dX3_fault_22 : decode cX3_fault 22 = .ok (.invokestatic 38, 3) := by decide +kernel
theorem dX3_fault_25 : decode cX3_fault 25 = .ok (.ifCond .eq 6, 3) := by decide +kernel
theorem dX3_fault_28 : decode cX3_fault 28 = .ok (.ldc 42, 2) := by decide +kernel
theorem dX3_fault_30 : decode cX3_fault 30 = .ok (.ireturn, 1) := by decide +kernel
theorem dX3_fault_31 : decode cX3_fault 31 = .ok (.aload_n 0, 1) := by decide +kernel
theorem dX3_fault_32 : decode cX3_fault 32 = .ok (.getfield 28, 3) := by decide +kernel
theorem dX3_fault_35 : decode cX3_fault 35 = .ok (.iload_n 1, 1) := by decide +kernel
theorem dX3_fault_36 : decode cX3_fault 36 = .ok (.iaload, 1) := by decide +kernel
theorem dX3_fault_37 : decode cX3_fault 37 = .ok (.bipush 60, 2) := by decide +kernel
theorem dX3_fault_39 : decode cX3_fault 39 = .ok (.idiv, 1) := by decide +kernel
theorem dX3_fault_40 : decode cX3_fault 40 = .ok (.istore 4, 2) := by decide +kernel
theorem dX3_fault_42 : decode cX3_fault 42 = .ok (.aload_n 0, 1) := by decide +kernel
theorem dX3_fault_43 : decode cX3_fault 43 = .ok (.getfield 28, 3) := by decide +kernel
theorem dX3_fault_46 : decode cX3_fault 46 = .ok (.iload_n 1, 1) := by decide +kernel
theorem dX3_fault_47 : decode cX3_fault 47 = .ok (.iaload, 1) := by decide +kernel
theorem dX3_fault_48 : decode cX3_fault 48 = .ok (.bipush 60, 2) := by decide +kernel
theorem dX3_fault_50 : decode cX3_fault 50 = .ok (.irem, 1) := by decide +kernel
theorem dX3_fault_51 : decode cX3_fault 51 = .ok (.istore 5, 2) := by decide +kernel
theorem dX3_fault_53 : decode cX3_fault 53 = .ok (.iload_n 2, 1) := by decide +kernel
theorem dX3_fault_54 : decode cX3_fault 54 = .ok (.lookupswitch 50 #[(0, 26), (1, 47)], 26) := by decide +kernel
theorem dX3_fault_80 : decode cX3_fault 80 = .ok (.aload_n 0, 1) := by decide +kernel
theorem dX3_fault_81 : decode cX3_fault 81 = .ok (.getfield 17, 3) := by decide +kernel
theorem dX3_fault_84 : decode cX3_fault 84 = .ok (.iload 4, 2) := by decide +kernel
theorem dX3_fault_86 : decode cX3_fault 86 = .ok (.aaload, 1) := by decide +kernel
theorem dX3_fault_87 : decode cX3_fault 87 = .ok (.iload 5, 2) := by decide +kernel
theorem dX3_fault_89 : decode cX3_fault 89 = .ok (.invokevirtual 173, 3) := by decide +kernel
theorem dX3_fault_92 : decode cX3_fault 92 = .ok (.ifCond .eq 7, 3) := by decide +kernel
theorem dX3_fault_95 : decode cX3_fault 95 = .ok (.iconst 2, 1) := by decide +kernel
theorem dX3_fault_96 : decode cX3_fault 96 = .ok (.goto 4, 3) := by decide +kernel
theorem dX3_fault_99 : decode cX3_fault 99 = .ok (.iconst 1, 1) := by decide +kernel
theorem dX3_fault_100 : decode cX3_fault 100 = .ok (.ireturn, 1) := by decide +kernel
theorem dX3_fault_101 : decode cX3_fault 101 = .ok (.iload 4, 2) := by decide +kernel
theorem dX3_fault_103 : decode cX3_fault 103 = .ok (.ireturn, 1) := by decide +kernel
theorem dX3_fault_104 : decode cX3_fault 104 = .ok (.iload 5, 2) := by decide +kernel
theorem dX3_fault_106 : decode cX3_fault 106 = .ok (.ireturn, 1) := by decide +kernel
theorem dX3_shares_0 : decode cX3_shares 0 = .ok (.iload_n 1, 1) := by decide +kernel
theorem dX3_shares_1 : decode cX3_shares 1 = .ok (.invokestatic 59, 3) := by decide +kernel
theorem dX3_shares_4 : decode cX3_shares 4 = .ok (.ifCond .ne 6, 3) := by decide +kernel
theorem dX3_shares_7 : decode cX3_shares 7 = .ok (.ldc 62, 2) := by decide +kernel
theorem dX3_shares_9 : decode cX3_shares 9 = .ok (.ireturn, 1) := by decide +kernel
theorem dX3_shares_10 : decode cX3_shares 10 = .ok (.aload_n 0, 1) := by decide +kernel
theorem dX3_shares_11 : decode cX3_shares 11 = .ok (.iload_n 1, 1) := by decide +kernel
theorem dX3_shares_12 : decode cX3_shares 12 = .ok (.invokevirtual 176, 3) := by decide +kernel
theorem dX3_shares_15 : decode cX3_shares 15 = .ok (.istore_n 2, 1) := by decide +kernel
theorem dX3_shares_16 : decode cX3_shares 16 = .ok (.iload_n 2, 1) := by decide +kernel
theorem dX3_shares_17 : decode cX3_shares 17 = .ok (.iconst (-1), 1) := by decide +kernel
theorem dX3_shares_18 : decode cX3_shares 18 = .ok (.if_icmp .ne 8, 3) := by decide +kernel
theorem dX3_shares_21 : decode cX3_shares 21 = .ok (.ldc 160, 2) := by decide +kernel
theorem dX3_shares_23 : decode cX3_shares 23 = .ok (.goto 4, 3) := by decide +kernel
theorem dX3_shares_26 : decode cX3_shares 26 = .ok (.iload_n 2, 1) := by decide +kernel
theorem dX3_shares_27 : decode cX3_shares 27 = .ok (.ireturn, 1) := by decide +kernel
theorem dX3_row_0 : decode cX3_row 0 = .ok (.iload_n 1, 1) := by decide +kernel
theorem dX3_row_1 : decode cX3_row 1 = .ok (.invokestatic 59, 3) := by decide +kernel
theorem dX3_row_4 : decode cX3_row 4 = .ok (.ifCond .ne 6, 3) := by decide +kernel
theorem dX3_row_7 : decode cX3_row 7 = .ok (.ldc 62, 2) := by decide +kernel
theorem dX3_row_9 : decode cX3_row 9 = .ok (.ireturn, 1) := by decide +kernel
theorem dX3_row_10 : decode cX3_row 10 = .ok (.aload_n 0, 1) := by decide +kernel
theorem dX3_row_11 : decode cX3_row 11 = .ok (.getfield 17, 3) := by decide +kernel
theorem dX3_row_14 : decode cX3_row 14 = .ok (.iload_n 1, 1) := by decide +kernel
theorem dX3_row_15 : decode cX3_row 15 = .ok (.aaload, 1) := by decide +kernel
theorem dX3_row_16 : decode cX3_row 16 = .ok (.invokevirtual 179, 3) := by decide +kernel
theorem dX3_row_19 : decode cX3_row 19 = .ok (.ifCond .ne 6, 3) := by decide +kernel
theorem dX3_row_22 : decode cX3_row 22 = .ok (.ldc 160, 2) := by decide +kernel
theorem dX3_row_24 : decode cX3_row 24 = .ok (.ireturn, 1) := by decide +kernel
theorem dX3_row_25 : decode cX3_row 25 = .ok (.aload_n 0, 1) := by decide +kernel
theorem dX3_row_26 : decode cX3_row 26 = .ok (.iload_n 1, 1) := by decide +kernel
theorem dX3_row_27 : decode cX3_row 27 = .ok (.invokevirtual 176, 3) := by decide +kernel
theorem dX3_row_30 : decode cX3_row 30 = .ok (.istore_n 2, 1) := by decide +kernel
theorem dX3_row_31 : decode cX3_row 31 = .ok (.iload_n 2, 1) := by decide +kernel
theorem dX3_row_32 : decode cX3_row 32 = .ok (.iconst (-1), 1) := by decide +kernel
theorem dX3_row_33 : decode cX3_row 33 = .ok (.if_icmp .ne 7, 3) := by decide +kernel
theorem dX3_row_36 : decode cX3_row 36 = .ok (.iload_n 1, 1) := by decide +kernel
theorem dX3_row_37 : decode cX3_row 37 = .ok (.goto 4, 3) := by decide +kernel
theorem dX3_row_40 : decode cX3_row 40 = .ok (.iload_n 2, 1) := by decide +kernel
theorem dX3_row_41 : decode cX3_row 41 = .ok (.istore_n 3, 1) := by decide +kernel
theorem dX3_row_42 : decode cX3_row 42 = .ok (.iconst 0, 1) := by decide +kernel
theorem dX3_row_43 : decode cX3_row 43 = .ok (.istore 4, 2) := by decide +kernel
theorem dX3_row_45 : decode cX3_row 45 = .ok (.iconst 0, 1) := by decide +kernel
theorem dX3_row_46 : decode cX3_row 46 = .ok (.istore 5, 2) := by decide +kernel
theorem dX3_row_48 : decode cX3_row 48 = .ok (.iload 5, 2) := by decide +kernel
theorem dX3_row_50 : decode cX3_row 50 = .ok (.iload_n 3, 1) := by decide +kernel
theorem dX3_row_51 : decode cX3_row 51 = .ok (.if_icmp .ge 35, 3) := by decide +kernel
theorem dX3_row_54 : decode cX3_row 54 = .ok (.aload_n 0, 1) := by decide +kernel
theorem dX3_row_55 : decode cX3_row 55 = .ok (.getfield 17, 3) := by decide +kernel
theorem dX3_row_58 : decode cX3_row 58 = .ok (.iload 5, 2) := by decide +kernel
theorem dX3_row_60 : decode cX3_row 60 = .ok (.aaload, 1) := by decide +kernel
theorem dX3_row_61 : decode cX3_row 61 = .ok (.invokevirtual 179, 3) := by decide +kernel
theorem dX3_row_64 : decode cX3_row 64 = .ok (.ifCond .eq 16, 3) := by decide +kernel
theorem dX3_row_67 : decode cX3_row 67 = .ok (.aload_n 0, 1) := by decide +kernel
theorem dX3_row_68 : decode cX3_row 68 = .ok (.iload 5, 2) := by decide +kernel
theorem dX3_row_70 : decode cX3_row 70 = .ok (.invokevirtual 176, 3) := by decide +kernel
theorem dX3_row_73 : decode cX3_row 73 = .ok (.iconst (-1), 1) := by decide +kernel
theorem dX3_row_74 : decode cX3_row 74 = .ok (.if_icmp .ne 6, 3) := by decide +kernel
theorem dX3_row_77 : decode cX3_row 77 = .ok (.iinc 4 1, 3) := by decide +kernel
theorem dX3_row_80 : decode cX3_row 80 = .ok (.iinc 5 1, 3) := by decide +kernel
theorem dX3_row_83 : decode cX3_row 83 = .ok (.goto (-35), 3) := by decide +kernel
theorem dX3_row_86 : decode cX3_row 86 = .ok (.iload 4, 2) := by decide +kernel
theorem dX3_row_88 : decode cX3_row 88 = .ok (.ireturn, 1) := by decide +kernel
theorem dX3_in_0 : decode cX3_in 0 = .ok (.aload_n 0, 1) := by decide +kernel
theorem dX3_in_1 : decode cX3_in 1 = .ok (.iload_n 1, 1) := by decide +kernel
theorem dX3_in_2 : decode cX3_in 2 = .ok (.invokevirtual 55, 3) := by decide +kernel
theorem dX3_in_5 : decode cX3_in 5 = .ok (.ifCond .ne 6, 3) := by decide +kernel
theorem dX3_in_8 : decode cX3_in 8 = .ok (.ldc 62, 2) := by decide +kernel
theorem dX3_in_10 : decode cX3_in 10 = .ok (.ireturn, 1) := by decide +kernel
theorem dX3_in_11 : decode cX3_in 11 = .ok (.iload_n 2, 1) := by decide +kernel
theorem dX3_in_12 : decode cX3_in 12 = .ok (.iconst 0, 1) := by decide +kernel
theorem dX3_in_13 : decode cX3_in 13 = .ok (.iconst 1, 1) := by decide +kernel
theorem dX3_in_14 : decode cX3_in 14 = .ok (.invokestatic 38, 3) := by decide +kernel
theorem dX3_in_17 : decode cX3_in 17 = .ok (.ifCond .eq 6, 3) := by decide +kernel
theorem dX3_in_20 : decode cX3_in 20 = .ok (.ldc 42, 2) := by decide +kernel
theorem dX3_in_22 : decode cX3_in 22 = .ok (.ireturn, 1) := by decide +kernel
theorem dX3_in_23 : decode cX3_in 23 = .ok (.iload_n 2, 1) := by decide +kernel
theorem dX3_in_24 : decode cX3_in 24 = .ok (.ifCond .ne 15, 3) := by decide +kernel
theorem dX3_in_27 : decode cX3_in 27 = .ok (.aload_n 0, 1) := by decide +kernel
theorem dX3_in_28 : decode cX3_in 28 = .ok (.getfield 11, 3) := by decide +kernel
theorem dX3_in_31 : decode cX3_in 31 = .ok (.iload_n 1, 1) := by decide +kernel
theorem dX3_in_32 : decode cX3_in 32 = .ok (.aaload, 1) := by decide +kernel
theorem dX3_in_33 : decode cX3_in 33 = .ok (.getfield 85, 3) := by decide +kernel
theorem dX3_in_36 : decode cX3_in 36 = .ok (.goto 12, 3) := by decide +kernel
theorem dX3_in_39 : decode cX3_in 39 = .ok (.aload_n 0, 1) := by decide +kernel
theorem dX3_in_40 : decode cX3_in 40 = .ok (.getfield 11, 3) := by decide +kernel
theorem dX3_in_43 : decode cX3_in 43 = .ok (.iload_n 1, 1) := by decide +kernel
theorem dX3_in_44 : decode cX3_in 44 = .ok (.aaload, 1) := by decide +kernel
theorem dX3_in_45 : decode cX3_in 45 = .ok (.getfield 100, 3) := by decide +kernel
theorem dX3_in_48 : decode cX3_in 48 = .ok (.istore_n 3, 1) := by decide +kernel
theorem dX3_in_49 : decode cX3_in 49 = .ok (.iload_n 3, 1) := by decide +kernel
theorem dX3_in_50 : decode cX3_in 50 = .ok (.iconst (-1), 1) := by decide +kernel
theorem dX3_in_51 : decode cX3_in 51 = .ok (.if_icmp .ne 8, 3) := by decide +kernel
theorem dX3_in_54 : decode cX3_in 54 = .ok (.ldc 160, 2) := by decide +kernel
theorem dX3_in_56 : decode cX3_in 56 = .ok (.goto 4, 3) := by decide +kernel
theorem dX3_in_59 : decode cX3_in 59 = .ok (.iload_n 3, 1) := by decide +kernel
theorem dX3_in_60 : decode cX3_in 60 = .ok (.ireturn, 1) := by decide +kernel
theorem dX3_pattern_0 : decode cX3_pattern 0 = .ok (.lload_n 1, 1) := by decide +kernel
theorem dX3_pattern_1 : decode cX3_pattern 1 = .ok (.invokestatic 183, 3) := by decide +kernel
theorem dX3_pattern_4 : decode cX3_pattern 4 = .ok (.istore 4, 2) := by decide +kernel
theorem dX3_pattern_6 : decode cX3_pattern 6 = .ok (.iload 4, 2) := by decide +kernel
theorem dX3_pattern_8 : decode cX3_pattern 8 = .ok (.ifCond .eq 12, 3) := by decide +kernel
theorem dX3_pattern_11 : decode cX3_pattern 11 = .ok (.iload 4, 2) := by decide +kernel
theorem dX3_pattern_13 : decode cX3_pattern 13 = .ok (.iload_n 3, 1) := by decide +kernel
theorem dX3_pattern_14 : decode cX3_pattern 14 = .ok (.invokestatic 187, 3) := by decide +kernel
theorem dX3_pattern_17 : decode cX3_pattern 17 = .ok (.ifCond .ne 6, 3) := by decide +kernel
theorem dX3_pattern_20 : decode cX3_pattern 20 = .ok (.ldc 42, 2) := by decide +kernel
theorem dX3_pattern_22 : decode cX3_pattern 22 = .ok (.ireturn, 1) := by decide +kernel
theorem dX3_pattern_23 : decode cX3_pattern 23 = .ok (.aload_n 0, 1) := by decide +kernel
theorem dX3_pattern_24 : decode cX3_pattern 24 = .ok (.getfield 24, 3) := by decide +kernel
theorem dX3_pattern_27 : decode cX3_pattern 27 = .ok (.getfield 190, 3) := by decide +kernel
theorem dX3_pattern_30 : decode cX3_pattern 30 = .ok (.bipush 30, 2) := by decide +kernel
theorem dX3_pattern_32 : decode cX3_pattern 32 = .ok (.if_icmp .lt 6, 3) := by decide +kernel
theorem dX3_pattern_35 : decode cX3_pattern 35 = .ok (.ldc 46, 2) := by decide +kernel
theorem dX3_pattern_37 : decode cX3_pattern 37 = .ok (.ireturn, 1) := by decide +kernel
theorem dX3_pattern_38 : decode cX3_pattern 38 = .ok (.aload_n 0, 1) := by decide +kernel
theorem dX3_pattern_39 : decode cX3_pattern 39 = .ok (.getfield 24, 3) := by decide +kernel
theorem dX3_pattern_42 : decode cX3_pattern 42 = .ok (.lload_n 1, 1) := by decide +kernel
theorem dX3_pattern_43 : decode cX3_pattern 43 = .ok (.l2i, 1) := by decide +kernel
theorem dX3_pattern_44 : decode cX3_pattern 44 = .ok (.iload 4, 2) := by decide +kernel
theorem dX3_pattern_46 : decode cX3_pattern 46 = .ok (.iload_n 3, 1) := by decide +kernel
theorem dX3_pattern_47 : decode cX3_pattern 47 = .ok (.invokevirtual 193, 3) := by decide +kernel
theorem dX3_pattern_50 : decode cX3_pattern 50 = .ok (.ireturn, 1) := by decide +kernel
theorem dX3_letter_0 : decode cX3_letter 0 = .ok (.iload_n 1, 1) := by decide +kernel
theorem dX3_letter_1 : decode cX3_letter 1 = .ok (.iconst 0, 1) := by decide +kernel
theorem dX3_letter_2 : decode cX3_letter 2 = .ok (.bipush 26, 2) := by decide +kernel
theorem dX3_letter_4 : decode cX3_letter 4 = .ok (.invokestatic 38, 3) := by decide +kernel
theorem dX3_letter_7 : decode cX3_letter 7 = .ok (.ifCond .eq 6, 3) := by decide +kernel
theorem dX3_letter_10 : decode cX3_letter 10 = .ok (.ldc 42, 2) := by decide +kernel
theorem dX3_letter_12 : decode cX3_letter 12 = .ok (.ireturn, 1) := by decide +kernel
theorem dX3_letter_13 : decode cX3_letter 13 = .ok (.iload_n 1, 1) := by decide +kernel
theorem dX3_letter_14 : decode cX3_letter 14 = .ok (.ifCond .ne 13, 3) := by decide +kernel
theorem dX3_letter_17 : decode cX3_letter 17 = .ok (.aload_n 0, 1) := by decide +kernel
theorem dX3_letter_18 : decode cX3_letter 18 = .ok (.getfield 24, 3) := by decide +kernel
theorem dX3_letter_21 : decode cX3_letter 21 = .ok (.iconst 0, 1) := by decide +kernel
theorem dX3_letter_22 : decode cX3_letter 22 = .ok (.putfield 197, 3) := by decide +kernel
theorem dX3_letter_25 : decode cX3_letter 25 = .ok (.iconst 0, 1) := by decide +kernel
theorem dX3_letter_26 : decode cX3_letter 26 = .ok (.ireturn, 1) := by decide +kernel
theorem dX3_letter_27 : decode cX3_letter 27 = .ok (.aload_n 0, 1) := by decide +kernel
theorem dX3_letter_28 : decode cX3_letter 28 = .ok (.getfield 24, 3) := by decide +kernel
theorem dX3_letter_31 : decode cX3_letter 31 = .ok (.getfield 197, 3) := by decide +kernel
theorem dX3_letter_34 : decode cX3_letter 34 = .ok (.bipush 24, 2) := by decide +kernel
theorem dX3_letter_36 : decode cX3_letter 36 = .ok (.if_icmp .lt 6, 3) := by decide +kernel
theorem dX3_letter_39 : decode cX3_letter 39 = .ok (.ldc 46, 2) := by decide +kernel
theorem dX3_letter_41 : decode cX3_letter 41 = .ok (.ireturn, 1) := by decide +kernel
theorem dX3_letter_42 : decode cX3_letter 42 = .ok (.aload_n 0, 1) := by decide +kernel
theorem dX3_letter_43 : decode cX3_letter 43 = .ok (.getfield 24, 3) := by decide +kernel
theorem dX3_letter_46 : decode cX3_letter 46 = .ok (.iload_n 1, 1) := by decide +kernel
theorem dX3_letter_47 : decode cX3_letter 47 = .ok (.invokevirtual 200, 3) := by decide +kernel
theorem dX3_letter_50 : decode cX3_letter 50 = .ok (.ireturn, 1) := by decide +kernel
theorem dX3_sides_0 : decode cX3_sides 0 = .ok (.iload_n 1, 1) := by decide +kernel
theorem dX3_sides_1 : decode cX3_sides 1 = .ok (.iconst 0, 1) := by decide +kernel
theorem dX3_sides_2 : decode cX3_sides 2 = .ok (.iconst 1, 1) := by decide +kernel
theorem dX3_sides_3 : decode cX3_sides 3 = .ok (.invokestatic 38, 3) := by decide +kernel
theorem dX3_sides_6 : decode cX3_sides 6 = .ok (.ifCond .ne 13, 3) := by decide +kernel
theorem dX3_sides_9 : decode cX3_sides 9 = .ok (.iload_n 2, 1) := by decide +kernel
theorem dX3_sides_10 : decode cX3_sides 10 = .ok (.iconst 1, 1) := by decide +kernel
theorem dX3_sides_11 : decode cX3_sides 11 = .ok (.bipush 24, 2) := by decide +kernel
theorem dX3_sides_13 : decode cX3_sides 13 = .ok (.invokestatic 38, 3) := by decide +kernel
theorem dX3_sides_16 : decode cX3_sides 16 = .ok (.ifCond .eq 6, 3) := by decide +kernel
theorem dX3_sides_19 : decode cX3_sides 19 = .ok (.ldc 42, 2) := by decide +kernel
theorem dX3_sides_21 : decode cX3_sides 21 = .ok (.ireturn, 1) := by decide +kernel
theorem dX3_sides_22 : decode cX3_sides 22 = .ok (.iload_n 1, 1) := by decide +kernel
theorem dX3_sides_23 : decode cX3_sides 23 = .ok (.ifCond .ne 14, 3) := by decide +kernel
theorem dX3_sides_26 : decode cX3_sides 26 = .ok (.aload_n 0, 1) := by decide +kernel
theorem dX3_sides_27 : decode cX3_sides 27 = .ok (.getfield 24, 3) := by decide +kernel
theorem dX3_sides_30 : decode cX3_sides 30 = .ok (.iload_n 2, 1) := by decide +kernel
theorem dX3_sides_31 : decode cX3_sides 31 = .ok (.invokevirtual 203, 3) := by decide +kernel
theorem dX3_sides_34 : decode cX3_sides 34 = .ok (.goto 11, 3) := by decide +kernel
theorem dX3_sides_37 : decode cX3_sides 37 = .ok (.aload_n 0, 1) := by decide +kernel
theorem dX3_sides_38 : decode cX3_sides 38 = .ok (.getfield 24, 3) := by decide +kernel
theorem dX3_sides_41 : decode cX3_sides 41 = .ok (.iload_n 2, 1) := by decide +kernel
theorem dX3_sides_42 : decode cX3_sides 42 = .ok (.invokevirtual 206, 3) := by decide +kernel
theorem dX3_sides_45 : decode cX3_sides 45 = .ok (.ireturn, 1) := by decide +kernel
theorem dX3_cuts_0 : decode cX3_cuts 0 = .ok (.aload_n 0, 1) := by decide +kernel
theorem dX3_cuts_1 : decode cX3_cuts 1 = .ok (.getfield 24, 3) := by decide +kernel
theorem dX3_cuts_4 : decode cX3_cuts 4 = .ok (.invokevirtual 209, 3) := by decide +kernel
theorem dX3_cuts_7 : decode cX3_cuts 7 = .ok (.ireturn, 1) := by decide +kernel
theorem dX3_cut_0 : decode cX3_cut 0 = .ok (.iload_n 1, 1) := by decide +kernel
theorem dX3_cut_1 : decode cX3_cut 1 = .ok (.iconst 0, 1) := by decide +kernel
theorem dX3_cut_2 : decode cX3_cut 2 = .ok (.aload_n 0, 1) := by decide +kernel
theorem dX3_cut_3 : decode cX3_cut 3 = .ok (.getfield 24, 3) := by decide +kernel
theorem dX3_cut_6 : decode cX3_cut 6 = .ok (.getfield 212, 3) := by decide +kernel
theorem dX3_cut_9 : decode cX3_cut 9 = .ok (.iconst 1, 1) := by decide +kernel
theorem dX3_cut_10 : decode cX3_cut 10 = .ok (.isub, 1) := by decide +kernel
theorem dX3_cut_11 : decode cX3_cut 11 = .ok (.invokestatic 38, 3) := by decide +kernel
theorem dX3_cut_14 : decode cX3_cut 14 = .ok (.ifCond .eq 13, 3) := by decide +kernel
theorem dX3_cut_17 : decode cX3_cut 17 = .ok (.new 150, 3) := by decide +kernel
theorem dX3_cut_20 : decode cX3_cut 20 = .ok (.dup, 1) := by decide +kernel
theorem dX3_cut_21 : decode cX3_cut 21 = .ok (.ldc 215, 2) := by decide +kernel
theorem dX3_cut_23 : decode cX3_cut 23 = .ok (.invokespecial 154, 3) := by decide +kernel
theorem dX3_cut_26 : decode cX3_cut 26 = .ok (.athrow, 1) := by decide +kernel
theorem dX3_cut_27 : decode cX3_cut 27 = .ok (.aload_n 0, 1) := by decide +kernel
theorem dX3_cut_28 : decode cX3_cut 28 = .ok (.getfield 24, 3) := by decide +kernel
theorem dX3_cut_31 : decode cX3_cut 31 = .ok (.getfield 217, 3) := by decide +kernel
theorem dX3_cut_34 : decode cX3_cut 34 = .ok (.iload_n 1, 1) := by decide +kernel
theorem dX3_cut_35 : decode cX3_cut 35 = .ok (.iaload, 1) := by decide +kernel
theorem dX3_cut_36 : decode cX3_cut 36 = .ok (.ireturn, 1) := by decide +kernel
theorem dX3_told_0 : decode cX3_told 0 = .ok (.iload_n 1, 1) := by decide +kernel
theorem dX3_told_1 : decode cX3_told 1 = .ok (.tableswitch 96 0 7 #[47, 52, 57, 62, 67, 75, 83, 88], 47) := by decide +kernel
theorem dX3_told_48 : decode cX3_told 48 = .ok (.aload_n 0, 1) := by decide +kernel
theorem dX3_told_49 : decode cX3_told 49 = .ok (.getfield 43, 3) := by decide +kernel
theorem dX3_told_52 : decode cX3_told 52 = .ok (.ireturn, 1) := by decide +kernel
theorem dX3_told_53 : decode cX3_told 53 = .ok (.aload_n 0, 1) := by decide +kernel
theorem dX3_told_54 : decode cX3_told 54 = .ok (.invokevirtual 220, 3) := by decide +kernel
theorem dX3_told_57 : decode cX3_told 57 = .ok (.ireturn, 1) := by decide +kernel
theorem dX3_told_58 : decode cX3_told 58 = .ok (.aload_n 0, 1) := by decide +kernel
theorem dX3_told_59 : decode cX3_told 59 = .ok (.getfield 91, 3) := by decide +kernel
theorem dX3_told_62 : decode cX3_told 62 = .ok (.ireturn, 1) := by decide +kernel
theorem dX3_told_63 : decode cX3_told 63 = .ok (.aload_n 0, 1) := by decide +kernel
theorem dX3_told_64 : decode cX3_told 64 = .ok (.getfield 97, 3) := by decide +kernel
theorem dX3_told_67 : decode cX3_told 67 = .ok (.ireturn, 1) := by decide +kernel
theorem dX3_told_68 : decode cX3_told 68 = .ok (.aload_n 0, 1) := by decide +kernel
theorem dX3_told_69 : decode cX3_told 69 = .ok (.getfield 24, 3) := by decide +kernel
theorem dX3_told_72 : decode cX3_told 72 = .ok (.getfield 190, 3) := by decide +kernel
theorem dX3_told_75 : decode cX3_told 75 = .ok (.ireturn, 1) := by decide +kernel
theorem dX3_told_76 : decode cX3_told 76 = .ok (.aload_n 0, 1) := by decide +kernel
theorem dX3_told_77 : decode cX3_told 77 = .ok (.getfield 24, 3) := by decide +kernel
theorem dX3_told_80 : decode cX3_told 80 = .ok (.getfield 197, 3) := by decide +kernel
theorem dX3_told_83 : decode cX3_told 83 = .ok (.ireturn, 1) := by decide +kernel
theorem dX3_told_84 : decode cX3_told 84 = .ok (.aload_n 0, 1) := by decide +kernel
theorem dX3_told_85 : decode cX3_told 85 = .ok (.invokevirtual 223, 3) := by decide +kernel
theorem dX3_told_88 : decode cX3_told 88 = .ok (.ireturn, 1) := by decide +kernel
theorem dX3_told_89 : decode cX3_told 89 = .ok (.aload_n 0, 1) := by decide +kernel
theorem dX3_told_90 : decode cX3_told 90 = .ok (.getfield 51, 3) := by decide +kernel
theorem dX3_told_93 : decode cX3_told 93 = .ok (.invokestatic 109, 3) := by decide +kernel
theorem dX3_told_96 : decode cX3_told 96 = .ok (.ireturn, 1) := by decide +kernel
theorem dX3_told_97 : decode cX3_told 97 = .ok (.ldc 42, 2) := by decide +kernel
theorem dX3_told_99 : decode cX3_told 99 = .ok (.ireturn, 1) := by decide +kernel
theorem dX3_clear_0 : decode cX3_clear 0 = .ok (.aload_n 0, 1) := by decide +kernel
theorem dX3_clear_1 : decode cX3_clear 1 = .ok (.getfield 43, 3) := by decide +kernel
theorem dX3_clear_4 : decode cX3_clear 4 = .ok (.istore_n 1, 1) := by decide +kernel
theorem dX3_clear_5 : decode cX3_clear 5 = .ok (.iconst 0, 1) := by decide +kernel
theorem dX3_clear_6 : decode cX3_clear 6 = .ok (.istore_n 2, 1) := by decide +kernel
theorem dX3_clear_7 : decode cX3_clear 7 = .ok (.iload_n 2, 1) := by decide +kernel
theorem dX3_clear_8 : decode cX3_clear 8 = .ok (.iconst 4, 1) := by decide +kernel
theorem dX3_clear_9 : decode cX3_clear 9 = .ok (.if_icmp .ge 18, 3) := by decide +kernel
theorem dX3_clear_12 : decode cX3_clear 12 = .ok (.aload_n 0, 1) := by decide +kernel
theorem dX3_clear_13 : decode cX3_clear 13 = .ok (.getfield 17, 3) := by decide +kernel
theorem dX3_clear_16 : decode cX3_clear 16 = .ok (.iload_n 2, 1) := by decide +kernel
theorem dX3_clear_17 : decode cX3_clear 17 = .ok (.aaload, 1) := by decide +kernel
theorem dX3_clear_18 : decode cX3_clear 18 = .ok (.invokevirtual 226, 3) := by decide +kernel
theorem dX3_clear_21 : decode cX3_clear 21 = .ok (.iinc 2 1, 3) := by decide +kernel
theorem dX3_clear_24 : decode cX3_clear 24 = .ok (.goto (-17), 3) := by decide +kernel
theorem dX3_clear_27 : decode cX3_clear 27 = .ok (.aload_n 0, 1) := by decide +kernel
theorem dX3_clear_28 : decode cX3_clear 28 = .ok (.getfield 24, 3) := by decide +kernel
theorem dX3_clear_31 : decode cX3_clear 31 = .ok (.invokevirtual 229, 3) := by decide +kernel
theorem dX3_clear_34 : decode cX3_clear 34 = .ok (.aload_n 0, 1) := by decide +kernel
theorem dX3_clear_35 : decode cX3_clear 35 = .ok (.iconst 0, 1) := by decide +kernel
theorem dX3_clear_36 : decode cX3_clear 36 = .ok (.putfield 43, 3) := by decide +kernel
theorem dX3_clear_39 : decode cX3_clear 39 = .ok (.aload_n 0, 1) := by decide +kernel
theorem dX3_clear_40 : decode cX3_clear 40 = .ok (.iconst 0, 1) := by decide +kernel
theorem dX3_clear_41 : decode cX3_clear 41 = .ok (.putfield 91, 3) := by decide +kernel
theorem dX3_clear_44 : decode cX3_clear 44 = .ok (.aload_n 0, 1) := by decide +kernel
theorem dX3_clear_45 : decode cX3_clear 45 = .ok (.iconst 0, 1) := by decide +kernel
theorem dX3_clear_46 : decode cX3_clear 46 = .ok (.putfield 97, 3) := by decide +kernel
theorem dX3_clear_49 : decode cX3_clear 49 = .ok (.aload_n 0, 1) := by decide +kernel
theorem dX3_clear_50 : decode cX3_clear 50 = .ok (.sipush 2000, 3) := by decide +kernel
theorem dX3_clear_53 : decode cX3_clear 53 = .ok (.putfield 32, 3) := by decide +kernel
theorem dX3_clear_56 : decode cX3_clear 56 = .ok (.aload_n 0, 1) := by decide +kernel
theorem dX3_clear_57 : decode cX3_clear 57 = .ok (.iconst 0, 1) := by decide +kernel
theorem dX3_clear_58 : decode cX3_clear 58 = .ok (.putfield 51, 3) := by decide +kernel
theorem dX3_clear_61 : decode cX3_clear 61 = .ok (.iload_n 1, 1) := by decide +kernel
theorem dX3_clear_62 : decode cX3_clear 62 = .ok (.ireturn, 1) := by decide +kernel
theorem dX3_isOutside_0 : decode cX3_isOutside 0 = .ok (.iload_n 0, 1) := by decide +kernel
theorem dX3_isOutside_1 : decode cX3_isOutside 1 = .ok (.iload_n 1, 1) := by decide +kernel
theorem dX3_isOutside_2 : decode cX3_isOutside 2 = .ok (.if_icmp .lt 8, 3) := by decide +kernel
theorem dX3_isOutside_5 : decode cX3_isOutside 5 = .ok (.iload_n 0, 1) := by decide +kernel
theorem dX3_isOutside_6 : decode cX3_isOutside 6 = .ok (.iload_n 2, 1) := by decide +kernel
theorem dX3_isOutside_7 : decode cX3_isOutside 7 = .ok (.if_icmp .le 7, 3) := by decide +kernel
theorem dX3_isOutside_10 : decode cX3_isOutside 10 = .ok (.iconst 1, 1) := by decide +kernel
theorem dX3_isOutside_11 : decode cX3_isOutside 11 = .ok (.goto 4, 3) := by decide +kernel
theorem dX3_isOutside_14 : decode cX3_isOutside 14 = .ok (.iconst 0, 1) := by decide +kernel
theorem dX3_isOutside_15 : decode cX3_isOutside 15 = .ok (.ireturn, 1) := by decide +kernel
theorem dX3_asNumber_0 : decode cX3_asNumber 0 = .ok (.iload_n 0, 1) := by decide +kernel
theorem dX3_asNumber_1 : decode cX3_asNumber 1 = .ok (.ifCond .eq 7, 3) := by decide +kernel
theorem dX3_asNumber_4 : decode cX3_asNumber 4 = .ok (.iconst 1, 1) := by decide +kernel
theorem dX3_asNumber_5 : decode cX3_asNumber 5 = .ok (.goto 4, 3) := by decide +kernel
theorem dX3_asNumber_8 : decode cX3_asNumber 8 = .ok (.iconst 0, 1) := by decide +kernel
theorem dX3_asNumber_9 : decode cX3_asNumber 9 = .ok (.ireturn, 1) := by decide +kernel
theorem dX3_isNote_0 : decode cX3_isNote 0 = .ok (.iload_n 1, 1) := by decide +kernel
theorem dX3_isNote_1 : decode cX3_isNote 1 = .ok (.ifCond .lt 15, 3) := by decide +kernel
theorem dX3_isNote_4 : decode cX3_isNote 4 = .ok (.iload_n 1, 1) := by decide +kernel
theorem dX3_isNote_5 : decode cX3_isNote 5 = .ok (.aload_n 0, 1) := by decide +kernel
theorem dX3_isNote_6 : decode cX3_isNote 6 = .ok (.getfield 43, 3) := by decide +kernel
theorem dX3_isNote_9 : decode cX3_isNote 9 = .ok (.if_icmp .ge 7, 3) := by decide +kernel
theorem dX3_isNote_12 : decode cX3_isNote 12 = .ok (.iconst 1, 1) := by decide +kernel
theorem dX3_isNote_13 : decode cX3_isNote 13 = .ok (.goto 4, 3) := by decide +kernel
theorem dX3_isNote_16 : decode cX3_isNote 16 = .ok (.iconst 0, 1) := by decide +kernel
theorem dX3_isNote_17 : decode cX3_isNote 17 = .ok (.ireturn, 1) := by decide +kernel
theorem dX3_isVerse_0 : decode cX3_isVerse 0 = .ok (.iload_n 0, 1) := by decide +kernel
theorem dX3_isVerse_1 : decode cX3_isVerse 1 = .ok (.ifCond .lt 12, 3) := by decide +kernel
theorem dX3_isVerse_4 : decode cX3_isVerse 4 = .ok (.iload_n 0, 1) := by decide +kernel
theorem dX3_isVerse_5 : decode cX3_isVerse 5 = .ok (.iconst 4, 1) := by decide +kernel
theorem dX3_isVerse_6 : decode cX3_isVerse 6 = .ok (.if_icmp .ge 7, 3) := by decide +kernel
theorem dX3_isVerse_9 : decode cX3_isVerse 9 = .ok (.iconst 1, 1) := by decide +kernel
theorem dX3_isVerse_10 : decode cX3_isVerse 10 = .ok (.goto 4, 3) := by decide +kernel
theorem dX3_isVerse_13 : decode cX3_isVerse 13 = .ok (.iconst 0, 1) := by decide +kernel
theorem dX3_isVerse_14 : decode cX3_isVerse 14 = .ok (.ireturn, 1) := by decide +kernel
theorem dX3_isBox_0 : decode cX3_isBox 0 = .ok (.aload_n 0, 1) := by decide +kernel
theorem dX3_isBox_1 : decode cX3_isBox 1 = .ok (.iload_n 1, 1) := by decide +kernel
theorem dX3_isBox_2 : decode cX3_isBox 2 = .ok (.invokevirtual 55, 3) := by decide +kernel
theorem dX3_isBox_5 : decode cX3_isBox 5 = .ok (.ifCond .eq 27, 3) := by decide +kernel
theorem dX3_isBox_8 : decode cX3_isBox 8 = .ok (.iload_n 2, 1) := by decide +kernel
theorem dX3_isBox_9 : decode cX3_isBox 9 = .ok (.invokestatic 59, 3) := by decide +kernel
theorem dX3_isBox_12 : decode cX3_isBox 12 = .ok (.ifCond .eq 20, 3) := by decide +kernel
theorem dX3_isBox_15 : decode cX3_isBox 15 = .ok (.aload_n 0, 1) := by decide +kernel
theorem dX3_isBox_16 : decode cX3_isBox 16 = .ok (.getfield 17, 3) := by decide +kernel
theorem dX3_isBox_19 : decode cX3_isBox 19 = .ok (.iload_n 2, 1) := by decide +kernel
theorem dX3_isBox_20 : decode cX3_isBox 20 = .ok (.aaload, 1) := by decide +kernel
theorem dX3_isBox_21 : decode cX3_isBox 21 = .ok (.iload_n 1, 1) := by decide +kernel
theorem dX3_isBox_22 : decode cX3_isBox 22 = .ok (.invokevirtual 173, 3) := by decide +kernel
theorem dX3_isBox_25 : decode cX3_isBox 25 = .ok (.ifCond .eq 7, 3) := by decide +kernel
theorem dX3_isBox_28 : decode cX3_isBox 28 = .ok (.iconst 1, 1) := by decide +kernel
theorem dX3_isBox_29 : decode cX3_isBox 29 = .ok (.goto 4, 3) := by decide +kernel
theorem dX3_isBox_32 : decode cX3_isBox 32 = .ok (.iconst 0, 1) := by decide +kernel
theorem dX3_isBox_33 : decode cX3_isBox 33 = .ok (.ireturn, 1) := by decide +kernel
theorem dX3_maySing_0 : decode cX3_maySing 0 = .ok (.aload_n 0, 1) := by decide +kernel
theorem dX3_maySing_1 : decode cX3_maySing 1 = .ok (.getfield 11, 3) := by decide +kernel
theorem dX3_maySing_4 : decode cX3_maySing 4 = .ok (.iload_n 1, 1) := by decide +kernel
theorem dX3_maySing_5 : decode cX3_maySing 5 = .ok (.aaload, 1) := by decide +kernel
theorem dX3_maySing_6 : decode cX3_maySing 6 = .ok (.astore_n 3, 1) := by decide +kernel
theorem dX3_maySing_7 : decode cX3_maySing 7 = .ok (.aload_n 3, 1) := by decide +kernel
theorem dX3_maySing_8 : decode cX3_maySing 8 = .ok (.getfield 230, 3) := by decide +kernel
theorem dX3_maySing_11 : decode cX3_maySing 11 = .ok (.ifCond .ne 27, 3) := by decide +kernel
theorem dX3_maySing_14 : decode cX3_maySing 14 = .ok (.aload_n 0, 1) := by decide +kernel
theorem dX3_maySing_15 : decode cX3_maySing 15 = .ok (.iload_n 1, 1) := by decide +kernel
theorem dX3_maySing_16 : decode cX3_maySing 16 = .ok (.invokevirtual 233, 3) := by decide +kernel
theorem dX3_maySing_19 : decode cX3_maySing 19 = .ok (.ifCond .ne 19, 3) := by decide +kernel
theorem dX3_maySing_22 : decode cX3_maySing 22 = .ok (.iload_n 2, 1) := by decide +kernel
theorem dX3_maySing_23 : decode cX3_maySing 23 = .ok (.ifCond .eq 11, 3) := by decide +kernel
theorem dX3_maySing_26 : decode cX3_maySing 26 = .ok (.aload_n 3, 1) := by decide +kernel
theorem dX3_maySing_27 : decode cX3_maySing 27 = .ok (.getfield 100, 3) := by decide +kernel
theorem dX3_maySing_30 : decode cX3_maySing 30 = .ok (.iconst (-1), 1) := by decide +kernel
theorem dX3_maySing_31 : decode cX3_maySing 31 = .ok (.if_icmp .ne 7, 3) := by decide +kernel
theorem dX3_maySing_34 : decode cX3_maySing 34 = .ok (.iconst 1, 1) := by decide +kernel
theorem dX3_maySing_35 : decode cX3_maySing 35 = .ok (.goto 4, 3) := by decide +kernel
theorem dX3_maySing_38 : decode cX3_maySing 38 = .ok (.iconst 0, 1) := by decide +kernel
theorem dX3_maySing_39 : decode cX3_maySing 39 = .ok (.ireturn, 1) := by decide +kernel
theorem dX3_isBehindMelismaFirst_0 : decode cX3_isBehindMelismaFirst 0 = .ok (.aload_n 0, 1) := by decide +kernel
theorem dX3_isBehindMelismaFirst_1 : decode cX3_isBehindMelismaFirst 1 = .ok (.getfield 11, 3) := by decide +kernel
theorem dX3_isBehindMelismaFirst_4 : decode cX3_isBehindMelismaFirst 4 = .ok (.iload_n 1, 1) := by decide +kernel
theorem dX3_isBehindMelismaFirst_5 : decode cX3_isBehindMelismaFirst 5 = .ok (.aaload, 1) := by decide +kernel
theorem dX3_isBehindMelismaFirst_6 : decode cX3_isBehindMelismaFirst 6 = .ok (.getfield 85, 3) := by decide +kernel
theorem dX3_isBehindMelismaFirst_9 : decode cX3_isBehindMelismaFirst 9 = .ok (.iconst (-1), 1) := by decide +kernel
theorem dX3_isBehindMelismaFirst_10 : decode cX3_isBehindMelismaFirst 10 = .ok (.if_icmp .eq 20, 3) := by decide +kernel
theorem dX3_isBehindMelismaFirst_13 : decode cX3_isBehindMelismaFirst 13 = .ok (.aload_n 0, 1) := by decide +kernel
theorem dX3_isBehindMelismaFirst_14 : decode cX3_isBehindMelismaFirst 14 = .ok (.getfield 11, 3) := by decide +kernel
theorem dX3_isBehindMelismaFirst_17 : decode cX3_isBehindMelismaFirst 17 = .ok (.iload_n 1, 1) := by decide +kernel
theorem dX3_isBehindMelismaFirst_18 : decode cX3_isBehindMelismaFirst 18 = .ok (.aaload, 1) := by decide +kernel
theorem dX3_isBehindMelismaFirst_19 : decode cX3_isBehindMelismaFirst 19 = .ok (.getfield 85, 3) := by decide +kernel
theorem dX3_isBehindMelismaFirst_22 : decode cX3_isBehindMelismaFirst 22 = .ok (.iload_n 1, 1) := by decide +kernel
theorem dX3_isBehindMelismaFirst_23 : decode cX3_isBehindMelismaFirst 23 = .ok (.if_icmp .eq 7, 3) := by decide +kernel
theorem dX3_isBehindMelismaFirst_26 : decode cX3_isBehindMelismaFirst 26 = .ok (.iconst 1, 1) := by decide +kernel
theorem dX3_isBehindMelismaFirst_27 : decode cX3_isBehindMelismaFirst 27 = .ok (.goto 4, 3) := by decide +kernel
theorem dX3_isBehindMelismaFirst_30 : decode cX3_isBehindMelismaFirst 30 = .ok (.iconst 0, 1) := by decide +kernel
theorem dX3_isBehindMelismaFirst_31 : decode cX3_isBehindMelismaFirst 31 = .ok (.ireturn, 1) := by decide +kernel
theorem dX3_mayBeMelisma_0 : decode cX3_mayBeMelisma 0 = .ok (.iload_n 1, 1) := by decide +kernel
theorem dX3_mayBeMelisma_1 : decode cX3_mayBeMelisma 1 = .ok (.istore_n 3, 1) := by decide +kernel
theorem dX3_mayBeMelisma_2 : decode cX3_mayBeMelisma 2 = .ok (.iload_n 3, 1) := by decide +kernel
theorem dX3_mayBeMelisma_3 : decode cX3_mayBeMelisma 3 = .ok (.iload_n 1, 1) := by decide +kernel
theorem dX3_mayBeMelisma_4 : decode cX3_mayBeMelisma 4 = .ok (.iload_n 2, 1) := by decide +kernel
theorem dX3_mayBeMelisma_5 : decode cX3_mayBeMelisma 5 = .ok (.iadd, 1) := by decide +kernel
theorem dX3_mayBeMelisma_6 : decode cX3_mayBeMelisma 6 = .ok (.if_icmp .ge 52, 3) := by decide +kernel
theorem dX3_mayBeMelisma_9 : decode cX3_mayBeMelisma 9 = .ok (.aload_n 0, 1) := by decide +kernel
theorem dX3_mayBeMelisma_10 : decode cX3_mayBeMelisma 10 = .ok (.getfield 11, 3) := by decide +kernel
theorem dX3_mayBeMelisma_13 : decode cX3_mayBeMelisma 13 = .ok (.iload_n 3, 1) := by decide +kernel
theorem dX3_mayBeMelisma_14 : decode cX3_mayBeMelisma 14 = .ok (.aaload, 1) := by decide +kernel
theorem dX3_mayBeMelisma_15 : decode cX3_mayBeMelisma 15 = .ok (.getfield 230, 3) := by decide +kernel
theorem dX3_mayBeMelisma_18 : decode cX3_mayBeMelisma 18 = .ok (.ifCond .ne 16, 3) := by decide +kernel
theorem dX3_mayBeMelisma_21 : decode cX3_mayBeMelisma 21 = .ok (.aload_n 0, 1) := by decide +kernel
theorem dX3_mayBeMelisma_22 : decode cX3_mayBeMelisma 22 = .ok (.getfield 11, 3) := by decide +kernel
theorem dX3_mayBeMelisma_25 : decode cX3_mayBeMelisma 25 = .ok (.iload_n 3, 1) := by decide +kernel
theorem dX3_mayBeMelisma_26 : decode cX3_mayBeMelisma 26 = .ok (.aaload, 1) := by decide +kernel
theorem dX3_mayBeMelisma_27 : decode cX3_mayBeMelisma 27 = .ok (.getfield 85, 3) := by decide +kernel
theorem dX3_mayBeMelisma_30 : decode cX3_mayBeMelisma 30 = .ok (.iconst (-1), 1) := by decide +kernel
theorem dX3_mayBeMelisma_31 : decode cX3_mayBeMelisma 31 = .ok (.if_icmp .eq 5, 3) := by decide +kernel
theorem dX3_mayBeMelisma_34 : decode cX3_mayBeMelisma 34 = .ok (.iconst 0, 1) := by decide +kernel
theorem dX3_mayBeMelisma_35 : decode cX3_mayBeMelisma 35 = .ok (.ireturn, 1) := by decide +kernel
theorem dX3_mayBeMelisma_36 : decode cX3_mayBeMelisma 36 = .ok (.iload_n 3, 1) := by decide +kernel
theorem dX3_mayBeMelisma_37 : decode cX3_mayBeMelisma 37 = .ok (.iload_n 1, 1) := by decide +kernel
theorem dX3_mayBeMelisma_38 : decode cX3_mayBeMelisma 38 = .ok (.if_icmp .le 14, 3) := by decide +kernel
theorem dX3_mayBeMelisma_41 : decode cX3_mayBeMelisma 41 = .ok (.aload_n 0, 1) := by decide +kernel
theorem dX3_mayBeMelisma_42 : decode cX3_mayBeMelisma 42 = .ok (.iconst 0, 1) := by decide +kernel
theorem dX3_mayBeMelisma_43 : decode cX3_mayBeMelisma 43 = .ok (.iload_n 3, 1) := by decide +kernel
theorem dX3_mayBeMelisma_44 : decode cX3_mayBeMelisma 44 = .ok (.invokevirtual 236, 3) := by decide +kernel
theorem dX3_mayBeMelisma_47 : decode cX3_mayBeMelisma 47 = .ok (.ifCond .eq 5, 3) := by decide +kernel
theorem dX3_mayBeMelisma_50 : decode cX3_mayBeMelisma 50 = .ok (.iconst 0, 1) := by decide +kernel
theorem dX3_mayBeMelisma_51 : decode cX3_mayBeMelisma 51 = .ok (.ireturn, 1) := by decide +kernel
theorem dX3_mayBeMelisma_52 : decode cX3_mayBeMelisma 52 = .ok (.iinc 3 1, 3) := by decide +kernel
theorem dX3_mayBeMelisma_55 : decode cX3_mayBeMelisma 55 = .ok (.goto (-53), 3) := by decide +kernel
theorem dX3_mayBeMelisma_58 : decode cX3_mayBeMelisma 58 = .ok (.iconst 1, 1) := by decide +kernel
theorem dX3_mayBeMelisma_59 : decode cX3_mayBeMelisma 59 = .ok (.ireturn, 1) := by decide +kernel
theorem dX3_mayBeRefrain_0 : decode cX3_mayBeRefrain 0 = .ok (.iload_n 1, 1) := by decide +kernel
theorem dX3_mayBeRefrain_1 : decode cX3_mayBeRefrain 1 = .ok (.istore_n 3, 1) := by decide +kernel
theorem dX3_mayBeRefrain_2 : decode cX3_mayBeRefrain 2 = .ok (.iload_n 3, 1) := by decide +kernel
theorem dX3_mayBeRefrain_3 : decode cX3_mayBeRefrain 3 = .ok (.iload_n 1, 1) := by decide +kernel
theorem dX3_mayBeRefrain_4 : decode cX3_mayBeRefrain 4 = .ok (.iload_n 2, 1) := by decide +kernel
theorem dX3_mayBeRefrain_5 : decode cX3_mayBeRefrain 5 = .ok (.iadd, 1) := by decide +kernel
theorem dX3_mayBeRefrain_6 : decode cX3_mayBeRefrain 6 = .ok (.if_icmp .ge 33, 3) := by decide +kernel
theorem dX3_mayBeRefrain_9 : decode cX3_mayBeRefrain 9 = .ok (.aload_n 0, 1) := by decide +kernel
theorem dX3_mayBeRefrain_10 : decode cX3_mayBeRefrain 10 = .ok (.getfield 11, 3) := by decide +kernel
theorem dX3_mayBeRefrain_13 : decode cX3_mayBeRefrain 13 = .ok (.iload_n 3, 1) := by decide +kernel
theorem dX3_mayBeRefrain_14 : decode cX3_mayBeRefrain 14 = .ok (.aaload, 1) := by decide +kernel
theorem dX3_mayBeRefrain_15 : decode cX3_mayBeRefrain 15 = .ok (.getfield 100, 3) := by decide +kernel
theorem dX3_mayBeRefrain_18 : decode cX3_mayBeRefrain 18 = .ok (.iconst (-1), 1) := by decide +kernel
theorem dX3_mayBeRefrain_19 : decode cX3_mayBeRefrain 19 = .ok (.if_icmp .ne 12, 3) := by decide +kernel
theorem dX3_mayBeRefrain_22 : decode cX3_mayBeRefrain 22 = .ok (.aload_n 0, 1) := by decide +kernel
theorem dX3_mayBeRefrain_23 : decode cX3_mayBeRefrain 23 = .ok (.iconst 1, 1) := by decide +kernel
theorem dX3_mayBeRefrain_24 : decode cX3_mayBeRefrain 24 = .ok (.iload_n 3, 1) := by decide +kernel
theorem dX3_mayBeRefrain_25 : decode cX3_mayBeRefrain 25 = .ok (.invokevirtual 236, 3) := by decide +kernel
theorem dX3_mayBeRefrain_28 : decode cX3_mayBeRefrain 28 = .ok (.ifCond .eq 5, 3) := by decide +kernel
theorem dX3_mayBeRefrain_31 : decode cX3_mayBeRefrain 31 = .ok (.iconst 0, 1) := by decide +kernel
theorem dX3_mayBeRefrain_32 : decode cX3_mayBeRefrain 32 = .ok (.ireturn, 1) := by decide +kernel
theorem dX3_mayBeRefrain_33 : decode cX3_mayBeRefrain 33 = .ok (.iinc 3 1, 3) := by decide +kernel
theorem dX3_mayBeRefrain_36 : decode cX3_mayBeRefrain 36 = .ok (.goto (-34), 3) := by decide +kernel
theorem dX3_mayBeRefrain_39 : decode cX3_mayBeRefrain 39 = .ok (.iconst 1, 1) := by decide +kernel
theorem dX3_mayBeRefrain_40 : decode cX3_mayBeRefrain 40 = .ok (.ireturn, 1) := by decide +kernel
theorem dX3_hasBoxFrom_0 : decode cX3_hasBoxFrom 0 = .ok (.iload_n 1, 1) := by decide +kernel
theorem dX3_hasBoxFrom_1 : decode cX3_hasBoxFrom 1 = .ok (.istore_n 3, 1) := by decide +kernel
theorem dX3_hasBoxFrom_2 : decode cX3_hasBoxFrom 2 = .ok (.iload_n 3, 1) := by decide +kernel
theorem dX3_hasBoxFrom_3 : decode cX3_hasBoxFrom 3 = .ok (.iconst 4, 1) := by decide +kernel
theorem dX3_hasBoxFrom_4 : decode cX3_hasBoxFrom 4 = .ok (.if_icmp .ge 24, 3) := by decide +kernel
theorem dX3_hasBoxFrom_7 : decode cX3_hasBoxFrom 7 = .ok (.aload_n 0, 1) := by decide +kernel
theorem dX3_hasBoxFrom_8 : decode cX3_hasBoxFrom 8 = .ok (.getfield 17, 3) := by decide +kernel
theorem dX3_hasBoxFrom_11 : decode cX3_hasBoxFrom 11 = .ok (.iload_n 3, 1) := by decide +kernel
theorem dX3_hasBoxFrom_12 : decode cX3_hasBoxFrom 12 = .ok (.aaload, 1) := by decide +kernel
theorem dX3_hasBoxFrom_13 : decode cX3_hasBoxFrom 13 = .ok (.iload_n 2, 1) := by decide +kernel
theorem dX3_hasBoxFrom_14 : decode cX3_hasBoxFrom 14 = .ok (.invokevirtual 173, 3) := by decide +kernel
theorem dX3_hasBoxFrom_17 : decode cX3_hasBoxFrom 17 = .ok (.ifCond .eq 5, 3) := by decide +kernel
theorem dX3_hasBoxFrom_20 : decode cX3_hasBoxFrom 20 = .ok (.iconst 1, 1) := by decide +kernel
theorem dX3_hasBoxFrom_21 : decode cX3_hasBoxFrom 21 = .ok (.ireturn, 1) := by decide +kernel
theorem dX3_hasBoxFrom_22 : decode cX3_hasBoxFrom 22 = .ok (.iinc 3 1, 3) := by decide +kernel
theorem dX3_hasBoxFrom_25 : decode cX3_hasBoxFrom 25 = .ok (.goto (-23), 3) := by decide +kernel
theorem dX3_hasBoxFrom_28 : decode cX3_hasBoxFrom 28 = .ok (.iconst 0, 1) := by decide +kernel
theorem dX3_hasBoxFrom_29 : decode cX3_hasBoxFrom 29 = .ok (.ireturn, 1) := by decide +kernel
theorem dX3_placeNotes_0 : decode cX3_placeNotes 0 = .ok (.iconst 0, 1) := by decide +kernel
theorem dX3_placeNotes_1 : decode cX3_placeNotes 1 = .ok (.istore_n 1, 1) := by decide +kernel
theorem dX3_placeNotes_2 : decode cX3_placeNotes 2 = .ok (.iload_n 1, 1) := by decide +kernel
theorem dX3_placeNotes_3 : decode cX3_placeNotes 3 = .ok (.iconst 4, 1) := by decide +kernel
theorem dX3_placeNotes_4 : decode cX3_placeNotes 4 = .ok (.if_icmp .ge 19, 3) := by decide +kernel
theorem dX3_placeNotes_7 : decode cX3_placeNotes 7 = .ok (.aload_n 0, 1) := by decide +kernel
theorem dX3_placeNotes_8 : decode cX3_placeNotes 8 = .ok (.getfield 17, 3) := by decide +kernel
theorem dX3_placeNotes_11 : decode cX3_placeNotes 11 = .ok (.iload_n 1, 1) := by decide +kernel
theorem dX3_placeNotes_12 : decode cX3_placeNotes 12 = .ok (.aaload, 1) := by decide +kernel
theorem dX3_placeNotes_13 : decode cX3_placeNotes 13 = .ok (.iconst 0, 1) := by decide +kernel
theorem dX3_placeNotes_14 : decode cX3_placeNotes 14 = .ok (.putfield 239, 3) := by decide +kernel
theorem dX3_placeNotes_17 : decode cX3_placeNotes 17 = .ok (.iinc 1 1, 3) := by decide +kernel
theorem dX3_placeNotes_20 : decode cX3_placeNotes 20 = .ok (.goto (-18), 3) := by decide +kernel
theorem dX3_placeNotes_23 : decode cX3_placeNotes 23 = .ok (.iconst 0, 1) := by decide +kernel
theorem dX3_placeNotes_24 : decode cX3_placeNotes 24 = .ok (.istore_n 1, 1) := by decide +kernel
theorem dX3_placeNotes_25 : decode cX3_placeNotes 25 = .ok (.iconst 0, 1) := by decide +kernel
theorem dX3_placeNotes_26 : decode cX3_placeNotes 26 = .ok (.istore_n 2, 1) := by decide +kernel
theorem dX3_placeNotes_27 : decode cX3_placeNotes 27 = .ok (.iconst 0, 1) := by decide +kernel
theorem dX3_placeNotes_28 : decode cX3_placeNotes 28 = .ok (.istore_n 3, 1) := by decide +kernel
theorem dX3_placeNotes_29 : decode cX3_placeNotes 29 = .ok (.iconst 0, 1) := by decide +kernel
theorem dX3_placeNotes_30 : decode cX3_placeNotes 30 = .ok (.istore 4, 2) := by decide +kernel
theorem dX3_placeNotes_32 : decode cX3_placeNotes 32 = .ok (.iload 4, 2) := by decide +kernel
theorem dX3_placeNotes_34 : decode cX3_placeNotes 34 = .ok (.aload_n 0, 1) := by decide +kernel
theorem dX3_placeNotes_35 : decode cX3_placeNotes 35 = .ok (.getfield 43, 3) := by decide +kernel
theorem dX3_placeNotes_38 : decode cX3_placeNotes 38 = .ok (.if_icmp .ge 130, 3) := by decide +kernel
theorem dX3_placeNotes_41 : decode cX3_placeNotes 41 = .ok (.aload_n 0, 1) := by decide +kernel
theorem dX3_placeNotes_42 : decode cX3_placeNotes 42 = .ok (.getfield 11, 3) := by decide +kernel
theorem dX3_placeNotes_45 : decode cX3_placeNotes 45 = .ok (.iload 4, 2) := by decide +kernel
theorem dX3_placeNotes_47 : decode cX3_placeNotes 47 = .ok (.aaload, 1) := by decide +kernel
theorem dX3_placeNotes_48 : decode cX3_placeNotes 48 = .ok (.astore 5, 2) := by decide +kernel
theorem dX3_placeNotes_50 : decode cX3_placeNotes 50 = .ok (.aload 5, 2) := by decide +kernel
theorem dX3_placeNotes_52 : decode cX3_placeNotes 52 = .ok (.iload_n 1, 1) := by decide +kernel
theorem dX3_placeNotes_53 : decode cX3_placeNotes 53 = .ok (.aload_n 0, 1) := by decide +kernel
theorem dX3_placeNotes_54 : decode cX3_placeNotes 54 = .ok (.iload 4, 2) := by decide +kernel
theorem dX3_placeNotes_56 : decode cX3_placeNotes 56 = .ok (.invokevirtual 242, 3) := by decide +kernel
theorem dX3_placeNotes_59 : decode cX3_placeNotes 59 = .ok (.invokestatic 117, 3) := by decide +kernel
theorem dX3_placeNotes_62 : decode cX3_placeNotes 62 = .ok (.putfield 123, 3) := by decide +kernel
theorem dX3_placeNotes_65 : decode cX3_placeNotes 65 = .ok (.aload 5, 2) := by decide +kernel
theorem dX3_placeNotes_67 : decode cX3_placeNotes 67 = .ok (.getfield 79, 3) := by decide +kernel
theorem dX3_placeNotes_70 : decode cX3_placeNotes 70 = .ok (.ifCond .le 48, 3) := by decide +kernel
theorem dX3_placeNotes_73 : decode cX3_placeNotes 73 = .ok (.aload 5, 2) := by decide +kernel
theorem dX3_placeNotes_75 : decode cX3_placeNotes 75 = .ok (.aload 5, 2) := by decide +kernel
theorem dX3_placeNotes_77 : decode cX3_placeNotes 77 = .ok (.getfield 123, 3) := by decide +kernel
theorem dX3_placeNotes_80 : decode cX3_placeNotes 80 = .ok (.iload_n 2, 1) := by decide +kernel
theorem dX3_placeNotes_81 : decode cX3_placeNotes 81 = .ok (.invokestatic 117, 3) := by decide +kernel
theorem dX3_placeNotes_84 : decode cX3_placeNotes 84 = .ok (.putfield 123, 3) := by decide +kernel
theorem dX3_placeNotes_87 : decode cX3_placeNotes 87 = .ok (.iload_n 3, 1) := by decide +kernel
theorem dX3_placeNotes_88 : decode cX3_placeNotes 88 = .ok (.aload 5, 2) := by decide +kernel
theorem dX3_placeNotes_90 : decode cX3_placeNotes 90 = .ok (.getfield 123, 3) := by decide +kernel
theorem dX3_placeNotes_93 : decode cX3_placeNotes 93 = .ok (.aload 5, 2) := by decide +kernel
theorem dX3_placeNotes_95 : decode cX3_placeNotes 95 = .ok (.getfield 79, 3) := by decide +kernel
theorem dX3_placeNotes_98 : decode cX3_placeNotes 98 = .ok (.iadd, 1) := by decide +kernel
theorem dX3_placeNotes_99 : decode cX3_placeNotes 99 = .ok (.invokestatic 117, 3) := by decide +kernel
theorem dX3_placeNotes_102 : decode cX3_placeNotes 102 = .ok (.istore_n 3, 1) := by decide +kernel
theorem dX3_placeNotes_103 : decode cX3_placeNotes 103 = .ok (.aload 5, 2) := by decide +kernel
theorem dX3_placeNotes_105 : decode cX3_placeNotes 105 = .ok (.getfield 123, 3) := by decide +kernel
theorem dX3_placeNotes_108 : decode cX3_placeNotes 108 = .ok (.aload 5, 2) := by decide +kernel
theorem dX3_placeNotes_110 : decode cX3_placeNotes 110 = .ok (.getfield 79, 3) := by decide +kernel
theorem dX3_placeNotes_113 : decode cX3_placeNotes 113 = .ok (.iadd, 1) := by decide +kernel
theorem dX3_placeNotes_114 : decode cX3_placeNotes 114 = .ok (.bipush 10, 2) := by decide +kernel
theorem dX3_placeNotes_116 : decode cX3_placeNotes 116 = .ok (.iadd, 1) := by decide +kernel
theorem dX3_placeNotes_117 : decode cX3_placeNotes 117 = .ok (.istore_n 2, 1) := by decide +kernel
theorem dX3_placeNotes_118 : decode cX3_placeNotes 118 = .ok (.aload 5, 2) := by decide +kernel
theorem dX3_placeNotes_120 : decode cX3_placeNotes 120 = .ok (.aload 5, 2) := by decide +kernel
theorem dX3_placeNotes_122 : decode cX3_placeNotes 122 = .ok (.getfield 123, 3) := by decide +kernel
theorem dX3_placeNotes_125 : decode cX3_placeNotes 125 = .ok (.iload_n 1, 1) := by decide +kernel
theorem dX3_placeNotes_126 : decode cX3_placeNotes 126 = .ok (.isub, 1) := by decide +kernel
theorem dX3_placeNotes_127 : decode cX3_placeNotes 127 = .ok (.putfield 126, 3) := by decide +kernel
theorem dX3_placeNotes_130 : decode cX3_placeNotes 130 = .ok (.aload 5, 2) := by decide +kernel
theorem dX3_placeNotes_132 : decode cX3_placeNotes 132 = .ok (.getfield 123, 3) := by decide +kernel
theorem dX3_placeNotes_135 : decode cX3_placeNotes 135 = .ok (.aload 5, 2) := by decide +kernel
theorem dX3_placeNotes_137 : decode cX3_placeNotes 137 = .ok (.getfield 245, 3) := by decide +kernel
theorem dX3_placeNotes_140 : decode cX3_placeNotes 140 = .ok (.iadd, 1) := by decide +kernel
theorem dX3_placeNotes_141 : decode cX3_placeNotes 141 = .ok (.bipush 10, 2) := by decide +kernel
theorem dX3_placeNotes_143 : decode cX3_placeNotes 143 = .ok (.aload 5, 2) := by decide +kernel
theorem dX3_placeNotes_145 : decode cX3_placeNotes 145 = .ok (.getfield 248, 3) := by decide +kernel
theorem dX3_placeNotes_148 : decode cX3_placeNotes 148 = .ok (.imul, 1) := by decide +kernel
theorem dX3_placeNotes_149 : decode cX3_placeNotes 149 = .ok (.iadd, 1) := by decide +kernel
theorem dX3_placeNotes_150 : decode cX3_placeNotes 150 = .ok (.istore_n 1, 1) := by decide +kernel
theorem dX3_placeNotes_151 : decode cX3_placeNotes 151 = .ok (.iload_n 3, 1) := by decide +kernel
theorem dX3_placeNotes_152 : decode cX3_placeNotes 152 = .ok (.aload_n 0, 1) := by decide +kernel
theorem dX3_placeNotes_153 : decode cX3_placeNotes 153 = .ok (.iload 4, 2) := by decide +kernel
theorem dX3_placeNotes_155 : decode cX3_placeNotes 155 = .ok (.invokevirtual 251, 3) := by decide +kernel
theorem dX3_placeNotes_158 : decode cX3_placeNotes 158 = .ok (.invokestatic 117, 3) := by decide +kernel
theorem dX3_placeNotes_161 : decode cX3_placeNotes 161 = .ok (.istore_n 3, 1) := by decide +kernel
theorem dX3_placeNotes_162 : decode cX3_placeNotes 162 = .ok (.iinc 4 1, 3) := by decide +kernel
theorem dX3_placeNotes_165 : decode cX3_placeNotes 165 = .ok (.goto (-133), 3) := by decide +kernel
theorem dX3_placeNotes_168 : decode cX3_placeNotes 168 = .ok (.aload_n 0, 1) := by decide +kernel
theorem dX3_placeNotes_169 : decode cX3_placeNotes 169 = .ok (.getfield 43, 3) := by decide +kernel
theorem dX3_placeNotes_172 : decode cX3_placeNotes 172 = .ok (.ifCond .le 22, 3) := by decide +kernel
theorem dX3_placeNotes_175 : decode cX3_placeNotes 175 = .ok (.iload_n 3, 1) := by decide +kernel
theorem dX3_placeNotes_176 : decode cX3_placeNotes 176 = .ok (.aload_n 0, 1) := by decide +kernel
theorem dX3_placeNotes_177 : decode cX3_placeNotes 177 = .ok (.getfield 11, 3) := by decide +kernel
theorem dX3_placeNotes_180 : decode cX3_placeNotes 180 = .ok (.aload_n 0, 1) := by decide +kernel
theorem dX3_placeNotes_181 : decode cX3_placeNotes 181 = .ok (.getfield 43, 3) := by decide +kernel
theorem dX3_placeNotes_184 : decode cX3_placeNotes 184 = .ok (.iconst 1, 1) := by decide +kernel
theorem dX3_placeNotes_185 : decode cX3_placeNotes 185 = .ok (.isub, 1) := by decide +kernel
theorem dX3_placeNotes_186 : decode cX3_placeNotes 186 = .ok (.aaload, 1) := by decide +kernel
theorem dX3_placeNotes_187 : decode cX3_placeNotes 187 = .ok (.invokevirtual 254, 3) := by decide +kernel
theorem dX3_placeNotes_190 : decode cX3_placeNotes 190 = .ok (.invokestatic 117, 3) := by decide +kernel
theorem dX3_placeNotes_193 : decode cX3_placeNotes 193 = .ok (.istore_n 3, 1) := by decide +kernel
theorem dX3_placeNotes_194 : decode cX3_placeNotes 194 = .ok (.iload_n 3, 1) := by decide +kernel
theorem dX3_placeNotes_195 : decode cX3_placeNotes 195 = .ok (.ireturn, 1) := by decide +kernel
theorem dX3_leastForBoxes_0 : decode cX3_leastForBoxes 0 = .ok (.iconst 0, 1) := by decide +kernel
theorem dX3_leastForBoxes_1 : decode cX3_leastForBoxes 1 = .ok (.istore_n 2, 1) := by decide +kernel
theorem dX3_leastForBoxes_2 : decode cX3_leastForBoxes 2 = .ok (.iconst 0, 1) := by decide +kernel
theorem dX3_leastForBoxes_3 : decode cX3_leastForBoxes 3 = .ok (.istore_n 3, 1) := by decide +kernel
theorem dX3_leastForBoxes_4 : decode cX3_leastForBoxes 4 = .ok (.iload_n 3, 1) := by decide +kernel
theorem dX3_leastForBoxes_5 : decode cX3_leastForBoxes 5 = .ok (.iconst 4, 1) := by decide +kernel
theorem dX3_leastForBoxes_6 : decode cX3_leastForBoxes 6 = .ok (.if_icmp .ge 51, 3) := by decide +kernel
theorem dX3_leastForBoxes_9 : decode cX3_leastForBoxes 9 = .ok (.aload_n 0, 1) := by decide +kernel
theorem dX3_leastForBoxes_10 : decode cX3_leastForBoxes 10 = .ok (.getfield 17, 3) := by decide +kernel
theorem dX3_leastForBoxes_13 : decode cX3_leastForBoxes 13 = .ok (.iload_n 3, 1) := by decide +kernel
theorem dX3_leastForBoxes_14 : decode cX3_leastForBoxes 14 = .ok (.aaload, 1) := by decide +kernel
theorem dX3_leastForBoxes_15 : decode cX3_leastForBoxes 15 = .ok (.astore 4, 2) := by decide +kernel
theorem dX3_leastForBoxes_17 : decode cX3_leastForBoxes 17 = .ok (.aload 4, 2) := by decide +kernel
theorem dX3_leastForBoxes_19 : decode cX3_leastForBoxes 19 = .ok (.iload_n 1, 1) := by decide +kernel
theorem dX3_leastForBoxes_20 : decode cX3_leastForBoxes 20 = .ok (.invokevirtual 173, 3) := by decide +kernel
theorem dX3_leastForBoxes_23 : decode cX3_leastForBoxes 23 = .ok (.ifCond .eq 28, 3) := by decide +kernel
theorem dX3_leastForBoxes_26 : decode cX3_leastForBoxes 26 = .ok (.aload 4, 2) := by decide +kernel
theorem dX3_leastForBoxes_28 : decode cX3_leastForBoxes 28 = .ok (.getfield 106, 3) := by decide +kernel
theorem dX3_leastForBoxes_31 : decode cX3_leastForBoxes 31 = .ok (.ifCond .ne 20, 3) := by decide +kernel
theorem dX3_leastForBoxes_34 : decode cX3_leastForBoxes 34 = .ok (.iload_n 2, 1) := by decide +kernel
theorem dX3_leastForBoxes_35 : decode cX3_leastForBoxes 35 = .ok (.aload 4, 2) := by decide +kernel
theorem dX3_leastForBoxes_37 : decode cX3_leastForBoxes 37 = .ok (.getfield 239, 3) := by decide +kernel
theorem dX3_leastForBoxes_40 : decode cX3_leastForBoxes 40 = .ok (.aload 4, 2) := by decide +kernel
theorem dX3_leastForBoxes_42 : decode cX3_leastForBoxes 42 = .ok (.iload_n 1, 1) := by decide +kernel
theorem dX3_leastForBoxes_43 : decode cX3_leastForBoxes 43 = .ok (.invokevirtual 257, 3) := by decide +kernel
theorem dX3_leastForBoxes_46 : decode cX3_leastForBoxes 46 = .ok (.iadd, 1) := by decide +kernel
theorem dX3_leastForBoxes_47 : decode cX3_leastForBoxes 47 = .ok (.invokestatic 117, 3) := by decide +kernel
theorem dX3_leastForBoxes_50 : decode cX3_leastForBoxes 50 = .ok (.istore_n 2, 1) := by decide +kernel
theorem dX3_leastForBoxes_51 : decode cX3_leastForBoxes 51 = .ok (.iinc 3 1, 3) := by decide +kernel
theorem dX3_leastForBoxes_54 : decode cX3_leastForBoxes 54 = .ok (.goto (-50), 3) := by decide +kernel
theorem dX3_leastForBoxes_57 : decode cX3_leastForBoxes 57 = .ok (.iload_n 2, 1) := by decide +kernel
theorem dX3_leastForBoxes_58 : decode cX3_leastForBoxes 58 = .ok (.ireturn, 1) := by decide +kernel
theorem dX3_placeBoxes_0 : decode cX3_placeBoxes 0 = .ok (.iconst 0, 1) := by decide +kernel
theorem dX3_placeBoxes_1 : decode cX3_placeBoxes 1 = .ok (.istore_n 2, 1) := by decide +kernel
theorem dX3_placeBoxes_2 : decode cX3_placeBoxes 2 = .ok (.iconst 0, 1) := by decide +kernel
theorem dX3_placeBoxes_3 : decode cX3_placeBoxes 3 = .ok (.istore_n 3, 1) := by decide +kernel
theorem dX3_placeBoxes_4 : decode cX3_placeBoxes 4 = .ok (.iload_n 3, 1) := by decide +kernel
theorem dX3_placeBoxes_5 : decode cX3_placeBoxes 5 = .ok (.iconst 4, 1) := by decide +kernel
theorem dX3_placeBoxes_6 : decode cX3_placeBoxes 6 = .ok (.if_icmp .ge 46, 3) := by decide +kernel
theorem dX3_placeBoxes_9 : decode cX3_placeBoxes 9 = .ok (.aload_n 0, 1) := by decide +kernel
theorem dX3_placeBoxes_10 : decode cX3_placeBoxes 10 = .ok (.getfield 17, 3) := by decide +kernel
theorem dX3_placeBoxes_13 : decode cX3_placeBoxes 13 = .ok (.iload_n 3, 1) := by decide +kernel
theorem dX3_placeBoxes_14 : decode cX3_placeBoxes 14 = .ok (.aaload, 1) := by decide +kernel
theorem dX3_placeBoxes_15 : decode cX3_placeBoxes 15 = .ok (.iload_n 1, 1) := by decide +kernel
theorem dX3_placeBoxes_16 : decode cX3_placeBoxes 16 = .ok (.invokevirtual 173, 3) := by decide +kernel
theorem dX3_placeBoxes_19 : decode cX3_placeBoxes 19 = .ok (.ifCond .eq 27, 3) := by decide +kernel
theorem dX3_placeBoxes_22 : decode cX3_placeBoxes 22 = .ok (.iload_n 2, 1) := by decide +kernel
theorem dX3_placeBoxes_23 : decode cX3_placeBoxes 23 = .ok (.aload_n 0, 1) := by decide +kernel
theorem dX3_placeBoxes_24 : decode cX3_placeBoxes 24 = .ok (.getfield 17, 3) := by decide +kernel
theorem dX3_placeBoxes_27 : decode cX3_placeBoxes 27 = .ok (.iload_n 3, 1) := by decide +kernel
theorem dX3_placeBoxes_28 : decode cX3_placeBoxes 28 = .ok (.aaload, 1) := by decide +kernel
theorem dX3_placeBoxes_29 : decode cX3_placeBoxes 29 = .ok (.iload_n 1, 1) := by decide +kernel
theorem dX3_placeBoxes_30 : decode cX3_placeBoxes 30 = .ok (.aload_n 0, 1) := by decide +kernel
theorem dX3_placeBoxes_31 : decode cX3_placeBoxes 31 = .ok (.getfield 11, 3) := by decide +kernel
theorem dX3_placeBoxes_34 : decode cX3_placeBoxes 34 = .ok (.iload_n 1, 1) := by decide +kernel
theorem dX3_placeBoxes_35 : decode cX3_placeBoxes 35 = .ok (.aaload, 1) := by decide +kernel
theorem dX3_placeBoxes_36 : decode cX3_placeBoxes 36 = .ok (.getfield 123, 3) := by decide +kernel
theorem dX3_placeBoxes_39 : decode cX3_placeBoxes 39 = .ok (.invokevirtual 260, 3) := by decide +kernel
theorem dX3_placeBoxes_42 : decode cX3_placeBoxes 42 = .ok (.invokestatic 117, 3) := by decide +kernel
theorem dX3_placeBoxes_45 : decode cX3_placeBoxes 45 = .ok (.istore_n 2, 1) := by decide +kernel
theorem dX3_placeBoxes_46 : decode cX3_placeBoxes 46 = .ok (.iinc 3 1, 3) := by decide +kernel
theorem dX3_placeBoxes_49 : decode cX3_placeBoxes 49 = .ok (.goto (-45), 3) := by decide +kernel
theorem dX3_placeBoxes_52 : decode cX3_placeBoxes 52 = .ok (.iload_n 2, 1) := by decide +kernel
theorem dX3_placeBoxes_53 : decode cX3_placeBoxes 53 = .ok (.ireturn, 1) := by decide +kernel
theorem dX3_hyphensIn_0 : decode cX3_hyphensIn 0 = .ok (.iload_n 0, 1) := by decide +kernel
theorem dX3_hyphensIn_1 : decode cX3_hyphensIn 1 = .ok (.bipush 10, 2) := by decide +kernel
theorem dX3_hyphensIn_3 : decode cX3_hyphensIn 3 = .ok (.if_icmp .ge 7, 3) := by decide +kernel
theorem dX3_hyphensIn_6 : decode cX3_hyphensIn 6 = .ok (.iconst 0, 1) := by decide +kernel
theorem dX3_hyphensIn_7 : decode cX3_hyphensIn 7 = .ok (.goto 12, 3) := by decide +kernel
theorem dX3_hyphensIn_10 : decode cX3_hyphensIn 10 = .ok (.iconst 1, 1) := by decide +kernel
theorem dX3_hyphensIn_11 : decode cX3_hyphensIn 11 = .ok (.iload_n 0, 1) := by decide +kernel
theorem dX3_hyphensIn_12 : decode cX3_hyphensIn 12 = .ok (.bipush 10, 2) := by decide +kernel
theorem dX3_hyphensIn_14 : decode cX3_hyphensIn 14 = .ok (.isub, 1) := by decide +kernel
theorem dX3_hyphensIn_15 : decode cX3_hyphensIn 15 = .ok (.bipush 80, 2) := by decide +kernel
theorem dX3_hyphensIn_17 : decode cX3_hyphensIn 17 = .ok (.idiv, 1) := by decide +kernel
theorem dX3_hyphensIn_18 : decode cX3_hyphensIn 18 = .ok (.iadd, 1) := by decide +kernel
theorem dX3_hyphensIn_19 : decode cX3_hyphensIn 19 = .ok (.ireturn, 1) := by decide +kernel
theorem dX3_lineEnd_0 : decode cX3_lineEnd 0 = .ok (.aload_n 0, 1) := by decide +kernel
theorem dX3_lineEnd_1 : decode cX3_lineEnd 1 = .ok (.getfield 11, 3) := by decide +kernel
theorem dX3_lineEnd_4 : decode cX3_lineEnd 4 = .ok (.aload_n 0, 1) := by decide +kernel
theorem dX3_lineEnd_5 : decode cX3_lineEnd 5 = .ok (.getfield 11, 3) := by decide +kernel
theorem dX3_lineEnd_8 : decode cX3_lineEnd 8 = .ok (.iload_n 1, 1) := by decide +kernel
theorem dX3_lineEnd_9 : decode cX3_lineEnd 9 = .ok (.aaload, 1) := by decide +kernel
theorem dX3_lineEnd_10 : decode cX3_lineEnd 10 = .ok (.getfield 88, 3) := by decide +kernel
theorem dX3_lineEnd_13 : decode cX3_lineEnd 13 = .ok (.aaload, 1) := by decide +kernel
theorem dX3_lineEnd_14 : decode cX3_lineEnd 14 = .ok (.invokevirtual 254, 3) := by decide +kernel
theorem dX3_lineEnd_17 : decode cX3_lineEnd 17 = .ok (.istore_n 3, 1) := by decide +kernel
theorem dX3_lineEnd_18 : decode cX3_lineEnd 18 = .ok (.aload_n 2, 1) := by decide +kernel
theorem dX3_lineEnd_19 : decode cX3_lineEnd 19 = .ok (.iload_n 1, 1) := by decide +kernel
theorem dX3_lineEnd_20 : decode cX3_lineEnd 20 = .ok (.invokevirtual 263, 3) := by decide +kernel
theorem dX3_lineEnd_23 : decode cX3_lineEnd 23 = .ok (.istore 4, 2) := by decide +kernel
theorem dX3_lineEnd_25 : decode cX3_lineEnd 25 = .ok (.iload 4, 2) := by decide +kernel
theorem dX3_lineEnd_27 : decode cX3_lineEnd 27 = .ok (.iconst (-1), 1) := by decide +kernel
theorem dX3_lineEnd_28 : decode cX3_lineEnd 28 = .ok (.if_icmp .ne 7, 3) := by decide +kernel
theorem dX3_lineEnd_31 : decode cX3_lineEnd 31 = .ok (.iload_n 3, 1) := by decide +kernel
theorem dX3_lineEnd_32 : decode cX3_lineEnd 32 = .ok (.goto 16, 3) := by decide +kernel
theorem dX3_lineEnd_35 : decode cX3_lineEnd 35 = .ok (.iload_n 3, 1) := by decide +kernel
theorem dX3_lineEnd_36 : decode cX3_lineEnd 36 = .ok (.aload_n 2, 1) := by decide +kernel
theorem dX3_lineEnd_37 : decode cX3_lineEnd 37 = .ok (.getfield 132, 3) := by decide +kernel
theorem dX3_lineEnd_40 : decode cX3_lineEnd 40 = .ok (.iload 4, 2) := by decide +kernel
theorem dX3_lineEnd_42 : decode cX3_lineEnd 42 = .ok (.iaload, 1) := by decide +kernel
theorem dX3_lineEnd_43 : decode cX3_lineEnd 43 = .ok (.iconst 4, 1) := by decide +kernel
theorem dX3_lineEnd_44 : decode cX3_lineEnd 44 = .ok (.isub, 1) := by decide +kernel
theorem dX3_lineEnd_45 : decode cX3_lineEnd 45 = .ok (.invokestatic 266, 3) := by decide +kernel
theorem dX3_lineEnd_48 : decode cX3_lineEnd 48 = .ok (.ireturn, 1) := by decide +kernel
theorem dX3_listFaults_0 : decode cX3_listFaults 0 = .ok (.iconst 0, 1) := by decide +kernel
theorem dX3_listFaults_1 : decode cX3_listFaults 1 = .ok (.istore_n 1, 1) := by decide +kernel
theorem dX3_listFaults_2 : decode cX3_listFaults 2 = .ok (.iconst 0, 1) := by decide +kernel
theorem dX3_listFaults_3 : decode cX3_listFaults 3 = .ok (.istore_n 2, 1) := by decide +kernel
theorem dX3_listFaults_4 : decode cX3_listFaults 4 = .ok (.iload_n 2, 1) := by decide +kernel
theorem dX3_listFaults_5 : decode cX3_listFaults 5 = .ok (.iconst 4, 1) := by decide +kernel
theorem dX3_listFaults_6 : decode cX3_listFaults 6 = .ok (.if_icmp .ge 64, 3) := by decide +kernel
theorem dX3_listFaults_9 : decode cX3_listFaults 9 = .ok (.aload_n 0, 1) := by decide +kernel
theorem dX3_listFaults_10 : decode cX3_listFaults 10 = .ok (.getfield 17, 3) := by decide +kernel
theorem dX3_listFaults_13 : decode cX3_listFaults 13 = .ok (.iload_n 2, 1) := by decide +kernel
theorem dX3_listFaults_14 : decode cX3_listFaults 14 = .ok (.aaload, 1) := by decide +kernel
theorem dX3_listFaults_15 : decode cX3_listFaults 15 = .ok (.invokevirtual 269, 3) := by decide +kernel
theorem dX3_listFaults_18 : decode cX3_listFaults 18 = .ok (.istore_n 3, 1) := by decide +kernel
theorem dX3_listFaults_19 : decode cX3_listFaults 19 = .ok (.iconst 0, 1) := by decide +kernel
theorem dX3_listFaults_20 : decode cX3_listFaults 20 = .ok (.istore 4, 2) := by decide +kernel
theorem dX3_listFaults_22 : decode cX3_listFaults 22 = .ok (.iload 4, 2) := by decide +kernel
theorem dX3_listFaults_24 : decode cX3_listFaults 24 = .ok (.aload_n 0, 1) := by decide +kernel
theorem dX3_listFaults_25 : decode cX3_listFaults 25 = .ok (.getfield 43, 3) := by decide +kernel
theorem dX3_listFaults_28 : decode cX3_listFaults 28 = .ok (.if_icmp .ge 36, 3) := by decide +kernel
theorem dX3_listFaults_31 : decode cX3_listFaults 31 = .ok (.aload_n 0, 1) := by decide +kernel
theorem dX3_listFaults_32 : decode cX3_listFaults 32 = .ok (.iload_n 2, 1) := by decide +kernel
theorem dX3_listFaults_33 : decode cX3_listFaults 33 = .ok (.iload 4, 2) := by decide +kernel
theorem dX3_listFaults_35 : decode cX3_listFaults 35 = .ok (.iload_n 3, 1) := by decide +kernel
theorem dX3_listFaults_36 : decode cX3_listFaults 36 = .ok (.invokevirtual 272, 3) := by decide +kernel
theorem dX3_listFaults_39 : decode cX3_listFaults 39 = .ok (.ifCond .eq 19, 3) := by decide +kernel
theorem dX3_listFaults_42 : decode cX3_listFaults 42 = .ok (.aload_n 0, 1) := by decide +kernel
theorem dX3_listFaults_43 : decode cX3_listFaults 43 = .ok (.getfield 28, 3) := by decide +kernel
theorem dX3_listFaults_46 : decode cX3_listFaults 46 = .ok (.iload_n 1, 1) := by decide +kernel
theorem dX3_listFaults_47 : decode cX3_listFaults 47 = .ok (.iload_n 2, 1) := by decide +kernel
theorem dX3_listFaults_48 : decode cX3_listFaults 48 = .ok (.bipush 60, 2) := by decide +kernel
theorem dX3_listFaults_50 : decode cX3_listFaults 50 = .ok (.imul, 1) := by decide +kernel
theorem dX3_listFaults_51 : decode cX3_listFaults 51 = .ok (.iload 4, 2) := by decide +kernel
theorem dX3_listFaults_53 : decode cX3_listFaults 53 = .ok (.iadd, 1) := by decide +kernel
theorem dX3_listFaults_54 : decode cX3_listFaults 54 = .ok (.iastore, 1) := by decide +kernel
theorem dX3_listFaults_55 : decode cX3_listFaults 55 = .ok (.iinc 1 1, 3) := by decide +kernel
theorem dX3_listFaults_58 : decode cX3_listFaults 58 = .ok (.iinc 4 1, 3) := by decide +kernel
theorem dX3_listFaults_61 : decode cX3_listFaults 61 = .ok (.goto (-39), 3) := by decide +kernel
theorem dX3_listFaults_64 : decode cX3_listFaults 64 = .ok (.iinc 2 1, 3) := by decide +kernel
theorem dX3_listFaults_67 : decode cX3_listFaults 67 = .ok (.goto (-63), 3) := by decide +kernel
theorem dX3_listFaults_70 : decode cX3_listFaults 70 = .ok (.iload_n 1, 1) := by decide +kernel
theorem dX3_listFaults_71 : decode cX3_listFaults 71 = .ok (.ireturn, 1) := by decide +kernel
theorem dX3_isFault_0 : decode cX3_isFault 0 = .ok (.aload_n 0, 1) := by decide +kernel
theorem dX3_isFault_1 : decode cX3_isFault 1 = .ok (.getfield 17, 3) := by decide +kernel
theorem dX3_isFault_4 : decode cX3_isFault 4 = .ok (.iload_n 1, 1) := by decide +kernel
theorem dX3_isFault_5 : decode cX3_isFault 5 = .ok (.aaload, 1) := by decide +kernel
theorem dX3_isFault_6 : decode cX3_isFault 6 = .ok (.astore 4, 2) := by decide +kernel
theorem dX3_isFault_8 : decode cX3_isFault 8 = .ok (.aload 4, 2) := by decide +kernel
theorem dX3_isFault_10 : decode cX3_isFault 10 = .ok (.iload_n 2, 1) := by decide +kernel
theorem dX3_isFault_11 : decode cX3_isFault 11 = .ok (.invokevirtual 173, 3) := by decide +kernel
theorem dX3_isFault_14 : decode cX3_isFault 14 = .ok (.ifCond .eq 23, 3) := by decide +kernel
theorem dX3_isFault_17 : decode cX3_isFault 17 = .ok (.iload_n 2, 1) := by decide +kernel
theorem dX3_isFault_18 : decode cX3_isFault 18 = .ok (.iload_n 3, 1) := by decide +kernel
theorem dX3_isFault_19 : decode cX3_isFault 19 = .ok (.if_icmp .ne 16, 3) := by decide +kernel
theorem dX3_isFault_22 : decode cX3_isFault 22 = .ok (.aload 4, 2) := by decide +kernel
theorem dX3_isFault_24 : decode cX3_isFault 24 = .ok (.iload_n 2, 1) := by decide +kernel
theorem dX3_isFault_25 : decode cX3_isFault 25 = .ok (.invokevirtual 157, 3) := by decide +kernel
theorem dX3_isFault_28 : decode cX3_isFault 28 = .ok (.ifCond .eq 7, 3) := by decide +kernel
theorem dX3_isFault_31 : decode cX3_isFault 31 = .ok (.iconst 1, 1) := by decide +kernel
theorem dX3_isFault_32 : decode cX3_isFault 32 = .ok (.goto 4, 3) := by decide +kernel
theorem dX3_isFault_35 : decode cX3_isFault 35 = .ok (.iconst 0, 1) := by decide +kernel
theorem dX3_isFault_36 : decode cX3_isFault 36 = .ok (.ireturn, 1) := by decide +kernel
theorem dX3_isFault_37 : decode cX3_isFault 37 = .ok (.iload_n 3, 1) := by decide +kernel
theorem dX3_isFault_38 : decode cX3_isFault 38 = .ok (.iconst (-1), 1) := by decide +kernel
theorem dX3_isFault_39 : decode cX3_isFault 39 = .ok (.if_icmp .eq 24, 3) := by decide +kernel
theorem dX3_isFault_42 : decode cX3_isFault 42 = .ok (.aload 4, 2) := by decide +kernel
theorem dX3_isFault_44 : decode cX3_isFault 44 = .ok (.getfield 106, 3) := by decide +kernel
theorem dX3_isFault_47 : decode cX3_isFault 47 = .ok (.ifCond .ne 16, 3) := by decide +kernel
theorem dX3_isFault_50 : decode cX3_isFault 50 = .ok (.aload_n 0, 1) := by decide +kernel
theorem dX3_isFault_51 : decode cX3_isFault 51 = .ok (.iload_n 2, 1) := by decide +kernel
theorem dX3_isFault_52 : decode cX3_isFault 52 = .ok (.iload_n 1, 1) := by decide +kernel
theorem dX3_isFault_53 : decode cX3_isFault 53 = .ok (.invokevirtual 63, 3) := by decide +kernel
theorem dX3_isFault_56 : decode cX3_isFault 56 = .ok (.ifCond .eq 7, 3) := by decide +kernel
theorem dX3_isFault_59 : decode cX3_isFault 59 = .ok (.iconst 1, 1) := by decide +kernel
theorem dX3_isFault_60 : decode cX3_isFault 60 = .ok (.goto 4, 3) := by decide +kernel
theorem dX3_isFault_63 : decode cX3_isFault 63 = .ok (.iconst 0, 1) := by decide +kernel
theorem dX3_isFault_64 : decode cX3_isFault 64 = .ok (.ireturn, 1) := by decide +kernel
theorem dX3_sharedVerse_0 : decode cX3_sharedVerse 0 = .ok (.iconst 0, 1) := by decide +kernel
theorem dX3_sharedVerse_1 : decode cX3_sharedVerse 1 = .ok (.istore_n 2, 1) := by decide +kernel
theorem dX3_sharedVerse_2 : decode cX3_sharedVerse 2 = .ok (.iload_n 2, 1) := by decide +kernel
theorem dX3_sharedVerse_3 : decode cX3_sharedVerse 3 = .ok (.iload_n 1, 1) := by decide +kernel
theorem dX3_sharedVerse_4 : decode cX3_sharedVerse 4 = .ok (.if_icmp .ge 30, 3) := by decide +kernel
theorem dX3_sharedVerse_7 : decode cX3_sharedVerse 7 = .ok (.aload_n 0, 1) := by decide +kernel
theorem dX3_sharedVerse_8 : decode cX3_sharedVerse 8 = .ok (.aload_n 0, 1) := by decide +kernel
theorem dX3_sharedVerse_9 : decode cX3_sharedVerse 9 = .ok (.getfield 17, 3) := by decide +kernel
theorem dX3_sharedVerse_12 : decode cX3_sharedVerse 12 = .ok (.iload_n 2, 1) := by decide +kernel
theorem dX3_sharedVerse_13 : decode cX3_sharedVerse 13 = .ok (.aaload, 1) := by decide +kernel
theorem dX3_sharedVerse_14 : decode cX3_sharedVerse 14 = .ok (.aload_n 0, 1) := by decide +kernel
theorem dX3_sharedVerse_15 : decode cX3_sharedVerse 15 = .ok (.getfield 17, 3) := by decide +kernel
theorem dX3_sharedVerse_18 : decode cX3_sharedVerse 18 = .ok (.iload_n 1, 1) := by decide +kernel
theorem dX3_sharedVerse_19 : decode cX3_sharedVerse 19 = .ok (.aaload, 1) := by decide +kernel
theorem dX3_sharedVerse_20 : decode cX3_sharedVerse 20 = .ok (.invokevirtual 275, 3) := by decide +kernel
theorem dX3_sharedVerse_23 : decode cX3_sharedVerse 23 = .ok (.ifCond .eq 5, 3) := by decide +kernel
theorem dX3_sharedVerse_26 : decode cX3_sharedVerse 26 = .ok (.iload_n 2, 1) := by decide +kernel
theorem dX3_sharedVerse_27 : decode cX3_sharedVerse 27 = .ok (.ireturn, 1) := by decide +kernel
theorem dX3_sharedVerse_28 : decode cX3_sharedVerse 28 = .ok (.iinc 2 1, 3) := by decide +kernel
theorem dX3_sharedVerse_31 : decode cX3_sharedVerse 31 = .ok (.goto (-29), 3) := by decide +kernel
theorem dX3_sharedVerse_34 : decode cX3_sharedVerse 34 = .ok (.iconst (-1), 1) := by decide +kernel
theorem dX3_sharedVerse_35 : decode cX3_sharedVerse 35 = .ok (.ireturn, 1) := by decide +kernel
theorem dX3_areAlike_0 : decode cX3_areAlike 0 = .ok (.aload_n 1, 1) := by decide +kernel
theorem dX3_areAlike_1 : decode cX3_areAlike 1 = .ok (.invokevirtual 179, 3) := by decide +kernel
theorem dX3_areAlike_4 : decode cX3_areAlike 4 = .ok (.ifCond .eq 10, 3) := by decide +kernel
theorem dX3_areAlike_7 : decode cX3_areAlike 7 = .ok (.aload_n 2, 1) := by decide +kernel
theorem dX3_areAlike_8 : decode cX3_areAlike 8 = .ok (.invokevirtual 179, 3) := by decide +kernel
theorem dX3_areAlike_11 : decode cX3_areAlike 11 = .ok (.ifCond .ne 5, 3) := by decide +kernel
theorem dX3_areAlike_14 : decode cX3_areAlike 14 = .ok (.iconst 0, 1) := by decide +kernel
theorem dX3_areAlike_15 : decode cX3_areAlike 15 = .ok (.ireturn, 1) := by decide +kernel
theorem dX3_areAlike_16 : decode cX3_areAlike 16 = .ok (.aload_n 1, 1) := by decide +kernel
theorem dX3_areAlike_17 : decode cX3_areAlike 17 = .ok (.getfield 103, 3) := by decide +kernel
theorem dX3_areAlike_20 : decode cX3_areAlike 20 = .ok (.aload_n 2, 1) := by decide +kernel
theorem dX3_areAlike_21 : decode cX3_areAlike 21 = .ok (.getfield 103, 3) := by decide +kernel
theorem dX3_areAlike_24 : decode cX3_areAlike 24 = .ok (.if_icmp .ne 14, 3) := by decide +kernel
theorem dX3_areAlike_27 : decode cX3_areAlike 27 = .ok (.aload_n 1, 1) := by decide +kernel
theorem dX3_areAlike_28 : decode cX3_areAlike 28 = .ok (.getfield 106, 3) := by decide +kernel
theorem dX3_areAlike_31 : decode cX3_areAlike 31 = .ok (.aload_n 2, 1) := by decide +kernel
theorem dX3_areAlike_32 : decode cX3_areAlike 32 = .ok (.getfield 106, 3) := by decide +kernel
theorem dX3_areAlike_35 : decode cX3_areAlike 35 = .ok (.if_icmp .eq 5, 3) := by decide +kernel
theorem dX3_areAlike_38 : decode cX3_areAlike 38 = .ok (.iconst 0, 1) := by decide +kernel
theorem dX3_areAlike_39 : decode cX3_areAlike 39 = .ok (.ireturn, 1) := by decide +kernel
theorem dX3_areAlike_40 : decode cX3_areAlike 40 = .ok (.iconst 0, 1) := by decide +kernel
theorem dX3_areAlike_41 : decode cX3_areAlike 41 = .ok (.istore_n 3, 1) := by decide +kernel
theorem dX3_areAlike_42 : decode cX3_areAlike 42 = .ok (.iload_n 3, 1) := by decide +kernel
theorem dX3_areAlike_43 : decode cX3_areAlike 43 = .ok (.aload_n 0, 1) := by decide +kernel
theorem dX3_areAlike_44 : decode cX3_areAlike 44 = .ok (.getfield 43, 3) := by decide +kernel
theorem dX3_areAlike_47 : decode cX3_areAlike 47 = .ok (.if_icmp .ge 33, 3) := by decide +kernel
theorem dX3_areAlike_50 : decode cX3_areAlike 50 = .ok (.aload_n 0, 1) := by decide +kernel
theorem dX3_areAlike_51 : decode cX3_areAlike 51 = .ok (.getfield 11, 3) := by decide +kernel
theorem dX3_areAlike_54 : decode cX3_areAlike 54 = .ok (.iload_n 3, 1) := by decide +kernel
theorem dX3_areAlike_55 : decode cX3_areAlike 55 = .ok (.aaload, 1) := by decide +kernel
theorem dX3_areAlike_56 : decode cX3_areAlike 56 = .ok (.getfield 100, 3) := by decide +kernel
theorem dX3_areAlike_59 : decode cX3_areAlike 59 = .ok (.iconst (-1), 1) := by decide +kernel
theorem dX3_areAlike_60 : decode cX3_areAlike 60 = .ok (.if_icmp .ne 14, 3) := by decide +kernel
theorem dX3_areAlike_63 : decode cX3_areAlike 63 = .ok (.aload_n 1, 1) := by decide +kernel
theorem dX3_areAlike_64 : decode cX3_areAlike 64 = .ok (.aload_n 2, 1) := by decide +kernel
theorem dX3_areAlike_65 : decode cX3_areAlike 65 = .ok (.iload_n 3, 1) := by decide +kernel
theorem dX3_areAlike_66 : decode cX3_areAlike 66 = .ok (.invokevirtual 279, 3) := by decide +kernel
theorem dX3_areAlike_69 : decode cX3_areAlike 69 = .ok (.ifCond .ne 5, 3) := by decide +kernel
theorem dX3_areAlike_72 : decode cX3_areAlike 72 = .ok (.iconst 0, 1) := by decide +kernel
theorem dX3_areAlike_73 : decode cX3_areAlike 73 = .ok (.ireturn, 1) := by decide +kernel
theorem dX3_areAlike_74 : decode cX3_areAlike 74 = .ok (.iinc 3 1, 3) := by decide +kernel
theorem dX3_areAlike_77 : decode cX3_areAlike 77 = .ok (.goto (-35), 3) := by decide +kernel
theorem dX3_areAlike_80 : decode cX3_areAlike 80 = .ok (.iconst 1, 1) := by decide +kernel
theorem dX3_areAlike_81 : decode cX3_areAlike 81 = .ok (.ireturn, 1) := by decide +kernel
theorem dX3_syllablesInAll_0 : decode cX3_syllablesInAll 0 = .ok (.iconst 0, 1) := by decide +kernel
theorem dX3_syllablesInAll_1 : decode cX3_syllablesInAll 1 = .ok (.istore_n 1, 1) := by decide +kernel
theorem dX3_syllablesInAll_2 : decode cX3_syllablesInAll 2 = .ok (.iconst 0, 1) := by decide +kernel
theorem dX3_syllablesInAll_3 : decode cX3_syllablesInAll 3 = .ok (.istore_n 2, 1) := by decide +kernel
theorem dX3_syllablesInAll_4 : decode cX3_syllablesInAll 4 = .ok (.iload_n 2, 1) := by decide +kernel
theorem dX3_syllablesInAll_5 : decode cX3_syllablesInAll 5 = .ok (.iconst 4, 1) := by decide +kernel
theorem dX3_syllablesInAll_6 : decode cX3_syllablesInAll 6 = .ok (.if_icmp .ge 21, 3) := by decide +kernel
theorem dX3_syllablesInAll_9 : decode cX3_syllablesInAll 9 = .ok (.iload_n 1, 1) := by decide +kernel
theorem dX3_syllablesInAll_10 : decode cX3_syllablesInAll 10 = .ok (.aload_n 0, 1) := by decide +kernel
theorem dX3_syllablesInAll_11 : decode cX3_syllablesInAll 11 = .ok (.getfield 17, 3) := by decide +kernel
theorem dX3_syllablesInAll_14 : decode cX3_syllablesInAll 14 = .ok (.iload_n 2, 1) := by decide +kernel
theorem dX3_syllablesInAll_15 : decode cX3_syllablesInAll 15 = .ok (.aaload, 1) := by decide +kernel
theorem dX3_syllablesInAll_16 : decode cX3_syllablesInAll 16 = .ok (.getfield 283, 3) := by decide +kernel
theorem dX3_syllablesInAll_19 : decode cX3_syllablesInAll 19 = .ok (.iadd, 1) := by decide +kernel
theorem dX3_syllablesInAll_20 : decode cX3_syllablesInAll 20 = .ok (.istore_n 1, 1) := by decide +kernel
theorem dX3_syllablesInAll_21 : decode cX3_syllablesInAll 21 = .ok (.iinc 2 1, 3) := by decide +kernel
theorem dX3_syllablesInAll_24 : decode cX3_syllablesInAll 24 = .ok (.goto (-20), 3) := by decide +kernel
theorem dX3_syllablesInAll_27 : decode cX3_syllablesInAll 27 = .ok (.iload_n 1, 1) := by decide +kernel
theorem dX3_syllablesInAll_28 : decode cX3_syllablesInAll 28 = .ok (.ireturn, 1) := by decide +kernel
theorem dX3_chordsInAll_0 : decode cX3_chordsInAll 0 = .ok (.iconst 0, 1) := by decide +kernel
theorem dX3_chordsInAll_1 : decode cX3_chordsInAll 1 = .ok (.istore_n 1, 1) := by decide +kernel
theorem dX3_chordsInAll_2 : decode cX3_chordsInAll 2 = .ok (.iconst 0, 1) := by decide +kernel
theorem dX3_chordsInAll_3 : decode cX3_chordsInAll 3 = .ok (.istore_n 2, 1) := by decide +kernel
theorem dX3_chordsInAll_4 : decode cX3_chordsInAll 4 = .ok (.iload_n 2, 1) := by decide +kernel
theorem dX3_chordsInAll_5 : decode cX3_chordsInAll 5 = .ok (.aload_n 0, 1) := by decide +kernel
theorem dX3_chordsInAll_6 : decode cX3_chordsInAll 6 = .ok (.getfield 43, 3) := by decide +kernel
theorem dX3_chordsInAll_9 : decode cX3_chordsInAll 9 = .ok (.if_icmp .ge 32, 3) := by decide +kernel
theorem dX3_chordsInAll_12 : decode cX3_chordsInAll 12 = .ok (.iload_n 1, 1) := by decide +kernel
theorem dX3_chordsInAll_13 : decode cX3_chordsInAll 13 = .ok (.aload_n 0, 1) := by decide +kernel
theorem dX3_chordsInAll_14 : decode cX3_chordsInAll 14 = .ok (.getfield 11, 3) := by decide +kernel
theorem dX3_chordsInAll_17 : decode cX3_chordsInAll 17 = .ok (.iload_n 2, 1) := by decide +kernel
theorem dX3_chordsInAll_18 : decode cX3_chordsInAll 18 = .ok (.aaload, 1) := by decide +kernel
theorem dX3_chordsInAll_19 : decode cX3_chordsInAll 19 = .ok (.getfield 79, 3) := by decide +kernel
theorem dX3_chordsInAll_22 : decode cX3_chordsInAll 22 = .ok (.ifCond .le 7, 3) := by decide +kernel
theorem dX3_chordsInAll_25 : decode cX3_chordsInAll 25 = .ok (.iconst 1, 1) := by decide +kernel
theorem dX3_chordsInAll_26 : decode cX3_chordsInAll 26 = .ok (.goto 4, 3) := by decide +kernel
theorem dX3_chordsInAll_29 : decode cX3_chordsInAll 29 = .ok (.iconst 0, 1) := by decide +kernel
theorem dX3_chordsInAll_30 : decode cX3_chordsInAll 30 = .ok (.invokestatic 109, 3) := by decide +kernel
theorem dX3_chordsInAll_33 : decode cX3_chordsInAll 33 = .ok (.iadd, 1) := by decide +kernel
theorem dX3_chordsInAll_34 : decode cX3_chordsInAll 34 = .ok (.istore_n 1, 1) := by decide +kernel
theorem dX3_chordsInAll_35 : decode cX3_chordsInAll 35 = .ok (.iinc 2 1, 3) := by decide +kernel
theorem dX3_chordsInAll_38 : decode cX3_chordsInAll 38 = .ok (.goto (-34), 3) := by decide +kernel
theorem dX3_chordsInAll_41 : decode cX3_chordsInAll 41 = .ok (.iload_n 1, 1) := by decide +kernel
theorem dX3_chordsInAll_42 : decode cX3_chordsInAll 42 = .ok (.ireturn, 1) := by decide +kernel
end
section
theorem dX4_thrown_0 : decode cX4_thrown 0 = .ok (.aload_n 0, 1) := by decide +kernel
theorem dX4_thrown_1 : decode cX4_thrown 1 = .ok (.getfield 1, 3) := by decide +kernel
theorem dX4_thrown_4 : decode cX4_thrown 4 = .ok (.ireturn, 1) := by decide +kernel
theorem dX4_fresh_0 : decode cX4_fresh 0 = .ok (.aload_n 0, 1) := by decide +kernel
theorem dX4_fresh_1 : decode cX4_fresh 1 = .ok (.iconst 0, 1) := by decide +kernel
theorem dX4_fresh_2 : decode cX4_fresh 2 = .ok (.putfield 7, 3) := by decide +kernel
theorem dX4_fresh_5 : decode cX4_fresh 5 = .ok (.aload_n 0, 1) := by decide +kernel
theorem dX4_fresh_6 : decode cX4_fresh 6 = .ok (.iconst 0, 1) := by decide +kernel
theorem dX4_fresh_7 : decode cX4_fresh 7 = .ok (.putfield 10, 3) := by decide +kernel
theorem dX4_fresh_10 : decode cX4_fresh 10 = .ok (.aload_n 0, 1) := by decide +kernel
theorem dX4_fresh_11 : decode cX4_fresh 11 = .ok (.iconst 0, 1) := by decide +kernel
theorem dX4_fresh_12 : decode cX4_fresh 12 = .ok (.putfield 13, 3) := by decide +kernel
theorem dX4_fresh_15 : decode cX4_fresh 15 = .ok (.aload_n 0, 1) := by decide +kernel
theorem dX4_fresh_16 : decode cX4_fresh 16 = .ok (.sipush 2000, 3) := by decide +kernel
theorem dX4_fresh_19 : decode cX4_fresh 19 = .ok (.putfield 16, 3) := by decide +kernel
theorem dX4_fresh_22 : decode cX4_fresh 22 = .ok (.aload_n 0, 1) := by decide +kernel
theorem dX4_fresh_23 : decode cX4_fresh 23 = .ok (.iconst 0, 1) := by decide +kernel
theorem dX4_fresh_24 : decode cX4_fresh 24 = .ok (.putfield 19, 3) := by decide +kernel
theorem dX4_fresh_27 : decode cX4_fresh 27 = .ok (.aload_n 0, 1) := by decide +kernel
theorem dX4_fresh_28 : decode cX4_fresh 28 = .ok (.iconst 0, 1) := by decide +kernel
theorem dX4_fresh_29 : decode cX4_fresh 29 = .ok (.putfield 23, 3) := by decide +kernel
theorem dX4_fresh_32 : decode cX4_fresh 32 = .ok (.aload_n 0, 1) := by decide +kernel
theorem dX4_fresh_33 : decode cX4_fresh 33 = .ok (.iconst 0, 1) := by decide +kernel
theorem dX4_fresh_34 : decode cX4_fresh 34 = .ok (.putfield 26, 3) := by decide +kernel
theorem dX4_fresh_37 : decode cX4_fresh 37 = .ok (.aload_n 0, 1) := by decide +kernel
theorem dX4_fresh_38 : decode cX4_fresh 38 = .ok (.iconst 2, 1) := by decide +kernel
theorem dX4_fresh_39 : decode cX4_fresh 39 = .ok (.putfield 29, 3) := by decide +kernel
theorem dX4_fresh_42 : decode cX4_fresh 42 = .ok (.aload_n 0, 1) := by decide +kernel
theorem dX4_fresh_43 : decode cX4_fresh 43 = .ok (.iconst 3, 1) := by decide +kernel
theorem dX4_fresh_44 : decode cX4_fresh 44 = .ok (.putfield 32, 3) := by decide +kernel
theorem dX4_fresh_47 : decode cX4_fresh 47 = .ok (.aload_n 0, 1) := by decide +kernel
theorem dX4_fresh_48 : decode cX4_fresh 48 = .ok (.iconst (-1), 1) := by decide +kernel
theorem dX4_fresh_49 : decode cX4_fresh 49 = .ok (.putfield 35, 3) := by decide +kernel
theorem dX4_fresh_52 : decode cX4_fresh 52 = .ok (.iconst 0, 1) := by decide +kernel
theorem dX4_fresh_53 : decode cX4_fresh 53 = .ok (.istore_n 1, 1) := by decide +kernel
theorem dX4_fresh_54 : decode cX4_fresh 54 = .ok (.iload_n 1, 1) := by decide +kernel
theorem dX4_fresh_55 : decode cX4_fresh 55 = .ok (.iconst 4, 1) := by decide +kernel
theorem dX4_fresh_56 : decode cX4_fresh 56 = .ok (.if_icmp .ge 23, 3) := by decide +kernel
theorem dX4_fresh_59 : decode cX4_fresh 59 = .ok (.aload_n 0, 1) := by decide +kernel
theorem dX4_fresh_60 : decode cX4_fresh 60 = .ok (.getfield 38, 3) := by decide +kernel
theorem dX4_fresh_63 : decode cX4_fresh 63 = .ok (.iload_n 1, 1) := by decide +kernel
theorem dX4_fresh_64 : decode cX4_fresh 64 = .ok (.iconst 0, 1) := by decide +kernel
theorem dX4_fresh_65 : decode cX4_fresh 65 = .ok (.iastore, 1) := by decide +kernel
theorem dX4_fresh_66 : decode cX4_fresh 66 = .ok (.aload_n 0, 1) := by decide +kernel
theorem dX4_fresh_67 : decode cX4_fresh 67 = .ok (.getfield 42, 3) := by decide +kernel
theorem dX4_fresh_70 : decode cX4_fresh 70 = .ok (.iload_n 1, 1) := by decide +kernel
theorem dX4_fresh_71 : decode cX4_fresh 71 = .ok (.iconst 0, 1) := by decide +kernel
theorem dX4_fresh_72 : decode cX4_fresh 72 = .ok (.bastore, 1) := by decide +kernel
theorem dX4_fresh_73 : decode cX4_fresh 73 = .ok (.iinc 1 1, 3) := by decide +kernel
theorem dX4_fresh_76 : decode cX4_fresh 76 = .ok (.goto (-22), 3) := by decide +kernel
theorem dX4_fresh_79 : decode cX4_fresh 79 = .ok (.return_, 1) := by decide +kernel
theorem dX4_init_0 : decode cX4_init 0 = .ok (.aload_n 0, 1) := by decide +kernel
theorem dX4_init_1 : decode cX4_init 1 = .ok (.invokespecial 46, 3) := by decide +kernel
theorem dX4_init_4 : decode cX4_init 4 = .ok (.aload_n 0, 1) := by decide +kernel
theorem dX4_init_5 : decode cX4_init 5 = .ok (.bipush 60, 2) := by decide +kernel
theorem dX4_init_7 : decode cX4_init 7 = .ok (.newarray .int, 2) := by decide +kernel
theorem dX4_init_9 : decode cX4_init 9 = .ok (.putfield 52, 3) := by decide +kernel
theorem dX4_init_12 : decode cX4_init 12 = .ok (.aload_n 0, 1) := by decide +kernel
theorem dX4_init_13 : decode cX4_init 13 = .ok (.bipush 60, 2) := by decide +kernel
theorem dX4_init_15 : decode cX4_init 15 = .ok (.newarray .int, 2) := by decide +kernel
theorem dX4_init_17 : decode cX4_init 17 = .ok (.putfield 55, 3) := by decide +kernel
theorem dX4_init_20 : decode cX4_init 20 = .ok (.aload_n 0, 1) := by decide +kernel
theorem dX4_init_21 : decode cX4_init 21 = .ok (.bipush 60, 2) := by decide +kernel
theorem dX4_init_23 : decode cX4_init 23 = .ok (.newarray .boolean, 2) := by decide +kernel
theorem dX4_init_25 : decode cX4_init 25 = .ok (.putfield 58, 3) := by decide +kernel
theorem dX4_init_28 : decode cX4_init 28 = .ok (.aload_n 0, 1) := by decide +kernel
theorem dX4_init_29 : decode cX4_init 29 = .ok (.bipush 60, 2) := by decide +kernel
theorem dX4_init_31 : decode cX4_init 31 = .ok (.newarray .int, 2) := by decide +kernel
theorem dX4_init_33 : decode cX4_init 33 = .ok (.putfield 61, 3) := by decide +kernel
theorem dX4_init_36 : decode cX4_init 36 = .ok (.aload_n 0, 1) := by decide +kernel
theorem dX4_init_37 : decode cX4_init 37 = .ok (.bipush 60, 2) := by decide +kernel
theorem dX4_init_39 : decode cX4_init 39 = .ok (.newarray .int, 2) := by decide +kernel
theorem dX4_init_41 : decode cX4_init 41 = .ok (.putfield 64, 3) := by decide +kernel
theorem dX4_init_44 : decode cX4_init 44 = .ok (.aload_n 0, 1) := by decide +kernel
theorem dX4_init_45 : decode cX4_init 45 = .ok (.bipush 60, 2) := by decide +kernel
theorem dX4_init_47 : decode cX4_init 47 = .ok (.newarray .int, 2) := by decide +kernel
theorem dX4_init_49 : decode cX4_init 49 = .ok (.putfield 67, 3) := by decide +kernel
theorem dX4_init_52 : decode cX4_init 52 = .ok (.aload_n 0, 1) := by decide +kernel
theorem dX4_init_53 : decode cX4_init 53 = .ok (.bipush 60, 2) := by decide +kernel
theorem dX4_init_55 : decode cX4_init 55 = .ok (.newarray .int, 2) := by decide +kernel
theorem dX4_init_57 : decode cX4_init 57 = .ok (.putfield 70, 3) := by decide +kernel
theorem dX4_init_60 : decode cX4_init 60 = .ok (.aload_n 0, 1) := by decide +kernel
theorem dX4_init_61 : decode cX4_init 61 = .ok (.sipush 240, 3) := by decide +kernel
theorem dX4_init_64 : decode cX4_init 64 = .ok (.newarray .int, 2) := by decide +kernel
theorem dX4_init_66 : decode cX4_init 66 = .ok (.putfield 73, 3) := by decide +kernel
theorem dX4_init_69 : decode cX4_init 69 = .ok (.aload_n 0, 1) := by decide +kernel
theorem dX4_init_70 : decode cX4_init 70 = .ok (.sipush 480, 3) := by decide +kernel
theorem dX4_init_73 : decode cX4_init 73 = .ok (.newarray .int, 2) := by decide +kernel
theorem dX4_init_75 : decode cX4_init 75 = .ok (.putfield 76, 3) := by decide +kernel
theorem dX4_init_78 : decode cX4_init 78 = .ok (.aload_n 0, 1) := by decide +kernel
theorem dX4_init_79 : decode cX4_init 79 = .ok (.sipush 480, 3) := by decide +kernel
theorem dX4_init_82 : decode cX4_init 82 = .ok (.newarray .int, 2) := by decide +kernel
theorem dX4_init_84 : decode cX4_init 84 = .ok (.putfield 79, 3) := by decide +kernel
theorem dX4_init_87 : decode cX4_init 87 = .ok (.aload_n 0, 1) := by decide +kernel
theorem dX4_init_88 : decode cX4_init 88 = .ok (.sipush 480, 3) := by decide +kernel
theorem dX4_init_91 : decode cX4_init 91 = .ok (.newarray .boolean, 2) := by decide +kernel
theorem dX4_init_93 : decode cX4_init 93 = .ok (.putfield 82, 3) := by decide +kernel
theorem dX4_init_96 : decode cX4_init 96 = .ok (.aload_n 0, 1) := by decide +kernel
theorem dX4_init_97 : decode cX4_init 97 = .ok (.iconst 4, 1) := by decide +kernel
theorem dX4_init_98 : decode cX4_init 98 = .ok (.newarray .int, 2) := by decide +kernel
theorem dX4_init_100 : decode cX4_init 100 = .ok (.putfield 38, 3) := by decide +kernel
theorem dX4_init_103 : decode cX4_init 103 = .ok (.aload_n 0, 1) := by decide +kernel
theorem dX4_init_104 : decode cX4_init 104 = .ok (.iconst 4, 1) := by decide +kernel
theorem dX4_init_105 : decode cX4_init 105 = .ok (.newarray .boolean, 2) := by decide +kernel
theorem dX4_init_107 : decode cX4_init 107 = .ok (.putfield 42, 3) := by decide +kernel
theorem dX4_init_110 : decode cX4_init 110 = .ok (.aload_n 0, 1) := by decide +kernel
theorem dX4_init_111 : decode cX4_init 111 = .ok (.sipush 2000, 3) := by decide +kernel
theorem dX4_init_114 : decode cX4_init 114 = .ok (.putfield 16, 3) := by decide +kernel
theorem dX4_init_117 : decode cX4_init 117 = .ok (.aload_n 0, 1) := by decide +kernel
theorem dX4_init_118 : decode cX4_init 118 = .ok (.bipush 60, 2) := by decide +kernel
theorem dX4_init_120 : decode cX4_init 120 = .ok (.newarray .int, 2) := by decide +kernel
theorem dX4_init_122 : decode cX4_init 122 = .ok (.putfield 85, 3) := by decide +kernel
theorem dX4_init_125 : decode cX4_init 125 = .ok (.aload_n 0, 1) := by decide +kernel
theorem dX4_init_126 : decode cX4_init 126 = .ok (.sipush 240, 3) := by decide +kernel
theorem dX4_init_129 : decode cX4_init 129 = .ok (.newarray .int, 2) := by decide +kernel
theorem dX4_init_131 : decode cX4_init 131 = .ok (.putfield 88, 3) := by decide +kernel
theorem dX4_init_134 : decode cX4_init 134 = .ok (.aload_n 0, 1) := by decide +kernel
theorem dX4_init_135 : decode cX4_init 135 = .ok (.bipush 30, 2) := by decide +kernel
theorem dX4_init_137 : decode cX4_init 137 = .ok (.newarray .int, 2) := by decide +kernel
theorem dX4_init_139 : decode cX4_init 139 = .ok (.putfield 91, 3) := by decide +kernel
theorem dX4_init_142 : decode cX4_init 142 = .ok (.aload_n 0, 1) := by decide +kernel
theorem dX4_init_143 : decode cX4_init 143 = .ok (.sipush 180, 3) := by decide +kernel
theorem dX4_init_146 : decode cX4_init 146 = .ok (.newarray .int, 2) := by decide +kernel
theorem dX4_init_148 : decode cX4_init 148 = .ok (.putfield 94, 3) := by decide +kernel
theorem dX4_init_151 : decode cX4_init 151 = .ok (.aload_n 0, 1) := by decide +kernel
theorem dX4_init_152 : decode cX4_init 152 = .ok (.sipush 210, 3) := by decide +kernel
theorem dX4_init_155 : decode cX4_init 155 = .ok (.newarray .int, 2) := by decide +kernel
theorem dX4_init_157 : decode cX4_init 157 = .ok (.putfield 97, 3) := by decide +kernel
theorem dX4_init_160 : decode cX4_init 160 = .ok (.aload_n 0, 1) := by decide +kernel
theorem dX4_init_161 : decode cX4_init 161 = .ok (.bipush 24, 2) := by decide +kernel
theorem dX4_init_163 : decode cX4_init 163 = .ok (.newarray .int, 2) := by decide +kernel
theorem dX4_init_165 : decode cX4_init 165 = .ok (.putfield 100, 3) := by decide +kernel
theorem dX4_init_168 : decode cX4_init 168 = .ok (.aload_n 0, 1) := by decide +kernel
theorem dX4_init_169 : decode cX4_init 169 = .ok (.bipush 24, 2) := by decide +kernel
theorem dX4_init_171 : decode cX4_init 171 = .ok (.newarray .int, 2) := by decide +kernel
theorem dX4_init_173 : decode cX4_init 173 = .ok (.putfield 103, 3) := by decide +kernel
theorem dX4_init_176 : decode cX4_init 176 = .ok (.aload_n 0, 1) := by decide +kernel
theorem dX4_init_177 : decode cX4_init 177 = .ok (.invokevirtual 106, 3) := by decide +kernel
theorem dX4_init_180 : decode cX4_init 180 = .ok (.return_, 1) := by decide +kernel
theorem dX4_lies_0 : decode cX4_lies 0 = .ok (.iload_n 0, 1) := by decide +kernel
theorem dX4_lies_1 : decode cX4_lies 1 = .ok (.iload_n 1, 1) := by decide +kernel
theorem dX4_lies_2 : decode cX4_lies 2 = .ok (.if_icmp .lt 12, 3) := by decide +kernel
theorem dX4_lies_5 : decode cX4_lies 5 = .ok (.iload_n 0, 1) := by decide +kernel
theorem dX4_lies_6 : decode cX4_lies 6 = .ok (.iload_n 2, 1) := by decide +kernel
theorem dX4_lies_7 : decode cX4_lies 7 = .ok (.if_icmp .gt 7, 3) := by decide +kernel
theorem dX4_lies_10 : decode cX4_lies 10 = .ok (.iconst 1, 1) := by decide +kernel
theorem dX4_lies_11 : decode cX4_lies 11 = .ok (.goto 4, 3) := by decide +kernel
theorem dX4_lies_14 : decode cX4_lies 14 = .ok (.iconst 0, 1) := by decide +kernel
theorem dX4_lies_15 : decode cX4_lies 15 = .ok (.ireturn, 1) := by decide +kernel
theorem dX4_isNote_0 : decode cX4_isNote 0 = .ok (.iload_n 1, 1) := by decide +kernel
theorem dX4_isNote_1 : decode cX4_isNote 1 = .ok (.iconst 0, 1) := by decide +kernel
theorem dX4_isNote_2 : decode cX4_isNote 2 = .ok (.aload_n 0, 1) := by decide +kernel
theorem dX4_isNote_3 : decode cX4_isNote 3 = .ok (.getfield 7, 3) := by decide +kernel
theorem dX4_isNote_6 : decode cX4_isNote 6 = .ok (.iconst 1, 1) := by decide +kernel
theorem dX4_isNote_7 : decode cX4_isNote 7 = .ok (.isub, 1) := by decide +kernel
theorem dX4_isNote_8 : decode cX4_isNote 8 = .ok (.invokestatic 109, 3) := by decide +kernel
theorem dX4_isNote_11 : decode cX4_isNote 11 = .ok (.ireturn, 1) := by decide +kernel
theorem dX4_isVerse_0 : decode cX4_isVerse 0 = .ok (.iload_n 0, 1) := by decide +kernel
theorem dX4_isVerse_1 : decode cX4_isVerse 1 = .ok (.iconst 0, 1) := by decide +kernel
theorem dX4_isVerse_2 : decode cX4_isVerse 2 = .ok (.iconst 3, 1) := by decide +kernel
theorem dX4_isVerse_3 : decode cX4_isVerse 3 = .ok (.invokestatic 109, 3) := by decide +kernel
theorem dX4_isVerse_6 : decode cX4_isVerse 6 = .ok (.ireturn, 1) := by decide +kernel
theorem dX4_note_0 : decode cX4_note 0 = .ok (.aload_n 0, 1) := by decide +kernel
theorem dX4_note_1 : decode cX4_note 1 = .ok (.iconst 0, 1) := by decide +kernel
theorem dX4_note_2 : decode cX4_note 2 = .ok (.putfield 1, 3) := by decide +kernel
theorem dX4_note_5 : decode cX4_note 5 = .ok (.iload_n 1, 1) := by decide +kernel
theorem dX4_note_6 : decode cX4_note 6 = .ok (.bipush 10, 2) := by decide +kernel
theorem dX4_note_8 : decode cX4_note 8 = .ok (.sipush 200, 3) := by decide +kernel
theorem dX4_note_11 : decode cX4_note 11 = .ok (.invokestatic 109, 3) := by decide +kernel
theorem dX4_note_14 : decode cX4_note 14 = .ok (.ifCond .eq 13, 3) := by decide +kernel
theorem dX4_note_17 : decode cX4_note 17 = .ok (.iload_n 2, 1) := by decide +kernel
theorem dX4_note_18 : decode cX4_note 18 = .ok (.iconst 1, 1) := by decide +kernel
theorem dX4_note_19 : decode cX4_note 19 = .ok (.bipush 64, 2) := by decide +kernel
theorem dX4_note_21 : decode cX4_note 21 = .ok (.invokestatic 109, 3) := by decide +kernel
theorem dX4_note_24 : decode cX4_note 24 = .ok (.ifCond .ne 6, 3) := by decide +kernel
theorem dX4_note_27 : decode cX4_note 27 = .ok (.ldc 113, 2) := by decide +kernel
theorem dX4_note_29 : decode cX4_note 29 = .ok (.ireturn, 1) := by decide +kernel
theorem dX4_note_30 : decode cX4_note 30 = .ok (.aload_n 0, 1) := by decide +kernel
theorem dX4_note_31 : decode cX4_note 31 = .ok (.getfield 7, 3) := by decide +kernel
theorem dX4_note_34 : decode cX4_note 34 = .ok (.bipush 60, 2) := by decide +kernel
theorem dX4_note_36 : decode cX4_note 36 = .ok (.if_icmp .ne 6, 3) := by decide +kernel
theorem dX4_note_39 : decode cX4_note 39 = .ok (.ldc 114, 2) := by decide +kernel
theorem dX4_note_41 : decode cX4_note 41 = .ok (.ireturn, 1) := by decide +kernel
theorem dX4_note_42 : decode cX4_note 42 = .ok (.aload_n 0, 1) := by decide +kernel
theorem dX4_note_43 : decode cX4_note 43 = .ok (.getfield 52, 3) := by decide +kernel
theorem dX4_note_46 : decode cX4_note 46 = .ok (.aload_n 0, 1) := by decide +kernel
theorem dX4_note_47 : decode cX4_note 47 = .ok (.getfield 7, 3) := by decide +kernel
theorem dX4_note_50 : decode cX4_note 50 = .ok (.iload_n 1, 1) := by decide +kernel
theorem dX4_note_51 : decode cX4_note 51 = .ok (.iastore, 1) := by decide +kernel
theorem dX4_note_52 : decode cX4_note 52 = .ok (.aload_n 0, 1) := by decide +kernel
theorem dX4_note_53 : decode cX4_note 53 = .ok (.getfield 55, 3) := by decide +kernel
theorem dX4_note_56 : decode cX4_note 56 = .ok (.aload_n 0, 1) := by decide +kernel
theorem dX4_note_57 : decode cX4_note 57 = .ok (.getfield 7, 3) := by decide +kernel
theorem dX4_note_60 : decode cX4_note 60 = .ok (.iload_n 2, 1) := by decide +kernel
theorem dX4_note_61 : decode cX4_note 61 = .ok (.iastore, 1) := by decide +kernel
theorem dX4_note_62 : decode cX4_note 62 = .ok (.aload_n 0, 1) := by decide +kernel
theorem dX4_note_63 : decode cX4_note 63 = .ok (.getfield 58, 3) := by decide +kernel
theorem dX4_note_66 : decode cX4_note 66 = .ok (.aload_n 0, 1) := by decide +kernel
theorem dX4_note_67 : decode cX4_note 67 = .ok (.getfield 7, 3) := by decide +kernel
theorem dX4_note_70 : decode cX4_note 70 = .ok (.iload_n 3, 1) := by decide +kernel
theorem dX4_note_71 : decode cX4_note 71 = .ok (.bastore, 1) := by decide +kernel
theorem dX4_note_72 : decode cX4_note 72 = .ok (.aload_n 0, 1) := by decide +kernel
theorem dX4_note_73 : decode cX4_note 73 = .ok (.getfield 61, 3) := by decide +kernel
theorem dX4_note_76 : decode cX4_note 76 = .ok (.aload_n 0, 1) := by decide +kernel
theorem dX4_note_77 : decode cX4_note 77 = .ok (.getfield 7, 3) := by decide +kernel
theorem dX4_note_80 : decode cX4_note 80 = .ok (.iconst 0, 1) := by decide +kernel
theorem dX4_note_81 : decode cX4_note 81 = .ok (.iastore, 1) := by decide +kernel
theorem dX4_note_82 : decode cX4_note 82 = .ok (.aload_n 0, 1) := by decide +kernel
theorem dX4_note_83 : decode cX4_note 83 = .ok (.getfield 64, 3) := by decide +kernel
theorem dX4_note_86 : decode cX4_note 86 = .ok (.aload_n 0, 1) := by decide +kernel
theorem dX4_note_87 : decode cX4_note 87 = .ok (.getfield 7, 3) := by decide +kernel
theorem dX4_note_90 : decode cX4_note 90 = .ok (.ldc 115, 2) := by decide +kernel
theorem dX4_note_92 : decode cX4_note 92 = .ok (.iastore, 1) := by decide +kernel
theorem dX4_note_93 : decode cX4_note 93 = .ok (.aload_n 0, 1) := by decide +kernel
theorem dX4_note_94 : decode cX4_note 94 = .ok (.getfield 70, 3) := by decide +kernel
theorem dX4_note_97 : decode cX4_note 97 = .ok (.aload_n 0, 1) := by decide +kernel
theorem dX4_note_98 : decode cX4_note 98 = .ok (.getfield 7, 3) := by decide +kernel
theorem dX4_note_101 : decode cX4_note 101 = .ok (.ldc 115, 2) := by decide +kernel
theorem dX4_note_103 : decode cX4_note 103 = .ok (.iastore, 1) := by decide +kernel
theorem dX4_note_104 : decode cX4_note 104 = .ok (.iconst 0, 1) := by decide +kernel
theorem dX4_note_105 : decode cX4_note 105 = .ok (.istore 4, 2) := by decide +kernel
theorem dX4_note_107 : decode cX4_note 107 = .ok (.iload 4, 2) := by decide +kernel
theorem dX4_note_109 : decode cX4_note 109 = .ok (.iconst 4, 1) := by decide +kernel
theorem dX4_note_110 : decode cX4_note 110 = .ok (.if_icmp .ge 24, 3) := by decide +kernel
theorem dX4_note_113 : decode cX4_note 113 = .ok (.aload_n 0, 1) := by decide +kernel
theorem dX4_note_114 : decode cX4_note 114 = .ok (.getfield 73, 3) := by decide +kernel
theorem dX4_note_117 : decode cX4_note 117 = .ok (.iconst 4, 1) := by decide +kernel
theorem dX4_note_118 : decode cX4_note 118 = .ok (.aload_n 0, 1) := by decide +kernel
theorem dX4_note_119 : decode cX4_note 119 = .ok (.getfield 7, 3) := by decide +kernel
theorem dX4_note_122 : decode cX4_note 122 = .ok (.imul, 1) := by decide +kernel
theorem dX4_note_123 : decode cX4_note 123 = .ok (.iload 4, 2) := by decide +kernel
theorem dX4_note_125 : decode cX4_note 125 = .ok (.iadd, 1) := by decide +kernel
theorem dX4_note_126 : decode cX4_note 126 = .ok (.iconst 0, 1) := by decide +kernel
theorem dX4_note_127 : decode cX4_note 127 = .ok (.iastore, 1) := by decide +kernel
theorem dX4_note_128 : decode cX4_note 128 = .ok (.iinc 4 1, 3) := by decide +kernel
theorem dX4_note_131 : decode cX4_note 131 = .ok (.goto (-24), 3) := by decide +kernel
theorem dX4_note_134 : decode cX4_note 134 = .ok (.aload_n 0, 1) := by decide +kernel
theorem dX4_note_135 : decode cX4_note 135 = .ok (.iconst 0, 1) := by decide +kernel
theorem dX4_note_136 : decode cX4_note 136 = .ok (.putfield 19, 3) := by decide +kernel
theorem dX4_note_139 : decode cX4_note 139 = .ok (.aload_n 0, 1) := by decide +kernel
theorem dX4_note_140 : decode cX4_note 140 = .ok (.dup, 1) := by decide +kernel
theorem dX4_note_141 : decode cX4_note 141 = .ok (.getfield 7, 3) := by decide +kernel
theorem dX4_note_144 : decode cX4_note 144 = .ok (.iconst 1, 1) := by decide +kernel
theorem dX4_note_145 : decode cX4_note 145 = .ok (.iadd, 1) := by decide +kernel
theorem dX4_note_146 : decode cX4_note 146 = .ok (.putfield 7, 3) := by decide +kernel
theorem dX4_note_149 : decode cX4_note 149 = .ok (.aload_n 0, 1) := by decide +kernel
theorem dX4_note_150 : decode cX4_note 150 = .ok (.getfield 7, 3) := by decide +kernel
theorem dX4_note_153 : decode cX4_note 153 = .ok (.iconst 1, 1) := by decide +kernel
theorem dX4_note_154 : decode cX4_note 154 = .ok (.isub, 1) := by decide +kernel
theorem dX4_note_155 : decode cX4_note 155 = .ok (.ireturn, 1) := by decide +kernel
theorem dX4_isBehindFirst_0 : decode cX4_isBehindFirst 0 = .ok (.aload_n 0, 1) := by decide +kernel
theorem dX4_isBehindFirst_1 : decode cX4_isBehindFirst 1 = .ok (.getfield 64, 3) := by decide +kernel
theorem dX4_isBehindFirst_4 : decode cX4_isBehindFirst 4 = .ok (.iload_n 1, 1) := by decide +kernel
theorem dX4_isBehindFirst_5 : decode cX4_isBehindFirst 5 = .ok (.iaload, 1) := by decide +kernel
theorem dX4_isBehindFirst_6 : decode cX4_isBehindFirst 6 = .ok (.ldc 115, 2) := by decide +kernel
theorem dX4_isBehindFirst_8 : decode cX4_isBehindFirst 8 = .ok (.if_icmp .eq 17, 3) := by decide +kernel
theorem dX4_isBehindFirst_11 : decode cX4_isBehindFirst 11 = .ok (.aload_n 0, 1) := by decide +kernel
theorem dX4_isBehindFirst_12 : decode cX4_isBehindFirst 12 = .ok (.getfield 64, 3) := by decide +kernel
theorem dX4_isBehindFirst_15 : decode cX4_isBehindFirst 15 = .ok (.iload_n 1, 1) := by decide +kernel
theorem dX4_isBehindFirst_16 : decode cX4_isBehindFirst 16 = .ok (.iaload, 1) := by decide +kernel
theorem dX4_isBehindFirst_17 : decode cX4_isBehindFirst 17 = .ok (.iload_n 1, 1) := by decide +kernel
theorem dX4_isBehindFirst_18 : decode cX4_isBehindFirst 18 = .ok (.if_icmp .eq 7, 3) := by decide +kernel
theorem dX4_isBehindFirst_21 : decode cX4_isBehindFirst 21 = .ok (.iconst 1, 1) := by decide +kernel
theorem dX4_isBehindFirst_22 : decode cX4_isBehindFirst 22 = .ok (.goto 4, 3) := by decide +kernel
theorem dX4_isBehindFirst_25 : decode cX4_isBehindFirst 25 = .ok (.iconst 0, 1) := by decide +kernel
theorem dX4_isBehindFirst_26 : decode cX4_isBehindFirst 26 = .ok (.ireturn, 1) := by decide +kernel
theorem dX4_syllable_0 : decode cX4_syllable 0 = .ok (.aload_n 0, 1) := by decide +kernel
theorem dX4_syllable_1 : decode cX4_syllable 1 = .ok (.iconst 0, 1) := by decide +kernel
theorem dX4_syllable_2 : decode cX4_syllable 2 = .ok (.putfield 1, 3) := by decide +kernel
theorem dX4_syllable_5 : decode cX4_syllable 5 = .ok (.aload_n 0, 1) := by decide +kernel
theorem dX4_syllable_6 : decode cX4_syllable 6 = .ok (.iload_n 1, 1) := by decide +kernel
theorem dX4_syllable_7 : decode cX4_syllable 7 = .ok (.invokevirtual 116, 3) := by decide +kernel
theorem dX4_syllable_10 : decode cX4_syllable 10 = .ok (.ifCond .eq 10, 3) := by decide +kernel
theorem dX4_syllable_13 : decode cX4_syllable 13 = .ok (.iload_n 2, 1) := by decide +kernel
theorem dX4_syllable_14 : decode cX4_syllable 14 = .ok (.invokestatic 120, 3) := by decide +kernel
theorem dX4_syllable_17 : decode cX4_syllable 17 = .ok (.ifCond .ne 6, 3) := by decide +kernel
theorem dX4_syllable_20 : decode cX4_syllable 20 = .ok (.ldc 123, 2) := by decide +kernel
theorem dX4_syllable_22 : decode cX4_syllable 22 = .ok (.ireturn, 1) := by decide +kernel
theorem dX4_syllable_23 : decode cX4_syllable 23 = .ok (.iload_n 3, 1) := by decide +kernel
theorem dX4_syllable_24 : decode cX4_syllable 24 = .ok (.iconst 1, 1) := by decide +kernel
theorem dX4_syllable_25 : decode cX4_syllable 25 = .ok (.sipush 200, 3) := by decide +kernel
theorem dX4_syllable_28 : decode cX4_syllable 28 = .ok (.invokestatic 109, 3) := by decide +kernel
theorem dX4_syllable_31 : decode cX4_syllable 31 = .ok (.ifCond .eq 13, 3) := by decide +kernel
theorem dX4_syllable_34 : decode cX4_syllable 34 = .ok (.iload 4, 2) := by decide +kernel
theorem dX4_syllable_36 : decode cX4_syllable 36 = .ok (.iconst 0, 1) := by decide +kernel
theorem dX4_syllable_37 : decode cX4_syllable 37 = .ok (.iload_n 3, 1) := by decide +kernel
theorem dX4_syllable_38 : decode cX4_syllable 38 = .ok (.invokestatic 109, 3) := by decide +kernel
theorem dX4_syllable_41 : decode cX4_syllable 41 = .ok (.ifCond .ne 6, 3) := by decide +kernel
theorem dX4_syllable_44 : decode cX4_syllable 44 = .ok (.ldc 113, 2) := by decide +kernel
theorem dX4_syllable_46 : decode cX4_syllable 46 = .ok (.ireturn, 1) := by decide +kernel
theorem dX4_syllable_47 : decode cX4_syllable 47 = .ok (.aload_n 0, 1) := by decide +kernel
theorem dX4_syllable_48 : decode cX4_syllable 48 = .ok (.getfield 58, 3) := by decide +kernel
theorem dX4_syllable_51 : decode cX4_syllable 51 = .ok (.iload_n 1, 1) := by decide +kernel
theorem dX4_syllable_52 : decode cX4_syllable 52 = .ok (.baload, 1) := by decide +kernel
theorem dX4_syllable_53 : decode cX4_syllable 53 = .ok (.ifCond .ne 26, 3) := by decide +kernel
theorem dX4_syllable_56 : decode cX4_syllable 56 = .ok (.aload_n 0, 1) := by decide +kernel
theorem dX4_syllable_57 : decode cX4_syllable 57 = .ok (.iload_n 1, 1) := by decide +kernel
theorem dX4_syllable_58 : decode cX4_syllable 58 = .ok (.invokevirtual 124, 3) := by decide +kernel
theorem dX4_syllable_61 : decode cX4_syllable 61 = .ok (.ifCond .ne 18, 3) := by decide +kernel
theorem dX4_syllable_64 : decode cX4_syllable 64 = .ok (.iload_n 2, 1) := by decide +kernel
theorem dX4_syllable_65 : decode cX4_syllable 65 = .ok (.ifCond .le 17, 3) := by decide +kernel
theorem dX4_syllable_68 : decode cX4_syllable 68 = .ok (.aload_n 0, 1) := by decide +kernel
theorem dX4_syllable_69 : decode cX4_syllable 69 = .ok (.getfield 70, 3) := by decide +kernel
theorem dX4_syllable_72 : decode cX4_syllable 72 = .ok (.iload_n 1, 1) := by decide +kernel
theorem dX4_syllable_73 : decode cX4_syllable 73 = .ok (.iaload, 1) := by decide +kernel
theorem dX4_syllable_74 : decode cX4_syllable 74 = .ok (.ldc 115, 2) := by decide +kernel
theorem dX4_syllable_76 : decode cX4_syllable 76 = .ok (.if_icmp .eq 6, 3) := by decide +kernel
theorem dX4_syllable_79 : decode cX4_syllable 79 = .ok (.ldc 127, 2) := by decide +kernel
theorem dX4_syllable_81 : decode cX4_syllable 81 = .ok (.ireturn, 1) := by decide +kernel
theorem dX4_syllable_82 : decode cX4_syllable 82 = .ok (.iconst 4, 1) := by decide +kernel
theorem dX4_syllable_83 : decode cX4_syllable 83 = .ok (.iload_n 1, 1) := by decide +kernel
theorem dX4_syllable_84 : decode cX4_syllable 84 = .ok (.imul, 1) := by decide +kernel
theorem dX4_syllable_85 : decode cX4_syllable 85 = .ok (.iload_n 2, 1) := by decide +kernel
theorem dX4_syllable_86 : decode cX4_syllable 86 = .ok (.iadd, 1) := by decide +kernel
theorem dX4_syllable_87 : decode cX4_syllable 87 = .ok (.istore 6, 2) := by decide +kernel
theorem dX4_syllable_89 : decode cX4_syllable 89 = .ok (.aload_n 0, 1) := by decide +kernel
theorem dX4_syllable_90 : decode cX4_syllable 90 = .ok (.getfield 73, 3) := by decide +kernel
theorem dX4_syllable_93 : decode cX4_syllable 93 = .ok (.iload 6, 2) := by decide +kernel
theorem dX4_syllable_95 : decode cX4_syllable 95 = .ok (.iaload, 1) := by decide +kernel
theorem dX4_syllable_96 : decode cX4_syllable 96 = .ok (.iconst 2, 1) := by decide +kernel
theorem dX4_syllable_97 : decode cX4_syllable 97 = .ok (.if_icmp .ne 6, 3) := by decide +kernel
theorem dX4_syllable_100 : decode cX4_syllable 100 = .ok (.ldc 114, 2) := by decide +kernel
theorem dX4_syllable_102 : decode cX4_syllable 102 = .ok (.ireturn, 1) := by decide +kernel
theorem dX4_syllable_103 : decode cX4_syllable 103 = .ok (.aload_n 0, 1) := by decide +kernel
theorem dX4_syllable_104 : decode cX4_syllable 104 = .ok (.getfield 76, 3) := by decide +kernel
theorem dX4_syllable_107 : decode cX4_syllable 107 = .ok (.iconst 2, 1) := by decide +kernel
theorem dX4_syllable_108 : decode cX4_syllable 108 = .ok (.iload 6, 2) := by decide +kernel
theorem dX4_syllable_110 : decode cX4_syllable 110 = .ok (.imul, 1) := by decide +kernel
theorem dX4_syllable_111 : decode cX4_syllable 111 = .ok (.aload_n 0, 1) := by decide +kernel
theorem dX4_syllable_112 : decode cX4_syllable 112 = .ok (.getfield 73, 3) := by decide +kernel
theorem dX4_syllable_115 : decode cX4_syllable 115 = .ok (.iload 6, 2) := by decide +kernel
theorem dX4_syllable_117 : decode cX4_syllable 117 = .ok (.iaload, 1) := by decide +kernel
theorem dX4_syllable_118 : decode cX4_syllable 118 = .ok (.iadd, 1) := by decide +kernel
theorem dX4_syllable_119 : decode cX4_syllable 119 = .ok (.iload_n 3, 1) := by decide +kernel
theorem dX4_syllable_120 : decode cX4_syllable 120 = .ok (.iastore, 1) := by decide +kernel
theorem dX4_syllable_121 : decode cX4_syllable 121 = .ok (.aload_n 0, 1) := by decide +kernel
theorem dX4_syllable_122 : decode cX4_syllable 122 = .ok (.getfield 79, 3) := by decide +kernel
theorem dX4_syllable_125 : decode cX4_syllable 125 = .ok (.iconst 2, 1) := by decide +kernel
theorem dX4_syllable_126 : decode cX4_syllable 126 = .ok (.iload 6, 2) := by decide +kernel
theorem dX4_syllable_128 : decode cX4_syllable 128 = .ok (.imul, 1) := by decide +kernel
theorem dX4_syllable_129 : decode cX4_syllable 129 = .ok (.aload_n 0, 1) := by decide +kernel
theorem dX4_syllable_130 : decode cX4_syllable 130 = .ok (.getfield 73, 3) := by decide +kernel
theorem dX4_syllable_133 : decode cX4_syllable 133 = .ok (.iload 6, 2) := by decide +kernel
theorem dX4_syllable_135 : decode cX4_syllable 135 = .ok (.iaload, 1) := by decide +kernel
theorem dX4_syllable_136 : decode cX4_syllable 136 = .ok (.iadd, 1) := by decide +kernel
theorem dX4_syllable_137 : decode cX4_syllable 137 = .ok (.iload 4, 2) := by decide +kernel
theorem dX4_syllable_139 : decode cX4_syllable 139 = .ok (.iastore, 1) := by decide +kernel
theorem dX4_syllable_140 : decode cX4_syllable 140 = .ok (.aload_n 0, 1) := by decide +kernel
theorem dX4_syllable_141 : decode cX4_syllable 141 = .ok (.getfield 82, 3) := by decide +kernel
theorem dX4_syllable_144 : decode cX4_syllable 144 = .ok (.iconst 2, 1) := by decide +kernel
theorem dX4_syllable_145 : decode cX4_syllable 145 = .ok (.iload 6, 2) := by decide +kernel
theorem dX4_syllable_147 : decode cX4_syllable 147 = .ok (.imul, 1) := by decide +kernel
theorem dX4_syllable_148 : decode cX4_syllable 148 = .ok (.aload_n 0, 1) := by decide +kernel
theorem dX4_syllable_149 : decode cX4_syllable 149 = .ok (.getfield 73, 3) := by decide +kernel
theorem dX4_syllable_152 : decode cX4_syllable 152 = .ok (.iload 6, 2) := by decide +kernel
theorem dX4_syllable_154 : decode cX4_syllable 154 = .ok (.iaload, 1) := by decide +kernel
theorem dX4_syllable_155 : decode cX4_syllable 155 = .ok (.iadd, 1) := by decide +kernel
theorem dX4_syllable_156 : decode cX4_syllable 156 = .ok (.iload 5, 2) := by decide +kernel
theorem dX4_syllable_158 : decode cX4_syllable 158 = .ok (.bastore, 1) := by decide +kernel
theorem dX4_syllable_159 : decode cX4_syllable 159 = .ok (.aload_n 0, 1) := by decide +kernel
theorem dX4_syllable_160 : decode cX4_syllable 160 = .ok (.getfield 73, 3) := by decide +kernel
theorem dX4_syllable_163 : decode cX4_syllable 163 = .ok (.iload 6, 2) := by decide +kernel
theorem dX4_syllable_165 : decode cX4_syllable 165 = .ok (.dup2, 1) := by decide +kernel
theorem dX4_syllable_166 : decode cX4_syllable 166 = .ok (.iaload, 1) := by decide +kernel
theorem dX4_syllable_167 : decode cX4_syllable 167 = .ok (.iconst 1, 1) := by decide +kernel
theorem dX4_syllable_168 : decode cX4_syllable 168 = .ok (.iadd, 1) := by decide +kernel
theorem dX4_syllable_169 : decode cX4_syllable 169 = .ok (.iastore, 1) := by decide +kernel
theorem dX4_syllable_170 : decode cX4_syllable 170 = .ok (.aload_n 0, 1) := by decide +kernel
theorem dX4_syllable_171 : decode cX4_syllable 171 = .ok (.iconst 0, 1) := by decide +kernel
theorem dX4_syllable_172 : decode cX4_syllable 172 = .ok (.putfield 19, 3) := by decide +kernel
theorem dX4_syllable_175 : decode cX4_syllable 175 = .ok (.aload_n 0, 1) := by decide +kernel
theorem dX4_syllable_176 : decode cX4_syllable 176 = .ok (.getfield 73, 3) := by decide +kernel
theorem dX4_syllable_179 : decode cX4_syllable 179 = .ok (.iload 6, 2) := by decide +kernel
theorem dX4_syllable_181 : decode cX4_syllable 181 = .ok (.iaload, 1) := by decide +kernel
theorem dX4_syllable_182 : decode cX4_syllable 182 = .ok (.ireturn, 1) := by decide +kernel
theorem dX4_wipe_0 : decode cX4_wipe 0 = .ok (.aload_n 0, 1) := by decide +kernel
theorem dX4_wipe_1 : decode cX4_wipe 1 = .ok (.iconst 0, 1) := by decide +kernel
theorem dX4_wipe_2 : decode cX4_wipe 2 = .ok (.putfield 1, 3) := by decide +kernel
theorem dX4_wipe_5 : decode cX4_wipe 5 = .ok (.aload_n 0, 1) := by decide +kernel
theorem dX4_wipe_6 : decode cX4_wipe 6 = .ok (.iload_n 1, 1) := by decide +kernel
theorem dX4_wipe_7 : decode cX4_wipe 7 = .ok (.invokevirtual 116, 3) := by decide +kernel
theorem dX4_wipe_10 : decode cX4_wipe 10 = .ok (.ifCond .eq 10, 3) := by decide +kernel
theorem dX4_wipe_13 : decode cX4_wipe 13 = .ok (.iload_n 2, 1) := by decide +kernel
theorem dX4_wipe_14 : decode cX4_wipe 14 = .ok (.invokestatic 120, 3) := by decide +kernel
theorem dX4_wipe_17 : decode cX4_wipe 17 = .ok (.ifCond .ne 6, 3) := by decide +kernel
theorem dX4_wipe_20 : decode cX4_wipe 20 = .ok (.ldc 123, 2) := by decide +kernel
theorem dX4_wipe_22 : decode cX4_wipe 22 = .ok (.ireturn, 1) := by decide +kernel
theorem dX4_wipe_23 : decode cX4_wipe 23 = .ok (.aload_n 0, 1) := by decide +kernel
theorem dX4_wipe_24 : decode cX4_wipe 24 = .ok (.getfield 73, 3) := by decide +kernel
theorem dX4_wipe_27 : decode cX4_wipe 27 = .ok (.iconst 4, 1) := by decide +kernel
theorem dX4_wipe_28 : decode cX4_wipe 28 = .ok (.iload_n 1, 1) := by decide +kernel
theorem dX4_wipe_29 : decode cX4_wipe 29 = .ok (.imul, 1) := by decide +kernel
theorem dX4_wipe_30 : decode cX4_wipe 30 = .ok (.iload_n 2, 1) := by decide +kernel
theorem dX4_wipe_31 : decode cX4_wipe 31 = .ok (.iadd, 1) := by decide +kernel
theorem dX4_wipe_32 : decode cX4_wipe 32 = .ok (.iaload, 1) := by decide +kernel
theorem dX4_wipe_33 : decode cX4_wipe 33 = .ok (.istore_n 3, 1) := by decide +kernel
theorem dX4_wipe_34 : decode cX4_wipe 34 = .ok (.aload_n 0, 1) := by decide +kernel
theorem dX4_wipe_35 : decode cX4_wipe 35 = .ok (.getfield 73, 3) := by decide +kernel
theorem dX4_wipe_38 : decode cX4_wipe 38 = .ok (.iconst 4, 1) := by decide +kernel
theorem dX4_wipe_39 : decode cX4_wipe 39 = .ok (.iload_n 1, 1) := by decide +kernel
theorem dX4_wipe_40 : decode cX4_wipe 40 = .ok (.imul, 1) := by decide +kernel
theorem dX4_wipe_41 : decode cX4_wipe 41 = .ok (.iload_n 2, 1) := by decide +kernel
theorem dX4_wipe_42 : decode cX4_wipe 42 = .ok (.iadd, 1) := by decide +kernel
theorem dX4_wipe_43 : decode cX4_wipe 43 = .ok (.iconst 0, 1) := by decide +kernel
theorem dX4_wipe_44 : decode cX4_wipe 44 = .ok (.iastore, 1) := by decide +kernel
theorem dX4_wipe_45 : decode cX4_wipe 45 = .ok (.aload_n 0, 1) := by decide +kernel
theorem dX4_wipe_46 : decode cX4_wipe 46 = .ok (.iconst 0, 1) := by decide +kernel
theorem dX4_wipe_47 : decode cX4_wipe 47 = .ok (.putfield 19, 3) := by decide +kernel
theorem dX4_wipe_50 : decode cX4_wipe 50 = .ok (.iload_n 3, 1) := by decide +kernel
theorem dX4_wipe_51 : decode cX4_wipe 51 = .ok (.ireturn, 1) := by decide +kernel
theorem dX4_chord_0 : decode cX4_chord 0 = .ok (.aload_n 0, 1) := by decide +kernel
theorem dX4_chord_1 : decode cX4_chord 1 = .ok (.iconst 0, 1) := by decide +kernel
theorem dX4_chord_2 : decode cX4_chord 2 = .ok (.putfield 1, 3) := by decide +kernel
theorem dX4_chord_5 : decode cX4_chord 5 = .ok (.aload_n 0, 1) := by decide +kernel
theorem dX4_chord_6 : decode cX4_chord 6 = .ok (.iload_n 1, 1) := by decide +kernel
theorem dX4_chord_7 : decode cX4_chord 7 = .ok (.invokevirtual 116, 3) := by decide +kernel
theorem dX4_chord_10 : decode cX4_chord 10 = .ok (.ifCond .ne 6, 3) := by decide +kernel
theorem dX4_chord_13 : decode cX4_chord 13 = .ok (.ldc 123, 2) := by decide +kernel
theorem dX4_chord_15 : decode cX4_chord 15 = .ok (.ireturn, 1) := by decide +kernel
theorem dX4_chord_16 : decode cX4_chord 16 = .ok (.iload_n 2, 1) := by decide +kernel
theorem dX4_chord_17 : decode cX4_chord 17 = .ok (.iconst 0, 1) := by decide +kernel
theorem dX4_chord_18 : decode cX4_chord 18 = .ok (.sipush 200, 3) := by decide +kernel
theorem dX4_chord_21 : decode cX4_chord 21 = .ok (.invokestatic 109, 3) := by decide +kernel
theorem dX4_chord_24 : decode cX4_chord 24 = .ok (.ifCond .ne 6, 3) := by decide +kernel
theorem dX4_chord_27 : decode cX4_chord 27 = .ok (.ldc 113, 2) := by decide +kernel
theorem dX4_chord_29 : decode cX4_chord 29 = .ok (.ireturn, 1) := by decide +kernel
theorem dX4_chord_30 : decode cX4_chord 30 = .ok (.aload_n 0, 1) := by decide +kernel
theorem dX4_chord_31 : decode cX4_chord 31 = .ok (.getfield 61, 3) := by decide +kernel
theorem dX4_chord_34 : decode cX4_chord 34 = .ok (.iload_n 1, 1) := by decide +kernel
theorem dX4_chord_35 : decode cX4_chord 35 = .ok (.iaload, 1) := by decide +kernel
theorem dX4_chord_36 : decode cX4_chord 36 = .ok (.istore_n 3, 1) := by decide +kernel
theorem dX4_chord_37 : decode cX4_chord 37 = .ok (.aload_n 0, 1) := by decide +kernel
theorem dX4_chord_38 : decode cX4_chord 38 = .ok (.getfield 61, 3) := by decide +kernel
theorem dX4_chord_41 : decode cX4_chord 41 = .ok (.iload_n 1, 1) := by decide +kernel
theorem dX4_chord_42 : decode cX4_chord 42 = .ok (.iload_n 2, 1) := by decide +kernel
theorem dX4_chord_43 : decode cX4_chord 43 = .ok (.iastore, 1) := by decide +kernel
theorem dX4_chord_44 : decode cX4_chord 44 = .ok (.aload_n 0, 1) := by decide +kernel
theorem dX4_chord_45 : decode cX4_chord 45 = .ok (.iconst 0, 1) := by decide +kernel
theorem dX4_chord_46 : decode cX4_chord 46 = .ok (.putfield 19, 3) := by decide +kernel
theorem dX4_chord_49 : decode cX4_chord 49 = .ok (.iload_n 3, 1) := by decide +kernel
theorem dX4_chord_50 : decode cX4_chord 50 = .ok (.ireturn, 1) := by decide +kernel
theorem dX4_syllablesOf_0 : decode cX4_syllablesOf 0 = .ok (.iconst 0, 1) := by decide +kernel
theorem dX4_syllablesOf_1 : decode cX4_syllablesOf 1 = .ok (.istore_n 3, 1) := by decide +kernel
theorem dX4_syllablesOf_2 : decode cX4_syllablesOf 2 = .ok (.iload_n 2, 1) := by decide +kernel
theorem dX4_syllablesOf_3 : decode cX4_syllablesOf 3 = .ok (.istore 4, 2) := by decide +kernel
theorem dX4_syllablesOf_5 : decode cX4_syllablesOf 5 = .ok (.iload 4, 2) := by decide +kernel
theorem dX4_syllablesOf_7 : decode cX4_syllablesOf 7 = .ok (.iconst 4, 1) := by decide +kernel
theorem dX4_syllablesOf_8 : decode cX4_syllablesOf 8 = .ok (.if_icmp .ge 23, 3) := by decide +kernel
theorem dX4_syllablesOf_11 : decode cX4_syllablesOf 11 = .ok (.iload_n 3, 1) := by decide +kernel
theorem dX4_syllablesOf_12 : decode cX4_syllablesOf 12 = .ok (.aload_n 0, 1) := by decide +kernel
theorem dX4_syllablesOf_13 : decode cX4_syllablesOf 13 = .ok (.getfield 73, 3) := by decide +kernel
theorem dX4_syllablesOf_16 : decode cX4_syllablesOf 16 = .ok (.iconst 4, 1) := by decide +kernel
theorem dX4_syllablesOf_17 : decode cX4_syllablesOf 17 = .ok (.iload_n 1, 1) := by decide +kernel
theorem dX4_syllablesOf_18 : decode cX4_syllablesOf 18 = .ok (.imul, 1) := by decide +kernel
theorem dX4_syllablesOf_19 : decode cX4_syllablesOf 19 = .ok (.iload 4, 2) := by decide +kernel
theorem dX4_syllablesOf_21 : decode cX4_syllablesOf 21 = .ok (.iadd, 1) := by decide +kernel
theorem dX4_syllablesOf_22 : decode cX4_syllablesOf 22 = .ok (.iaload, 1) := by decide +kernel
theorem dX4_syllablesOf_23 : decode cX4_syllablesOf 23 = .ok (.iadd, 1) := by decide +kernel
theorem dX4_syllablesOf_24 : decode cX4_syllablesOf 24 = .ok (.istore_n 3, 1) := by decide +kernel
theorem dX4_syllablesOf_25 : decode cX4_syllablesOf 25 = .ok (.iinc 4 1, 3) := by decide +kernel
theorem dX4_syllablesOf_28 : decode cX4_syllablesOf 28 = .ok (.goto (-23), 3) := by decide +kernel
theorem dX4_syllablesOf_31 : decode cX4_syllablesOf 31 = .ok (.iload_n 3, 1) := by decide +kernel
theorem dX4_syllablesOf_32 : decode cX4_syllablesOf 32 = .ok (.ireturn, 1) := by decide +kernel
theorem dX4_melisma_0 : decode cX4_melisma 0 = .ok (.aload_n 0, 1) := by decide +kernel
theorem dX4_melisma_1 : decode cX4_melisma 1 = .ok (.iconst 0, 1) := by decide +kernel
theorem dX4_melisma_2 : decode cX4_melisma 2 = .ok (.putfield 1, 3) := by decide +kernel
theorem dX4_melisma_5 : decode cX4_melisma 5 = .ok (.aload_n 0, 1) := by decide +kernel
theorem dX4_melisma_6 : decode cX4_melisma 6 = .ok (.iload_n 1, 1) := by decide +kernel
theorem dX4_melisma_7 : decode cX4_melisma 7 = .ok (.invokevirtual 116, 3) := by decide +kernel
theorem dX4_melisma_10 : decode cX4_melisma 10 = .ok (.ifCond .ne 6, 3) := by decide +kernel
theorem dX4_melisma_13 : decode cX4_melisma 13 = .ok (.ldc 123, 2) := by decide +kernel
theorem dX4_melisma_15 : decode cX4_melisma 15 = .ok (.ireturn, 1) := by decide +kernel
theorem dX4_melisma_16 : decode cX4_melisma 16 = .ok (.iload_n 2, 1) := by decide +kernel
theorem dX4_melisma_17 : decode cX4_melisma 17 = .ok (.iconst 2, 1) := by decide +kernel
theorem dX4_melisma_18 : decode cX4_melisma 18 = .ok (.bipush 20, 2) := by decide +kernel
theorem dX4_melisma_20 : decode cX4_melisma 20 = .ok (.invokestatic 109, 3) := by decide +kernel
theorem dX4_melisma_23 : decode cX4_melisma 23 = .ok (.ifCond .eq 13, 3) := by decide +kernel
theorem dX4_melisma_26 : decode cX4_melisma 26 = .ok (.iload_n 1, 1) := by decide +kernel
theorem dX4_melisma_27 : decode cX4_melisma 27 = .ok (.iload_n 2, 1) := by decide +kernel
theorem dX4_melisma_28 : decode cX4_melisma 28 = .ok (.iadd, 1) := by decide +kernel
theorem dX4_melisma_29 : decode cX4_melisma 29 = .ok (.aload_n 0, 1) := by decide +kernel
theorem dX4_melisma_30 : decode cX4_melisma 30 = .ok (.getfield 7, 3) := by decide +kernel
theorem dX4_melisma_33 : decode cX4_melisma 33 = .ok (.if_icmp .le 6, 3) := by decide +kernel
theorem dX4_melisma_36 : decode cX4_melisma 36 = .ok (.ldc 113, 2) := by decide +kernel
theorem dX4_melisma_38 : decode cX4_melisma 38 = .ok (.ireturn, 1) := by decide +kernel
theorem dX4_melisma_39 : decode cX4_melisma 39 = .ok (.iload_n 1, 1) := by decide +kernel
theorem dX4_melisma_40 : decode cX4_melisma 40 = .ok (.istore_n 3, 1) := by decide +kernel
theorem dX4_melisma_41 : decode cX4_melisma 41 = .ok (.iload_n 3, 1) := by decide +kernel
theorem dX4_melisma_42 : decode cX4_melisma 42 = .ok (.iload_n 1, 1) := by decide +kernel
theorem dX4_melisma_43 : decode cX4_melisma 43 = .ok (.iload_n 2, 1) := by decide +kernel
theorem dX4_melisma_44 : decode cX4_melisma 44 = .ok (.iadd, 1) := by decide +kernel
theorem dX4_melisma_45 : decode cX4_melisma 45 = .ok (.if_icmp .ge 46, 3) := by decide +kernel
theorem dX4_melisma_48 : decode cX4_melisma 48 = .ok (.aload_n 0, 1) := by decide +kernel
theorem dX4_melisma_49 : decode cX4_melisma 49 = .ok (.getfield 58, 3) := by decide +kernel
theorem dX4_melisma_52 : decode cX4_melisma 52 = .ok (.iload_n 3, 1) := by decide +kernel
theorem dX4_melisma_53 : decode cX4_melisma 53 = .ok (.baload, 1) := by decide +kernel
theorem dX4_melisma_54 : decode cX4_melisma 54 = .ok (.ifCond .ne 28, 3) := by decide +kernel
theorem dX4_melisma_57 : decode cX4_melisma 57 = .ok (.aload_n 0, 1) := by decide +kernel
theorem dX4_melisma_58 : decode cX4_melisma 58 = .ok (.getfield 64, 3) := by decide +kernel
theorem dX4_melisma_61 : decode cX4_melisma 61 = .ok (.iload_n 3, 1) := by decide +kernel
theorem dX4_melisma_62 : decode cX4_melisma 62 = .ok (.iaload, 1) := by decide +kernel
theorem dX4_melisma_63 : decode cX4_melisma 63 = .ok (.ldc 115, 2) := by decide +kernel
theorem dX4_melisma_65 : decode cX4_melisma 65 = .ok (.if_icmp .ne 17, 3) := by decide +kernel
theorem dX4_melisma_68 : decode cX4_melisma 68 = .ok (.iload_n 3, 1) := by decide +kernel
theorem dX4_melisma_69 : decode cX4_melisma 69 = .ok (.iload_n 1, 1) := by decide +kernel
theorem dX4_melisma_70 : decode cX4_melisma 70 = .ok (.if_icmp .le 15, 3) := by decide +kernel
theorem dX4_melisma_73 : decode cX4_melisma 73 = .ok (.aload_n 0, 1) := by decide +kernel
theorem dX4_melisma_74 : decode cX4_melisma 74 = .ok (.iload_n 3, 1) := by decide +kernel
theorem dX4_melisma_75 : decode cX4_melisma 75 = .ok (.iconst 0, 1) := by decide +kernel
theorem dX4_melisma_76 : decode cX4_melisma 76 = .ok (.invokevirtual 128, 3) := by decide +kernel
theorem dX4_melisma_79 : decode cX4_melisma 79 = .ok (.ifCond .le 6, 3) := by decide +kernel
theorem dX4_melisma_82 : decode cX4_melisma 82 = .ok (.ldc 127, 2) := by decide +kernel
theorem dX4_melisma_84 : decode cX4_melisma 84 = .ok (.ireturn, 1) := by decide +kernel
theorem dX4_melisma_85 : decode cX4_melisma 85 = .ok (.iinc 3 1, 3) := by decide +kernel
theorem dX4_melisma_88 : decode cX4_melisma 88 = .ok (.goto (-47), 3) := by decide +kernel
theorem dX4_melisma_91 : decode cX4_melisma 91 = .ok (.iload_n 1, 1) := by decide +kernel
theorem dX4_melisma_92 : decode cX4_melisma 92 = .ok (.istore_n 3, 1) := by decide +kernel
theorem dX4_melisma_93 : decode cX4_melisma 93 = .ok (.iload_n 3, 1) := by decide +kernel
theorem dX4_melisma_94 : decode cX4_melisma 94 = .ok (.iload_n 1, 1) := by decide +kernel
theorem dX4_melisma_95 : decode cX4_melisma 95 = .ok (.iload_n 2, 1) := by decide +kernel
theorem dX4_melisma_96 : decode cX4_melisma 96 = .ok (.iadd, 1) := by decide +kernel
theorem dX4_melisma_97 : decode cX4_melisma 97 = .ok (.if_icmp .ge 16, 3) := by decide +kernel
theorem dX4_melisma_100 : decode cX4_melisma 100 = .ok (.aload_n 0, 1) := by decide +kernel
theorem dX4_melisma_101 : decode cX4_melisma 101 = .ok (.getfield 64, 3) := by decide +kernel
theorem dX4_melisma_104 : decode cX4_melisma 104 = .ok (.iload_n 3, 1) := by decide +kernel
theorem dX4_melisma_105 : decode cX4_melisma 105 = .ok (.iload_n 1, 1) := by decide +kernel
theorem dX4_melisma_106 : decode cX4_melisma 106 = .ok (.iastore, 1) := by decide +kernel
theorem dX4_melisma_107 : decode cX4_melisma 107 = .ok (.iinc 3 1, 3) := by decide +kernel
theorem dX4_melisma_110 : decode cX4_melisma 110 = .ok (.goto (-17), 3) := by decide +kernel
theorem dX4_melisma_113 : decode cX4_melisma 113 = .ok (.aload_n 0, 1) := by decide +kernel
theorem dX4_melisma_114 : decode cX4_melisma 114 = .ok (.getfield 67, 3) := by decide +kernel
theorem dX4_melisma_117 : decode cX4_melisma 117 = .ok (.iload_n 1, 1) := by decide +kernel
theorem dX4_melisma_118 : decode cX4_melisma 118 = .ok (.iload_n 2, 1) := by decide +kernel
theorem dX4_melisma_119 : decode cX4_melisma 119 = .ok (.iastore, 1) := by decide +kernel
theorem dX4_melisma_120 : decode cX4_melisma 120 = .ok (.aload_n 0, 1) := by decide +kernel
theorem dX4_melisma_121 : decode cX4_melisma 121 = .ok (.dup, 1) := by decide +kernel
theorem dX4_melisma_122 : decode cX4_melisma 122 = .ok (.getfield 10, 3) := by decide +kernel
theorem dX4_melisma_125 : decode cX4_melisma 125 = .ok (.iconst 1, 1) := by decide +kernel
theorem dX4_melisma_126 : decode cX4_melisma 126 = .ok (.iadd, 1) := by decide +kernel
theorem dX4_melisma_127 : decode cX4_melisma 127 = .ok (.putfield 10, 3) := by decide +kernel
theorem dX4_melisma_130 : decode cX4_melisma 130 = .ok (.aload_n 0, 1) := by decide +kernel
theorem dX4_melisma_131 : decode cX4_melisma 131 = .ok (.iconst 0, 1) := by decide +kernel
theorem dX4_melisma_132 : decode cX4_melisma 132 = .ok (.putfield 19, 3) := by decide +kernel
theorem dX4_melisma_135 : decode cX4_melisma 135 = .ok (.aload_n 0, 1) := by decide +kernel
theorem dX4_melisma_136 : decode cX4_melisma 136 = .ok (.getfield 10, 3) := by decide +kernel
theorem dX4_melisma_139 : decode cX4_melisma 139 = .ok (.ireturn, 1) := by decide +kernel
theorem dX4_refrain_0 : decode cX4_refrain 0 = .ok (.aload_n 0, 1) := by decide +kernel
theorem dX4_refrain_1 : decode cX4_refrain 1 = .ok (.iconst 0, 1) := by decide +kernel
theorem dX4_refrain_2 : decode cX4_refrain 2 = .ok (.putfield 1, 3) := by decide +kernel
theorem dX4_refrain_5 : decode cX4_refrain 5 = .ok (.aload_n 0, 1) := by decide +kernel
theorem dX4_refrain_6 : decode cX4_refrain 6 = .ok (.iload_n 1, 1) := by decide +kernel
theorem dX4_refrain_7 : decode cX4_refrain 7 = .ok (.invokevirtual 116, 3) := by decide +kernel
theorem dX4_refrain_10 : decode cX4_refrain 10 = .ok (.ifCond .ne 6, 3) := by decide +kernel
theorem dX4_refrain_13 : decode cX4_refrain 13 = .ok (.ldc 123, 2) := by decide +kernel
theorem dX4_refrain_15 : decode cX4_refrain 15 = .ok (.ireturn, 1) := by decide +kernel
theorem dX4_refrain_16 : decode cX4_refrain 16 = .ok (.iload_n 2, 1) := by decide +kernel
theorem dX4_refrain_17 : decode cX4_refrain 17 = .ok (.iconst 1, 1) := by decide +kernel
theorem dX4_refrain_18 : decode cX4_refrain 18 = .ok (.bipush 60, 2) := by decide +kernel
theorem dX4_refrain_20 : decode cX4_refrain 20 = .ok (.invokestatic 109, 3) := by decide +kernel
theorem dX4_refrain_23 : decode cX4_refrain 23 = .ok (.ifCond .eq 13, 3) := by decide +kernel
theorem dX4_refrain_26 : decode cX4_refrain 26 = .ok (.iload_n 1, 1) := by decide +kernel
theorem dX4_refrain_27 : decode cX4_refrain 27 = .ok (.iload_n 2, 1) := by decide +kernel
theorem dX4_refrain_28 : decode cX4_refrain 28 = .ok (.iadd, 1) := by decide +kernel
theorem dX4_refrain_29 : decode cX4_refrain 29 = .ok (.aload_n 0, 1) := by decide +kernel
theorem dX4_refrain_30 : decode cX4_refrain 30 = .ok (.getfield 7, 3) := by decide +kernel
theorem dX4_refrain_33 : decode cX4_refrain 33 = .ok (.if_icmp .le 6, 3) := by decide +kernel
theorem dX4_refrain_36 : decode cX4_refrain 36 = .ok (.ldc 113, 2) := by decide +kernel
theorem dX4_refrain_38 : decode cX4_refrain 38 = .ok (.ireturn, 1) := by decide +kernel
theorem dX4_refrain_39 : decode cX4_refrain 39 = .ok (.iload_n 1, 1) := by decide +kernel
theorem dX4_refrain_40 : decode cX4_refrain 40 = .ok (.istore_n 3, 1) := by decide +kernel
theorem dX4_refrain_41 : decode cX4_refrain 41 = .ok (.iload_n 3, 1) := by decide +kernel
theorem dX4_refrain_42 : decode cX4_refrain 42 = .ok (.iload_n 1, 1) := by decide +kernel
theorem dX4_refrain_43 : decode cX4_refrain 43 = .ok (.iload_n 2, 1) := by decide +kernel
theorem dX4_refrain_44 : decode cX4_refrain 44 = .ok (.iadd, 1) := by decide +kernel
theorem dX4_refrain_45 : decode cX4_refrain 45 = .ok (.if_icmp .ge 32, 3) := by decide +kernel
theorem dX4_refrain_48 : decode cX4_refrain 48 = .ok (.aload_n 0, 1) := by decide +kernel
theorem dX4_refrain_49 : decode cX4_refrain 49 = .ok (.getfield 70, 3) := by decide +kernel
theorem dX4_refrain_52 : decode cX4_refrain 52 = .ok (.iload_n 3, 1) := by decide +kernel
theorem dX4_refrain_53 : decode cX4_refrain 53 = .ok (.iaload, 1) := by decide +kernel
theorem dX4_refrain_54 : decode cX4_refrain 54 = .ok (.ldc 115, 2) := by decide +kernel
theorem dX4_refrain_56 : decode cX4_refrain 56 = .ok (.if_icmp .ne 12, 3) := by decide +kernel
theorem dX4_refrain_59 : decode cX4_refrain 59 = .ok (.aload_n 0, 1) := by decide +kernel
theorem dX4_refrain_60 : decode cX4_refrain 60 = .ok (.iload_n 3, 1) := by decide +kernel
theorem dX4_refrain_61 : decode cX4_refrain 61 = .ok (.iconst 1, 1) := by decide +kernel
theorem dX4_refrain_62 : decode cX4_refrain 62 = .ok (.invokevirtual 128, 3) := by decide +kernel
theorem dX4_refrain_65 : decode cX4_refrain 65 = .ok (.ifCond .le 6, 3) := by decide +kernel
theorem dX4_refrain_68 : decode cX4_refrain 68 = .ok (.ldc 127, 2) := by decide +kernel
theorem dX4_refrain_70 : decode cX4_refrain 70 = .ok (.ireturn, 1) := by decide +kernel
theorem dX4_refrain_71 : decode cX4_refrain 71 = .ok (.iinc 3 1, 3) := by decide +kernel
theorem dX4_refrain_74 : decode cX4_refrain 74 = .ok (.goto (-33), 3) := by decide +kernel
theorem dX4_refrain_77 : decode cX4_refrain 77 = .ok (.aload_n 0, 1) := by decide +kernel
theorem dX4_refrain_78 : decode cX4_refrain 78 = .ok (.getfield 13, 3) := by decide +kernel
theorem dX4_refrain_81 : decode cX4_refrain 81 = .ok (.iconst 3, 1) := by decide +kernel
theorem dX4_refrain_82 : decode cX4_refrain 82 = .ok (.if_icmp .ne 6, 3) := by decide +kernel
theorem dX4_refrain_85 : decode cX4_refrain 85 = .ok (.ldc 114, 2) := by decide +kernel
theorem dX4_refrain_87 : decode cX4_refrain 87 = .ok (.ireturn, 1) := by decide +kernel
theorem dX4_refrain_88 : decode cX4_refrain 88 = .ok (.iload_n 1, 1) := by decide +kernel
theorem dX4_refrain_89 : decode cX4_refrain 89 = .ok (.istore_n 3, 1) := by decide +kernel
theorem dX4_refrain_90 : decode cX4_refrain 90 = .ok (.iload_n 3, 1) := by decide +kernel
theorem dX4_refrain_91 : decode cX4_refrain 91 = .ok (.iload_n 1, 1) := by decide +kernel
theorem dX4_refrain_92 : decode cX4_refrain 92 = .ok (.iload_n 2, 1) := by decide +kernel
theorem dX4_refrain_93 : decode cX4_refrain 93 = .ok (.iadd, 1) := by decide +kernel
theorem dX4_refrain_94 : decode cX4_refrain 94 = .ok (.if_icmp .ge 16, 3) := by decide +kernel
theorem dX4_refrain_97 : decode cX4_refrain 97 = .ok (.aload_n 0, 1) := by decide +kernel
theorem dX4_refrain_98 : decode cX4_refrain 98 = .ok (.getfield 70, 3) := by decide +kernel
theorem dX4_refrain_101 : decode cX4_refrain 101 = .ok (.iload_n 3, 1) := by decide +kernel
theorem dX4_refrain_102 : decode cX4_refrain 102 = .ok (.iload_n 1, 1) := by decide +kernel
theorem dX4_refrain_103 : decode cX4_refrain 103 = .ok (.iastore, 1) := by decide +kernel
theorem dX4_refrain_104 : decode cX4_refrain 104 = .ok (.iinc 3 1, 3) := by decide +kernel
theorem dX4_refrain_107 : decode cX4_refrain 107 = .ok (.goto (-17), 3) := by decide +kernel
theorem dX4_refrain_110 : decode cX4_refrain 110 = .ok (.aload_n 0, 1) := by decide +kernel
theorem dX4_refrain_111 : decode cX4_refrain 111 = .ok (.dup, 1) := by decide +kernel
theorem dX4_refrain_112 : decode cX4_refrain 112 = .ok (.getfield 13, 3) := by decide +kernel
theorem dX4_refrain_115 : decode cX4_refrain 115 = .ok (.iconst 1, 1) := by decide +kernel
theorem dX4_refrain_116 : decode cX4_refrain 116 = .ok (.iadd, 1) := by decide +kernel
theorem dX4_refrain_117 : decode cX4_refrain 117 = .ok (.putfield 13, 3) := by decide +kernel
theorem dX4_refrain_120 : decode cX4_refrain 120 = .ok (.aload_n 0, 1) := by decide +kernel
theorem dX4_refrain_121 : decode cX4_refrain 121 = .ok (.iconst 0, 1) := by decide +kernel
theorem dX4_refrain_122 : decode cX4_refrain 122 = .ok (.putfield 19, 3) := by decide +kernel
theorem dX4_refrain_125 : decode cX4_refrain 125 = .ok (.aload_n 0, 1) := by decide +kernel
theorem dX4_refrain_126 : decode cX4_refrain 126 = .ok (.getfield 13, 3) := by decide +kernel
theorem dX4_refrain_129 : decode cX4_refrain 129 = .ok (.ireturn, 1) := by decide +kernel
theorem dX4_align_0 : decode cX4_align 0 = .ok (.aload_n 0, 1) := by decide +kernel
theorem dX4_align_1 : decode cX4_align 1 = .ok (.iconst 0, 1) := by decide +kernel
theorem dX4_align_2 : decode cX4_align 2 = .ok (.putfield 1, 3) := by decide +kernel
theorem dX4_align_5 : decode cX4_align 5 = .ok (.iload_n 1, 1) := by decide +kernel
theorem dX4_align_6 : decode cX4_align 6 = .ok (.invokestatic 120, 3) := by decide +kernel
theorem dX4_align_9 : decode cX4_align 9 = .ok (.ifCond .ne 6, 3) := by decide +kernel
theorem dX4_align_12 : decode cX4_align 12 = .ok (.ldc 123, 2) := by decide +kernel
theorem dX4_align_14 : decode cX4_align 14 = .ok (.ireturn, 1) := by decide +kernel
theorem dX4_align_15 : decode cX4_align 15 = .ok (.iload_n 2, 1) := by decide +kernel
theorem dX4_align_16 : decode cX4_align 16 = .ok (.iconst 0, 1) := by decide +kernel
theorem dX4_align_17 : decode cX4_align 17 = .ok (.iconst 2, 1) := by decide +kernel
theorem dX4_align_18 : decode cX4_align 18 = .ok (.invokestatic 109, 3) := by decide +kernel
theorem dX4_align_21 : decode cX4_align 21 = .ok (.ifCond .ne 6, 3) := by decide +kernel
theorem dX4_align_24 : decode cX4_align 24 = .ok (.ldc 113, 2) := by decide +kernel
theorem dX4_align_26 : decode cX4_align 26 = .ok (.ireturn, 1) := by decide +kernel
theorem dX4_align_27 : decode cX4_align 27 = .ok (.aload_n 0, 1) := by decide +kernel
theorem dX4_align_28 : decode cX4_align 28 = .ok (.getfield 38, 3) := by decide +kernel
theorem dX4_align_31 : decode cX4_align 31 = .ok (.iload_n 1, 1) := by decide +kernel
theorem dX4_align_32 : decode cX4_align 32 = .ok (.iaload, 1) := by decide +kernel
theorem dX4_align_33 : decode cX4_align 33 = .ok (.istore_n 3, 1) := by decide +kernel
theorem dX4_align_34 : decode cX4_align 34 = .ok (.aload_n 0, 1) := by decide +kernel
theorem dX4_align_35 : decode cX4_align 35 = .ok (.getfield 38, 3) := by decide +kernel
theorem dX4_align_38 : decode cX4_align 38 = .ok (.iload_n 1, 1) := by decide +kernel
theorem dX4_align_39 : decode cX4_align 39 = .ok (.iload_n 2, 1) := by decide +kernel
theorem dX4_align_40 : decode cX4_align 40 = .ok (.iastore, 1) := by decide +kernel
theorem dX4_align_41 : decode cX4_align 41 = .ok (.aload_n 0, 1) := by decide +kernel
theorem dX4_align_42 : decode cX4_align 42 = .ok (.iconst 0, 1) := by decide +kernel
theorem dX4_align_43 : decode cX4_align 43 = .ok (.putfield 19, 3) := by decide +kernel
theorem dX4_align_46 : decode cX4_align 46 = .ok (.iload_n 3, 1) := by decide +kernel
theorem dX4_align_47 : decode cX4_align 47 = .ok (.ireturn, 1) := by decide +kernel
theorem dX4_translation_0 : decode cX4_translation 0 = .ok (.aload_n 0, 1) := by decide +kernel
theorem dX4_translation_1 : decode cX4_translation 1 = .ok (.iconst 0, 1) := by decide +kernel
theorem dX4_translation_2 : decode cX4_translation 2 = .ok (.putfield 1, 3) := by decide +kernel
theorem dX4_translation_5 : decode cX4_translation 5 = .ok (.iload_n 1, 1) := by decide +kernel
theorem dX4_translation_6 : decode cX4_translation 6 = .ok (.invokestatic 120, 3) := by decide +kernel
theorem dX4_translation_9 : decode cX4_translation 9 = .ok (.ifCond .ne 6, 3) := by decide +kernel
theorem dX4_translation_12 : decode cX4_translation 12 = .ok (.ldc 123, 2) := by decide +kernel
theorem dX4_translation_14 : decode cX4_translation 14 = .ok (.ireturn, 1) := by decide +kernel
theorem dX4_translation_15 : decode cX4_translation 15 = .ok (.aload_n 0, 1) := by decide +kernel
theorem dX4_translation_16 : decode cX4_translation 16 = .ok (.getfield 42, 3) := by decide +kernel
theorem dX4_translation_19 : decode cX4_translation 19 = .ok (.iload_n 1, 1) := by decide +kernel
theorem dX4_translation_20 : decode cX4_translation 20 = .ok (.baload, 1) := by decide +kernel
theorem dX4_translation_21 : decode cX4_translation 21 = .ok (.ifCond .eq 7, 3) := by decide +kernel
theorem dX4_translation_24 : decode cX4_translation 24 = .ok (.iconst 1, 1) := by decide +kernel
theorem dX4_translation_25 : decode cX4_translation 25 = .ok (.goto 4, 3) := by decide +kernel
theorem dX4_translation_28 : decode cX4_translation 28 = .ok (.iconst 0, 1) := by decide +kernel
theorem dX4_translation_29 : decode cX4_translation 29 = .ok (.istore_n 3, 1) := by decide +kernel
theorem dX4_translation_30 : decode cX4_translation 30 = .ok (.aload_n 0, 1) := by decide +kernel
theorem dX4_translation_31 : decode cX4_translation 31 = .ok (.getfield 42, 3) := by decide +kernel
theorem dX4_translation_34 : decode cX4_translation 34 = .ok (.iload_n 1, 1) := by decide +kernel
theorem dX4_translation_35 : decode cX4_translation 35 = .ok (.iload_n 2, 1) := by decide +kernel
theorem dX4_translation_36 : decode cX4_translation 36 = .ok (.bastore, 1) := by decide +kernel
theorem dX4_translation_37 : decode cX4_translation 37 = .ok (.aload_n 0, 1) := by decide +kernel
theorem dX4_translation_38 : decode cX4_translation 38 = .ok (.iconst 0, 1) := by decide +kernel
theorem dX4_translation_39 : decode cX4_translation 39 = .ok (.putfield 19, 3) := by decide +kernel
theorem dX4_translation_42 : decode cX4_translation 42 = .ok (.iload_n 3, 1) := by decide +kernel
theorem dX4_translation_43 : decode cX4_translation 43 = .ok (.ireturn, 1) := by decide +kernel
theorem dX4_limit_0 : decode cX4_limit 0 = .ok (.aload_n 0, 1) := by decide +kernel
theorem dX4_limit_1 : decode cX4_limit 1 = .ok (.iconst 0, 1) := by decide +kernel
theorem dX4_limit_2 : decode cX4_limit 2 = .ok (.putfield 1, 3) := by decide +kernel
theorem dX4_limit_5 : decode cX4_limit 5 = .ok (.iload_n 1, 1) := by decide +kernel
theorem dX4_limit_6 : decode cX4_limit 6 = .ok (.bipush 100, 2) := by decide +kernel
theorem dX4_limit_8 : decode cX4_limit 8 = .ok (.sipush 30000, 3) := by decide +kernel
theorem dX4_limit_11 : decode cX4_limit 11 = .ok (.invokestatic 109, 3) := by decide +kernel
theorem dX4_limit_14 : decode cX4_limit 14 = .ok (.ifCond .ne 6, 3) := by decide +kernel
theorem dX4_limit_17 : decode cX4_limit 17 = .ok (.ldc 113, 2) := by decide +kernel
theorem dX4_limit_19 : decode cX4_limit 19 = .ok (.ireturn, 1) := by decide +kernel
theorem dX4_limit_20 : decode cX4_limit 20 = .ok (.aload_n 0, 1) := by decide +kernel
theorem dX4_limit_21 : decode cX4_limit 21 = .ok (.getfield 16, 3) := by decide +kernel
theorem dX4_limit_24 : decode cX4_limit 24 = .ok (.istore_n 2, 1) := by decide +kernel
theorem dX4_limit_25 : decode cX4_limit 25 = .ok (.aload_n 0, 1) := by decide +kernel
theorem dX4_limit_26 : decode cX4_limit 26 = .ok (.iload_n 1, 1) := by decide +kernel
theorem dX4_limit_27 : decode cX4_limit 27 = .ok (.putfield 16, 3) := by decide +kernel
theorem dX4_limit_30 : decode cX4_limit 30 = .ok (.aload_n 0, 1) := by decide +kernel
theorem dX4_limit_31 : decode cX4_limit 31 = .ok (.iconst 0, 1) := by decide +kernel
theorem dX4_limit_32 : decode cX4_limit 32 = .ok (.putfield 19, 3) := by decide +kernel
theorem dX4_limit_35 : decode cX4_limit 35 = .ok (.iload_n 2, 1) := by decide +kernel
theorem dX4_limit_36 : decode cX4_limit 36 = .ok (.ireturn, 1) := by decide +kernel
theorem dX4_isBox_0 : decode cX4_isBox 0 = .ok (.aload_n 0, 1) := by decide +kernel
theorem dX4_isBox_1 : decode cX4_isBox 1 = .ok (.getfield 73, 3) := by decide +kernel
theorem dX4_isBox_4 : decode cX4_isBox 4 = .ok (.iconst 4, 1) := by decide +kernel
theorem dX4_isBox_5 : decode cX4_isBox 5 = .ok (.iload_n 1, 1) := by decide +kernel
theorem dX4_isBox_6 : decode cX4_isBox 6 = .ok (.imul, 1) := by decide +kernel
theorem dX4_isBox_7 : decode cX4_isBox 7 = .ok (.iload_n 2, 1) := by decide +kernel
theorem dX4_isBox_8 : decode cX4_isBox 8 = .ok (.iadd, 1) := by decide +kernel
theorem dX4_isBox_9 : decode cX4_isBox 9 = .ok (.iaload, 1) := by decide +kernel
theorem dX4_isBox_10 : decode cX4_isBox 10 = .ok (.ifCond .le 7, 3) := by decide +kernel
theorem dX4_isBox_13 : decode cX4_isBox 13 = .ok (.iconst 1, 1) := by decide +kernel
theorem dX4_isBox_14 : decode cX4_isBox 14 = .ok (.goto 4, 3) := by decide +kernel
theorem dX4_isBox_17 : decode cX4_isBox 17 = .ok (.iconst 0, 1) := by decide +kernel
theorem dX4_isBox_18 : decode cX4_isBox 18 = .ok (.ireturn, 1) := by decide +kernel
theorem dX4_wideOf_0 : decode cX4_wideOf 0 = .ok (.bipush 8, 2) := by decide +kernel
theorem dX4_wideOf_2 : decode cX4_wideOf 2 = .ok (.iload_n 1, 1) := by decide +kernel
theorem dX4_wideOf_3 : decode cX4_wideOf 3 = .ok (.imul, 1) := by decide +kernel
theorem dX4_wideOf_4 : decode cX4_wideOf 4 = .ok (.iconst 2, 1) := by decide +kernel
theorem dX4_wideOf_5 : decode cX4_wideOf 5 = .ok (.iload_n 2, 1) := by decide +kernel
theorem dX4_wideOf_6 : decode cX4_wideOf 6 = .ok (.imul, 1) := by decide +kernel
theorem dX4_wideOf_7 : decode cX4_wideOf 7 = .ok (.iadd, 1) := by decide +kernel
theorem dX4_wideOf_8 : decode cX4_wideOf 8 = .ok (.istore_n 3, 1) := by decide +kernel
theorem dX4_wideOf_9 : decode cX4_wideOf 9 = .ok (.aload_n 0, 1) := by decide +kernel
theorem dX4_wideOf_10 : decode cX4_wideOf 10 = .ok (.getfield 73, 3) := by decide +kernel
theorem dX4_wideOf_13 : decode cX4_wideOf 13 = .ok (.iconst 4, 1) := by decide +kernel
theorem dX4_wideOf_14 : decode cX4_wideOf 14 = .ok (.iload_n 1, 1) := by decide +kernel
theorem dX4_wideOf_15 : decode cX4_wideOf 15 = .ok (.imul, 1) := by decide +kernel
theorem dX4_wideOf_16 : decode cX4_wideOf 16 = .ok (.iload_n 2, 1) := by decide +kernel
theorem dX4_wideOf_17 : decode cX4_wideOf 17 = .ok (.iadd, 1) := by decide +kernel
theorem dX4_wideOf_18 : decode cX4_wideOf 18 = .ok (.iaload, 1) := by decide +kernel
theorem dX4_wideOf_19 : decode cX4_wideOf 19 = .ok (.iconst 2, 1) := by decide +kernel
theorem dX4_wideOf_20 : decode cX4_wideOf 20 = .ok (.if_icmp .ne 23, 3) := by decide +kernel
theorem dX4_wideOf_23 : decode cX4_wideOf 23 = .ok (.aload_n 0, 1) := by decide +kernel
theorem dX4_wideOf_24 : decode cX4_wideOf 24 = .ok (.getfield 76, 3) := by decide +kernel
theorem dX4_wideOf_27 : decode cX4_wideOf 27 = .ok (.iload_n 3, 1) := by decide +kernel
theorem dX4_wideOf_28 : decode cX4_wideOf 28 = .ok (.iaload, 1) := by decide +kernel
theorem dX4_wideOf_29 : decode cX4_wideOf 29 = .ok (.aload_n 0, 1) := by decide +kernel
theorem dX4_wideOf_30 : decode cX4_wideOf 30 = .ok (.getfield 76, 3) := by decide +kernel
theorem dX4_wideOf_33 : decode cX4_wideOf 33 = .ok (.iload_n 3, 1) := by decide +kernel
theorem dX4_wideOf_34 : decode cX4_wideOf 34 = .ok (.iconst 1, 1) := by decide +kernel
theorem dX4_wideOf_35 : decode cX4_wideOf 35 = .ok (.iadd, 1) := by decide +kernel
theorem dX4_wideOf_36 : decode cX4_wideOf 36 = .ok (.iaload, 1) := by decide +kernel
theorem dX4_wideOf_37 : decode cX4_wideOf 37 = .ok (.iadd, 1) := by decide +kernel
theorem dX4_wideOf_38 : decode cX4_wideOf 38 = .ok (.iconst 5, 1) := by decide +kernel
theorem dX4_wideOf_39 : decode cX4_wideOf 39 = .ok (.iadd, 1) := by decide +kernel
theorem dX4_wideOf_40 : decode cX4_wideOf 40 = .ok (.goto 9, 3) := by decide +kernel
theorem dX4_wideOf_43 : decode cX4_wideOf 43 = .ok (.aload_n 0, 1) := by decide +kernel
theorem dX4_wideOf_44 : decode cX4_wideOf 44 = .ok (.getfield 76, 3) := by decide +kernel
theorem dX4_wideOf_47 : decode cX4_wideOf 47 = .ok (.iload_n 3, 1) := by decide +kernel
theorem dX4_wideOf_48 : decode cX4_wideOf 48 = .ok (.iaload, 1) := by decide +kernel
theorem dX4_wideOf_49 : decode cX4_wideOf 49 = .ok (.ireturn, 1) := by decide +kernel
theorem dX4_goesOn_0 : decode cX4_goesOn 0 = .ok (.aload_n 0, 1) := by decide +kernel
theorem dX4_goesOn_1 : decode cX4_goesOn 1 = .ok (.getfield 82, 3) := by decide +kernel
theorem dX4_goesOn_4 : decode cX4_goesOn 4 = .ok (.bipush 8, 2) := by decide +kernel
theorem dX4_goesOn_6 : decode cX4_goesOn 6 = .ok (.iload_n 1, 1) := by decide +kernel
theorem dX4_goesOn_7 : decode cX4_goesOn 7 = .ok (.imul, 1) := by decide +kernel
theorem dX4_goesOn_8 : decode cX4_goesOn 8 = .ok (.iconst 2, 1) := by decide +kernel
theorem dX4_goesOn_9 : decode cX4_goesOn 9 = .ok (.iload_n 2, 1) := by decide +kernel
theorem dX4_goesOn_10 : decode cX4_goesOn 10 = .ok (.imul, 1) := by decide +kernel
theorem dX4_goesOn_11 : decode cX4_goesOn 11 = .ok (.iadd, 1) := by decide +kernel
theorem dX4_goesOn_12 : decode cX4_goesOn 12 = .ok (.aload_n 0, 1) := by decide +kernel
theorem dX4_goesOn_13 : decode cX4_goesOn 13 = .ok (.getfield 73, 3) := by decide +kernel
theorem dX4_goesOn_16 : decode cX4_goesOn 16 = .ok (.iconst 4, 1) := by decide +kernel
theorem dX4_goesOn_17 : decode cX4_goesOn 17 = .ok (.iload_n 1, 1) := by decide +kernel
theorem dX4_goesOn_18 : decode cX4_goesOn 18 = .ok (.imul, 1) := by decide +kernel
theorem dX4_goesOn_19 : decode cX4_goesOn 19 = .ok (.iload_n 2, 1) := by decide +kernel
theorem dX4_goesOn_20 : decode cX4_goesOn 20 = .ok (.iadd, 1) := by decide +kernel
theorem dX4_goesOn_21 : decode cX4_goesOn 21 = .ok (.iaload, 1) := by decide +kernel
theorem dX4_goesOn_22 : decode cX4_goesOn 22 = .ok (.iadd, 1) := by decide +kernel
theorem dX4_goesOn_23 : decode cX4_goesOn 23 = .ok (.iconst 1, 1) := by decide +kernel
theorem dX4_goesOn_24 : decode cX4_goesOn 24 = .ok (.isub, 1) := by decide +kernel
theorem dX4_goesOn_25 : decode cX4_goesOn 25 = .ok (.baload, 1) := by decide +kernel
theorem dX4_goesOn_26 : decode cX4_goesOn 26 = .ok (.ireturn, 1) := by decide +kernel
theorem dX4_offset_0 : decode cX4_offset 0 = .ok (.aload_n 0, 1) := by decide +kernel
theorem dX4_offset_1 : decode cX4_offset 1 = .ok (.getfield 38, 3) := by decide +kernel
theorem dX4_offset_4 : decode cX4_offset 4 = .ok (.iload_n 2, 1) := by decide +kernel
theorem dX4_offset_5 : decode cX4_offset 5 = .ok (.iaload, 1) := by decide +kernel
theorem dX4_offset_6 : decode cX4_offset 6 = .ok (.ifCond .ne 14, 3) := by decide +kernel
theorem dX4_offset_9 : decode cX4_offset 9 = .ok (.aload_n 0, 1) := by decide +kernel
theorem dX4_offset_10 : decode cX4_offset 10 = .ok (.iload_n 1, 1) := by decide +kernel
theorem dX4_offset_11 : decode cX4_offset 11 = .ok (.iload_n 2, 1) := by decide +kernel
theorem dX4_offset_12 : decode cX4_offset 12 = .ok (.invokevirtual 132, 3) := by decide +kernel
theorem dX4_offset_15 : decode cX4_offset 15 = .ok (.iconst 2, 1) := by decide +kernel
theorem dX4_offset_16 : decode cX4_offset 16 = .ok (.idiv, 1) := by decide +kernel
theorem dX4_offset_17 : decode cX4_offset 17 = .ok (.goto 30, 3) := by decide +kernel
theorem dX4_offset_20 : decode cX4_offset 20 = .ok (.aload_n 0, 1) := by decide +kernel
theorem dX4_offset_21 : decode cX4_offset 21 = .ok (.getfield 38, 3) := by decide +kernel
theorem dX4_offset_24 : decode cX4_offset 24 = .ok (.iload_n 2, 1) := by decide +kernel
theorem dX4_offset_25 : decode cX4_offset 25 = .ok (.iaload, 1) := by decide +kernel
theorem dX4_offset_26 : decode cX4_offset 26 = .ok (.iconst 1, 1) := by decide +kernel
theorem dX4_offset_27 : decode cX4_offset 27 = .ok (.if_icmp .ne 7, 3) := by decide +kernel
theorem dX4_offset_30 : decode cX4_offset 30 = .ok (.iconst 0, 1) := by decide +kernel
theorem dX4_offset_31 : decode cX4_offset 31 = .ok (.goto 16, 3) := by decide +kernel
theorem dX4_offset_34 : decode cX4_offset 34 = .ok (.aload_n 0, 1) := by decide +kernel
theorem dX4_offset_35 : decode cX4_offset 35 = .ok (.getfield 79, 3) := by decide +kernel
theorem dX4_offset_38 : decode cX4_offset 38 = .ok (.bipush 8, 2) := by decide +kernel
theorem dX4_offset_40 : decode cX4_offset 40 = .ok (.iload_n 1, 1) := by decide +kernel
theorem dX4_offset_41 : decode cX4_offset 41 = .ok (.imul, 1) := by decide +kernel
theorem dX4_offset_42 : decode cX4_offset 42 = .ok (.iconst 2, 1) := by decide +kernel
theorem dX4_offset_43 : decode cX4_offset 43 = .ok (.iload_n 2, 1) := by decide +kernel
theorem dX4_offset_44 : decode cX4_offset 44 = .ok (.imul, 1) := by decide +kernel
theorem dX4_offset_45 : decode cX4_offset 45 = .ok (.iadd, 1) := by decide +kernel
theorem dX4_offset_46 : decode cX4_offset 46 = .ok (.iaload, 1) := by decide +kernel
theorem dX4_offset_47 : decode cX4_offset 47 = .ok (.ireturn, 1) := by decide +kernel
theorem dX4_other_0 : decode cX4_other 0 = .ok (.iload_n 1, 1) := by decide +kernel
theorem dX4_other_1 : decode cX4_other 1 = .ok (.iload_n 3, 1) := by decide +kernel
theorem dX4_other_2 : decode cX4_other 2 = .ok (.iadd, 1) := by decide +kernel
theorem dX4_other_3 : decode cX4_other 3 = .ok (.istore 4, 2) := by decide +kernel
theorem dX4_other_5 : decode cX4_other 5 = .ok (.iload 4, 2) := by decide +kernel
theorem dX4_other_7 : decode cX4_other 7 = .ok (.ifCond .lt 31, 3) := by decide +kernel
theorem dX4_other_10 : decode cX4_other 10 = .ok (.iload 4, 2) := by decide +kernel
theorem dX4_other_12 : decode cX4_other 12 = .ok (.aload_n 0, 1) := by decide +kernel
theorem dX4_other_13 : decode cX4_other 13 = .ok (.getfield 7, 3) := by decide +kernel
theorem dX4_other_16 : decode cX4_other 16 = .ok (.if_icmp .ge 22, 3) := by decide +kernel
theorem dX4_other_19 : decode cX4_other 19 = .ok (.aload_n 0, 1) := by decide +kernel
theorem dX4_other_20 : decode cX4_other 20 = .ok (.iload 4, 2) := by decide +kernel
theorem dX4_other_22 : decode cX4_other 22 = .ok (.iload_n 2, 1) := by decide +kernel
theorem dX4_other_23 : decode cX4_other 23 = .ok (.invokevirtual 135, 3) := by decide +kernel
theorem dX4_other_26 : decode cX4_other 26 = .ok (.ifCond .ne 12, 3) := by decide +kernel
theorem dX4_other_29 : decode cX4_other 29 = .ok (.iload 4, 2) := by decide +kernel
theorem dX4_other_31 : decode cX4_other 31 = .ok (.iload_n 3, 1) := by decide +kernel
theorem dX4_other_32 : decode cX4_other 32 = .ok (.iadd, 1) := by decide +kernel
theorem dX4_other_33 : decode cX4_other 33 = .ok (.istore 4, 2) := by decide +kernel
theorem dX4_other_35 : decode cX4_other 35 = .ok (.goto (-30), 3) := by decide +kernel
theorem dX4_other_38 : decode cX4_other 38 = .ok (.iload 4, 2) := by decide +kernel
theorem dX4_other_40 : decode cX4_other 40 = .ok (.ifCond .lt 17, 3) := by decide +kernel
theorem dX4_other_43 : decode cX4_other 43 = .ok (.iload 4, 2) := by decide +kernel
theorem dX4_other_45 : decode cX4_other 45 = .ok (.aload_n 0, 1) := by decide +kernel
theorem dX4_other_46 : decode cX4_other 46 = .ok (.getfield 7, 3) := by decide +kernel
theorem dX4_other_49 : decode cX4_other 49 = .ok (.if_icmp .ge 8, 3) := by decide +kernel
theorem dX4_other_52 : decode cX4_other 52 = .ok (.iload 4, 2) := by decide +kernel
theorem dX4_other_54 : decode cX4_other 54 = .ok (.goto 5, 3) := by decide +kernel
theorem dX4_other_57 : decode cX4_other 57 = .ok (.ldc 115, 2) := by decide +kernel
theorem dX4_other_59 : decode cX4_other 59 = .ok (.ireturn, 1) := by decide +kernel
theorem dX4_chordBefore_0 : decode cX4_chordBefore 0 = .ok (.iload_n 1, 1) := by decide +kernel
theorem dX4_chordBefore_1 : decode cX4_chordBefore 1 = .ok (.iconst 1, 1) := by decide +kernel
theorem dX4_chordBefore_2 : decode cX4_chordBefore 2 = .ok (.isub, 1) := by decide +kernel
theorem dX4_chordBefore_3 : decode cX4_chordBefore 3 = .ok (.istore_n 2, 1) := by decide +kernel
theorem dX4_chordBefore_4 : decode cX4_chordBefore 4 = .ok (.iload_n 2, 1) := by decide +kernel
theorem dX4_chordBefore_5 : decode cX4_chordBefore 5 = .ok (.ifCond .lt 18, 3) := by decide +kernel
theorem dX4_chordBefore_8 : decode cX4_chordBefore 8 = .ok (.aload_n 0, 1) := by decide +kernel
theorem dX4_chordBefore_9 : decode cX4_chordBefore 9 = .ok (.getfield 61, 3) := by decide +kernel
theorem dX4_chordBefore_12 : decode cX4_chordBefore 12 = .ok (.iload_n 2, 1) := by decide +kernel
theorem dX4_chordBefore_13 : decode cX4_chordBefore 13 = .ok (.iaload, 1) := by decide +kernel
theorem dX4_chordBefore_14 : decode cX4_chordBefore 14 = .ok (.ifCond .ne 9, 3) := by decide +kernel
theorem dX4_chordBefore_17 : decode cX4_chordBefore 17 = .ok (.iinc 2 (-1), 3) := by decide +kernel
theorem dX4_chordBefore_20 : decode cX4_chordBefore 20 = .ok (.goto (-16), 3) := by decide +kernel
theorem dX4_chordBefore_23 : decode cX4_chordBefore 23 = .ok (.iload_n 2, 1) := by decide +kernel
theorem dX4_chordBefore_24 : decode cX4_chordBefore 24 = .ok (.ireturn, 1) := by decide +kernel
theorem dX4_endOf_0 : decode cX4_endOf 0 = .ok (.aload_n 0, 1) := by decide +kernel
theorem dX4_endOf_1 : decode cX4_endOf 1 = .ok (.getfield 88, 3) := by decide +kernel
theorem dX4_endOf_4 : decode cX4_endOf 4 = .ok (.iconst 4, 1) := by decide +kernel
theorem dX4_endOf_5 : decode cX4_endOf 5 = .ok (.iload_n 1, 1) := by decide +kernel
theorem dX4_endOf_6 : decode cX4_endOf 6 = .ok (.imul, 1) := by decide +kernel
theorem dX4_endOf_7 : decode cX4_endOf 7 = .ok (.iload_n 2, 1) := by decide +kernel
theorem dX4_endOf_8 : decode cX4_endOf 8 = .ok (.iadd, 1) := by decide +kernel
theorem dX4_endOf_9 : decode cX4_endOf 9 = .ok (.iaload, 1) := by decide +kernel
theorem dX4_endOf_10 : decode cX4_endOf 10 = .ok (.aload_n 0, 1) := by decide +kernel
theorem dX4_endOf_11 : decode cX4_endOf 11 = .ok (.iload_n 1, 1) := by decide +kernel
theorem dX4_endOf_12 : decode cX4_endOf 12 = .ok (.iload_n 2, 1) := by decide +kernel
theorem dX4_endOf_13 : decode cX4_endOf 13 = .ok (.invokevirtual 132, 3) := by decide +kernel
theorem dX4_endOf_16 : decode cX4_endOf 16 = .ok (.iadd, 1) := by decide +kernel
theorem dX4_endOf_17 : decode cX4_endOf 17 = .ok (.ireturn, 1) := by decide +kernel
theorem dX4_free_0 : decode cX4_free 0 = .ok (.aload_n 0, 1) := by decide +kernel
theorem dX4_free_1 : decode cX4_free 1 = .ok (.iload_n 1, 1) := by decide +kernel
theorem dX4_free_2 : decode cX4_free 2 = .ok (.iload_n 2, 1) := by decide +kernel
theorem dX4_free_3 : decode cX4_free 3 = .ok (.iconst (-1), 1) := by decide +kernel
theorem dX4_free_4 : decode cX4_free 4 = .ok (.invokevirtual 139, 3) := by decide +kernel
theorem dX4_free_7 : decode cX4_free 7 = .ok (.istore_n 3, 1) := by decide +kernel
theorem dX4_free_8 : decode cX4_free 8 = .ok (.iload_n 3, 1) := by decide +kernel
theorem dX4_free_9 : decode cX4_free 9 = .ok (.ldc 115, 2) := by decide +kernel
theorem dX4_free_11 : decode cX4_free 11 = .ok (.if_icmp .ne 7, 3) := by decide +kernel
theorem dX4_free_14 : decode cX4_free 14 = .ok (.iconst (-1), 1) := by decide +kernel
theorem dX4_free_15 : decode cX4_free 15 = .ok (.goto 25, 3) := by decide +kernel
theorem dX4_free_18 : decode cX4_free 18 = .ok (.aload_n 0, 1) := by decide +kernel
theorem dX4_free_19 : decode cX4_free 19 = .ok (.iload_n 3, 1) := by decide +kernel
theorem dX4_free_20 : decode cX4_free 20 = .ok (.iload_n 2, 1) := by decide +kernel
theorem dX4_free_21 : decode cX4_free 21 = .ok (.invokevirtual 143, 3) := by decide +kernel
theorem dX4_free_24 : decode cX4_free 24 = .ok (.aload_n 0, 1) := by decide +kernel
theorem dX4_free_25 : decode cX4_free 25 = .ok (.iload_n 3, 1) := by decide +kernel
theorem dX4_free_26 : decode cX4_free 26 = .ok (.iload_n 2, 1) := by decide +kernel
theorem dX4_free_27 : decode cX4_free 27 = .ok (.invokevirtual 146, 3) := by decide +kernel
theorem dX4_free_30 : decode cX4_free 30 = .ok (.ifCond .eq 7, 3) := by decide +kernel
theorem dX4_free_33 : decode cX4_free 33 = .ok (.iconst 4, 1) := by decide +kernel
theorem dX4_free_34 : decode cX4_free 34 = .ok (.goto 5, 3) := by decide +kernel
theorem dX4_free_37 : decode cX4_free 37 = .ok (.bipush 12, 2) := by decide +kernel
theorem dX4_free_39 : decode cX4_free 39 = .ok (.iadd, 1) := by decide +kernel
theorem dX4_free_40 : decode cX4_free 40 = .ok (.ireturn, 1) := by decide +kernel
theorem dX4_alone_0 : decode cX4_alone 0 = .ok (.iload_n 1, 1) := by decide +kernel
theorem dX4_alone_1 : decode cX4_alone 1 = .ok (.ifCond .ne 7, 3) := by decide +kernel
theorem dX4_alone_4 : decode cX4_alone 4 = .ok (.iconst 0, 1) := by decide +kernel
theorem dX4_alone_5 : decode cX4_alone 5 = .ok (.goto 32, 3) := by decide +kernel
theorem dX4_alone_8 : decode cX4_alone 8 = .ok (.aload_n 0, 1) := by decide +kernel
theorem dX4_alone_9 : decode cX4_alone 9 = .ok (.getfield 85, 3) := by decide +kernel
theorem dX4_alone_12 : decode cX4_alone 12 = .ok (.iload_n 1, 1) := by decide +kernel
theorem dX4_alone_13 : decode cX4_alone 13 = .ok (.iconst 1, 1) := by decide +kernel
theorem dX4_alone_14 : decode cX4_alone 14 = .ok (.isub, 1) := by decide +kernel
theorem dX4_alone_15 : decode cX4_alone 15 = .ok (.iaload, 1) := by decide +kernel
theorem dX4_alone_16 : decode cX4_alone 16 = .ok (.aload_n 0, 1) := by decide +kernel
theorem dX4_alone_17 : decode cX4_alone 17 = .ok (.getfield 52, 3) := by decide +kernel
theorem dX4_alone_20 : decode cX4_alone 20 = .ok (.iload_n 1, 1) := by decide +kernel
theorem dX4_alone_21 : decode cX4_alone 21 = .ok (.iconst 1, 1) := by decide +kernel
theorem dX4_alone_22 : decode cX4_alone 22 = .ok (.isub, 1) := by decide +kernel
theorem dX4_alone_23 : decode cX4_alone 23 = .ok (.iaload, 1) := by decide +kernel
theorem dX4_alone_24 : decode cX4_alone 24 = .ok (.iadd, 1) := by decide +kernel
theorem dX4_alone_25 : decode cX4_alone 25 = .ok (.bipush 10, 2) := by decide +kernel
theorem dX4_alone_27 : decode cX4_alone 27 = .ok (.aload_n 0, 1) := by decide +kernel
theorem dX4_alone_28 : decode cX4_alone 28 = .ok (.getfield 55, 3) := by decide +kernel
theorem dX4_alone_31 : decode cX4_alone 31 = .ok (.iload_n 1, 1) := by decide +kernel
theorem dX4_alone_32 : decode cX4_alone 32 = .ok (.iconst 1, 1) := by decide +kernel
theorem dX4_alone_33 : decode cX4_alone 33 = .ok (.isub, 1) := by decide +kernel
theorem dX4_alone_34 : decode cX4_alone 34 = .ok (.iaload, 1) := by decide +kernel
theorem dX4_alone_35 : decode cX4_alone 35 = .ok (.imul, 1) := by decide +kernel
theorem dX4_alone_36 : decode cX4_alone 36 = .ok (.iadd, 1) := by decide +kernel
theorem dX4_alone_37 : decode cX4_alone 37 = .ok (.ireturn, 1) := by decide +kernel
theorem dX4_greater_0 : decode cX4_greater 0 = .ok (.iload_n 0, 1) := by decide +kernel
theorem dX4_greater_1 : decode cX4_greater 1 = .ok (.iload_n 1, 1) := by decide +kernel
theorem dX4_greater_2 : decode cX4_greater 2 = .ok (.if_icmp .le 7, 3) := by decide +kernel
theorem dX4_greater_5 : decode cX4_greater 5 = .ok (.iload_n 0, 1) := by decide +kernel
theorem dX4_greater_6 : decode cX4_greater 6 = .ok (.goto 4, 3) := by decide +kernel
theorem dX4_greater_9 : decode cX4_greater 9 = .ok (.iload_n 1, 1) := by decide +kernel
theorem dX4_greater_10 : decode cX4_greater 10 = .ok (.ireturn, 1) := by decide +kernel
theorem dX4_placeNote_0 : decode cX4_placeNote 0 = .ok (.aload_n 0, 1) := by decide +kernel
theorem dX4_placeNote_1 : decode cX4_placeNote 1 = .ok (.iload_n 1, 1) := by decide +kernel
theorem dX4_placeNote_2 : decode cX4_placeNote 2 = .ok (.invokevirtual 149, 3) := by decide +kernel
theorem dX4_placeNote_5 : decode cX4_placeNote 5 = .ok (.istore_n 2, 1) := by decide +kernel
theorem dX4_placeNote_6 : decode cX4_placeNote 6 = .ok (.iconst 0, 1) := by decide +kernel
theorem dX4_placeNote_7 : decode cX4_placeNote 7 = .ok (.istore_n 3, 1) := by decide +kernel
theorem dX4_placeNote_8 : decode cX4_placeNote 8 = .ok (.iload_n 3, 1) := by decide +kernel
theorem dX4_placeNote_9 : decode cX4_placeNote 9 = .ok (.iconst 4, 1) := by decide +kernel
theorem dX4_placeNote_10 : decode cX4_placeNote 10 = .ok (.if_icmp .ge 69, 3) := by decide +kernel
theorem dX4_placeNote_13 : decode cX4_placeNote 13 = .ok (.aload_n 0, 1) := by decide +kernel
theorem dX4_placeNote_14 : decode cX4_placeNote 14 = .ok (.iload_n 1, 1) := by decide +kernel
theorem dX4_placeNote_15 : decode cX4_placeNote 15 = .ok (.iload_n 3, 1) := by decide +kernel
theorem dX4_placeNote_16 : decode cX4_placeNote 16 = .ok (.invokevirtual 135, 3) := by decide +kernel
theorem dX4_placeNote_19 : decode cX4_placeNote 19 = .ok (.ifCond .eq 54, 3) := by decide +kernel
theorem dX4_placeNote_22 : decode cX4_placeNote 22 = .ok (.aload_n 0, 1) := by decide +kernel
theorem dX4_placeNote_23 : decode cX4_placeNote 23 = .ok (.getfield 42, 3) := by decide +kernel
theorem dX4_placeNote_26 : decode cX4_placeNote 26 = .ok (.iload_n 3, 1) := by decide +kernel
theorem dX4_placeNote_27 : decode cX4_placeNote 27 = .ok (.baload, 1) := by decide +kernel
theorem dX4_placeNote_28 : decode cX4_placeNote 28 = .ok (.ifCond .ne 45, 3) := by decide +kernel
theorem dX4_placeNote_31 : decode cX4_placeNote 31 = .ok (.iload_n 2, 1) := by decide +kernel
theorem dX4_placeNote_32 : decode cX4_placeNote 32 = .ok (.aload_n 0, 1) := by decide +kernel
theorem dX4_placeNote_33 : decode cX4_placeNote 33 = .ok (.iload_n 1, 1) := by decide +kernel
theorem dX4_placeNote_34 : decode cX4_placeNote 34 = .ok (.iload_n 3, 1) := by decide +kernel
theorem dX4_placeNote_35 : decode cX4_placeNote 35 = .ok (.invokevirtual 153, 3) := by decide +kernel
theorem dX4_placeNote_38 : decode cX4_placeNote 38 = .ok (.invokestatic 156, 3) := by decide +kernel
theorem dX4_placeNote_41 : decode cX4_placeNote 41 = .ok (.istore_n 2, 1) := by decide +kernel
theorem dX4_placeNote_42 : decode cX4_placeNote 42 = .ok (.aload_n 0, 1) := by decide +kernel
theorem dX4_placeNote_43 : decode cX4_placeNote 43 = .ok (.iload_n 1, 1) := by decide +kernel
theorem dX4_placeNote_44 : decode cX4_placeNote 44 = .ok (.iload_n 3, 1) := by decide +kernel
theorem dX4_placeNote_45 : decode cX4_placeNote 45 = .ok (.invokevirtual 159, 3) := by decide +kernel
theorem dX4_placeNote_48 : decode cX4_placeNote 48 = .ok (.istore 4, 2) := by decide +kernel
theorem dX4_placeNote_50 : decode cX4_placeNote 50 = .ok (.iload 4, 2) := by decide +kernel
theorem dX4_placeNote_52 : decode cX4_placeNote 52 = .ok (.ifCond .ge 7, 3) := by decide +kernel
theorem dX4_placeNote_55 : decode cX4_placeNote 55 = .ok (.iload_n 2, 1) := by decide +kernel
theorem dX4_placeNote_56 : decode cX4_placeNote 56 = .ok (.goto 16, 3) := by decide +kernel
theorem dX4_placeNote_59 : decode cX4_placeNote 59 = .ok (.iload_n 2, 1) := by decide +kernel
theorem dX4_placeNote_60 : decode cX4_placeNote 60 = .ok (.iload 4, 2) := by decide +kernel
theorem dX4_placeNote_62 : decode cX4_placeNote 62 = .ok (.aload_n 0, 1) := by decide +kernel
theorem dX4_placeNote_63 : decode cX4_placeNote 63 = .ok (.iload_n 1, 1) := by decide +kernel
theorem dX4_placeNote_64 : decode cX4_placeNote 64 = .ok (.iload_n 3, 1) := by decide +kernel
theorem dX4_placeNote_65 : decode cX4_placeNote 65 = .ok (.invokevirtual 153, 3) := by decide +kernel
theorem dX4_placeNote_68 : decode cX4_placeNote 68 = .ok (.iadd, 1) := by decide +kernel
theorem dX4_placeNote_69 : decode cX4_placeNote 69 = .ok (.invokestatic 156, 3) := by decide +kernel
theorem dX4_placeNote_72 : decode cX4_placeNote 72 = .ok (.istore_n 2, 1) := by decide +kernel
theorem dX4_placeNote_73 : decode cX4_placeNote 73 = .ok (.iinc 3 1, 3) := by decide +kernel
theorem dX4_placeNote_76 : decode cX4_placeNote 76 = .ok (.goto (-68), 3) := by decide +kernel
theorem dX4_placeNote_79 : decode cX4_placeNote 79 = .ok (.aload_n 0, 1) := by decide +kernel
theorem dX4_placeNote_80 : decode cX4_placeNote 80 = .ok (.iload_n 1, 1) := by decide +kernel
theorem dX4_placeNote_81 : decode cX4_placeNote 81 = .ok (.invokevirtual 162, 3) := by decide +kernel
theorem dX4_placeNote_84 : decode cX4_placeNote 84 = .ok (.istore_n 3, 1) := by decide +kernel
theorem dX4_placeNote_85 : decode cX4_placeNote 85 = .ok (.aload_n 0, 1) := by decide +kernel
theorem dX4_placeNote_86 : decode cX4_placeNote 86 = .ok (.getfield 61, 3) := by decide +kernel
theorem dX4_placeNote_89 : decode cX4_placeNote 89 = .ok (.iload_n 1, 1) := by decide +kernel
theorem dX4_placeNote_90 : decode cX4_placeNote 90 = .ok (.iaload, 1) := by decide +kernel
theorem dX4_placeNote_91 : decode cX4_placeNote 91 = .ok (.ifCond .le 28, 3) := by decide +kernel
theorem dX4_placeNote_94 : decode cX4_placeNote 94 = .ok (.iload_n 3, 1) := by decide +kernel
theorem dX4_placeNote_95 : decode cX4_placeNote 95 = .ok (.ifCond .lt 24, 3) := by decide +kernel
theorem dX4_placeNote_98 : decode cX4_placeNote 98 = .ok (.iload_n 2, 1) := by decide +kernel
theorem dX4_placeNote_99 : decode cX4_placeNote 99 = .ok (.aload_n 0, 1) := by decide +kernel
theorem dX4_placeNote_100 : decode cX4_placeNote 100 = .ok (.getfield 85, 3) := by decide +kernel
theorem dX4_placeNote_103 : decode cX4_placeNote 103 = .ok (.iload_n 3, 1) := by decide +kernel
theorem dX4_placeNote_104 : decode cX4_placeNote 104 = .ok (.iaload, 1) := by decide +kernel
theorem dX4_placeNote_105 : decode cX4_placeNote 105 = .ok (.aload_n 0, 1) := by decide +kernel
theorem dX4_placeNote_106 : decode cX4_placeNote 106 = .ok (.getfield 61, 3) := by decide +kernel
theorem dX4_placeNote_109 : decode cX4_placeNote 109 = .ok (.iload_n 3, 1) := by decide +kernel
theorem dX4_placeNote_110 : decode cX4_placeNote 110 = .ok (.iaload, 1) := by decide +kernel
theorem dX4_placeNote_111 : decode cX4_placeNote 111 = .ok (.iadd, 1) := by decide +kernel
theorem dX4_placeNote_112 : decode cX4_placeNote 112 = .ok (.bipush 10, 2) := by decide +kernel
theorem dX4_placeNote_114 : decode cX4_placeNote 114 = .ok (.iadd, 1) := by decide +kernel
theorem dX4_placeNote_115 : decode cX4_placeNote 115 = .ok (.invokestatic 156, 3) := by decide +kernel
theorem dX4_placeNote_118 : decode cX4_placeNote 118 = .ok (.istore_n 2, 1) := by decide +kernel
theorem dX4_placeNote_119 : decode cX4_placeNote 119 = .ok (.aload_n 0, 1) := by decide +kernel
theorem dX4_placeNote_120 : decode cX4_placeNote 120 = .ok (.getfield 85, 3) := by decide +kernel
theorem dX4_placeNote_123 : decode cX4_placeNote 123 = .ok (.iload_n 1, 1) := by decide +kernel
theorem dX4_placeNote_124 : decode cX4_placeNote 124 = .ok (.iload_n 2, 1) := by decide +kernel
theorem dX4_placeNote_125 : decode cX4_placeNote 125 = .ok (.iastore, 1) := by decide +kernel
theorem dX4_placeNote_126 : decode cX4_placeNote 126 = .ok (.iconst 0, 1) := by decide +kernel
theorem dX4_placeNote_127 : decode cX4_placeNote 127 = .ok (.istore 4, 2) := by decide +kernel
theorem dX4_placeNote_129 : decode cX4_placeNote 129 = .ok (.iload 4, 2) := by decide +kernel
theorem dX4_placeNote_131 : decode cX4_placeNote 131 = .ok (.iconst 4, 1) := by decide +kernel
theorem dX4_placeNote_132 : decode cX4_placeNote 132 = .ok (.if_icmp .ge 72, 3) := by decide +kernel
theorem dX4_placeNote_135 : decode cX4_placeNote 135 = .ok (.aload_n 0, 1) := by decide +kernel
theorem dX4_placeNote_136 : decode cX4_placeNote 136 = .ok (.iload_n 1, 1) := by decide +kernel
theorem dX4_placeNote_137 : decode cX4_placeNote 137 = .ok (.iload 4, 2) := by decide +kernel
theorem dX4_placeNote_139 : decode cX4_placeNote 139 = .ok (.invokevirtual 135, 3) := by decide +kernel
theorem dX4_placeNote_142 : decode cX4_placeNote 142 = .ok (.ifCond .eq 56, 3) := by decide +kernel
theorem dX4_placeNote_145 : decode cX4_placeNote 145 = .ok (.iload_n 2, 1) := by decide +kernel
theorem dX4_placeNote_146 : decode cX4_placeNote 146 = .ok (.aload_n 0, 1) := by decide +kernel
theorem dX4_placeNote_147 : decode cX4_placeNote 147 = .ok (.iload_n 1, 1) := by decide +kernel
theorem dX4_placeNote_148 : decode cX4_placeNote 148 = .ok (.iload 4, 2) := by decide +kernel
theorem dX4_placeNote_150 : decode cX4_placeNote 150 = .ok (.invokevirtual 153, 3) := by decide +kernel
theorem dX4_placeNote_153 : decode cX4_placeNote 153 = .ok (.isub, 1) := by decide +kernel
theorem dX4_placeNote_154 : decode cX4_placeNote 154 = .ok (.istore 5, 2) := by decide +kernel
theorem dX4_placeNote_156 : decode cX4_placeNote 156 = .ok (.aload_n 0, 1) := by decide +kernel
theorem dX4_placeNote_157 : decode cX4_placeNote 157 = .ok (.getfield 88, 3) := by decide +kernel
theorem dX4_placeNote_160 : decode cX4_placeNote 160 = .ok (.iconst 4, 1) := by decide +kernel
theorem dX4_placeNote_161 : decode cX4_placeNote 161 = .ok (.iload_n 1, 1) := by decide +kernel
theorem dX4_placeNote_162 : decode cX4_placeNote 162 = .ok (.imul, 1) := by decide +kernel
theorem dX4_placeNote_163 : decode cX4_placeNote 163 = .ok (.iload 4, 2) := by decide +kernel
theorem dX4_placeNote_165 : decode cX4_placeNote 165 = .ok (.iadd, 1) := by decide +kernel
theorem dX4_placeNote_166 : decode cX4_placeNote 166 = .ok (.aload_n 0, 1) := by decide +kernel
theorem dX4_placeNote_167 : decode cX4_placeNote 167 = .ok (.getfield 42, 3) := by decide +kernel
theorem dX4_placeNote_170 : decode cX4_placeNote 170 = .ok (.iload 4, 2) := by decide +kernel
theorem dX4_placeNote_172 : decode cX4_placeNote 172 = .ok (.baload, 1) := by decide +kernel
theorem dX4_placeNote_173 : decode cX4_placeNote 173 = .ok (.ifCond .eq 22, 3) := by decide +kernel
theorem dX4_placeNote_176 : decode cX4_placeNote 176 = .ok (.iconst 0, 1) := by decide +kernel
theorem dX4_placeNote_177 : decode cX4_placeNote 177 = .ok (.iload 5, 2) := by decide +kernel
theorem dX4_placeNote_179 : decode cX4_placeNote 179 = .ok (.invokestatic 156, 3) := by decide +kernel
theorem dX4_placeNote_182 : decode cX4_placeNote 182 = .ok (.aload_n 0, 1) := by decide +kernel
theorem dX4_placeNote_183 : decode cX4_placeNote 183 = .ok (.iload_n 1, 1) := by decide +kernel
theorem dX4_placeNote_184 : decode cX4_placeNote 184 = .ok (.iload 4, 2) := by decide +kernel
theorem dX4_placeNote_186 : decode cX4_placeNote 186 = .ok (.invokevirtual 159, 3) := by decide +kernel
theorem dX4_placeNote_189 : decode cX4_placeNote 189 = .ok (.invokestatic 156, 3) := by decide +kernel
theorem dX4_placeNote_192 : decode cX4_placeNote 192 = .ok (.goto 5, 3) := by decide +kernel
theorem dX4_placeNote_195 : decode cX4_placeNote 195 = .ok (.iload 5, 2) := by decide +kernel
theorem dX4_placeNote_197 : decode cX4_placeNote 197 = .ok (.iastore, 1) := by decide +kernel
theorem dX4_placeNote_198 : decode cX4_placeNote 198 = .ok (.iinc 4 1, 3) := by decide +kernel
theorem dX4_placeNote_201 : decode cX4_placeNote 201 = .ok (.goto (-72), 3) := by decide +kernel
theorem dX4_placeNote_204 : decode cX4_placeNote 204 = .ok (.return_, 1) := by decide +kernel
theorem dX4_place_0 : decode cX4_place 0 = .ok (.aload_n 0, 1) := by decide +kernel
theorem dX4_place_1 : decode cX4_place 1 = .ok (.iconst 0, 1) := by decide +kernel
theorem dX4_place_2 : decode cX4_place 2 = .ok (.putfield 1, 3) := by decide +kernel
theorem dX4_place_5 : decode cX4_place 5 = .ok (.iconst 0, 1) := by decide +kernel
theorem dX4_place_6 : decode cX4_place 6 = .ok (.istore_n 1, 1) := by decide +kernel
theorem dX4_place_7 : decode cX4_place 7 = .ok (.iconst 0, 1) := by decide +kernel
theorem dX4_place_8 : decode cX4_place 8 = .ok (.istore_n 2, 1) := by decide +kernel
theorem dX4_place_9 : decode cX4_place 9 = .ok (.iload_n 2, 1) := by decide +kernel
theorem dX4_place_10 : decode cX4_place 10 = .ok (.aload_n 0, 1) := by decide +kernel
theorem dX4_place_11 : decode cX4_place 11 = .ok (.getfield 7, 3) := by decide +kernel
theorem dX4_place_14 : decode cX4_place 14 = .ok (.if_icmp .ge 82, 3) := by decide +kernel
theorem dX4_place_17 : decode cX4_place 17 = .ok (.aload_n 0, 1) := by decide +kernel
theorem dX4_place_18 : decode cX4_place 18 = .ok (.iload_n 2, 1) := by decide +kernel
theorem dX4_place_19 : decode cX4_place 19 = .ok (.invokevirtual 165, 3) := by decide +kernel
theorem dX4_place_22 : decode cX4_place 22 = .ok (.iconst 0, 1) := by decide +kernel
theorem dX4_place_23 : decode cX4_place 23 = .ok (.istore_n 3, 1) := by decide +kernel
theorem dX4_place_24 : decode cX4_place 24 = .ok (.iload_n 3, 1) := by decide +kernel
theorem dX4_place_25 : decode cX4_place 25 = .ok (.iconst 4, 1) := by decide +kernel
theorem dX4_place_26 : decode cX4_place 26 = .ok (.if_icmp .ge 33, 3) := by decide +kernel
theorem dX4_place_29 : decode cX4_place 29 = .ok (.aload_n 0, 1) := by decide +kernel
theorem dX4_place_30 : decode cX4_place 30 = .ok (.iload_n 2, 1) := by decide +kernel
theorem dX4_place_31 : decode cX4_place 31 = .ok (.iload_n 3, 1) := by decide +kernel
theorem dX4_place_32 : decode cX4_place 32 = .ok (.invokevirtual 135, 3) := by decide +kernel
theorem dX4_place_35 : decode cX4_place 35 = .ok (.ifCond .eq 16, 3) := by decide +kernel
theorem dX4_place_38 : decode cX4_place 38 = .ok (.iload_n 1, 1) := by decide +kernel
theorem dX4_place_39 : decode cX4_place 39 = .ok (.aload_n 0, 1) := by decide +kernel
theorem dX4_place_40 : decode cX4_place 40 = .ok (.iload_n 2, 1) := by decide +kernel
theorem dX4_place_41 : decode cX4_place 41 = .ok (.iload_n 3, 1) := by decide +kernel
theorem dX4_place_42 : decode cX4_place 42 = .ok (.invokevirtual 143, 3) := by decide +kernel
theorem dX4_place_45 : decode cX4_place 45 = .ok (.invokestatic 156, 3) := by decide +kernel
theorem dX4_place_48 : decode cX4_place 48 = .ok (.goto 4, 3) := by decide +kernel
theorem dX4_place_51 : decode cX4_place 51 = .ok (.iload_n 1, 1) := by decide +kernel
theorem dX4_place_52 : decode cX4_place 52 = .ok (.istore_n 1, 1) := by decide +kernel
theorem dX4_place_53 : decode cX4_place 53 = .ok (.iinc 3 1, 3) := by decide +kernel
theorem dX4_place_56 : decode cX4_place 56 = .ok (.goto (-32), 3) := by decide +kernel
theorem dX4_place_59 : decode cX4_place 59 = .ok (.aload_n 0, 1) := by decide +kernel
theorem dX4_place_60 : decode cX4_place 60 = .ok (.getfield 61, 3) := by decide +kernel
theorem dX4_place_63 : decode cX4_place 63 = .ok (.iload_n 2, 1) := by decide +kernel
theorem dX4_place_64 : decode cX4_place 64 = .ok (.iaload, 1) := by decide +kernel
theorem dX4_place_65 : decode cX4_place 65 = .ok (.ifCond .le 23, 3) := by decide +kernel
theorem dX4_place_68 : decode cX4_place 68 = .ok (.iload_n 1, 1) := by decide +kernel
theorem dX4_place_69 : decode cX4_place 69 = .ok (.aload_n 0, 1) := by decide +kernel
theorem dX4_place_70 : decode cX4_place 70 = .ok (.getfield 85, 3) := by decide +kernel
theorem dX4_place_73 : decode cX4_place 73 = .ok (.iload_n 2, 1) := by decide +kernel
theorem dX4_place_74 : decode cX4_place 74 = .ok (.iaload, 1) := by decide +kernel
theorem dX4_place_75 : decode cX4_place 75 = .ok (.aload_n 0, 1) := by decide +kernel
theorem dX4_place_76 : decode cX4_place 76 = .ok (.getfield 61, 3) := by decide +kernel
theorem dX4_place_79 : decode cX4_place 79 = .ok (.iload_n 2, 1) := by decide +kernel
theorem dX4_place_80 : decode cX4_place 80 = .ok (.iaload, 1) := by decide +kernel
theorem dX4_place_81 : decode cX4_place 81 = .ok (.iadd, 1) := by decide +kernel
theorem dX4_place_82 : decode cX4_place 82 = .ok (.invokestatic 156, 3) := by decide +kernel
theorem dX4_place_85 : decode cX4_place 85 = .ok (.goto 4, 3) := by decide +kernel
theorem dX4_place_88 : decode cX4_place 88 = .ok (.iload_n 1, 1) := by decide +kernel
theorem dX4_place_89 : decode cX4_place 89 = .ok (.istore_n 1, 1) := by decide +kernel
theorem dX4_place_90 : decode cX4_place 90 = .ok (.iinc 2 1, 3) := by decide +kernel
theorem dX4_place_93 : decode cX4_place 93 = .ok (.goto (-84), 3) := by decide +kernel
theorem dX4_place_96 : decode cX4_place 96 = .ok (.aload_n 0, 1) := by decide +kernel
theorem dX4_place_97 : decode cX4_place 97 = .ok (.getfield 7, 3) := by decide +kernel
theorem dX4_place_100 : decode cX4_place 100 = .ok (.ifCond .le 33, 3) := by decide +kernel
theorem dX4_place_103 : decode cX4_place 103 = .ok (.iload_n 1, 1) := by decide +kernel
theorem dX4_place_104 : decode cX4_place 104 = .ok (.aload_n 0, 1) := by decide +kernel
theorem dX4_place_105 : decode cX4_place 105 = .ok (.getfield 85, 3) := by decide +kernel
theorem dX4_place_108 : decode cX4_place 108 = .ok (.aload_n 0, 1) := by decide +kernel
theorem dX4_place_109 : decode cX4_place 109 = .ok (.getfield 7, 3) := by decide +kernel
theorem dX4_place_112 : decode cX4_place 112 = .ok (.iconst 1, 1) := by decide +kernel
theorem dX4_place_113 : decode cX4_place 113 = .ok (.isub, 1) := by decide +kernel
theorem dX4_place_114 : decode cX4_place 114 = .ok (.iaload, 1) := by decide +kernel
theorem dX4_place_115 : decode cX4_place 115 = .ok (.aload_n 0, 1) := by decide +kernel
theorem dX4_place_116 : decode cX4_place 116 = .ok (.getfield 52, 3) := by decide +kernel
theorem dX4_place_119 : decode cX4_place 119 = .ok (.aload_n 0, 1) := by decide +kernel
theorem dX4_place_120 : decode cX4_place 120 = .ok (.getfield 7, 3) := by decide +kernel
theorem dX4_place_123 : decode cX4_place 123 = .ok (.iconst 1, 1) := by decide +kernel
theorem dX4_place_124 : decode cX4_place 124 = .ok (.isub, 1) := by decide +kernel
theorem dX4_place_125 : decode cX4_place 125 = .ok (.iaload, 1) := by decide +kernel
theorem dX4_place_126 : decode cX4_place 126 = .ok (.iadd, 1) := by decide +kernel
theorem dX4_place_127 : decode cX4_place 127 = .ok (.invokestatic 156, 3) := by decide +kernel
theorem dX4_place_130 : decode cX4_place 130 = .ok (.goto 4, 3) := by decide +kernel
theorem dX4_place_133 : decode cX4_place 133 = .ok (.iload_n 1, 1) := by decide +kernel
theorem dX4_place_134 : decode cX4_place 134 = .ok (.istore_n 1, 1) := by decide +kernel
theorem dX4_place_135 : decode cX4_place 135 = .ok (.aload_n 0, 1) := by decide +kernel
theorem dX4_place_136 : decode cX4_place 136 = .ok (.iconst 1, 1) := by decide +kernel
theorem dX4_place_137 : decode cX4_place 137 = .ok (.putfield 19, 3) := by decide +kernel
theorem dX4_place_140 : decode cX4_place 140 = .ok (.iconst 0, 1) := by decide +kernel
theorem dX4_place_141 : decode cX4_place 141 = .ok (.iload_n 1, 1) := by decide +kernel
theorem dX4_place_142 : decode cX4_place 142 = .ok (.aload_n 0, 1) := by decide +kernel
theorem dX4_place_143 : decode cX4_place 143 = .ok (.getfield 16, 3) := by decide +kernel
theorem dX4_place_146 : decode cX4_place 146 = .ok (.isub, 1) := by decide +kernel
theorem dX4_place_147 : decode cX4_place 147 = .ok (.invokestatic 156, 3) := by decide +kernel
theorem dX4_place_150 : decode cX4_place 150 = .ok (.ireturn, 1) := by decide +kernel
theorem dX4_x_0 : decode cX4_x 0 = .ok (.aload_n 0, 1) := by decide +kernel
theorem dX4_x_1 : decode cX4_x 1 = .ok (.iconst 0, 1) := by decide +kernel
theorem dX4_x_2 : decode cX4_x 2 = .ok (.putfield 1, 3) := by decide +kernel
theorem dX4_x_5 : decode cX4_x 5 = .ok (.aload_n 0, 1) := by decide +kernel
theorem dX4_x_6 : decode cX4_x 6 = .ok (.iload_n 1, 1) := by decide +kernel
theorem dX4_x_7 : decode cX4_x 7 = .ok (.invokevirtual 116, 3) := by decide +kernel
theorem dX4_x_10 : decode cX4_x 10 = .ok (.ifCond .ne 6, 3) := by decide +kernel
theorem dX4_x_13 : decode cX4_x 13 = .ok (.ldc 123, 2) := by decide +kernel
theorem dX4_x_15 : decode cX4_x 15 = .ok (.ireturn, 1) := by decide +kernel
theorem dX4_x_16 : decode cX4_x 16 = .ok (.iload_n 2, 1) := by decide +kernel
theorem dX4_x_17 : decode cX4_x 17 = .ok (.iconst 0, 1) := by decide +kernel
theorem dX4_x_18 : decode cX4_x 18 = .ok (.iconst 1, 1) := by decide +kernel
theorem dX4_x_19 : decode cX4_x 19 = .ok (.invokestatic 109, 3) := by decide +kernel
theorem dX4_x_22 : decode cX4_x 22 = .ok (.ifCond .ne 6, 3) := by decide +kernel
theorem dX4_x_25 : decode cX4_x 25 = .ok (.ldc 113, 2) := by decide +kernel
theorem dX4_x_27 : decode cX4_x 27 = .ok (.ireturn, 1) := by decide +kernel
theorem dX4_x_28 : decode cX4_x 28 = .ok (.aload_n 0, 1) := by decide +kernel
theorem dX4_x_29 : decode cX4_x 29 = .ok (.getfield 19, 3) := by decide +kernel
theorem dX4_x_32 : decode cX4_x 32 = .ok (.ifCond .ne 6, 3) := by decide +kernel
theorem dX4_x_35 : decode cX4_x 35 = .ok (.ldc 127, 2) := by decide +kernel
theorem dX4_x_37 : decode cX4_x 37 = .ok (.ireturn, 1) := by decide +kernel
theorem dX4_x_38 : decode cX4_x 38 = .ok (.iload_n 2, 1) := by decide +kernel
theorem dX4_x_39 : decode cX4_x 39 = .ok (.ifCond .ne 12, 3) := by decide +kernel
theorem dX4_x_42 : decode cX4_x 42 = .ok (.aload_n 0, 1) := by decide +kernel
theorem dX4_x_43 : decode cX4_x 43 = .ok (.getfield 85, 3) := by decide +kernel
theorem dX4_x_46 : decode cX4_x 46 = .ok (.iload_n 1, 1) := by decide +kernel
theorem dX4_x_47 : decode cX4_x 47 = .ok (.iaload, 1) := by decide +kernel
theorem dX4_x_48 : decode cX4_x 48 = .ok (.goto 15, 3) := by decide +kernel
theorem dX4_x_51 : decode cX4_x 51 = .ok (.aload_n 0, 1) := by decide +kernel
theorem dX4_x_52 : decode cX4_x 52 = .ok (.getfield 85, 3) := by decide +kernel
theorem dX4_x_55 : decode cX4_x 55 = .ok (.iload_n 1, 1) := by decide +kernel
theorem dX4_x_56 : decode cX4_x 56 = .ok (.iaload, 1) := by decide +kernel
theorem dX4_x_57 : decode cX4_x 57 = .ok (.aload_n 0, 1) := by decide +kernel
theorem dX4_x_58 : decode cX4_x 58 = .ok (.iload_n 1, 1) := by decide +kernel
theorem dX4_x_59 : decode cX4_x 59 = .ok (.invokevirtual 149, 3) := by decide +kernel
theorem dX4_x_62 : decode cX4_x 62 = .ok (.isub, 1) := by decide +kernel
theorem dX4_x_63 : decode cX4_x 63 = .ok (.ireturn, 1) := by decide +kernel
theorem dX4_noBox_0 : decode cX4_noBox 0 = .ok (.aload_n 0, 1) := by decide +kernel
theorem dX4_noBox_1 : decode cX4_noBox 1 = .ok (.iload_n 1, 1) := by decide +kernel
theorem dX4_noBox_2 : decode cX4_noBox 2 = .ok (.invokevirtual 116, 3) := by decide +kernel
theorem dX4_noBox_5 : decode cX4_noBox 5 = .ok (.ifCond .eq 19, 3) := by decide +kernel
theorem dX4_noBox_8 : decode cX4_noBox 8 = .ok (.iload_n 2, 1) := by decide +kernel
theorem dX4_noBox_9 : decode cX4_noBox 9 = .ok (.invokestatic 120, 3) := by decide +kernel
theorem dX4_noBox_12 : decode cX4_noBox 12 = .ok (.ifCond .eq 12, 3) := by decide +kernel
theorem dX4_noBox_15 : decode cX4_noBox 15 = .ok (.aload_n 0, 1) := by decide +kernel
theorem dX4_noBox_16 : decode cX4_noBox 16 = .ok (.iload_n 1, 1) := by decide +kernel
theorem dX4_noBox_17 : decode cX4_noBox 17 = .ok (.iload_n 2, 1) := by decide +kernel
theorem dX4_noBox_18 : decode cX4_noBox 18 = .ok (.invokevirtual 135, 3) := by decide +kernel
theorem dX4_noBox_21 : decode cX4_noBox 21 = .ok (.ifCond .ne 7, 3) := by decide +kernel
theorem dX4_noBox_24 : decode cX4_noBox 24 = .ok (.iconst 1, 1) := by decide +kernel
theorem dX4_noBox_25 : decode cX4_noBox 25 = .ok (.goto 4, 3) := by decide +kernel
theorem dX4_noBox_28 : decode cX4_noBox 28 = .ok (.iconst 0, 1) := by decide +kernel
theorem dX4_noBox_29 : decode cX4_noBox 29 = .ok (.ireturn, 1) := by decide +kernel
theorem dX4_box_0 : decode cX4_box 0 = .ok (.aload_n 0, 1) := by decide +kernel
theorem dX4_box_1 : decode cX4_box 1 = .ok (.iconst 0, 1) := by decide +kernel
theorem dX4_box_2 : decode cX4_box 2 = .ok (.putfield 1, 3) := by decide +kernel
theorem dX4_box_5 : decode cX4_box 5 = .ok (.aload_n 0, 1) := by decide +kernel
theorem dX4_box_6 : decode cX4_box 6 = .ok (.iload_n 1, 1) := by decide +kernel
theorem dX4_box_7 : decode cX4_box 7 = .ok (.iload_n 2, 1) := by decide +kernel
theorem dX4_box_8 : decode cX4_box 8 = .ok (.invokevirtual 169, 3) := by decide +kernel
theorem dX4_box_11 : decode cX4_box 11 = .ok (.ifCond .eq 6, 3) := by decide +kernel
theorem dX4_box_14 : decode cX4_box 14 = .ok (.ldc 123, 2) := by decide +kernel
theorem dX4_box_16 : decode cX4_box 16 = .ok (.ireturn, 1) := by decide +kernel
theorem dX4_box_17 : decode cX4_box 17 = .ok (.iload_n 3, 1) := by decide +kernel
theorem dX4_box_18 : decode cX4_box 18 = .ok (.iconst 0, 1) := by decide +kernel
theorem dX4_box_19 : decode cX4_box 19 = .ok (.iconst 4, 1) := by decide +kernel
theorem dX4_box_20 : decode cX4_box 20 = .ok (.invokestatic 109, 3) := by decide +kernel
theorem dX4_box_23 : decode cX4_box 23 = .ok (.ifCond .ne 6, 3) := by decide +kernel
theorem dX4_box_26 : decode cX4_box 26 = .ok (.ldc 113, 2) := by decide +kernel
theorem dX4_box_28 : decode cX4_box 28 = .ok (.ireturn, 1) := by decide +kernel
theorem dX4_box_29 : decode cX4_box 29 = .ok (.aload_n 0, 1) := by decide +kernel
theorem dX4_box_30 : decode cX4_box 30 = .ok (.getfield 19, 3) := by decide +kernel
theorem dX4_box_33 : decode cX4_box 33 = .ok (.ifCond .ne 6, 3) := by decide +kernel
theorem dX4_box_36 : decode cX4_box 36 = .ok (.ldc 127, 2) := by decide +kernel
theorem dX4_box_38 : decode cX4_box 38 = .ok (.ireturn, 1) := by decide +kernel
theorem dX4_box_39 : decode cX4_box 39 = .ok (.aload_n 0, 1) := by decide +kernel
theorem dX4_box_40 : decode cX4_box 40 = .ok (.getfield 88, 3) := by decide +kernel
theorem dX4_box_43 : decode cX4_box 43 = .ok (.iconst 4, 1) := by decide +kernel
theorem dX4_box_44 : decode cX4_box 44 = .ok (.iload_n 1, 1) := by decide +kernel
theorem dX4_box_45 : decode cX4_box 45 = .ok (.imul, 1) := by decide +kernel
theorem dX4_box_46 : decode cX4_box 46 = .ok (.iload_n 2, 1) := by decide +kernel
theorem dX4_box_47 : decode cX4_box 47 = .ok (.iadd, 1) := by decide +kernel
theorem dX4_box_48 : decode cX4_box 48 = .ok (.iaload, 1) := by decide +kernel
theorem dX4_box_49 : decode cX4_box 49 = .ok (.istore 4, 2) := by decide +kernel
theorem dX4_box_51 : decode cX4_box 51 = .ok (.aload_n 0, 1) := by decide +kernel
theorem dX4_box_52 : decode cX4_box 52 = .ok (.iload_n 1, 1) := by decide +kernel
theorem dX4_box_53 : decode cX4_box 53 = .ok (.iload_n 2, 1) := by decide +kernel
theorem dX4_box_54 : decode cX4_box 54 = .ok (.invokevirtual 143, 3) := by decide +kernel
theorem dX4_box_57 : decode cX4_box 57 = .ok (.istore 5, 2) := by decide +kernel
theorem dX4_box_59 : decode cX4_box 59 = .ok (.iload_n 3, 1) := by decide +kernel
theorem dX4_box_60 : decode cX4_box 60 = .ok (.tableswitch 65 0 3 #[32, 35, 42, 62], 32) := by decide +kernel
theorem dX4_box_92 : decode cX4_box 92 = .ok (.iload 4, 2) := by decide +kernel
theorem dX4_box_94 : decode cX4_box 94 = .ok (.ireturn, 1) := by decide +kernel
theorem dX4_box_95 : decode cX4_box 95 = .ok (.aload_n 0, 1) := by decide +kernel
theorem dX4_box_96 : decode cX4_box 96 = .ok (.iload_n 1, 1) := by decide +kernel
theorem dX4_box_97 : decode cX4_box 97 = .ok (.iload_n 2, 1) := by decide +kernel
theorem dX4_box_98 : decode cX4_box 98 = .ok (.invokevirtual 132, 3) := by decide +kernel
theorem dX4_box_101 : decode cX4_box 101 = .ok (.ireturn, 1) := by decide +kernel
theorem dX4_box_102 : decode cX4_box 102 = .ok (.aload_n 0, 1) := by decide +kernel
theorem dX4_box_103 : decode cX4_box 103 = .ok (.getfield 73, 3) := by decide +kernel
theorem dX4_box_106 : decode cX4_box 106 = .ok (.iconst 4, 1) := by decide +kernel
theorem dX4_box_107 : decode cX4_box 107 = .ok (.iload_n 1, 1) := by decide +kernel
theorem dX4_box_108 : decode cX4_box 108 = .ok (.imul, 1) := by decide +kernel
theorem dX4_box_109 : decode cX4_box 109 = .ok (.iload_n 2, 1) := by decide +kernel
theorem dX4_box_110 : decode cX4_box 110 = .ok (.iadd, 1) := by decide +kernel
theorem dX4_box_111 : decode cX4_box 111 = .ok (.iaload, 1) := by decide +kernel
theorem dX4_box_112 : decode cX4_box 112 = .ok (.iconst 2, 1) := by decide +kernel
theorem dX4_box_113 : decode cX4_box 113 = .ok (.if_icmp .ne 7, 3) := by decide +kernel
theorem dX4_box_116 : decode cX4_box 116 = .ok (.iconst 1, 1) := by decide +kernel
theorem dX4_box_117 : decode cX4_box 117 = .ok (.goto 4, 3) := by decide +kernel
theorem dX4_box_120 : decode cX4_box 120 = .ok (.iconst 0, 1) := by decide +kernel
theorem dX4_box_121 : decode cX4_box 121 = .ok (.ireturn, 1) := by decide +kernel
theorem dX4_box_122 : decode cX4_box 122 = .ok (.iload 5, 2) := by decide +kernel
theorem dX4_box_124 : decode cX4_box 124 = .ok (.ireturn, 1) := by decide +kernel
theorem dX4_box_125 : decode cX4_box 125 = .ok (.aload_n 0, 1) := by decide +kernel
theorem dX4_box_126 : decode cX4_box 126 = .ok (.getfield 85, 3) := by decide +kernel
theorem dX4_box_129 : decode cX4_box 129 = .ok (.iload_n 1, 1) := by decide +kernel
theorem dX4_box_130 : decode cX4_box 130 = .ok (.iaload, 1) := by decide +kernel
theorem dX4_box_131 : decode cX4_box 131 = .ok (.iload 4, 2) := by decide +kernel
theorem dX4_box_133 : decode cX4_box 133 = .ok (.if_icmp .lt 18, 3) := by decide +kernel
theorem dX4_box_136 : decode cX4_box 136 = .ok (.aload_n 0, 1) := by decide +kernel
theorem dX4_box_137 : decode cX4_box 137 = .ok (.getfield 85, 3) := by decide +kernel
theorem dX4_box_140 : decode cX4_box 140 = .ok (.iload_n 1, 1) := by decide +kernel
theorem dX4_box_141 : decode cX4_box 141 = .ok (.iaload, 1) := by decide +kernel
theorem dX4_box_142 : decode cX4_box 142 = .ok (.iload 5, 2) := by decide +kernel
theorem dX4_box_144 : decode cX4_box 144 = .ok (.if_icmp .gt 7, 3) := by decide +kernel
theorem dX4_box_147 : decode cX4_box 147 = .ok (.iconst 1, 1) := by decide +kernel
theorem dX4_box_148 : decode cX4_box 148 = .ok (.goto 4, 3) := by decide +kernel
theorem dX4_box_151 : decode cX4_box 151 = .ok (.iconst 0, 1) := by decide +kernel
theorem dX4_box_152 : decode cX4_box 152 = .ok (.ireturn, 1) := by decide +kernel
theorem dX4_hyphenMany_0 : decode cX4_hyphenMany 0 = .ok (.aload_n 0, 1) := by decide +kernel
theorem dX4_hyphenMany_1 : decode cX4_hyphenMany 1 = .ok (.iload_n 1, 1) := by decide +kernel
theorem dX4_hyphenMany_2 : decode cX4_hyphenMany 2 = .ok (.iload_n 2, 1) := by decide +kernel
theorem dX4_hyphenMany_3 : decode cX4_hyphenMany 3 = .ok (.iconst 1, 1) := by decide +kernel
theorem dX4_hyphenMany_4 : decode cX4_hyphenMany 4 = .ok (.invokevirtual 139, 3) := by decide +kernel
theorem dX4_hyphenMany_7 : decode cX4_hyphenMany 7 = .ok (.istore_n 3, 1) := by decide +kernel
theorem dX4_hyphenMany_8 : decode cX4_hyphenMany 8 = .ok (.aload_n 0, 1) := by decide +kernel
theorem dX4_hyphenMany_9 : decode cX4_hyphenMany 9 = .ok (.iload_n 1, 1) := by decide +kernel
theorem dX4_hyphenMany_10 : decode cX4_hyphenMany 10 = .ok (.iload_n 2, 1) := by decide +kernel
theorem dX4_hyphenMany_11 : decode cX4_hyphenMany 11 = .ok (.invokevirtual 146, 3) := by decide +kernel
theorem dX4_hyphenMany_14 : decode cX4_hyphenMany 14 = .ok (.ifCond .eq 9, 3) := by decide +kernel
theorem dX4_hyphenMany_17 : decode cX4_hyphenMany 17 = .ok (.iload_n 3, 1) := by decide +kernel
theorem dX4_hyphenMany_18 : decode cX4_hyphenMany 18 = .ok (.ldc 115, 2) := by decide +kernel
theorem dX4_hyphenMany_20 : decode cX4_hyphenMany 20 = .ok (.if_icmp .ne 5, 3) := by decide +kernel
theorem dX4_hyphenMany_23 : decode cX4_hyphenMany 23 = .ok (.iconst 0, 1) := by decide +kernel
theorem dX4_hyphenMany_24 : decode cX4_hyphenMany 24 = .ok (.ireturn, 1) := by decide +kernel
theorem dX4_hyphenMany_25 : decode cX4_hyphenMany 25 = .ok (.aload_n 0, 1) := by decide +kernel
theorem dX4_hyphenMany_26 : decode cX4_hyphenMany 26 = .ok (.aload_n 0, 1) := by decide +kernel
theorem dX4_hyphenMany_27 : decode cX4_hyphenMany 27 = .ok (.getfield 88, 3) := by decide +kernel
theorem dX4_hyphenMany_30 : decode cX4_hyphenMany 30 = .ok (.iconst 4, 1) := by decide +kernel
theorem dX4_hyphenMany_31 : decode cX4_hyphenMany 31 = .ok (.iload_n 3, 1) := by decide +kernel
theorem dX4_hyphenMany_32 : decode cX4_hyphenMany 32 = .ok (.imul, 1) := by decide +kernel
theorem dX4_hyphenMany_33 : decode cX4_hyphenMany 33 = .ok (.iload_n 2, 1) := by decide +kernel
theorem dX4_hyphenMany_34 : decode cX4_hyphenMany 34 = .ok (.iadd, 1) := by decide +kernel
theorem dX4_hyphenMany_35 : decode cX4_hyphenMany 35 = .ok (.iaload, 1) := by decide +kernel
theorem dX4_hyphenMany_36 : decode cX4_hyphenMany 36 = .ok (.aload_n 0, 1) := by decide +kernel
theorem dX4_hyphenMany_37 : decode cX4_hyphenMany 37 = .ok (.iload_n 1, 1) := by decide +kernel
theorem dX4_hyphenMany_38 : decode cX4_hyphenMany 38 = .ok (.iload_n 2, 1) := by decide +kernel
theorem dX4_hyphenMany_39 : decode cX4_hyphenMany 39 = .ok (.invokevirtual 143, 3) := by decide +kernel
theorem dX4_hyphenMany_42 : decode cX4_hyphenMany 42 = .ok (.isub, 1) := by decide +kernel
theorem dX4_hyphenMany_43 : decode cX4_hyphenMany 43 = .ok (.putfield 172, 3) := by decide +kernel
theorem dX4_hyphenMany_46 : decode cX4_hyphenMany 46 = .ok (.aload_n 0, 1) := by decide +kernel
theorem dX4_hyphenMany_47 : decode cX4_hyphenMany 47 = .ok (.getfield 172, 3) := by decide +kernel
theorem dX4_hyphenMany_50 : decode cX4_hyphenMany 50 = .ok (.bipush 10, 2) := by decide +kernel
theorem dX4_hyphenMany_52 : decode cX4_hyphenMany 52 = .ok (.if_icmp .ge 7, 3) := by decide +kernel
theorem dX4_hyphenMany_55 : decode cX4_hyphenMany 55 = .ok (.iconst 0, 1) := by decide +kernel
theorem dX4_hyphenMany_56 : decode cX4_hyphenMany 56 = .ok (.goto 15, 3) := by decide +kernel
theorem dX4_hyphenMany_59 : decode cX4_hyphenMany 59 = .ok (.iconst 1, 1) := by decide +kernel
theorem dX4_hyphenMany_60 : decode cX4_hyphenMany 60 = .ok (.aload_n 0, 1) := by decide +kernel
theorem dX4_hyphenMany_61 : decode cX4_hyphenMany 61 = .ok (.getfield 172, 3) := by decide +kernel
theorem dX4_hyphenMany_64 : decode cX4_hyphenMany 64 = .ok (.bipush 10, 2) := by decide +kernel
theorem dX4_hyphenMany_66 : decode cX4_hyphenMany 66 = .ok (.isub, 1) := by decide +kernel
theorem dX4_hyphenMany_67 : decode cX4_hyphenMany 67 = .ok (.bipush 80, 2) := by decide +kernel
theorem dX4_hyphenMany_69 : decode cX4_hyphenMany 69 = .ok (.idiv, 1) := by decide +kernel
theorem dX4_hyphenMany_70 : decode cX4_hyphenMany 70 = .ok (.iadd, 1) := by decide +kernel
theorem dX4_hyphenMany_71 : decode cX4_hyphenMany 71 = .ok (.ireturn, 1) := by decide +kernel
theorem dX4_hyphens_0 : decode cX4_hyphens 0 = .ok (.aload_n 0, 1) := by decide +kernel
theorem dX4_hyphens_1 : decode cX4_hyphens 1 = .ok (.iconst 0, 1) := by decide +kernel
theorem dX4_hyphens_2 : decode cX4_hyphens 2 = .ok (.putfield 1, 3) := by decide +kernel
theorem dX4_hyphens_5 : decode cX4_hyphens 5 = .ok (.aload_n 0, 1) := by decide +kernel
theorem dX4_hyphens_6 : decode cX4_hyphens 6 = .ok (.iload_n 1, 1) := by decide +kernel
theorem dX4_hyphens_7 : decode cX4_hyphens 7 = .ok (.iload_n 2, 1) := by decide +kernel
theorem dX4_hyphens_8 : decode cX4_hyphens 8 = .ok (.invokevirtual 169, 3) := by decide +kernel
theorem dX4_hyphens_11 : decode cX4_hyphens 11 = .ok (.ifCond .eq 6, 3) := by decide +kernel
theorem dX4_hyphens_14 : decode cX4_hyphens 14 = .ok (.ldc 123, 2) := by decide +kernel
theorem dX4_hyphens_16 : decode cX4_hyphens 16 = .ok (.ireturn, 1) := by decide +kernel
theorem dX4_hyphens_17 : decode cX4_hyphens 17 = .ok (.aload_n 0, 1) := by decide +kernel
theorem dX4_hyphens_18 : decode cX4_hyphens 18 = .ok (.getfield 19, 3) := by decide +kernel
theorem dX4_hyphens_21 : decode cX4_hyphens 21 = .ok (.ifCond .eq 12, 3) := by decide +kernel
theorem dX4_hyphens_24 : decode cX4_hyphens 24 = .ok (.aload_n 0, 1) := by decide +kernel
theorem dX4_hyphens_25 : decode cX4_hyphens 25 = .ok (.iload_n 1, 1) := by decide +kernel
theorem dX4_hyphens_26 : decode cX4_hyphens 26 = .ok (.iload_n 2, 1) := by decide +kernel
theorem dX4_hyphens_27 : decode cX4_hyphens 27 = .ok (.invokevirtual 175, 3) := by decide +kernel
theorem dX4_hyphens_30 : decode cX4_hyphens 30 = .ok (.goto 5, 3) := by decide +kernel
theorem dX4_hyphens_33 : decode cX4_hyphens 33 = .ok (.ldc 127, 2) := by decide +kernel
theorem dX4_hyphens_35 : decode cX4_hyphens 35 = .ok (.ireturn, 1) := by decide +kernel
theorem dX4_hyphen_0 : decode cX4_hyphen 0 = .ok (.aload_n 0, 1) := by decide +kernel
theorem dX4_hyphen_1 : decode cX4_hyphen 1 = .ok (.iconst 0, 1) := by decide +kernel
theorem dX4_hyphen_2 : decode cX4_hyphen 2 = .ok (.putfield 1, 3) := by decide +kernel
theorem dX4_hyphen_5 : decode cX4_hyphen 5 = .ok (.aload_n 0, 1) := by decide +kernel
theorem dX4_hyphen_6 : decode cX4_hyphen 6 = .ok (.iload_n 1, 1) := by decide +kernel
theorem dX4_hyphen_7 : decode cX4_hyphen 7 = .ok (.iload_n 2, 1) := by decide +kernel
theorem dX4_hyphen_8 : decode cX4_hyphen 8 = .ok (.invokevirtual 169, 3) := by decide +kernel
theorem dX4_hyphen_11 : decode cX4_hyphen 11 = .ok (.ifCond .eq 6, 3) := by decide +kernel
theorem dX4_hyphen_14 : decode cX4_hyphen 14 = .ok (.ldc 123, 2) := by decide +kernel
theorem dX4_hyphen_16 : decode cX4_hyphen 16 = .ok (.ireturn, 1) := by decide +kernel
theorem dX4_hyphen_17 : decode cX4_hyphen 17 = .ok (.aload_n 0, 1) := by decide +kernel
theorem dX4_hyphen_18 : decode cX4_hyphen 18 = .ok (.getfield 19, 3) := by decide +kernel
theorem dX4_hyphen_21 : decode cX4_hyphen 21 = .ok (.ifCond .ne 6, 3) := by decide +kernel
theorem dX4_hyphen_24 : decode cX4_hyphen 24 = .ok (.ldc 127, 2) := by decide +kernel
theorem dX4_hyphen_26 : decode cX4_hyphen 26 = .ok (.ireturn, 1) := by decide +kernel
theorem dX4_hyphen_27 : decode cX4_hyphen 27 = .ok (.aload_n 0, 1) := by decide +kernel
theorem dX4_hyphen_28 : decode cX4_hyphen 28 = .ok (.iload_n 1, 1) := by decide +kernel
theorem dX4_hyphen_29 : decode cX4_hyphen 29 = .ok (.iload_n 2, 1) := by decide +kernel
theorem dX4_hyphen_30 : decode cX4_hyphen 30 = .ok (.invokevirtual 175, 3) := by decide +kernel
theorem dX4_hyphen_33 : decode cX4_hyphen 33 = .ok (.istore 4, 2) := by decide +kernel
theorem dX4_hyphen_35 : decode cX4_hyphen 35 = .ok (.iload_n 3, 1) := by decide +kernel
theorem dX4_hyphen_36 : decode cX4_hyphen 36 = .ok (.iconst 0, 1) := by decide +kernel
theorem dX4_hyphen_37 : decode cX4_hyphen 37 = .ok (.iload 4, 2) := by decide +kernel
theorem dX4_hyphen_39 : decode cX4_hyphen 39 = .ok (.iconst 1, 1) := by decide +kernel
theorem dX4_hyphen_40 : decode cX4_hyphen 40 = .ok (.isub, 1) := by decide +kernel
theorem dX4_hyphen_41 : decode cX4_hyphen 41 = .ok (.invokestatic 109, 3) := by decide +kernel
theorem dX4_hyphen_44 : decode cX4_hyphen 44 = .ok (.ifCond .ne 10, 3) := by decide +kernel
theorem dX4_hyphen_47 : decode cX4_hyphen 47 = .ok (.aload_n 0, 1) := by decide +kernel
theorem dX4_hyphen_48 : decode cX4_hyphen 48 = .ok (.iconst 1, 1) := by decide +kernel
theorem dX4_hyphen_49 : decode cX4_hyphen 49 = .ok (.putfield 1, 3) := by decide +kernel
theorem dX4_hyphen_52 : decode cX4_hyphen 52 = .ok (.iconst 0, 1) := by decide +kernel
theorem dX4_hyphen_53 : decode cX4_hyphen 53 = .ok (.ireturn, 1) := by decide +kernel
theorem dX4_hyphen_54 : decode cX4_hyphen 54 = .ok (.aload_n 0, 1) := by decide +kernel
theorem dX4_hyphen_55 : decode cX4_hyphen 55 = .ok (.iload_n 1, 1) := by decide +kernel
theorem dX4_hyphen_56 : decode cX4_hyphen 56 = .ok (.iload_n 2, 1) := by decide +kernel
theorem dX4_hyphen_57 : decode cX4_hyphen 57 = .ok (.invokevirtual 143, 3) := by decide +kernel
theorem dX4_hyphen_60 : decode cX4_hyphen 60 = .ok (.iconst 2, 1) := by decide +kernel
theorem dX4_hyphen_61 : decode cX4_hyphen 61 = .ok (.iload_n 3, 1) := by decide +kernel
theorem dX4_hyphen_62 : decode cX4_hyphen 62 = .ok (.imul, 1) := by decide +kernel
theorem dX4_hyphen_63 : decode cX4_hyphen 63 = .ok (.iconst 1, 1) := by decide +kernel
theorem dX4_hyphen_64 : decode cX4_hyphen 64 = .ok (.iadd, 1) := by decide +kernel
theorem dX4_hyphen_65 : decode cX4_hyphen 65 = .ok (.aload_n 0, 1) := by decide +kernel
theorem dX4_hyphen_66 : decode cX4_hyphen 66 = .ok (.getfield 172, 3) := by decide +kernel
theorem dX4_hyphen_69 : decode cX4_hyphen 69 = .ok (.imul, 1) := by decide +kernel
theorem dX4_hyphen_70 : decode cX4_hyphen 70 = .ok (.iconst 2, 1) := by decide +kernel
theorem dX4_hyphen_71 : decode cX4_hyphen 71 = .ok (.iload 4, 2) := by decide +kernel
theorem dX4_hyphen_73 : decode cX4_hyphen 73 = .ok (.imul, 1) := by decide +kernel
theorem dX4_hyphen_74 : decode cX4_hyphen 74 = .ok (.idiv, 1) := by decide +kernel
theorem dX4_hyphen_75 : decode cX4_hyphen 75 = .ok (.iadd, 1) := by decide +kernel
theorem dX4_hyphen_76 : decode cX4_hyphen 76 = .ok (.iconst 3, 1) := by decide +kernel
theorem dX4_hyphen_77 : decode cX4_hyphen 77 = .ok (.isub, 1) := by decide +kernel
theorem dX4_hyphen_78 : decode cX4_hyphen 78 = .ok (.ireturn, 1) := by decide +kernel
theorem dX4_line_0 : decode cX4_line 0 = .ok (.aload_n 0, 1) := by decide +kernel
theorem dX4_line_1 : decode cX4_line 1 = .ok (.iconst 0, 1) := by decide +kernel
theorem dX4_line_2 : decode cX4_line 2 = .ok (.putfield 1, 3) := by decide +kernel
theorem dX4_line_5 : decode cX4_line 5 = .ok (.aload_n 0, 1) := by decide +kernel
theorem dX4_line_6 : decode cX4_line 6 = .ok (.iload_n 1, 1) := by decide +kernel
theorem dX4_line_7 : decode cX4_line 7 = .ok (.iload_n 2, 1) := by decide +kernel
theorem dX4_line_8 : decode cX4_line 8 = .ok (.invokevirtual 169, 3) := by decide +kernel
theorem dX4_line_11 : decode cX4_line 11 = .ok (.ifCond .eq 6, 3) := by decide +kernel
theorem dX4_line_14 : decode cX4_line 14 = .ok (.ldc 123, 2) := by decide +kernel
theorem dX4_line_16 : decode cX4_line 16 = .ok (.ireturn, 1) := by decide +kernel
theorem dX4_line_17 : decode cX4_line 17 = .ok (.iload_n 3, 1) := by decide +kernel
theorem dX4_line_18 : decode cX4_line 18 = .ok (.iconst 0, 1) := by decide +kernel
theorem dX4_line_19 : decode cX4_line 19 = .ok (.iconst 1, 1) := by decide +kernel
theorem dX4_line_20 : decode cX4_line 20 = .ok (.invokestatic 109, 3) := by decide +kernel
theorem dX4_line_23 : decode cX4_line 23 = .ok (.ifCond .ne 6, 3) := by decide +kernel
theorem dX4_line_26 : decode cX4_line 26 = .ok (.ldc 113, 2) := by decide +kernel
theorem dX4_line_28 : decode cX4_line 28 = .ok (.ireturn, 1) := by decide +kernel
theorem dX4_line_29 : decode cX4_line 29 = .ok (.aload_n 0, 1) := by decide +kernel
theorem dX4_line_30 : decode cX4_line 30 = .ok (.getfield 19, 3) := by decide +kernel
theorem dX4_line_33 : decode cX4_line 33 = .ok (.ifCond .ne 6, 3) := by decide +kernel
theorem dX4_line_36 : decode cX4_line 36 = .ok (.ldc 127, 2) := by decide +kernel
theorem dX4_line_38 : decode cX4_line 38 = .ok (.ireturn, 1) := by decide +kernel
theorem dX4_line_39 : decode cX4_line 39 = .ok (.aload_n 0, 1) := by decide +kernel
theorem dX4_line_40 : decode cX4_line 40 = .ok (.iload_n 1, 1) := by decide +kernel
theorem dX4_line_41 : decode cX4_line 41 = .ok (.iload_n 2, 1) := by decide +kernel
theorem dX4_line_42 : decode cX4_line 42 = .ok (.invokevirtual 146, 3) := by decide +kernel
theorem dX4_line_45 : decode cX4_line 45 = .ok (.ifCond .ne 13, 3) := by decide +kernel
theorem dX4_line_48 : decode cX4_line 48 = .ok (.aload_n 0, 1) := by decide +kernel
theorem dX4_line_49 : decode cX4_line 49 = .ok (.getfield 64, 3) := by decide +kernel
theorem dX4_line_52 : decode cX4_line 52 = .ok (.iload_n 1, 1) := by decide +kernel
theorem dX4_line_53 : decode cX4_line 53 = .ok (.iaload, 1) := by decide +kernel
theorem dX4_line_54 : decode cX4_line 54 = .ok (.iload_n 1, 1) := by decide +kernel
theorem dX4_line_55 : decode cX4_line 55 = .ok (.if_icmp .eq 6, 3) := by decide +kernel
theorem dX4_line_58 : decode cX4_line 58 = .ok (.ldc 115, 2) := by decide +kernel
theorem dX4_line_60 : decode cX4_line 60 = .ok (.ireturn, 1) := by decide +kernel
theorem dX4_line_61 : decode cX4_line 61 = .ok (.aload_n 0, 1) := by decide +kernel
theorem dX4_line_62 : decode cX4_line 62 = .ok (.iload_n 1, 1) := by decide +kernel
theorem dX4_line_63 : decode cX4_line 63 = .ok (.iload_n 2, 1) := by decide +kernel
theorem dX4_line_64 : decode cX4_line 64 = .ok (.invokevirtual 143, 3) := by decide +kernel
theorem dX4_line_67 : decode cX4_line 67 = .ok (.iconst 2, 1) := by decide +kernel
theorem dX4_line_68 : decode cX4_line 68 = .ok (.iadd, 1) := by decide +kernel
theorem dX4_line_69 : decode cX4_line 69 = .ok (.istore 4, 2) := by decide +kernel
theorem dX4_line_71 : decode cX4_line 71 = .ok (.iload_n 1, 1) := by decide +kernel
theorem dX4_line_72 : decode cX4_line 72 = .ok (.aload_n 0, 1) := by decide +kernel
theorem dX4_line_73 : decode cX4_line 73 = .ok (.getfield 67, 3) := by decide +kernel
theorem dX4_line_76 : decode cX4_line 76 = .ok (.iload_n 1, 1) := by decide +kernel
theorem dX4_line_77 : decode cX4_line 77 = .ok (.iaload, 1) := by decide +kernel
theorem dX4_line_78 : decode cX4_line 78 = .ok (.iadd, 1) := by decide +kernel
theorem dX4_line_79 : decode cX4_line 79 = .ok (.iconst 1, 1) := by decide +kernel
theorem dX4_line_80 : decode cX4_line 80 = .ok (.isub, 1) := by decide +kernel
theorem dX4_line_81 : decode cX4_line 81 = .ok (.istore 5, 2) := by decide +kernel
theorem dX4_line_83 : decode cX4_line 83 = .ok (.aload_n 0, 1) := by decide +kernel
theorem dX4_line_84 : decode cX4_line 84 = .ok (.getfield 85, 3) := by decide +kernel
theorem dX4_line_87 : decode cX4_line 87 = .ok (.iload 5, 2) := by decide +kernel
theorem dX4_line_89 : decode cX4_line 89 = .ok (.iaload, 1) := by decide +kernel
theorem dX4_line_90 : decode cX4_line 90 = .ok (.aload_n 0, 1) := by decide +kernel
theorem dX4_line_91 : decode cX4_line 91 = .ok (.getfield 52, 3) := by decide +kernel
theorem dX4_line_94 : decode cX4_line 94 = .ok (.iload 5, 2) := by decide +kernel
theorem dX4_line_96 : decode cX4_line 96 = .ok (.iaload, 1) := by decide +kernel
theorem dX4_line_97 : decode cX4_line 97 = .ok (.iadd, 1) := by decide +kernel
theorem dX4_line_98 : decode cX4_line 98 = .ok (.istore 6, 2) := by decide +kernel
theorem dX4_line_100 : decode cX4_line 100 = .ok (.aload_n 0, 1) := by decide +kernel
theorem dX4_line_101 : decode cX4_line 101 = .ok (.iload_n 1, 1) := by decide +kernel
theorem dX4_line_102 : decode cX4_line 102 = .ok (.iload_n 2, 1) := by decide +kernel
theorem dX4_line_103 : decode cX4_line 103 = .ok (.iconst 1, 1) := by decide +kernel
theorem dX4_line_104 : decode cX4_line 104 = .ok (.invokevirtual 139, 3) := by decide +kernel
theorem dX4_line_107 : decode cX4_line 107 = .ok (.istore 7, 2) := by decide +kernel
theorem dX4_line_109 : decode cX4_line 109 = .ok (.iload 7, 2) := by decide +kernel
theorem dX4_line_111 : decode cX4_line 111 = .ok (.ldc 115, 2) := by decide +kernel
theorem dX4_line_113 : decode cX4_line 113 = .ok (.if_icmp .eq 36, 3) := by decide +kernel
theorem dX4_line_116 : decode cX4_line 116 = .ok (.aload_n 0, 1) := by decide +kernel
theorem dX4_line_117 : decode cX4_line 117 = .ok (.getfield 88, 3) := by decide +kernel
theorem dX4_line_120 : decode cX4_line 120 = .ok (.iconst 4, 1) := by decide +kernel
theorem dX4_line_121 : decode cX4_line 121 = .ok (.iload 7, 2) := by decide +kernel
theorem dX4_line_123 : decode cX4_line 123 = .ok (.imul, 1) := by decide +kernel
theorem dX4_line_124 : decode cX4_line 124 = .ok (.iload_n 2, 1) := by decide +kernel
theorem dX4_line_125 : decode cX4_line 125 = .ok (.iadd, 1) := by decide +kernel
theorem dX4_line_126 : decode cX4_line 126 = .ok (.iaload, 1) := by decide +kernel
theorem dX4_line_127 : decode cX4_line 127 = .ok (.iconst 4, 1) := by decide +kernel
theorem dX4_line_128 : decode cX4_line 128 = .ok (.isub, 1) := by decide +kernel
theorem dX4_line_129 : decode cX4_line 129 = .ok (.iload 6, 2) := by decide +kernel
theorem dX4_line_131 : decode cX4_line 131 = .ok (.if_icmp .ge 18, 3) := by decide +kernel
theorem dX4_line_134 : decode cX4_line 134 = .ok (.aload_n 0, 1) := by decide +kernel
theorem dX4_line_135 : decode cX4_line 135 = .ok (.getfield 88, 3) := by decide +kernel
theorem dX4_line_138 : decode cX4_line 138 = .ok (.iconst 4, 1) := by decide +kernel
theorem dX4_line_139 : decode cX4_line 139 = .ok (.iload 7, 2) := by decide +kernel
theorem dX4_line_141 : decode cX4_line 141 = .ok (.imul, 1) := by decide +kernel
theorem dX4_line_142 : decode cX4_line 142 = .ok (.iload_n 2, 1) := by decide +kernel
theorem dX4_line_143 : decode cX4_line 143 = .ok (.iadd, 1) := by decide +kernel
theorem dX4_line_144 : decode cX4_line 144 = .ok (.iaload, 1) := by decide +kernel
theorem dX4_line_145 : decode cX4_line 145 = .ok (.iconst 4, 1) := by decide +kernel
theorem dX4_line_146 : decode cX4_line 146 = .ok (.isub, 1) := by decide +kernel
theorem dX4_line_147 : decode cX4_line 147 = .ok (.istore 6, 2) := by decide +kernel
theorem dX4_line_149 : decode cX4_line 149 = .ok (.iload 6, 2) := by decide +kernel
theorem dX4_line_151 : decode cX4_line 151 = .ok (.iload 4, 2) := by decide +kernel
theorem dX4_line_153 : decode cX4_line 153 = .ok (.isub, 1) := by decide +kernel
theorem dX4_line_154 : decode cX4_line 154 = .ok (.bipush 10, 2) := by decide +kernel
theorem dX4_line_156 : decode cX4_line 156 = .ok (.if_icmp .ge 8, 3) := by decide +kernel
theorem dX4_line_159 : decode cX4_line 159 = .ok (.ldc 115, 2) := by decide +kernel
theorem dX4_line_161 : decode cX4_line 161 = .ok (.goto 14, 3) := by decide +kernel
theorem dX4_line_164 : decode cX4_line 164 = .ok (.iload_n 3, 1) := by decide +kernel
theorem dX4_line_165 : decode cX4_line 165 = .ok (.ifCond .ne 8, 3) := by decide +kernel
theorem dX4_line_168 : decode cX4_line 168 = .ok (.iload 4, 2) := by decide +kernel
theorem dX4_line_170 : decode cX4_line 170 = .ok (.goto 5, 3) := by decide +kernel
theorem dX4_line_173 : decode cX4_line 173 = .ok (.iload 6, 2) := by decide +kernel
theorem dX4_line_175 : decode cX4_line 175 = .ok (.ireturn, 1) := by decide +kernel
theorem dX4_strain_0 : decode cX4_strain 0 = .ok (.aload_n 0, 1) := by decide +kernel
theorem dX4_strain_1 : decode cX4_strain 1 = .ok (.iconst 0, 1) := by decide +kernel
theorem dX4_strain_2 : decode cX4_strain 2 = .ok (.putfield 1, 3) := by decide +kernel
theorem dX4_strain_5 : decode cX4_strain 5 = .ok (.aload_n 0, 1) := by decide +kernel
theorem dX4_strain_6 : decode cX4_strain 6 = .ok (.getfield 19, 3) := by decide +kernel
theorem dX4_strain_9 : decode cX4_strain 9 = .ok (.ifCond .ne 6, 3) := by decide +kernel
theorem dX4_strain_12 : decode cX4_strain 12 = .ok (.ldc 127, 2) := by decide +kernel
theorem dX4_strain_14 : decode cX4_strain 14 = .ok (.ireturn, 1) := by decide +kernel
theorem dX4_strain_15 : decode cX4_strain 15 = .ok (.aload_n 0, 1) := by decide +kernel
theorem dX4_strain_16 : decode cX4_strain 16 = .ok (.getfield 7, 3) := by decide +kernel
theorem dX4_strain_19 : decode cX4_strain 19 = .ok (.ifCond .eq 17, 3) := by decide +kernel
theorem dX4_strain_22 : decode cX4_strain 22 = .ok (.aload_n 0, 1) := by decide +kernel
theorem dX4_strain_23 : decode cX4_strain 23 = .ok (.getfield 85, 3) := by decide +kernel
theorem dX4_strain_26 : decode cX4_strain 26 = .ok (.aload_n 0, 1) := by decide +kernel
theorem dX4_strain_27 : decode cX4_strain 27 = .ok (.getfield 7, 3) := by decide +kernel
theorem dX4_strain_30 : decode cX4_strain 30 = .ok (.iconst 1, 1) := by decide +kernel
theorem dX4_strain_31 : decode cX4_strain 31 = .ok (.isub, 1) := by decide +kernel
theorem dX4_strain_32 : decode cX4_strain 32 = .ok (.iaload, 1) := by decide +kernel
theorem dX4_strain_33 : decode cX4_strain 33 = .ok (.ifCond .ne 10, 3) := by decide +kernel
theorem dX4_strain_36 : decode cX4_strain 36 = .ok (.aload_n 0, 1) := by decide +kernel
theorem dX4_strain_37 : decode cX4_strain 37 = .ok (.iconst 1, 1) := by decide +kernel
theorem dX4_strain_38 : decode cX4_strain 38 = .ok (.putfield 1, 3) := by decide +kernel
theorem dX4_strain_41 : decode cX4_strain 41 = .ok (.iconst 0, 1) := by decide +kernel
theorem dX4_strain_42 : decode cX4_strain 42 = .ok (.ireturn, 1) := by decide +kernel
theorem dX4_strain_43 : decode cX4_strain 43 = .ok (.iconst 0, 1) := by decide +kernel
theorem dX4_strain_44 : decode cX4_strain 44 = .ok (.istore_n 1, 1) := by decide +kernel
theorem dX4_strain_45 : decode cX4_strain 45 = .ok (.iconst 0, 1) := by decide +kernel
theorem dX4_strain_46 : decode cX4_strain 46 = .ok (.istore_n 2, 1) := by decide +kernel
theorem dX4_strain_47 : decode cX4_strain 47 = .ok (.iload_n 2, 1) := by decide +kernel
theorem dX4_strain_48 : decode cX4_strain 48 = .ok (.aload_n 0, 1) := by decide +kernel
theorem dX4_strain_49 : decode cX4_strain 49 = .ok (.getfield 7, 3) := by decide +kernel
theorem dX4_strain_52 : decode cX4_strain 52 = .ok (.if_icmp .ge 24, 3) := by decide +kernel
theorem dX4_strain_55 : decode cX4_strain 55 = .ok (.iload_n 1, 1) := by decide +kernel
theorem dX4_strain_56 : decode cX4_strain 56 = .ok (.aload_n 0, 1) := by decide +kernel
theorem dX4_strain_57 : decode cX4_strain 57 = .ok (.getfield 85, 3) := by decide +kernel
theorem dX4_strain_60 : decode cX4_strain 60 = .ok (.iload_n 2, 1) := by decide +kernel
theorem dX4_strain_61 : decode cX4_strain 61 = .ok (.iaload, 1) := by decide +kernel
theorem dX4_strain_62 : decode cX4_strain 62 = .ok (.aload_n 0, 1) := by decide +kernel
theorem dX4_strain_63 : decode cX4_strain 63 = .ok (.iload_n 2, 1) := by decide +kernel
theorem dX4_strain_64 : decode cX4_strain 64 = .ok (.invokevirtual 149, 3) := by decide +kernel
theorem dX4_strain_67 : decode cX4_strain 67 = .ok (.isub, 1) := by decide +kernel
theorem dX4_strain_68 : decode cX4_strain 68 = .ok (.iadd, 1) := by decide +kernel
theorem dX4_strain_69 : decode cX4_strain 69 = .ok (.istore_n 1, 1) := by decide +kernel
theorem dX4_strain_70 : decode cX4_strain 70 = .ok (.iinc 2 1, 3) := by decide +kernel
theorem dX4_strain_73 : decode cX4_strain 73 = .ok (.goto (-26), 3) := by decide +kernel
theorem dX4_strain_76 : decode cX4_strain 76 = .ok (.ldc2_w 178, 3) := by decide +kernel
theorem dX4_strain_79 : decode cX4_strain 79 = .ok (.iload_n 1, 1) := by decide +kernel
theorem dX4_strain_80 : decode cX4_strain 80 = .ok (.i2l, 1) := by decide +kernel
theorem dX4_strain_81 : decode cX4_strain 81 = .ok (.lmul, 1) := by decide +kernel
theorem dX4_strain_82 : decode cX4_strain 82 = .ok (.aload_n 0, 1) := by decide +kernel
theorem dX4_strain_83 : decode cX4_strain 83 = .ok (.getfield 85, 3) := by decide +kernel
theorem dX4_strain_86 : decode cX4_strain 86 = .ok (.aload_n 0, 1) := by decide +kernel
theorem dX4_strain_87 : decode cX4_strain 87 = .ok (.getfield 7, 3) := by decide +kernel
theorem dX4_strain_90 : decode cX4_strain 90 = .ok (.iconst 1, 1) := by decide +kernel
theorem dX4_strain_91 : decode cX4_strain 91 = .ok (.isub, 1) := by decide +kernel
theorem dX4_strain_92 : decode cX4_strain 92 = .ok (.iaload, 1) := by decide +kernel
theorem dX4_strain_93 : decode cX4_strain 93 = .ok (.i2l, 1) := by decide +kernel
theorem dX4_strain_94 : decode cX4_strain 94 = .ok (.ldiv, 1) := by decide +kernel
theorem dX4_strain_95 : decode cX4_strain 95 = .ok (.l2i, 1) := by decide +kernel
theorem dX4_strain_96 : decode cX4_strain 96 = .ok (.ireturn, 1) := by decide +kernel
theorem dX4_hasBoxes_0 : decode cX4_hasBoxes 0 = .ok (.iconst 0, 1) := by decide +kernel
theorem dX4_hasBoxes_1 : decode cX4_hasBoxes 1 = .ok (.istore_n 2, 1) := by decide +kernel
theorem dX4_hasBoxes_2 : decode cX4_hasBoxes 2 = .ok (.iconst 0, 1) := by decide +kernel
theorem dX4_hasBoxes_3 : decode cX4_hasBoxes 3 = .ok (.istore_n 3, 1) := by decide +kernel
theorem dX4_hasBoxes_4 : decode cX4_hasBoxes 4 = .ok (.iload_n 3, 1) := by decide +kernel
theorem dX4_hasBoxes_5 : decode cX4_hasBoxes 5 = .ok (.aload_n 0, 1) := by decide +kernel
theorem dX4_hasBoxes_6 : decode cX4_hasBoxes 6 = .ok (.getfield 7, 3) := by decide +kernel
theorem dX4_hasBoxes_9 : decode cX4_hasBoxes 9 = .ok (.if_icmp .ge 28, 3) := by decide +kernel
theorem dX4_hasBoxes_12 : decode cX4_hasBoxes 12 = .ok (.iload_n 2, 1) := by decide +kernel
theorem dX4_hasBoxes_13 : decode cX4_hasBoxes 13 = .ok (.ifCond .ne 12, 3) := by decide +kernel
theorem dX4_hasBoxes_16 : decode cX4_hasBoxes 16 = .ok (.aload_n 0, 1) := by decide +kernel
theorem dX4_hasBoxes_17 : decode cX4_hasBoxes 17 = .ok (.iload_n 3, 1) := by decide +kernel
theorem dX4_hasBoxes_18 : decode cX4_hasBoxes 18 = .ok (.iload_n 1, 1) := by decide +kernel
theorem dX4_hasBoxes_19 : decode cX4_hasBoxes 19 = .ok (.invokevirtual 135, 3) := by decide +kernel
theorem dX4_hasBoxes_22 : decode cX4_hasBoxes 22 = .ok (.ifCond .eq 7, 3) := by decide +kernel
theorem dX4_hasBoxes_25 : decode cX4_hasBoxes 25 = .ok (.iconst 1, 1) := by decide +kernel
theorem dX4_hasBoxes_26 : decode cX4_hasBoxes 26 = .ok (.goto 4, 3) := by decide +kernel
theorem dX4_hasBoxes_29 : decode cX4_hasBoxes 29 = .ok (.iconst 0, 1) := by decide +kernel
theorem dX4_hasBoxes_30 : decode cX4_hasBoxes 30 = .ok (.istore_n 2, 1) := by decide +kernel
theorem dX4_hasBoxes_31 : decode cX4_hasBoxes 31 = .ok (.iinc 3 1, 3) := by decide +kernel
theorem dX4_hasBoxes_34 : decode cX4_hasBoxes 34 = .ok (.goto (-30), 3) := by decide +kernel
theorem dX4_hasBoxes_37 : decode cX4_hasBoxes 37 = .ok (.iload_n 2, 1) := by decide +kernel
theorem dX4_hasBoxes_38 : decode cX4_hasBoxes 38 = .ok (.ireturn, 1) := by decide +kernel
theorem dX4_faultAt_0 : decode cX4_faultAt 0 = .ok (.aload_n 0, 1) := by decide +kernel
theorem dX4_faultAt_1 : decode cX4_faultAt 1 = .ok (.iload_n 2, 1) := by decide +kernel
theorem dX4_faultAt_2 : decode cX4_faultAt 2 = .ok (.iload_n 1, 1) := by decide +kernel
theorem dX4_faultAt_3 : decode cX4_faultAt 3 = .ok (.invokevirtual 135, 3) := by decide +kernel
theorem dX4_faultAt_6 : decode cX4_faultAt 6 = .ok (.ifCond .eq 30, 3) := by decide +kernel
theorem dX4_faultAt_9 : decode cX4_faultAt 9 = .ok (.aload_n 0, 1) := by decide +kernel
theorem dX4_faultAt_10 : decode cX4_faultAt 10 = .ok (.iload_n 2, 1) := by decide +kernel
theorem dX4_faultAt_11 : decode cX4_faultAt 11 = .ok (.iload_n 1, 1) := by decide +kernel
theorem dX4_faultAt_12 : decode cX4_faultAt 12 = .ok (.invokevirtual 146, 3) := by decide +kernel
theorem dX4_faultAt_15 : decode cX4_faultAt 15 = .ok (.ifCond .eq 19, 3) := by decide +kernel
theorem dX4_faultAt_18 : decode cX4_faultAt 18 = .ok (.aload_n 0, 1) := by decide +kernel
theorem dX4_faultAt_19 : decode cX4_faultAt 19 = .ok (.iload_n 2, 1) := by decide +kernel
theorem dX4_faultAt_20 : decode cX4_faultAt 20 = .ok (.iload_n 1, 1) := by decide +kernel
theorem dX4_faultAt_21 : decode cX4_faultAt 21 = .ok (.iconst 1, 1) := by decide +kernel
theorem dX4_faultAt_22 : decode cX4_faultAt 22 = .ok (.invokevirtual 139, 3) := by decide +kernel
theorem dX4_faultAt_25 : decode cX4_faultAt 25 = .ok (.ldc 115, 2) := by decide +kernel
theorem dX4_faultAt_27 : decode cX4_faultAt 27 = .ok (.if_icmp .ne 7, 3) := by decide +kernel
theorem dX4_faultAt_30 : decode cX4_faultAt 30 = .ok (.iconst 2, 1) := by decide +kernel
theorem dX4_faultAt_31 : decode cX4_faultAt 31 = .ok (.goto 4, 3) := by decide +kernel
theorem dX4_faultAt_34 : decode cX4_faultAt 34 = .ok (.iconst 0, 1) := by decide +kernel
theorem dX4_faultAt_35 : decode cX4_faultAt 35 = .ok (.ireturn, 1) := by decide +kernel
theorem dX4_faultAt_36 : decode cX4_faultAt 36 = .ok (.aload_n 0, 1) := by decide +kernel
theorem dX4_faultAt_37 : decode cX4_faultAt 37 = .ok (.getfield 58, 3) := by decide +kernel
theorem dX4_faultAt_40 : decode cX4_faultAt 40 = .ok (.iload_n 2, 1) := by decide +kernel
theorem dX4_faultAt_41 : decode cX4_faultAt 41 = .ok (.baload, 1) := by decide +kernel
theorem dX4_faultAt_42 : decode cX4_faultAt 42 = .ok (.ifCond .ne 35, 3) := by decide +kernel
theorem dX4_faultAt_45 : decode cX4_faultAt 45 = .ok (.aload_n 0, 1) := by decide +kernel
theorem dX4_faultAt_46 : decode cX4_faultAt 46 = .ok (.iload_n 2, 1) := by decide +kernel
theorem dX4_faultAt_47 : decode cX4_faultAt 47 = .ok (.invokevirtual 124, 3) := by decide +kernel
theorem dX4_faultAt_50 : decode cX4_faultAt 50 = .ok (.ifCond .ne 27, 3) := by decide +kernel
theorem dX4_faultAt_53 : decode cX4_faultAt 53 = .ok (.iload_n 1, 1) := by decide +kernel
theorem dX4_faultAt_54 : decode cX4_faultAt 54 = .ok (.ifCond .le 14, 3) := by decide +kernel
theorem dX4_faultAt_57 : decode cX4_faultAt 57 = .ok (.aload_n 0, 1) := by decide +kernel
theorem dX4_faultAt_58 : decode cX4_faultAt 58 = .ok (.getfield 70, 3) := by decide +kernel
theorem dX4_faultAt_61 : decode cX4_faultAt 61 = .ok (.iload_n 2, 1) := by decide +kernel
theorem dX4_faultAt_62 : decode cX4_faultAt 62 = .ok (.iaload, 1) := by decide +kernel
theorem dX4_faultAt_63 : decode cX4_faultAt 63 = .ok (.ldc 115, 2) := by decide +kernel
theorem dX4_faultAt_65 : decode cX4_faultAt 65 = .ok (.if_icmp .ne 12, 3) := by decide +kernel
theorem dX4_faultAt_68 : decode cX4_faultAt 68 = .ok (.aload_n 0, 1) := by decide +kernel
theorem dX4_faultAt_69 : decode cX4_faultAt 69 = .ok (.getfield 42, 3) := by decide +kernel
theorem dX4_faultAt_72 : decode cX4_faultAt 72 = .ok (.iload_n 1, 1) := by decide +kernel
theorem dX4_faultAt_73 : decode cX4_faultAt 73 = .ok (.baload, 1) := by decide +kernel
theorem dX4_faultAt_74 : decode cX4_faultAt 74 = .ok (.ifCond .eq 7, 3) := by decide +kernel
theorem dX4_faultAt_77 : decode cX4_faultAt 77 = .ok (.iconst 1, 1) := by decide +kernel
theorem dX4_faultAt_78 : decode cX4_faultAt 78 = .ok (.goto 4, 3) := by decide +kernel
theorem dX4_faultAt_81 : decode cX4_faultAt 81 = .ok (.iconst 0, 1) := by decide +kernel
theorem dX4_faultAt_82 : decode cX4_faultAt 82 = .ok (.istore_n 3, 1) := by decide +kernel
theorem dX4_faultAt_83 : decode cX4_faultAt 83 = .ok (.iload_n 3, 1) := by decide +kernel
theorem dX4_faultAt_84 : decode cX4_faultAt 84 = .ok (.ifCond .ne 11, 3) := by decide +kernel
theorem dX4_faultAt_87 : decode cX4_faultAt 87 = .ok (.aload_n 0, 1) := by decide +kernel
theorem dX4_faultAt_88 : decode cX4_faultAt 88 = .ok (.iload_n 1, 1) := by decide +kernel
theorem dX4_faultAt_89 : decode cX4_faultAt 89 = .ok (.invokevirtual 180, 3) := by decide +kernel
theorem dX4_faultAt_92 : decode cX4_faultAt 92 = .ok (.ifCond .ne 7, 3) := by decide +kernel
theorem dX4_faultAt_95 : decode cX4_faultAt 95 = .ok (.iconst 0, 1) := by decide +kernel
theorem dX4_faultAt_96 : decode cX4_faultAt 96 = .ok (.goto 4, 3) := by decide +kernel
theorem dX4_faultAt_99 : decode cX4_faultAt 99 = .ok (.iconst 1, 1) := by decide +kernel
theorem dX4_faultAt_100 : decode cX4_faultAt 100 = .ok (.ireturn, 1) := by decide +kernel
theorem dX4_faults_0 : decode cX4_faults 0 = .ok (.aload_n 0, 1) := by decide +kernel
theorem dX4_faults_1 : decode cX4_faults 1 = .ok (.iconst 0, 1) := by decide +kernel
theorem dX4_faults_2 : decode cX4_faults 2 = .ok (.putfield 1, 3) := by decide +kernel
theorem dX4_faults_5 : decode cX4_faults 5 = .ok (.iconst 0, 1) := by decide +kernel
theorem dX4_faults_6 : decode cX4_faults 6 = .ok (.istore_n 1, 1) := by decide +kernel
theorem dX4_faults_7 : decode cX4_faults 7 = .ok (.iconst 0, 1) := by decide +kernel
theorem dX4_faults_8 : decode cX4_faults 8 = .ok (.istore_n 2, 1) := by decide +kernel
theorem dX4_faults_9 : decode cX4_faults 9 = .ok (.iload_n 2, 1) := by decide +kernel
theorem dX4_faults_10 : decode cX4_faults 10 = .ok (.iconst 4, 1) := by decide +kernel
theorem dX4_faults_11 : decode cX4_faults 11 = .ok (.if_icmp .ge 42, 3) := by decide +kernel
theorem dX4_faults_14 : decode cX4_faults 14 = .ok (.iconst 0, 1) := by decide +kernel
theorem dX4_faults_15 : decode cX4_faults 15 = .ok (.istore_n 3, 1) := by decide +kernel
theorem dX4_faults_16 : decode cX4_faults 16 = .ok (.iload_n 3, 1) := by decide +kernel
theorem dX4_faults_17 : decode cX4_faults 17 = .ok (.aload_n 0, 1) := by decide +kernel
theorem dX4_faults_18 : decode cX4_faults 18 = .ok (.getfield 7, 3) := by decide +kernel
theorem dX4_faults_21 : decode cX4_faults 21 = .ok (.if_icmp .ge 26, 3) := by decide +kernel
theorem dX4_faults_24 : decode cX4_faults 24 = .ok (.iload_n 1, 1) := by decide +kernel
theorem dX4_faults_25 : decode cX4_faults 25 = .ok (.aload_n 0, 1) := by decide +kernel
theorem dX4_faults_26 : decode cX4_faults 26 = .ok (.iload_n 2, 1) := by decide +kernel
theorem dX4_faults_27 : decode cX4_faults 27 = .ok (.iload_n 3, 1) := by decide +kernel
theorem dX4_faults_28 : decode cX4_faults 28 = .ok (.invokevirtual 183, 3) := by decide +kernel
theorem dX4_faults_31 : decode cX4_faults 31 = .ok (.ifCond .le 7, 3) := by decide +kernel
theorem dX4_faults_34 : decode cX4_faults 34 = .ok (.iconst 1, 1) := by decide +kernel
theorem dX4_faults_35 : decode cX4_faults 35 = .ok (.goto 4, 3) := by decide +kernel
theorem dX4_faults_38 : decode cX4_faults 38 = .ok (.iconst 0, 1) := by decide +kernel
theorem dX4_faults_39 : decode cX4_faults 39 = .ok (.iadd, 1) := by decide +kernel
theorem dX4_faults_40 : decode cX4_faults 40 = .ok (.istore_n 1, 1) := by decide +kernel
theorem dX4_faults_41 : decode cX4_faults 41 = .ok (.iinc 3 1, 3) := by decide +kernel
theorem dX4_faults_44 : decode cX4_faults 44 = .ok (.goto (-28), 3) := by decide +kernel
theorem dX4_faults_47 : decode cX4_faults 47 = .ok (.iinc 2 1, 3) := by decide +kernel
theorem dX4_faults_50 : decode cX4_faults 50 = .ok (.goto (-41), 3) := by decide +kernel
theorem dX4_faults_53 : decode cX4_faults 53 = .ok (.iload_n 1, 1) := by decide +kernel
theorem dX4_faults_54 : decode cX4_faults 54 = .ok (.ireturn, 1) := by decide +kernel
theorem dX4_fault_0 : decode cX4_fault 0 = .ok (.aload_n 0, 1) := by decide +kernel
theorem dX4_fault_1 : decode cX4_fault 1 = .ok (.iconst 0, 1) := by decide +kernel
theorem dX4_fault_2 : decode cX4_fault 2 = .ok (.putfield 1, 3) := by decide +kernel
theorem dX4_fault_5 : decode cX4_fault 5 = .ok (.iload_n 1, 1) := by decide +kernel
theorem dX4_fault_6 : decode cX4_fault 6 = .ok (.ifCond .lt 11, 3) := by decide +kernel
theorem dX4_fault_9 : decode cX4_fault 9 = .ok (.iload_n 1, 1) := by decide +kernel
theorem dX4_fault_10 : decode cX4_fault 10 = .ok (.aload_n 0, 1) := by decide +kernel
theorem dX4_fault_11 : decode cX4_fault 11 = .ok (.invokevirtual 186, 3) := by decide +kernel
theorem dX4_fault_14 : decode cX4_fault 14 = .ok (.if_icmp .lt 6, 3) := by decide +kernel
theorem dX4_fault_17 : decode cX4_fault 17 = .ok (.ldc 123, 2) := by decide +kernel
theorem dX4_fault_19 : decode cX4_fault 19 = .ok (.ireturn, 1) := by decide +kernel
theorem dX4_fault_20 : decode cX4_fault 20 = .ok (.iload_n 2, 1) := by decide +kernel
theorem dX4_fault_21 : decode cX4_fault 21 = .ok (.iconst 0, 1) := by decide +kernel
theorem dX4_fault_22 : decode cX4_fault 22 = .ok (.iconst 2, 1) := by decide +kernel
theorem dX4_fault_23 : decode cX4_fault 23 = .ok (.invokestatic 109, 3) := by decide +kernel
theorem dX4_fault_26 : decode cX4_fault 26 = .ok (.ifCond .ne 6, 3) := by decide +kernel
theorem dX4_fault_29 : decode cX4_fault 29 = .ok (.ldc 113, 2) := by decide +kernel
theorem dX4_fault_31 : decode cX4_fault 31 = .ok (.ireturn, 1) := by decide +kernel
theorem dX4_fault_32 : decode cX4_fault 32 = .ok (.iload_n 1, 1) := by decide +kernel
theorem dX4_fault_33 : decode cX4_fault 33 = .ok (.istore_n 3, 1) := by decide +kernel
theorem dX4_fault_34 : decode cX4_fault 34 = .ok (.iconst 0, 1) := by decide +kernel
theorem dX4_fault_35 : decode cX4_fault 35 = .ok (.istore 4, 2) := by decide +kernel
theorem dX4_fault_37 : decode cX4_fault 37 = .ok (.aload_n 0, 1) := by decide +kernel
theorem dX4_fault_38 : decode cX4_fault 38 = .ok (.iload 4, 2) := by decide +kernel
theorem dX4_fault_40 : decode cX4_fault 40 = .ok (.aload_n 0, 1) := by decide +kernel
theorem dX4_fault_41 : decode cX4_fault 41 = .ok (.getfield 7, 3) := by decide +kernel
theorem dX4_fault_44 : decode cX4_fault 44 = .ok (.idiv, 1) := by decide +kernel
theorem dX4_fault_45 : decode cX4_fault 45 = .ok (.iload 4, 2) := by decide +kernel
theorem dX4_fault_47 : decode cX4_fault 47 = .ok (.aload_n 0, 1) := by decide +kernel
theorem dX4_fault_48 : decode cX4_fault 48 = .ok (.getfield 7, 3) := by decide +kernel
theorem dX4_fault_51 : decode cX4_fault 51 = .ok (.irem, 1) := by decide +kernel
theorem dX4_fault_52 : decode cX4_fault 52 = .ok (.invokevirtual 183, 3) := by decide +kernel
theorem dX4_fault_55 : decode cX4_fault 55 = .ok (.ifCond .eq 7, 3) := by decide +kernel
theorem dX4_fault_58 : decode cX4_fault 58 = .ok (.iload_n 3, 1) := by decide +kernel
theorem dX4_fault_59 : decode cX4_fault 59 = .ok (.ifCond .le 38, 3) := by decide +kernel
theorem dX4_fault_62 : decode cX4_fault 62 = .ok (.iload_n 3, 1) := by decide +kernel
theorem dX4_fault_63 : decode cX4_fault 63 = .ok (.aload_n 0, 1) := by decide +kernel
theorem dX4_fault_64 : decode cX4_fault 64 = .ok (.iload 4, 2) := by decide +kernel
theorem dX4_fault_66 : decode cX4_fault 66 = .ok (.aload_n 0, 1) := by decide +kernel
theorem dX4_fault_67 : decode cX4_fault 67 = .ok (.getfield 7, 3) := by decide +kernel
theorem dX4_fault_70 : decode cX4_fault 70 = .ok (.idiv, 1) := by decide +kernel
theorem dX4_fault_71 : decode cX4_fault 71 = .ok (.iload 4, 2) := by decide +kernel
theorem dX4_fault_73 : decode cX4_fault 73 = .ok (.aload_n 0, 1) := by decide +kernel
theorem dX4_fault_74 : decode cX4_fault 74 = .ok (.getfield 7, 3) := by decide +kernel
theorem dX4_fault_77 : decode cX4_fault 77 = .ok (.irem, 1) := by decide +kernel
theorem dX4_fault_78 : decode cX4_fault 78 = .ok (.invokevirtual 183, 3) := by decide +kernel
theorem dX4_fault_81 : decode cX4_fault 81 = .ok (.ifCond .le 7, 3) := by decide +kernel
theorem dX4_fault_84 : decode cX4_fault 84 = .ok (.iconst 1, 1) := by decide +kernel
theorem dX4_fault_85 : decode cX4_fault 85 = .ok (.goto 4, 3) := by decide +kernel
theorem dX4_fault_88 : decode cX4_fault 88 = .ok (.iconst 0, 1) := by decide +kernel
theorem dX4_fault_89 : decode cX4_fault 89 = .ok (.isub, 1) := by decide +kernel
theorem dX4_fault_90 : decode cX4_fault 90 = .ok (.istore_n 3, 1) := by decide +kernel
theorem dX4_fault_91 : decode cX4_fault 91 = .ok (.iinc 4 1, 3) := by decide +kernel
theorem dX4_fault_94 : decode cX4_fault 94 = .ok (.goto (-57), 3) := by decide +kernel
theorem dX4_fault_97 : decode cX4_fault 97 = .ok (.iload_n 2, 1) := by decide +kernel
theorem dX4_fault_98 : decode cX4_fault 98 = .ok (.ifCond .ne 24, 3) := by decide +kernel
theorem dX4_fault_101 : decode cX4_fault 101 = .ok (.aload_n 0, 1) := by decide +kernel
theorem dX4_fault_102 : decode cX4_fault 102 = .ok (.iload 4, 2) := by decide +kernel
theorem dX4_fault_104 : decode cX4_fault 104 = .ok (.aload_n 0, 1) := by decide +kernel
theorem dX4_fault_105 : decode cX4_fault 105 = .ok (.getfield 7, 3) := by decide +kernel
theorem dX4_fault_108 : decode cX4_fault 108 = .ok (.idiv, 1) := by decide +kernel
theorem dX4_fault_109 : decode cX4_fault 109 = .ok (.iload 4, 2) := by decide +kernel
theorem dX4_fault_111 : decode cX4_fault 111 = .ok (.aload_n 0, 1) := by decide +kernel
theorem dX4_fault_112 : decode cX4_fault 112 = .ok (.getfield 7, 3) := by decide +kernel
theorem dX4_fault_115 : decode cX4_fault 115 = .ok (.irem, 1) := by decide +kernel
theorem dX4_fault_116 : decode cX4_fault 116 = .ok (.invokevirtual 183, 3) := by decide +kernel
theorem dX4_fault_119 : decode cX4_fault 119 = .ok (.goto 25, 3) := by decide +kernel
theorem dX4_fault_122 : decode cX4_fault 122 = .ok (.iload_n 2, 1) := by decide +kernel
theorem dX4_fault_123 : decode cX4_fault 123 = .ok (.iconst 1, 1) := by decide +kernel
theorem dX4_fault_124 : decode cX4_fault 124 = .ok (.if_icmp .ne 13, 3) := by decide +kernel
theorem dX4_fault_127 : decode cX4_fault 127 = .ok (.iload 4, 2) := by decide +kernel
theorem dX4_fault_129 : decode cX4_fault 129 = .ok (.aload_n 0, 1) := by decide +kernel
theorem dX4_fault_130 : decode cX4_fault 130 = .ok (.getfield 7, 3) := by decide +kernel
theorem dX4_fault_133 : decode cX4_fault 133 = .ok (.idiv, 1) := by decide +kernel
theorem dX4_fault_134 : decode cX4_fault 134 = .ok (.goto 10, 3) := by decide +kernel
theorem dX4_fault_137 : decode cX4_fault 137 = .ok (.iload 4, 2) := by decide +kernel
theorem dX4_fault_139 : decode cX4_fault 139 = .ok (.aload_n 0, 1) := by decide +kernel
theorem dX4_fault_140 : decode cX4_fault 140 = .ok (.getfield 7, 3) := by decide +kernel
theorem dX4_fault_143 : decode cX4_fault 143 = .ok (.irem, 1) := by decide +kernel
theorem dX4_fault_144 : decode cX4_fault 144 = .ok (.ireturn, 1) := by decide +kernel
theorem dX4_areAlikeAt_0 : decode cX4_areAlikeAt 0 = .ok (.aload_n 0, 1) := by decide +kernel
theorem dX4_areAlikeAt_1 : decode cX4_areAlikeAt 1 = .ok (.getfield 73, 3) := by decide +kernel
theorem dX4_areAlikeAt_4 : decode cX4_areAlikeAt 4 = .ok (.iconst 4, 1) := by decide +kernel
theorem dX4_areAlikeAt_5 : decode cX4_areAlikeAt 5 = .ok (.iload_n 1, 1) := by decide +kernel
theorem dX4_areAlikeAt_6 : decode cX4_areAlikeAt 6 = .ok (.imul, 1) := by decide +kernel
theorem dX4_areAlikeAt_7 : decode cX4_areAlikeAt 7 = .ok (.iload_n 2, 1) := by decide +kernel
theorem dX4_areAlikeAt_8 : decode cX4_areAlikeAt 8 = .ok (.iadd, 1) := by decide +kernel
theorem dX4_areAlikeAt_9 : decode cX4_areAlikeAt 9 = .ok (.iaload, 1) := by decide +kernel
theorem dX4_areAlikeAt_10 : decode cX4_areAlikeAt 10 = .ok (.aload_n 0, 1) := by decide +kernel
theorem dX4_areAlikeAt_11 : decode cX4_areAlikeAt 11 = .ok (.getfield 73, 3) := by decide +kernel
theorem dX4_areAlikeAt_14 : decode cX4_areAlikeAt 14 = .ok (.iconst 4, 1) := by decide +kernel
theorem dX4_areAlikeAt_15 : decode cX4_areAlikeAt 15 = .ok (.iload_n 1, 1) := by decide +kernel
theorem dX4_areAlikeAt_16 : decode cX4_areAlikeAt 16 = .ok (.imul, 1) := by decide +kernel
theorem dX4_areAlikeAt_17 : decode cX4_areAlikeAt 17 = .ok (.iload_n 3, 1) := by decide +kernel
theorem dX4_areAlikeAt_18 : decode cX4_areAlikeAt 18 = .ok (.iadd, 1) := by decide +kernel
theorem dX4_areAlikeAt_19 : decode cX4_areAlikeAt 19 = .ok (.iaload, 1) := by decide +kernel
theorem dX4_areAlikeAt_20 : decode cX4_areAlikeAt 20 = .ok (.if_icmp .ne 7, 3) := by decide +kernel
theorem dX4_areAlikeAt_23 : decode cX4_areAlikeAt 23 = .ok (.iconst 1, 1) := by decide +kernel
theorem dX4_areAlikeAt_24 : decode cX4_areAlikeAt 24 = .ok (.goto 4, 3) := by decide +kernel
theorem dX4_areAlikeAt_27 : decode cX4_areAlikeAt 27 = .ok (.iconst 0, 1) := by decide +kernel
theorem dX4_areAlikeAt_28 : decode cX4_areAlikeAt 28 = .ok (.istore 4, 2) := by decide +kernel
theorem dX4_areAlikeAt_30 : decode cX4_areAlikeAt 30 = .ok (.iconst 0, 1) := by decide +kernel
theorem dX4_areAlikeAt_31 : decode cX4_areAlikeAt 31 = .ok (.istore 5, 2) := by decide +kernel
theorem dX4_areAlikeAt_33 : decode cX4_areAlikeAt 33 = .ok (.iload 4, 2) := by decide +kernel
theorem dX4_areAlikeAt_35 : decode cX4_areAlikeAt 35 = .ok (.ifCond .eq 108, 3) := by decide +kernel
theorem dX4_areAlikeAt_38 : decode cX4_areAlikeAt 38 = .ok (.iload 5, 2) := by decide +kernel
theorem dX4_areAlikeAt_40 : decode cX4_areAlikeAt 40 = .ok (.aload_n 0, 1) := by decide +kernel
theorem dX4_areAlikeAt_41 : decode cX4_areAlikeAt 41 = .ok (.getfield 73, 3) := by decide +kernel
theorem dX4_areAlikeAt_44 : decode cX4_areAlikeAt 44 = .ok (.iconst 4, 1) := by decide +kernel
theorem dX4_areAlikeAt_45 : decode cX4_areAlikeAt 45 = .ok (.iload_n 1, 1) := by decide +kernel
theorem dX4_areAlikeAt_46 : decode cX4_areAlikeAt 46 = .ok (.imul, 1) := by decide +kernel
theorem dX4_areAlikeAt_47 : decode cX4_areAlikeAt 47 = .ok (.iload_n 2, 1) := by decide +kernel
theorem dX4_areAlikeAt_48 : decode cX4_areAlikeAt 48 = .ok (.iadd, 1) := by decide +kernel
theorem dX4_areAlikeAt_49 : decode cX4_areAlikeAt 49 = .ok (.iaload, 1) := by decide +kernel
theorem dX4_areAlikeAt_50 : decode cX4_areAlikeAt 50 = .ok (.if_icmp .ge 93, 3) := by decide +kernel
theorem dX4_areAlikeAt_53 : decode cX4_areAlikeAt 53 = .ok (.bipush 8, 2) := by decide +kernel
theorem dX4_areAlikeAt_55 : decode cX4_areAlikeAt 55 = .ok (.iload_n 1, 1) := by decide +kernel
theorem dX4_areAlikeAt_56 : decode cX4_areAlikeAt 56 = .ok (.imul, 1) := by decide +kernel
theorem dX4_areAlikeAt_57 : decode cX4_areAlikeAt 57 = .ok (.iconst 2, 1) := by decide +kernel
theorem dX4_areAlikeAt_58 : decode cX4_areAlikeAt 58 = .ok (.iload_n 2, 1) := by decide +kernel
theorem dX4_areAlikeAt_59 : decode cX4_areAlikeAt 59 = .ok (.imul, 1) := by decide +kernel
theorem dX4_areAlikeAt_60 : decode cX4_areAlikeAt 60 = .ok (.iadd, 1) := by decide +kernel
theorem dX4_areAlikeAt_61 : decode cX4_areAlikeAt 61 = .ok (.iload 5, 2) := by decide +kernel
theorem dX4_areAlikeAt_63 : decode cX4_areAlikeAt 63 = .ok (.iadd, 1) := by decide +kernel
theorem dX4_areAlikeAt_64 : decode cX4_areAlikeAt 64 = .ok (.istore 6, 2) := by decide +kernel
theorem dX4_areAlikeAt_66 : decode cX4_areAlikeAt 66 = .ok (.bipush 8, 2) := by decide +kernel
theorem dX4_areAlikeAt_68 : decode cX4_areAlikeAt 68 = .ok (.iload_n 1, 1) := by decide +kernel
theorem dX4_areAlikeAt_69 : decode cX4_areAlikeAt 69 = .ok (.imul, 1) := by decide +kernel
theorem dX4_areAlikeAt_70 : decode cX4_areAlikeAt 70 = .ok (.iconst 2, 1) := by decide +kernel
theorem dX4_areAlikeAt_71 : decode cX4_areAlikeAt 71 = .ok (.iload_n 3, 1) := by decide +kernel
theorem dX4_areAlikeAt_72 : decode cX4_areAlikeAt 72 = .ok (.imul, 1) := by decide +kernel
theorem dX4_areAlikeAt_73 : decode cX4_areAlikeAt 73 = .ok (.iadd, 1) := by decide +kernel
theorem dX4_areAlikeAt_74 : decode cX4_areAlikeAt 74 = .ok (.iload 5, 2) := by decide +kernel
theorem dX4_areAlikeAt_76 : decode cX4_areAlikeAt 76 = .ok (.iadd, 1) := by decide +kernel
theorem dX4_areAlikeAt_77 : decode cX4_areAlikeAt 77 = .ok (.istore 7, 2) := by decide +kernel
theorem dX4_areAlikeAt_79 : decode cX4_areAlikeAt 79 = .ok (.aload_n 0, 1) := by decide +kernel
theorem dX4_areAlikeAt_80 : decode cX4_areAlikeAt 80 = .ok (.getfield 76, 3) := by decide +kernel
theorem dX4_areAlikeAt_83 : decode cX4_areAlikeAt 83 = .ok (.iload 6, 2) := by decide +kernel
theorem dX4_areAlikeAt_85 : decode cX4_areAlikeAt 85 = .ok (.iaload, 1) := by decide +kernel
theorem dX4_areAlikeAt_86 : decode cX4_areAlikeAt 86 = .ok (.aload_n 0, 1) := by decide +kernel
theorem dX4_areAlikeAt_87 : decode cX4_areAlikeAt 87 = .ok (.getfield 76, 3) := by decide +kernel
theorem dX4_areAlikeAt_90 : decode cX4_areAlikeAt 90 = .ok (.iload 7, 2) := by decide +kernel
theorem dX4_areAlikeAt_92 : decode cX4_areAlikeAt 92 = .ok (.iaload, 1) := by decide +kernel
theorem dX4_areAlikeAt_93 : decode cX4_areAlikeAt 93 = .ok (.if_icmp .ne 41, 3) := by decide +kernel
theorem dX4_areAlikeAt_96 : decode cX4_areAlikeAt 96 = .ok (.aload_n 0, 1) := by decide +kernel
theorem dX4_areAlikeAt_97 : decode cX4_areAlikeAt 97 = .ok (.getfield 79, 3) := by decide +kernel
theorem dX4_areAlikeAt_100 : decode cX4_areAlikeAt 100 = .ok (.iload 6, 2) := by decide +kernel
theorem dX4_areAlikeAt_102 : decode cX4_areAlikeAt 102 = .ok (.iaload, 1) := by decide +kernel
theorem dX4_areAlikeAt_103 : decode cX4_areAlikeAt 103 = .ok (.aload_n 0, 1) := by decide +kernel
theorem dX4_areAlikeAt_104 : decode cX4_areAlikeAt 104 = .ok (.getfield 79, 3) := by decide +kernel
theorem dX4_areAlikeAt_107 : decode cX4_areAlikeAt 107 = .ok (.iload 7, 2) := by decide +kernel
theorem dX4_areAlikeAt_109 : decode cX4_areAlikeAt 109 = .ok (.iaload, 1) := by decide +kernel
theorem dX4_areAlikeAt_110 : decode cX4_areAlikeAt 110 = .ok (.if_icmp .ne 24, 3) := by decide +kernel
theorem dX4_areAlikeAt_113 : decode cX4_areAlikeAt 113 = .ok (.aload_n 0, 1) := by decide +kernel
theorem dX4_areAlikeAt_114 : decode cX4_areAlikeAt 114 = .ok (.getfield 82, 3) := by decide +kernel
theorem dX4_areAlikeAt_117 : decode cX4_areAlikeAt 117 = .ok (.iload 6, 2) := by decide +kernel
theorem dX4_areAlikeAt_119 : decode cX4_areAlikeAt 119 = .ok (.baload, 1) := by decide +kernel
theorem dX4_areAlikeAt_120 : decode cX4_areAlikeAt 120 = .ok (.aload_n 0, 1) := by decide +kernel
theorem dX4_areAlikeAt_121 : decode cX4_areAlikeAt 121 = .ok (.getfield 82, 3) := by decide +kernel
theorem dX4_areAlikeAt_124 : decode cX4_areAlikeAt 124 = .ok (.iload 7, 2) := by decide +kernel
theorem dX4_areAlikeAt_126 : decode cX4_areAlikeAt 126 = .ok (.baload, 1) := by decide +kernel
theorem dX4_areAlikeAt_127 : decode cX4_areAlikeAt 127 = .ok (.if_icmp .ne 7, 3) := by decide +kernel
theorem dX4_areAlikeAt_130 : decode cX4_areAlikeAt 130 = .ok (.iconst 1, 1) := by decide +kernel
theorem dX4_areAlikeAt_131 : decode cX4_areAlikeAt 131 = .ok (.goto 4, 3) := by decide +kernel
theorem dX4_areAlikeAt_134 : decode cX4_areAlikeAt 134 = .ok (.iconst 0, 1) := by decide +kernel
theorem dX4_areAlikeAt_135 : decode cX4_areAlikeAt 135 = .ok (.istore 4, 2) := by decide +kernel
theorem dX4_areAlikeAt_137 : decode cX4_areAlikeAt 137 = .ok (.iinc 5 1, 3) := by decide +kernel
theorem dX4_areAlikeAt_140 : decode cX4_areAlikeAt 140 = .ok (.goto (-107), 3) := by decide +kernel
theorem dX4_areAlikeAt_143 : decode cX4_areAlikeAt 143 = .ok (.iload 4, 2) := by decide +kernel
theorem dX4_areAlikeAt_145 : decode cX4_areAlikeAt 145 = .ok (.ireturn, 1) := by decide +kernel
theorem dX4_areAlike_0 : decode cX4_areAlike 0 = .ok (.aload_n 0, 1) := by decide +kernel
theorem dX4_areAlike_1 : decode cX4_areAlike 1 = .ok (.iload_n 1, 1) := by decide +kernel
theorem dX4_areAlike_2 : decode cX4_areAlike 2 = .ok (.invokevirtual 180, 3) := by decide +kernel
theorem dX4_areAlike_5 : decode cX4_areAlike 5 = .ok (.ifCond .eq 45, 3) := by decide +kernel
theorem dX4_areAlike_8 : decode cX4_areAlike 8 = .ok (.aload_n 0, 1) := by decide +kernel
theorem dX4_areAlike_9 : decode cX4_areAlike 9 = .ok (.iload_n 2, 1) := by decide +kernel
theorem dX4_areAlike_10 : decode cX4_areAlike 10 = .ok (.invokevirtual 180, 3) := by decide +kernel
theorem dX4_areAlike_13 : decode cX4_areAlike 13 = .ok (.ifCond .eq 37, 3) := by decide +kernel
theorem dX4_areAlike_16 : decode cX4_areAlike 16 = .ok (.aload_n 0, 1) := by decide +kernel
theorem dX4_areAlike_17 : decode cX4_areAlike 17 = .ok (.getfield 38, 3) := by decide +kernel
theorem dX4_areAlike_20 : decode cX4_areAlike 20 = .ok (.iload_n 1, 1) := by decide +kernel
theorem dX4_areAlike_21 : decode cX4_areAlike 21 = .ok (.iaload, 1) := by decide +kernel
theorem dX4_areAlike_22 : decode cX4_areAlike 22 = .ok (.aload_n 0, 1) := by decide +kernel
theorem dX4_areAlike_23 : decode cX4_areAlike 23 = .ok (.getfield 38, 3) := by decide +kernel
theorem dX4_areAlike_26 : decode cX4_areAlike 26 = .ok (.iload_n 2, 1) := by decide +kernel
theorem dX4_areAlike_27 : decode cX4_areAlike 27 = .ok (.iaload, 1) := by decide +kernel
theorem dX4_areAlike_28 : decode cX4_areAlike 28 = .ok (.if_icmp .ne 22, 3) := by decide +kernel
theorem dX4_areAlike_31 : decode cX4_areAlike 31 = .ok (.aload_n 0, 1) := by decide +kernel
theorem dX4_areAlike_32 : decode cX4_areAlike 32 = .ok (.getfield 42, 3) := by decide +kernel
theorem dX4_areAlike_35 : decode cX4_areAlike 35 = .ok (.iload_n 1, 1) := by decide +kernel
theorem dX4_areAlike_36 : decode cX4_areAlike 36 = .ok (.baload, 1) := by decide +kernel
theorem dX4_areAlike_37 : decode cX4_areAlike 37 = .ok (.aload_n 0, 1) := by decide +kernel
theorem dX4_areAlike_38 : decode cX4_areAlike 38 = .ok (.getfield 42, 3) := by decide +kernel
theorem dX4_areAlike_41 : decode cX4_areAlike 41 = .ok (.iload_n 2, 1) := by decide +kernel
theorem dX4_areAlike_42 : decode cX4_areAlike 42 = .ok (.baload, 1) := by decide +kernel
theorem dX4_areAlike_43 : decode cX4_areAlike 43 = .ok (.if_icmp .ne 7, 3) := by decide +kernel
theorem dX4_areAlike_46 : decode cX4_areAlike 46 = .ok (.iconst 1, 1) := by decide +kernel
theorem dX4_areAlike_47 : decode cX4_areAlike 47 = .ok (.goto 4, 3) := by decide +kernel
theorem dX4_areAlike_50 : decode cX4_areAlike 50 = .ok (.iconst 0, 1) := by decide +kernel
theorem dX4_areAlike_51 : decode cX4_areAlike 51 = .ok (.istore_n 3, 1) := by decide +kernel
theorem dX4_areAlike_52 : decode cX4_areAlike 52 = .ok (.iconst 0, 1) := by decide +kernel
theorem dX4_areAlike_53 : decode cX4_areAlike 53 = .ok (.istore 4, 2) := by decide +kernel
theorem dX4_areAlike_55 : decode cX4_areAlike 55 = .ok (.iload 4, 2) := by decide +kernel
theorem dX4_areAlike_57 : decode cX4_areAlike 57 = .ok (.aload_n 0, 1) := by decide +kernel
theorem dX4_areAlike_58 : decode cX4_areAlike 58 = .ok (.getfield 7, 3) := by decide +kernel
theorem dX4_areAlike_61 : decode cX4_areAlike 61 = .ok (.if_icmp .ge 42, 3) := by decide +kernel
theorem dX4_areAlike_64 : decode cX4_areAlike 64 = .ok (.iload_n 3, 1) := by decide +kernel
theorem dX4_areAlike_65 : decode cX4_areAlike 65 = .ok (.ifCond .eq 30, 3) := by decide +kernel
theorem dX4_areAlike_68 : decode cX4_areAlike 68 = .ok (.aload_n 0, 1) := by decide +kernel
theorem dX4_areAlike_69 : decode cX4_areAlike 69 = .ok (.getfield 70, 3) := by decide +kernel
theorem dX4_areAlike_72 : decode cX4_areAlike 72 = .ok (.iload 4, 2) := by decide +kernel
theorem dX4_areAlike_74 : decode cX4_areAlike 74 = .ok (.iaload, 1) := by decide +kernel
theorem dX4_areAlike_75 : decode cX4_areAlike 75 = .ok (.ldc 115, 2) := by decide +kernel
theorem dX4_areAlike_77 : decode cX4_areAlike 77 = .ok (.if_icmp .ne 14, 3) := by decide +kernel
theorem dX4_areAlike_80 : decode cX4_areAlike 80 = .ok (.aload_n 0, 1) := by decide +kernel
theorem dX4_areAlike_81 : decode cX4_areAlike 81 = .ok (.iload 4, 2) := by decide +kernel
theorem dX4_areAlike_83 : decode cX4_areAlike 83 = .ok (.iload_n 1, 1) := by decide +kernel
theorem dX4_areAlike_84 : decode cX4_areAlike 84 = .ok (.iload_n 2, 1) := by decide +kernel
theorem dX4_areAlike_85 : decode cX4_areAlike 85 = .ok (.invokevirtual 190, 3) := by decide +kernel
theorem dX4_areAlike_88 : decode cX4_areAlike 88 = .ok (.ifCond .eq 7, 3) := by decide +kernel
theorem dX4_areAlike_91 : decode cX4_areAlike 91 = .ok (.iconst 1, 1) := by decide +kernel
theorem dX4_areAlike_92 : decode cX4_areAlike 92 = .ok (.goto 4, 3) := by decide +kernel
theorem dX4_areAlike_95 : decode cX4_areAlike 95 = .ok (.iconst 0, 1) := by decide +kernel
theorem dX4_areAlike_96 : decode cX4_areAlike 96 = .ok (.istore_n 3, 1) := by decide +kernel
theorem dX4_areAlike_97 : decode cX4_areAlike 97 = .ok (.iinc 4 1, 3) := by decide +kernel
theorem dX4_areAlike_100 : decode cX4_areAlike 100 = .ok (.goto (-45), 3) := by decide +kernel
theorem dX4_areAlike_103 : decode cX4_areAlike 103 = .ok (.iload_n 3, 1) := by decide +kernel
theorem dX4_areAlike_104 : decode cX4_areAlike 104 = .ok (.ireturn, 1) := by decide +kernel
theorem dX4_sharedWith_0 : decode cX4_sharedWith 0 = .ok (.iconst 0, 1) := by decide +kernel
theorem dX4_sharedWith_1 : decode cX4_sharedWith 1 = .ok (.istore_n 2, 1) := by decide +kernel
theorem dX4_sharedWith_2 : decode cX4_sharedWith 2 = .ok (.iload_n 2, 1) := by decide +kernel
theorem dX4_sharedWith_3 : decode cX4_sharedWith 3 = .ok (.iload_n 1, 1) := by decide +kernel
theorem dX4_sharedWith_4 : decode cX4_sharedWith 4 = .ok (.if_icmp .ge 20, 3) := by decide +kernel
theorem dX4_sharedWith_7 : decode cX4_sharedWith 7 = .ok (.aload_n 0, 1) := by decide +kernel
theorem dX4_sharedWith_8 : decode cX4_sharedWith 8 = .ok (.iload_n 2, 1) := by decide +kernel
theorem dX4_sharedWith_9 : decode cX4_sharedWith 9 = .ok (.iload_n 1, 1) := by decide +kernel
theorem dX4_sharedWith_10 : decode cX4_sharedWith 10 = .ok (.invokevirtual 193, 3) := by decide +kernel
theorem dX4_sharedWith_13 : decode cX4_sharedWith 13 = .ok (.ifCond .eq 5, 3) := by decide +kernel
theorem dX4_sharedWith_16 : decode cX4_sharedWith 16 = .ok (.iload_n 2, 1) := by decide +kernel
theorem dX4_sharedWith_17 : decode cX4_sharedWith 17 = .ok (.ireturn, 1) := by decide +kernel
theorem dX4_sharedWith_18 : decode cX4_sharedWith 18 = .ok (.iinc 2 1, 3) := by decide +kernel
theorem dX4_sharedWith_21 : decode cX4_sharedWith 21 = .ok (.goto (-19), 3) := by decide +kernel
theorem dX4_sharedWith_24 : decode cX4_sharedWith 24 = .ok (.ldc 115, 2) := by decide +kernel
theorem dX4_sharedWith_26 : decode cX4_sharedWith 26 = .ok (.ireturn, 1) := by decide +kernel
theorem dX4_shares_0 : decode cX4_shares 0 = .ok (.aload_n 0, 1) := by decide +kernel
theorem dX4_shares_1 : decode cX4_shares 1 = .ok (.iconst 0, 1) := by decide +kernel
theorem dX4_shares_2 : decode cX4_shares 2 = .ok (.putfield 1, 3) := by decide +kernel
theorem dX4_shares_5 : decode cX4_shares 5 = .ok (.iload_n 1, 1) := by decide +kernel
theorem dX4_shares_6 : decode cX4_shares 6 = .ok (.invokestatic 120, 3) := by decide +kernel
theorem dX4_shares_9 : decode cX4_shares 9 = .ok (.ifCond .eq 11, 3) := by decide +kernel
theorem dX4_shares_12 : decode cX4_shares 12 = .ok (.aload_n 0, 1) := by decide +kernel
theorem dX4_shares_13 : decode cX4_shares 13 = .ok (.iload_n 1, 1) := by decide +kernel
theorem dX4_shares_14 : decode cX4_shares 14 = .ok (.invokevirtual 196, 3) := by decide +kernel
theorem dX4_shares_17 : decode cX4_shares 17 = .ok (.goto 5, 3) := by decide +kernel
theorem dX4_shares_20 : decode cX4_shares 20 = .ok (.ldc 123, 2) := by decide +kernel
theorem dX4_shares_22 : decode cX4_shares 22 = .ok (.ireturn, 1) := by decide +kernel
theorem dX4_row_0 : decode cX4_row 0 = .ok (.aload_n 0, 1) := by decide +kernel
theorem dX4_row_1 : decode cX4_row 1 = .ok (.iconst 0, 1) := by decide +kernel
theorem dX4_row_2 : decode cX4_row 2 = .ok (.putfield 1, 3) := by decide +kernel
theorem dX4_row_5 : decode cX4_row 5 = .ok (.iload_n 1, 1) := by decide +kernel
theorem dX4_row_6 : decode cX4_row 6 = .ok (.invokestatic 120, 3) := by decide +kernel
theorem dX4_row_9 : decode cX4_row 9 = .ok (.ifCond .ne 6, 3) := by decide +kernel
theorem dX4_row_12 : decode cX4_row 12 = .ok (.ldc 123, 2) := by decide +kernel
theorem dX4_row_14 : decode cX4_row 14 = .ok (.ireturn, 1) := by decide +kernel
theorem dX4_row_15 : decode cX4_row 15 = .ok (.aload_n 0, 1) := by decide +kernel
theorem dX4_row_16 : decode cX4_row 16 = .ok (.iload_n 1, 1) := by decide +kernel
theorem dX4_row_17 : decode cX4_row 17 = .ok (.invokevirtual 180, 3) := by decide +kernel
theorem dX4_row_20 : decode cX4_row 20 = .ok (.ifCond .ne 6, 3) := by decide +kernel
theorem dX4_row_23 : decode cX4_row 23 = .ok (.ldc 115, 2) := by decide +kernel
theorem dX4_row_25 : decode cX4_row 25 = .ok (.ireturn, 1) := by decide +kernel
theorem dX4_row_26 : decode cX4_row 26 = .ok (.aload_n 0, 1) := by decide +kernel
theorem dX4_row_27 : decode cX4_row 27 = .ok (.iload_n 1, 1) := by decide +kernel
theorem dX4_row_28 : decode cX4_row 28 = .ok (.invokevirtual 196, 3) := by decide +kernel
theorem dX4_row_31 : decode cX4_row 31 = .ok (.ldc 115, 2) := by decide +kernel
theorem dX4_row_33 : decode cX4_row 33 = .ok (.if_icmp .ne 7, 3) := by decide +kernel
theorem dX4_row_36 : decode cX4_row 36 = .ok (.iload_n 1, 1) := by decide +kernel
theorem dX4_row_37 : decode cX4_row 37 = .ok (.goto 8, 3) := by decide +kernel
theorem dX4_row_40 : decode cX4_row 40 = .ok (.aload_n 0, 1) := by decide +kernel
theorem dX4_row_41 : decode cX4_row 41 = .ok (.iload_n 1, 1) := by decide +kernel
theorem dX4_row_42 : decode cX4_row 42 = .ok (.invokevirtual 196, 3) := by decide +kernel
theorem dX4_row_45 : decode cX4_row 45 = .ok (.istore_n 2, 1) := by decide +kernel
theorem dX4_row_46 : decode cX4_row 46 = .ok (.iconst 0, 1) := by decide +kernel
theorem dX4_row_47 : decode cX4_row 47 = .ok (.istore_n 3, 1) := by decide +kernel
theorem dX4_row_48 : decode cX4_row 48 = .ok (.iconst 0, 1) := by decide +kernel
theorem dX4_row_49 : decode cX4_row 49 = .ok (.istore 4, 2) := by decide +kernel
theorem dX4_row_51 : decode cX4_row 51 = .ok (.iload 4, 2) := by decide +kernel
theorem dX4_row_53 : decode cX4_row 53 = .ok (.iload_n 2, 1) := by decide +kernel
theorem dX4_row_54 : decode cX4_row 54 = .ok (.if_icmp .ge 37, 3) := by decide +kernel
theorem dX4_row_57 : decode cX4_row 57 = .ok (.iload_n 3, 1) := by decide +kernel
theorem dX4_row_58 : decode cX4_row 58 = .ok (.aload_n 0, 1) := by decide +kernel
theorem dX4_row_59 : decode cX4_row 59 = .ok (.iload 4, 2) := by decide +kernel
theorem dX4_row_61 : decode cX4_row 61 = .ok (.invokevirtual 180, 3) := by decide +kernel
theorem dX4_row_64 : decode cX4_row 64 = .ok (.ifCond .eq 18, 3) := by decide +kernel
theorem dX4_row_67 : decode cX4_row 67 = .ok (.aload_n 0, 1) := by decide +kernel
theorem dX4_row_68 : decode cX4_row 68 = .ok (.iload 4, 2) := by decide +kernel
theorem dX4_row_70 : decode cX4_row 70 = .ok (.invokevirtual 196, 3) := by decide +kernel
theorem dX4_row_73 : decode cX4_row 73 = .ok (.ldc 115, 2) := by decide +kernel
theorem dX4_row_75 : decode cX4_row 75 = .ok (.if_icmp .ne 7, 3) := by decide +kernel
theorem dX4_row_78 : decode cX4_row 78 = .ok (.iconst 1, 1) := by decide +kernel
theorem dX4_row_79 : decode cX4_row 79 = .ok (.goto 4, 3) := by decide +kernel
theorem dX4_row_82 : decode cX4_row 82 = .ok (.iconst 0, 1) := by decide +kernel
theorem dX4_row_83 : decode cX4_row 83 = .ok (.iadd, 1) := by decide +kernel
theorem dX4_row_84 : decode cX4_row 84 = .ok (.istore_n 3, 1) := by decide +kernel
theorem dX4_row_85 : decode cX4_row 85 = .ok (.iinc 4 1, 3) := by decide +kernel
theorem dX4_row_88 : decode cX4_row 88 = .ok (.goto (-37), 3) := by decide +kernel
theorem dX4_row_91 : decode cX4_row 91 = .ok (.iload_n 3, 1) := by decide +kernel
theorem dX4_row_92 : decode cX4_row 92 = .ok (.ireturn, 1) := by decide +kernel
theorem dX4_in_0 : decode cX4_in 0 = .ok (.aload_n 0, 1) := by decide +kernel
theorem dX4_in_1 : decode cX4_in 1 = .ok (.iconst 0, 1) := by decide +kernel
theorem dX4_in_2 : decode cX4_in 2 = .ok (.putfield 1, 3) := by decide +kernel
theorem dX4_in_5 : decode cX4_in 5 = .ok (.aload_n 0, 1) := by decide +kernel
theorem dX4_in_6 : decode cX4_in 6 = .ok (.iload_n 1, 1) := by decide +kernel
theorem dX4_in_7 : decode cX4_in 7 = .ok (.invokevirtual 116, 3) := by decide +kernel
theorem dX4_in_10 : decode cX4_in 10 = .ok (.ifCond .ne 6, 3) := by decide +kernel
theorem dX4_in_13 : decode cX4_in 13 = .ok (.ldc 123, 2) := by decide +kernel
theorem dX4_in_15 : decode cX4_in 15 = .ok (.ireturn, 1) := by decide +kernel
theorem dX4_in_16 : decode cX4_in 16 = .ok (.iload_n 2, 1) := by decide +kernel
theorem dX4_in_17 : decode cX4_in 17 = .ok (.ifCond .ne 12, 3) := by decide +kernel
theorem dX4_in_20 : decode cX4_in 20 = .ok (.aload_n 0, 1) := by decide +kernel
theorem dX4_in_21 : decode cX4_in 21 = .ok (.getfield 64, 3) := by decide +kernel
theorem dX4_in_24 : decode cX4_in 24 = .ok (.iload_n 1, 1) := by decide +kernel
theorem dX4_in_25 : decode cX4_in 25 = .ok (.iaload, 1) := by decide +kernel
theorem dX4_in_26 : decode cX4_in 26 = .ok (.goto 19, 3) := by decide +kernel
theorem dX4_in_29 : decode cX4_in 29 = .ok (.iload_n 2, 1) := by decide +kernel
theorem dX4_in_30 : decode cX4_in 30 = .ok (.iconst 1, 1) := by decide +kernel
theorem dX4_in_31 : decode cX4_in 31 = .ok (.if_icmp .ne 12, 3) := by decide +kernel
theorem dX4_in_34 : decode cX4_in 34 = .ok (.aload_n 0, 1) := by decide +kernel
theorem dX4_in_35 : decode cX4_in 35 = .ok (.getfield 70, 3) := by decide +kernel
theorem dX4_in_38 : decode cX4_in 38 = .ok (.iload_n 1, 1) := by decide +kernel
theorem dX4_in_39 : decode cX4_in 39 = .ok (.iaload, 1) := by decide +kernel
theorem dX4_in_40 : decode cX4_in 40 = .ok (.goto 5, 3) := by decide +kernel
theorem dX4_in_43 : decode cX4_in 43 = .ok (.ldc 113, 2) := by decide +kernel
theorem dX4_in_45 : decode cX4_in 45 = .ok (.ireturn, 1) := by decide +kernel
theorem dX4_pattern_0 : decode cX4_pattern 0 = .ok (.aload_n 0, 1) := by decide +kernel
theorem dX4_pattern_1 : decode cX4_pattern 1 = .ok (.iconst 0, 1) := by decide +kernel
theorem dX4_pattern_2 : decode cX4_pattern 2 = .ok (.putfield 1, 3) := by decide +kernel
theorem dX4_pattern_5 : decode cX4_pattern 5 = .ok (.lload_n 1, 1) := by decide +kernel
theorem dX4_pattern_6 : decode cX4_pattern 6 = .ok (.lconst 1, 1) := by decide +kernel
theorem dX4_pattern_7 : decode cX4_pattern 7 = .ok (.lcmp, 1) := by decide +kernel
theorem dX4_pattern_8 : decode cX4_pattern 8 = .ok (.ifCond .lt 7, 3) := by decide +kernel
theorem dX4_pattern_11 : decode cX4_pattern 11 = .ok (.iload_n 3, 1) := by decide +kernel
theorem dX4_pattern_12 : decode cX4_pattern 12 = .ok (.ifCond .ge 6, 3) := by decide +kernel
theorem dX4_pattern_15 : decode cX4_pattern 15 = .ok (.ldc 113, 2) := by decide +kernel
theorem dX4_pattern_17 : decode cX4_pattern 17 = .ok (.ireturn, 1) := by decide +kernel
theorem dX4_pattern_18 : decode cX4_pattern 18 = .ok (.iconst 0, 1) := by decide +kernel
theorem dX4_pattern_19 : decode cX4_pattern 19 = .ok (.istore 4, 2) := by decide +kernel
theorem dX4_pattern_21 : decode cX4_pattern 21 = .ok (.lload_n 1, 1) := by decide +kernel
theorem dX4_pattern_22 : decode cX4_pattern 22 = .ok (.lstore 5, 2) := by decide +kernel
theorem dX4_pattern_24 : decode cX4_pattern 24 = .ok (.bipush 10, 2) := by decide +kernel
theorem dX4_pattern_26 : decode cX4_pattern 26 = .ok (.istore 7, 2) := by decide +kernel
theorem dX4_pattern_28 : decode cX4_pattern 28 = .ok (.iconst 1, 1) := by decide +kernel
theorem dX4_pattern_29 : decode cX4_pattern 29 = .ok (.istore 8, 2) := by decide +kernel
theorem dX4_pattern_31 : decode cX4_pattern 31 = .ok (.iconst 0, 1) := by decide +kernel
theorem dX4_pattern_32 : decode cX4_pattern 32 = .ok (.istore 9, 2) := by decide +kernel
theorem dX4_pattern_34 : decode cX4_pattern 34 = .ok (.lload 5, 2) := by decide +kernel
theorem dX4_pattern_36 : decode cX4_pattern 36 = .ok (.ldc2_w 199, 3) := by decide +kernel
theorem dX4_pattern_39 : decode cX4_pattern 39 = .ok (.land, 1) := by decide +kernel
theorem dX4_pattern_40 : decode cX4_pattern 40 = .ok (.lconst 0, 1) := by decide +kernel
theorem dX4_pattern_41 : decode cX4_pattern 41 = .ok (.lcmp, 1) := by decide +kernel
theorem dX4_pattern_42 : decode cX4_pattern 42 = .ok (.ifCond .eq 107, 3) := by decide +kernel
theorem dX4_pattern_45 : decode cX4_pattern 45 = .ok (.lload 5, 2) := by decide +kernel
theorem dX4_pattern_47 : decode cX4_pattern 47 = .ok (.ldc2_w 199, 3) := by decide +kernel
theorem dX4_pattern_50 : decode cX4_pattern 50 = .ok (.land, 1) := by decide +kernel
theorem dX4_pattern_51 : decode cX4_pattern 51 = .ok (.l2i, 1) := by decide +kernel
theorem dX4_pattern_52 : decode cX4_pattern 52 = .ok (.istore 10, 2) := by decide +kernel
theorem dX4_pattern_54 : decode cX4_pattern 54 = .ok (.lload 5, 2) := by decide +kernel
theorem dX4_pattern_56 : decode cX4_pattern 56 = .ok (.iconst 5, 1) := by decide +kernel
theorem dX4_pattern_57 : decode cX4_pattern 57 = .ok (.lshr, 1) := by decide +kernel
theorem dX4_pattern_58 : decode cX4_pattern 58 = .ok (.lstore 5, 2) := by decide +kernel
theorem dX4_pattern_60 : decode cX4_pattern 60 = .ok (.iload 8, 2) := by decide +kernel
theorem dX4_pattern_62 : decode cX4_pattern 62 = .ok (.ifCond .eq 40, 3) := by decide +kernel
theorem dX4_pattern_65 : decode cX4_pattern 65 = .ok (.iload 4, 2) := by decide +kernel
theorem dX4_pattern_67 : decode cX4_pattern 67 = .ok (.bipush 6, 2) := by decide +kernel
theorem dX4_pattern_69 : decode cX4_pattern 69 = .ok (.if_icmp .ge 33, 3) := by decide +kernel
theorem dX4_pattern_72 : decode cX4_pattern 72 = .ok (.iload 10, 2) := by decide +kernel
theorem dX4_pattern_74 : decode cX4_pattern 74 = .ok (.bipush 28, 2) := by decide +kernel
theorem dX4_pattern_76 : decode cX4_pattern 76 = .ok (.if_icmp .ge 26, 3) := by decide +kernel
theorem dX4_pattern_79 : decode cX4_pattern 79 = .ok (.iload 10, 2) := by decide +kernel
theorem dX4_pattern_81 : decode cX4_pattern 81 = .ok (.bipush 27, 2) := by decide +kernel
theorem dX4_pattern_83 : decode cX4_pattern 83 = .ok (.if_icmp .lt 15, 3) := by decide +kernel
theorem dX4_pattern_86 : decode cX4_pattern 86 = .ok (.iload 4, 2) := by decide +kernel
theorem dX4_pattern_88 : decode cX4_pattern 88 = .ok (.ifCond .eq 10, 3) := by decide +kernel
theorem dX4_pattern_91 : decode cX4_pattern 91 = .ok (.lload 5, 2) := by decide +kernel
theorem dX4_pattern_93 : decode cX4_pattern 93 = .ok (.lconst 0, 1) := by decide +kernel
theorem dX4_pattern_94 : decode cX4_pattern 94 = .ok (.lcmp, 1) := by decide +kernel
theorem dX4_pattern_95 : decode cX4_pattern 95 = .ok (.ifCond .ne 7, 3) := by decide +kernel
theorem dX4_pattern_98 : decode cX4_pattern 98 = .ok (.iconst 1, 1) := by decide +kernel
theorem dX4_pattern_99 : decode cX4_pattern 99 = .ok (.goto 4, 3) := by decide +kernel
theorem dX4_pattern_102 : decode cX4_pattern 102 = .ok (.iconst 0, 1) := by decide +kernel
theorem dX4_pattern_103 : decode cX4_pattern 103 = .ok (.istore 8, 2) := by decide +kernel
theorem dX4_pattern_105 : decode cX4_pattern 105 = .ok (.iload 9, 2) := by decide +kernel
theorem dX4_pattern_107 : decode cX4_pattern 107 = .ok (.ifCond .ne 10, 3) := by decide +kernel
theorem dX4_pattern_110 : decode cX4_pattern 110 = .ok (.iload 10, 2) := by decide +kernel
theorem dX4_pattern_112 : decode cX4_pattern 112 = .ok (.bipush 27, 2) := by decide +kernel
theorem dX4_pattern_114 : decode cX4_pattern 114 = .ok (.if_icmp .ge 7, 3) := by decide +kernel
theorem dX4_pattern_117 : decode cX4_pattern 117 = .ok (.iconst 1, 1) := by decide +kernel
theorem dX4_pattern_118 : decode cX4_pattern 118 = .ok (.goto 4, 3) := by decide +kernel
theorem dX4_pattern_121 : decode cX4_pattern 121 = .ok (.iconst 0, 1) := by decide +kernel
theorem dX4_pattern_122 : decode cX4_pattern 122 = .ok (.istore 9, 2) := by decide +kernel
theorem dX4_pattern_124 : decode cX4_pattern 124 = .ok (.iload 4, 2) := by decide +kernel
theorem dX4_pattern_126 : decode cX4_pattern 126 = .ok (.bipush 6, 2) := by decide +kernel
theorem dX4_pattern_128 : decode cX4_pattern 128 = .ok (.if_icmp .ge 11, 3) := by decide +kernel
theorem dX4_pattern_131 : decode cX4_pattern 131 = .ok (.bipush 10, 2) := by decide +kernel
theorem dX4_pattern_133 : decode cX4_pattern 133 = .ok (.iload 7, 2) := by decide +kernel
theorem dX4_pattern_135 : decode cX4_pattern 135 = .ok (.imul, 1) := by decide +kernel
theorem dX4_pattern_136 : decode cX4_pattern 136 = .ok (.goto 5, 3) := by decide +kernel
theorem dX4_pattern_139 : decode cX4_pattern 139 = .ok (.iload 7, 2) := by decide +kernel
theorem dX4_pattern_141 : decode cX4_pattern 141 = .ok (.istore 7, 2) := by decide +kernel
theorem dX4_pattern_143 : decode cX4_pattern 143 = .ok (.iinc 4 1, 3) := by decide +kernel
theorem dX4_pattern_146 : decode cX4_pattern 146 = .ok (.goto (-112), 3) := by decide +kernel
theorem dX4_pattern_149 : decode cX4_pattern 149 = .ok (.iload 8, 2) := by decide +kernel
theorem dX4_pattern_151 : decode cX4_pattern 151 = .ok (.ifCond .eq 21, 3) := by decide +kernel
theorem dX4_pattern_154 : decode cX4_pattern 154 = .ok (.iload 9, 2) := by decide +kernel
theorem dX4_pattern_156 : decode cX4_pattern 156 = .ok (.ifCond .eq 16, 3) := by decide +kernel
theorem dX4_pattern_159 : decode cX4_pattern 159 = .ok (.lload 5, 2) := by decide +kernel
theorem dX4_pattern_161 : decode cX4_pattern 161 = .ok (.lconst 0, 1) := by decide +kernel
theorem dX4_pattern_162 : decode cX4_pattern 162 = .ok (.lcmp, 1) := by decide +kernel
theorem dX4_pattern_163 : decode cX4_pattern 163 = .ok (.ifCond .ne 9, 3) := by decide +kernel
theorem dX4_pattern_166 : decode cX4_pattern 166 = .ok (.iload_n 3, 1) := by decide +kernel
theorem dX4_pattern_167 : decode cX4_pattern 167 = .ok (.iload 7, 2) := by decide +kernel
theorem dX4_pattern_169 : decode cX4_pattern 169 = .ok (.if_icmp .lt 6, 3) := by decide +kernel
theorem dX4_pattern_172 : decode cX4_pattern 172 = .ok (.ldc 113, 2) := by decide +kernel
theorem dX4_pattern_174 : decode cX4_pattern 174 = .ok (.ireturn, 1) := by decide +kernel
theorem dX4_pattern_175 : decode cX4_pattern 175 = .ok (.aload_n 0, 1) := by decide +kernel
theorem dX4_pattern_176 : decode cX4_pattern 176 = .ok (.getfield 23, 3) := by decide +kernel
theorem dX4_pattern_179 : decode cX4_pattern 179 = .ok (.bipush 30, 2) := by decide +kernel
theorem dX4_pattern_181 : decode cX4_pattern 181 = .ok (.if_icmp .ne 6, 3) := by decide +kernel
theorem dX4_pattern_184 : decode cX4_pattern 184 = .ok (.ldc 114, 2) := by decide +kernel
theorem dX4_pattern_186 : decode cX4_pattern 186 = .ok (.ireturn, 1) := by decide +kernel
theorem dX4_pattern_187 : decode cX4_pattern 187 = .ok (.iload_n 3, 1) := by decide +kernel
theorem dX4_pattern_188 : decode cX4_pattern 188 = .ok (.istore 10, 2) := by decide +kernel
theorem dX4_pattern_190 : decode cX4_pattern 190 = .ok (.iconst 0, 1) := by decide +kernel
theorem dX4_pattern_191 : decode cX4_pattern 191 = .ok (.istore 11, 2) := by decide +kernel
theorem dX4_pattern_193 : decode cX4_pattern 193 = .ok (.iload 11, 2) := by decide +kernel
theorem dX4_pattern_195 : decode cX4_pattern 195 = .ok (.iload 4, 2) := by decide +kernel
theorem dX4_pattern_197 : decode cX4_pattern 197 = .ok (.if_icmp .gt 69, 3) := by decide +kernel
theorem dX4_pattern_200 : decode cX4_pattern 200 = .ok (.aload_n 0, 1) := by decide +kernel
theorem dX4_pattern_201 : decode cX4_pattern 201 = .ok (.getfield 97, 3) := by decide +kernel
theorem dX4_pattern_204 : decode cX4_pattern 204 = .ok (.bipush 7, 2) := by decide +kernel
theorem dX4_pattern_206 : decode cX4_pattern 206 = .ok (.aload_n 0, 1) := by decide +kernel
theorem dX4_pattern_207 : decode cX4_pattern 207 = .ok (.getfield 23, 3) := by decide +kernel
theorem dX4_pattern_210 : decode cX4_pattern 210 = .ok (.imul, 1) := by decide +kernel
theorem dX4_pattern_211 : decode cX4_pattern 211 = .ok (.iload 11, 2) := by decide +kernel
theorem dX4_pattern_213 : decode cX4_pattern 213 = .ok (.iadd, 1) := by decide +kernel
theorem dX4_pattern_214 : decode cX4_pattern 214 = .ok (.iload 10, 2) := by decide +kernel
theorem dX4_pattern_216 : decode cX4_pattern 216 = .ok (.bipush 10, 2) := by decide +kernel
theorem dX4_pattern_218 : decode cX4_pattern 218 = .ok (.irem, 1) := by decide +kernel
theorem dX4_pattern_219 : decode cX4_pattern 219 = .ok (.iastore, 1) := by decide +kernel
theorem dX4_pattern_220 : decode cX4_pattern 220 = .ok (.iload 10, 2) := by decide +kernel
theorem dX4_pattern_222 : decode cX4_pattern 222 = .ok (.bipush 10, 2) := by decide +kernel
theorem dX4_pattern_224 : decode cX4_pattern 224 = .ok (.idiv, 1) := by decide +kernel
theorem dX4_pattern_225 : decode cX4_pattern 225 = .ok (.istore 10, 2) := by decide +kernel
theorem dX4_pattern_227 : decode cX4_pattern 227 = .ok (.iload 11, 2) := by decide +kernel
theorem dX4_pattern_229 : decode cX4_pattern 229 = .ok (.iload 4, 2) := by decide +kernel
theorem dX4_pattern_231 : decode cX4_pattern 231 = .ok (.if_icmp .ge 29, 3) := by decide +kernel
theorem dX4_pattern_234 : decode cX4_pattern 234 = .ok (.aload_n 0, 1) := by decide +kernel
theorem dX4_pattern_235 : decode cX4_pattern 235 = .ok (.getfield 94, 3) := by decide +kernel
theorem dX4_pattern_238 : decode cX4_pattern 238 = .ok (.bipush 6, 2) := by decide +kernel
theorem dX4_pattern_240 : decode cX4_pattern 240 = .ok (.aload_n 0, 1) := by decide +kernel
theorem dX4_pattern_241 : decode cX4_pattern 241 = .ok (.getfield 23, 3) := by decide +kernel
theorem dX4_pattern_244 : decode cX4_pattern 244 = .ok (.imul, 1) := by decide +kernel
theorem dX4_pattern_245 : decode cX4_pattern 245 = .ok (.iload 11, 2) := by decide +kernel
theorem dX4_pattern_247 : decode cX4_pattern 247 = .ok (.iadd, 1) := by decide +kernel
theorem dX4_pattern_248 : decode cX4_pattern 248 = .ok (.lload_n 1, 1) := by decide +kernel
theorem dX4_pattern_249 : decode cX4_pattern 249 = .ok (.iconst 5, 1) := by decide +kernel
theorem dX4_pattern_250 : decode cX4_pattern 250 = .ok (.iload 11, 2) := by decide +kernel
theorem dX4_pattern_252 : decode cX4_pattern 252 = .ok (.imul, 1) := by decide +kernel
theorem dX4_pattern_253 : decode cX4_pattern 253 = .ok (.lshr, 1) := by decide +kernel
theorem dX4_pattern_254 : decode cX4_pattern 254 = .ok (.ldc2_w 199, 3) := by decide +kernel
theorem dX4_pattern_257 : decode cX4_pattern 257 = .ok (.land, 1) := by decide +kernel
theorem dX4_pattern_258 : decode cX4_pattern 258 = .ok (.l2i, 1) := by decide +kernel
theorem dX4_pattern_259 : decode cX4_pattern 259 = .ok (.iastore, 1) := by decide +kernel
theorem dX4_pattern_260 : decode cX4_pattern 260 = .ok (.iinc 11 1, 3) := by decide +kernel
theorem dX4_pattern_263 : decode cX4_pattern 263 = .ok (.goto (-70), 3) := by decide +kernel
theorem dX4_pattern_266 : decode cX4_pattern 266 = .ok (.aload_n 0, 1) := by decide +kernel
theorem dX4_pattern_267 : decode cX4_pattern 267 = .ok (.getfield 91, 3) := by decide +kernel
theorem dX4_pattern_270 : decode cX4_pattern 270 = .ok (.aload_n 0, 1) := by decide +kernel
theorem dX4_pattern_271 : decode cX4_pattern 271 = .ok (.getfield 23, 3) := by decide +kernel
theorem dX4_pattern_274 : decode cX4_pattern 274 = .ok (.iload 4, 2) := by decide +kernel
theorem dX4_pattern_276 : decode cX4_pattern 276 = .ok (.iastore, 1) := by decide +kernel
theorem dX4_pattern_277 : decode cX4_pattern 277 = .ok (.aload_n 0, 1) := by decide +kernel
theorem dX4_pattern_278 : decode cX4_pattern 278 = .ok (.dup, 1) := by decide +kernel
theorem dX4_pattern_279 : decode cX4_pattern 279 = .ok (.getfield 23, 3) := by decide +kernel
theorem dX4_pattern_282 : decode cX4_pattern 282 = .ok (.iconst 1, 1) := by decide +kernel
theorem dX4_pattern_283 : decode cX4_pattern 283 = .ok (.iadd, 1) := by decide +kernel
theorem dX4_pattern_284 : decode cX4_pattern 284 = .ok (.putfield 23, 3) := by decide +kernel
theorem dX4_pattern_287 : decode cX4_pattern 287 = .ok (.aload_n 0, 1) := by decide +kernel
theorem dX4_pattern_288 : decode cX4_pattern 288 = .ok (.getfield 23, 3) := by decide +kernel
theorem dX4_pattern_291 : decode cX4_pattern 291 = .ok (.iconst 1, 1) := by decide +kernel
theorem dX4_pattern_292 : decode cX4_pattern 292 = .ok (.isub, 1) := by decide +kernel
theorem dX4_pattern_293 : decode cX4_pattern 293 = .ok (.ireturn, 1) := by decide +kernel
theorem dX4_letter_0 : decode cX4_letter 0 = .ok (.aload_n 0, 1) := by decide +kernel
theorem dX4_letter_1 : decode cX4_letter 1 = .ok (.iconst 0, 1) := by decide +kernel
theorem dX4_letter_2 : decode cX4_letter 2 = .ok (.putfield 1, 3) := by decide +kernel
theorem dX4_letter_5 : decode cX4_letter 5 = .ok (.iload_n 1, 1) := by decide +kernel
theorem dX4_letter_6 : decode cX4_letter 6 = .ok (.iconst 0, 1) := by decide +kernel
theorem dX4_letter_7 : decode cX4_letter 7 = .ok (.bipush 26, 2) := by decide +kernel
theorem dX4_letter_9 : decode cX4_letter 9 = .ok (.invokestatic 109, 3) := by decide +kernel
theorem dX4_letter_12 : decode cX4_letter 12 = .ok (.ifCond .ne 6, 3) := by decide +kernel
theorem dX4_letter_15 : decode cX4_letter 15 = .ok (.ldc 113, 2) := by decide +kernel
theorem dX4_letter_17 : decode cX4_letter 17 = .ok (.ireturn, 1) := by decide +kernel
theorem dX4_letter_18 : decode cX4_letter 18 = .ok (.iload_n 1, 1) := by decide +kernel
theorem dX4_letter_19 : decode cX4_letter 19 = .ok (.ifCond .ne 10, 3) := by decide +kernel
theorem dX4_letter_22 : decode cX4_letter 22 = .ok (.aload_n 0, 1) := by decide +kernel
theorem dX4_letter_23 : decode cX4_letter 23 = .ok (.iconst 0, 1) := by decide +kernel
theorem dX4_letter_24 : decode cX4_letter 24 = .ok (.putfield 26, 3) := by decide +kernel
theorem dX4_letter_27 : decode cX4_letter 27 = .ok (.iconst 0, 1) := by decide +kernel
theorem dX4_letter_28 : decode cX4_letter 28 = .ok (.ireturn, 1) := by decide +kernel
theorem dX4_letter_29 : decode cX4_letter 29 = .ok (.aload_n 0, 1) := by decide +kernel
theorem dX4_letter_30 : decode cX4_letter 30 = .ok (.getfield 26, 3) := by decide +kernel
theorem dX4_letter_33 : decode cX4_letter 33 = .ok (.bipush 24, 2) := by decide +kernel
theorem dX4_letter_35 : decode cX4_letter 35 = .ok (.if_icmp .ne 6, 3) := by decide +kernel
theorem dX4_letter_38 : decode cX4_letter 38 = .ok (.ldc 114, 2) := by decide +kernel
theorem dX4_letter_40 : decode cX4_letter 40 = .ok (.ireturn, 1) := by decide +kernel
theorem dX4_letter_41 : decode cX4_letter 41 = .ok (.aload_n 0, 1) := by decide +kernel
theorem dX4_letter_42 : decode cX4_letter 42 = .ok (.getfield 100, 3) := by decide +kernel
theorem dX4_letter_45 : decode cX4_letter 45 = .ok (.aload_n 0, 1) := by decide +kernel
theorem dX4_letter_46 : decode cX4_letter 46 = .ok (.getfield 26, 3) := by decide +kernel
theorem dX4_letter_49 : decode cX4_letter 49 = .ok (.iload_n 1, 1) := by decide +kernel
theorem dX4_letter_50 : decode cX4_letter 50 = .ok (.iastore, 1) := by decide +kernel
theorem dX4_letter_51 : decode cX4_letter 51 = .ok (.aload_n 0, 1) := by decide +kernel
theorem dX4_letter_52 : decode cX4_letter 52 = .ok (.dup, 1) := by decide +kernel
theorem dX4_letter_53 : decode cX4_letter 53 = .ok (.getfield 26, 3) := by decide +kernel
theorem dX4_letter_56 : decode cX4_letter 56 = .ok (.iconst 1, 1) := by decide +kernel
theorem dX4_letter_57 : decode cX4_letter 57 = .ok (.iadd, 1) := by decide +kernel
theorem dX4_letter_58 : decode cX4_letter 58 = .ok (.putfield 26, 3) := by decide +kernel
theorem dX4_letter_61 : decode cX4_letter 61 = .ok (.aload_n 0, 1) := by decide +kernel
theorem dX4_letter_62 : decode cX4_letter 62 = .ok (.getfield 26, 3) := by decide +kernel
theorem dX4_letter_65 : decode cX4_letter 65 = .ok (.ireturn, 1) := by decide +kernel
theorem dX4_sides_0 : decode cX4_sides 0 = .ok (.aload_n 0, 1) := by decide +kernel
theorem dX4_sides_1 : decode cX4_sides 1 = .ok (.iconst 0, 1) := by decide +kernel
theorem dX4_sides_2 : decode cX4_sides 2 = .ok (.putfield 1, 3) := by decide +kernel
theorem dX4_sides_5 : decode cX4_sides 5 = .ok (.iload_n 1, 1) := by decide +kernel
theorem dX4_sides_6 : decode cX4_sides 6 = .ok (.iconst 0, 1) := by decide +kernel
theorem dX4_sides_7 : decode cX4_sides 7 = .ok (.iconst 1, 1) := by decide +kernel
theorem dX4_sides_8 : decode cX4_sides 8 = .ok (.invokestatic 109, 3) := by decide +kernel
theorem dX4_sides_11 : decode cX4_sides 11 = .ok (.ifCond .eq 13, 3) := by decide +kernel
theorem dX4_sides_14 : decode cX4_sides 14 = .ok (.iload_n 2, 1) := by decide +kernel
theorem dX4_sides_15 : decode cX4_sides 15 = .ok (.iconst 1, 1) := by decide +kernel
theorem dX4_sides_16 : decode cX4_sides 16 = .ok (.bipush 24, 2) := by decide +kernel
theorem dX4_sides_18 : decode cX4_sides 18 = .ok (.invokestatic 109, 3) := by decide +kernel
theorem dX4_sides_21 : decode cX4_sides 21 = .ok (.ifCond .ne 6, 3) := by decide +kernel
theorem dX4_sides_24 : decode cX4_sides 24 = .ok (.ldc 113, 2) := by decide +kernel
theorem dX4_sides_26 : decode cX4_sides 26 = .ok (.ireturn, 1) := by decide +kernel
theorem dX4_sides_27 : decode cX4_sides 27 = .ok (.iload_n 1, 1) := by decide +kernel
theorem dX4_sides_28 : decode cX4_sides 28 = .ok (.ifCond .ne 10, 3) := by decide +kernel
theorem dX4_sides_31 : decode cX4_sides 31 = .ok (.aload_n 0, 1) := by decide +kernel
theorem dX4_sides_32 : decode cX4_sides 32 = .ok (.getfield 29, 3) := by decide +kernel
theorem dX4_sides_35 : decode cX4_sides 35 = .ok (.goto 7, 3) := by decide +kernel
theorem dX4_sides_38 : decode cX4_sides 38 = .ok (.aload_n 0, 1) := by decide +kernel
theorem dX4_sides_39 : decode cX4_sides 39 = .ok (.getfield 32, 3) := by decide +kernel
theorem dX4_sides_42 : decode cX4_sides 42 = .ok (.istore_n 3, 1) := by decide +kernel
theorem dX4_sides_43 : decode cX4_sides 43 = .ok (.aload_n 0, 1) := by decide +kernel
theorem dX4_sides_44 : decode cX4_sides 44 = .ok (.iload_n 1, 1) := by decide +kernel
theorem dX4_sides_45 : decode cX4_sides 45 = .ok (.ifCond .ne 7, 3) := by decide +kernel
theorem dX4_sides_48 : decode cX4_sides 48 = .ok (.iload_n 2, 1) := by decide +kernel
theorem dX4_sides_49 : decode cX4_sides 49 = .ok (.goto 7, 3) := by decide +kernel
theorem dX4_sides_52 : decode cX4_sides 52 = .ok (.aload_n 0, 1) := by decide +kernel
theorem dX4_sides_53 : decode cX4_sides 53 = .ok (.getfield 29, 3) := by decide +kernel
theorem dX4_sides_56 : decode cX4_sides 56 = .ok (.putfield 29, 3) := by decide +kernel
theorem dX4_sides_59 : decode cX4_sides 59 = .ok (.aload_n 0, 1) := by decide +kernel
theorem dX4_sides_60 : decode cX4_sides 60 = .ok (.iload_n 1, 1) := by decide +kernel
theorem dX4_sides_61 : decode cX4_sides 61 = .ok (.iconst 1, 1) := by decide +kernel
theorem dX4_sides_62 : decode cX4_sides 62 = .ok (.if_icmp .ne 7, 3) := by decide +kernel
theorem dX4_sides_65 : decode cX4_sides 65 = .ok (.iload_n 2, 1) := by decide +kernel
theorem dX4_sides_66 : decode cX4_sides 66 = .ok (.goto 7, 3) := by decide +kernel
theorem dX4_sides_69 : decode cX4_sides 69 = .ok (.aload_n 0, 1) := by decide +kernel
theorem dX4_sides_70 : decode cX4_sides 70 = .ok (.getfield 32, 3) := by decide +kernel
theorem dX4_sides_73 : decode cX4_sides 73 = .ok (.putfield 32, 3) := by decide +kernel
theorem dX4_sides_76 : decode cX4_sides 76 = .ok (.iload_n 3, 1) := by decide +kernel
theorem dX4_sides_77 : decode cX4_sides 77 = .ok (.ireturn, 1) := by decide +kernel
theorem dX4_signAt_0 : decode cX4_signAt 0 = .ok (.iload_n 1, 1) := by decide +kernel
theorem dX4_signAt_1 : decode cX4_signAt 1 = .ok (.ifCond .eq 11, 3) := by decide +kernel
theorem dX4_signAt_4 : decode cX4_signAt 4 = .ok (.iload_n 1, 1) := by decide +kernel
theorem dX4_signAt_5 : decode cX4_signAt 5 = .ok (.aload_n 0, 1) := by decide +kernel
theorem dX4_signAt_6 : decode cX4_signAt 6 = .ok (.getfield 26, 3) := by decide +kernel
theorem dX4_signAt_9 : decode cX4_signAt 9 = .ok (.if_icmp .le 8, 3) := by decide +kernel
theorem dX4_signAt_12 : decode cX4_signAt 12 = .ok (.bipush 27, 2) := by decide +kernel
theorem dX4_signAt_14 : decode cX4_signAt 14 = .ok (.goto 11, 3) := by decide +kernel
theorem dX4_signAt_17 : decode cX4_signAt 17 = .ok (.aload_n 0, 1) := by decide +kernel
theorem dX4_signAt_18 : decode cX4_signAt 18 = .ok (.getfield 100, 3) := by decide +kernel
theorem dX4_signAt_21 : decode cX4_signAt 21 = .ok (.iload_n 1, 1) := by decide +kernel
theorem dX4_signAt_22 : decode cX4_signAt 22 = .ok (.iconst 1, 1) := by decide +kernel
theorem dX4_signAt_23 : decode cX4_signAt 23 = .ok (.isub, 1) := by decide +kernel
theorem dX4_signAt_24 : decode cX4_signAt 24 = .ok (.iaload, 1) := by decide +kernel
theorem dX4_signAt_25 : decode cX4_signAt 25 = .ok (.ireturn, 1) := by decide +kernel
theorem dX4_stands_0 : decode cX4_stands 0 = .ok (.iload_n 2, 1) := by decide +kernel
theorem dX4_stands_1 : decode cX4_stands 1 = .ok (.aload_n 0, 1) := by decide +kernel
theorem dX4_stands_2 : decode cX4_stands 2 = .ok (.getfield 91, 3) := by decide +kernel
theorem dX4_stands_5 : decode cX4_stands 5 = .ok (.iload_n 1, 1) := by decide +kernel
theorem dX4_stands_6 : decode cX4_stands 6 = .ok (.iaload, 1) := by decide +kernel
theorem dX4_stands_7 : decode cX4_stands 7 = .ok (.iadd, 1) := by decide +kernel
theorem dX4_stands_8 : decode cX4_stands 8 = .ok (.aload_n 0, 1) := by decide +kernel
theorem dX4_stands_9 : decode cX4_stands 9 = .ok (.getfield 26, 3) := by decide +kernel
theorem dX4_stands_12 : decode cX4_stands 12 = .ok (.iconst 2, 1) := by decide +kernel
theorem dX4_stands_13 : decode cX4_stands 13 = .ok (.iadd, 1) := by decide +kernel
theorem dX4_stands_14 : decode cX4_stands 14 = .ok (.if_icmp .gt 7, 3) := by decide +kernel
theorem dX4_stands_17 : decode cX4_stands 17 = .ok (.iconst 1, 1) := by decide +kernel
theorem dX4_stands_18 : decode cX4_stands 18 = .ok (.goto 4, 3) := by decide +kernel
theorem dX4_stands_21 : decode cX4_stands 21 = .ok (.iconst 0, 1) := by decide +kernel
theorem dX4_stands_22 : decode cX4_stands 22 = .ok (.istore_n 3, 1) := by decide +kernel
theorem dX4_stands_23 : decode cX4_stands 23 = .ok (.iconst 0, 1) := by decide +kernel
theorem dX4_stands_24 : decode cX4_stands 24 = .ok (.istore 4, 2) := by decide +kernel
theorem dX4_stands_26 : decode cX4_stands 26 = .ok (.iload_n 3, 1) := by decide +kernel
theorem dX4_stands_27 : decode cX4_stands 27 = .ok (.ifCond .eq 49, 3) := by decide +kernel
theorem dX4_stands_30 : decode cX4_stands 30 = .ok (.iload 4, 2) := by decide +kernel
theorem dX4_stands_32 : decode cX4_stands 32 = .ok (.aload_n 0, 1) := by decide +kernel
theorem dX4_stands_33 : decode cX4_stands 33 = .ok (.getfield 91, 3) := by decide +kernel
theorem dX4_stands_36 : decode cX4_stands 36 = .ok (.iload_n 1, 1) := by decide +kernel
theorem dX4_stands_37 : decode cX4_stands 37 = .ok (.iaload, 1) := by decide +kernel
theorem dX4_stands_38 : decode cX4_stands 38 = .ok (.if_icmp .ge 38, 3) := by decide +kernel
theorem dX4_stands_41 : decode cX4_stands 41 = .ok (.aload_n 0, 1) := by decide +kernel
theorem dX4_stands_42 : decode cX4_stands 42 = .ok (.iload_n 2, 1) := by decide +kernel
theorem dX4_stands_43 : decode cX4_stands 43 = .ok (.iload 4, 2) := by decide +kernel
theorem dX4_stands_45 : decode cX4_stands 45 = .ok (.iadd, 1) := by decide +kernel
theorem dX4_stands_46 : decode cX4_stands 46 = .ok (.invokevirtual 201, 3) := by decide +kernel
theorem dX4_stands_49 : decode cX4_stands 49 = .ok (.aload_n 0, 1) := by decide +kernel
theorem dX4_stands_50 : decode cX4_stands 50 = .ok (.getfield 94, 3) := by decide +kernel
theorem dX4_stands_53 : decode cX4_stands 53 = .ok (.bipush 6, 2) := by decide +kernel
theorem dX4_stands_55 : decode cX4_stands 55 = .ok (.iload_n 1, 1) := by decide +kernel
theorem dX4_stands_56 : decode cX4_stands 56 = .ok (.imul, 1) := by decide +kernel
theorem dX4_stands_57 : decode cX4_stands 57 = .ok (.iload 4, 2) := by decide +kernel
theorem dX4_stands_59 : decode cX4_stands 59 = .ok (.iadd, 1) := by decide +kernel
theorem dX4_stands_60 : decode cX4_stands 60 = .ok (.iaload, 1) := by decide +kernel
theorem dX4_stands_61 : decode cX4_stands 61 = .ok (.if_icmp .ne 7, 3) := by decide +kernel
theorem dX4_stands_64 : decode cX4_stands 64 = .ok (.iconst 1, 1) := by decide +kernel
theorem dX4_stands_65 : decode cX4_stands 65 = .ok (.goto 4, 3) := by decide +kernel
theorem dX4_stands_68 : decode cX4_stands 68 = .ok (.iconst 0, 1) := by decide +kernel
theorem dX4_stands_69 : decode cX4_stands 69 = .ok (.istore_n 3, 1) := by decide +kernel
theorem dX4_stands_70 : decode cX4_stands 70 = .ok (.iinc 4 1, 3) := by decide +kernel
theorem dX4_stands_73 : decode cX4_stands 73 = .ok (.goto (-47), 3) := by decide +kernel
theorem dX4_stands_76 : decode cX4_stands 76 = .ok (.iload_n 3, 1) := by decide +kernel
theorem dX4_stands_77 : decode cX4_stands 77 = .ok (.ireturn, 1) := by decide +kernel
theorem dX4_greatest_0 : decode cX4_greatest 0 = .ok (.iconst 0, 1) := by decide +kernel
theorem dX4_greatest_1 : decode cX4_greatest 1 = .ok (.istore_n 2, 1) := by decide +kernel
theorem dX4_greatest_2 : decode cX4_greatest 2 = .ok (.iconst 0, 1) := by decide +kernel
theorem dX4_greatest_3 : decode cX4_greatest 3 = .ok (.istore_n 3, 1) := by decide +kernel
theorem dX4_greatest_4 : decode cX4_greatest 4 = .ok (.iload_n 3, 1) := by decide +kernel
theorem dX4_greatest_5 : decode cX4_greatest 5 = .ok (.aload_n 0, 1) := by decide +kernel
theorem dX4_greatest_6 : decode cX4_greatest 6 = .ok (.getfield 23, 3) := by decide +kernel
theorem dX4_greatest_9 : decode cX4_greatest 9 = .ok (.if_icmp .ge 80, 3) := by decide +kernel
theorem dX4_greatest_12 : decode cX4_greatest 12 = .ok (.iconst 0, 1) := by decide +kernel
theorem dX4_greatest_13 : decode cX4_greatest 13 = .ok (.istore 4, 2) := by decide +kernel
theorem dX4_greatest_15 : decode cX4_greatest 15 = .ok (.iload 4, 2) := by decide +kernel
theorem dX4_greatest_17 : decode cX4_greatest 17 = .ok (.aload_n 0, 1) := by decide +kernel
theorem dX4_greatest_18 : decode cX4_greatest 18 = .ok (.getfield 26, 3) := by decide +kernel
theorem dX4_greatest_21 : decode cX4_greatest 21 = .ok (.iconst 2, 1) := by decide +kernel
theorem dX4_greatest_22 : decode cX4_greatest 22 = .ok (.iadd, 1) := by decide +kernel
theorem dX4_greatest_23 : decode cX4_greatest 23 = .ok (.if_icmp .ge 60, 3) := by decide +kernel
theorem dX4_greatest_26 : decode cX4_greatest 26 = .ok (.iload_n 1, 1) := by decide +kernel
theorem dX4_greatest_27 : decode cX4_greatest 27 = .ok (.iconst 1, 1) := by decide +kernel
theorem dX4_greatest_28 : decode cX4_greatest 28 = .ok (.iadd, 1) := by decide +kernel
theorem dX4_greatest_29 : decode cX4_greatest 29 = .ok (.iload 4, 2) := by decide +kernel
theorem dX4_greatest_31 : decode cX4_greatest 31 = .ok (.isub, 1) := by decide +kernel
theorem dX4_greatest_32 : decode cX4_greatest 32 = .ok (.istore 5, 2) := by decide +kernel
theorem dX4_greatest_34 : decode cX4_greatest 34 = .ok (.iload 5, 2) := by decide +kernel
theorem dX4_greatest_36 : decode cX4_greatest 36 = .ok (.ifCond .lt 41, 3) := by decide +kernel
theorem dX4_greatest_39 : decode cX4_greatest 39 = .ok (.iload 5, 2) := by decide +kernel
theorem dX4_greatest_41 : decode cX4_greatest 41 = .ok (.aload_n 0, 1) := by decide +kernel
theorem dX4_greatest_42 : decode cX4_greatest 42 = .ok (.getfield 91, 3) := by decide +kernel
theorem dX4_greatest_45 : decode cX4_greatest 45 = .ok (.iload_n 3, 1) := by decide +kernel
theorem dX4_greatest_46 : decode cX4_greatest 46 = .ok (.iaload, 1) := by decide +kernel
theorem dX4_greatest_47 : decode cX4_greatest 47 = .ok (.if_icmp .gt 30, 3) := by decide +kernel
theorem dX4_greatest_50 : decode cX4_greatest 50 = .ok (.aload_n 0, 1) := by decide +kernel
theorem dX4_greatest_51 : decode cX4_greatest 51 = .ok (.iload_n 3, 1) := by decide +kernel
theorem dX4_greatest_52 : decode cX4_greatest 52 = .ok (.iload 4, 2) := by decide +kernel
theorem dX4_greatest_54 : decode cX4_greatest 54 = .ok (.invokevirtual 204, 3) := by decide +kernel
theorem dX4_greatest_57 : decode cX4_greatest 57 = .ok (.ifCond .eq 20, 3) := by decide +kernel
theorem dX4_greatest_60 : decode cX4_greatest 60 = .ok (.iload_n 2, 1) := by decide +kernel
theorem dX4_greatest_61 : decode cX4_greatest 61 = .ok (.aload_n 0, 1) := by decide +kernel
theorem dX4_greatest_62 : decode cX4_greatest 62 = .ok (.getfield 97, 3) := by decide +kernel
theorem dX4_greatest_65 : decode cX4_greatest 65 = .ok (.bipush 7, 2) := by decide +kernel
theorem dX4_greatest_67 : decode cX4_greatest 67 = .ok (.iload_n 3, 1) := by decide +kernel
theorem dX4_greatest_68 : decode cX4_greatest 68 = .ok (.imul, 1) := by decide +kernel
theorem dX4_greatest_69 : decode cX4_greatest 69 = .ok (.iload 5, 2) := by decide +kernel
theorem dX4_greatest_71 : decode cX4_greatest 71 = .ok (.iadd, 1) := by decide +kernel
theorem dX4_greatest_72 : decode cX4_greatest 72 = .ok (.iaload, 1) := by decide +kernel
theorem dX4_greatest_73 : decode cX4_greatest 73 = .ok (.invokestatic 156, 3) := by decide +kernel
theorem dX4_greatest_76 : decode cX4_greatest 76 = .ok (.istore_n 2, 1) := by decide +kernel
theorem dX4_greatest_77 : decode cX4_greatest 77 = .ok (.iinc 4 1, 3) := by decide +kernel
theorem dX4_greatest_80 : decode cX4_greatest 80 = .ok (.goto (-65), 3) := by decide +kernel
theorem dX4_greatest_83 : decode cX4_greatest 83 = .ok (.iinc 3 1, 3) := by decide +kernel
theorem dX4_greatest_86 : decode cX4_greatest 86 = .ok (.goto (-82), 3) := by decide +kernel
theorem dX4_greatest_89 : decode cX4_greatest 89 = .ok (.iload_n 2, 1) := by decide +kernel
theorem dX4_greatest_90 : decode cX4_greatest 90 = .ok (.ireturn, 1) := by decide +kernel
theorem dX4_cuts_0 : decode cX4_cuts 0 = .ok (.aload_n 0, 1) := by decide +kernel
theorem dX4_cuts_1 : decode cX4_cuts 1 = .ok (.iconst 0, 1) := by decide +kernel
theorem dX4_cuts_2 : decode cX4_cuts 2 = .ok (.putfield 1, 3) := by decide +kernel
theorem dX4_cuts_5 : decode cX4_cuts 5 = .ok (.aload_n 0, 1) := by decide +kernel
theorem dX4_cuts_6 : decode cX4_cuts 6 = .ok (.iconst 0, 1) := by decide +kernel
theorem dX4_cuts_7 : decode cX4_cuts 7 = .ok (.putfield 35, 3) := by decide +kernel
theorem dX4_cuts_10 : decode cX4_cuts 10 = .ok (.aload_n 0, 1) := by decide +kernel
theorem dX4_cuts_11 : decode cX4_cuts 11 = .ok (.getfield 29, 3) := by decide +kernel
theorem dX4_cuts_14 : decode cX4_cuts 14 = .ok (.istore_n 1, 1) := by decide +kernel
theorem dX4_cuts_15 : decode cX4_cuts 15 = .ok (.iload_n 1, 1) := by decide +kernel
theorem dX4_cuts_16 : decode cX4_cuts 16 = .ok (.aload_n 0, 1) := by decide +kernel
theorem dX4_cuts_17 : decode cX4_cuts 17 = .ok (.getfield 26, 3) := by decide +kernel
theorem dX4_cuts_20 : decode cX4_cuts 20 = .ok (.aload_n 0, 1) := by decide +kernel
theorem dX4_cuts_21 : decode cX4_cuts 21 = .ok (.getfield 32, 3) := by decide +kernel
theorem dX4_cuts_24 : decode cX4_cuts 24 = .ok (.isub, 1) := by decide +kernel
theorem dX4_cuts_25 : decode cX4_cuts 25 = .ok (.if_icmp .gt 40, 3) := by decide +kernel
theorem dX4_cuts_28 : decode cX4_cuts 28 = .ok (.aload_n 0, 1) := by decide +kernel
theorem dX4_cuts_29 : decode cX4_cuts 29 = .ok (.iload_n 1, 1) := by decide +kernel
theorem dX4_cuts_30 : decode cX4_cuts 30 = .ok (.invokevirtual 207, 3) := by decide +kernel
theorem dX4_cuts_33 : decode cX4_cuts 33 = .ok (.iconst 2, 1) := by decide +kernel
theorem dX4_cuts_34 : decode cX4_cuts 34 = .ok (.irem, 1) := by decide +kernel
theorem dX4_cuts_35 : decode cX4_cuts 35 = .ok (.iconst 1, 1) := by decide +kernel
theorem dX4_cuts_36 : decode cX4_cuts 36 = .ok (.if_icmp .ne 23, 3) := by decide +kernel
theorem dX4_cuts_39 : decode cX4_cuts 39 = .ok (.aload_n 0, 1) := by decide +kernel
theorem dX4_cuts_40 : decode cX4_cuts 40 = .ok (.getfield 103, 3) := by decide +kernel
theorem dX4_cuts_43 : decode cX4_cuts 43 = .ok (.aload_n 0, 1) := by decide +kernel
theorem dX4_cuts_44 : decode cX4_cuts 44 = .ok (.getfield 35, 3) := by decide +kernel
theorem dX4_cuts_47 : decode cX4_cuts 47 = .ok (.iload_n 1, 1) := by decide +kernel
theorem dX4_cuts_48 : decode cX4_cuts 48 = .ok (.iastore, 1) := by decide +kernel
theorem dX4_cuts_49 : decode cX4_cuts 49 = .ok (.aload_n 0, 1) := by decide +kernel
theorem dX4_cuts_50 : decode cX4_cuts 50 = .ok (.dup, 1) := by decide +kernel
theorem dX4_cuts_51 : decode cX4_cuts 51 = .ok (.getfield 35, 3) := by decide +kernel
theorem dX4_cuts_54 : decode cX4_cuts 54 = .ok (.iconst 1, 1) := by decide +kernel
theorem dX4_cuts_55 : decode cX4_cuts 55 = .ok (.iadd, 1) := by decide +kernel
theorem dX4_cuts_56 : decode cX4_cuts 56 = .ok (.putfield 35, 3) := by decide +kernel
theorem dX4_cuts_59 : decode cX4_cuts 59 = .ok (.iinc 1 1, 3) := by decide +kernel
theorem dX4_cuts_62 : decode cX4_cuts 62 = .ok (.goto (-47), 3) := by decide +kernel
theorem dX4_cuts_65 : decode cX4_cuts 65 = .ok (.aload_n 0, 1) := by decide +kernel
theorem dX4_cuts_66 : decode cX4_cuts 66 = .ok (.getfield 35, 3) := by decide +kernel
theorem dX4_cuts_69 : decode cX4_cuts 69 = .ok (.ireturn, 1) := by decide +kernel
theorem dX4_cut_0 : decode cX4_cut 0 = .ok (.aload_n 0, 1) := by decide +kernel
theorem dX4_cut_1 : decode cX4_cut 1 = .ok (.iconst 0, 1) := by decide +kernel
theorem dX4_cut_2 : decode cX4_cut 2 = .ok (.putfield 1, 3) := by decide +kernel
theorem dX4_cut_5 : decode cX4_cut 5 = .ok (.iload_n 1, 1) := by decide +kernel
theorem dX4_cut_6 : decode cX4_cut 6 = .ok (.iconst 0, 1) := by decide +kernel
theorem dX4_cut_7 : decode cX4_cut 7 = .ok (.aload_n 0, 1) := by decide +kernel
theorem dX4_cut_8 : decode cX4_cut 8 = .ok (.getfield 35, 3) := by decide +kernel
theorem dX4_cut_11 : decode cX4_cut 11 = .ok (.iconst 1, 1) := by decide +kernel
theorem dX4_cut_12 : decode cX4_cut 12 = .ok (.isub, 1) := by decide +kernel
theorem dX4_cut_13 : decode cX4_cut 13 = .ok (.invokestatic 109, 3) := by decide +kernel
theorem dX4_cut_16 : decode cX4_cut 16 = .ok (.ifCond .ne 10, 3) := by decide +kernel
theorem dX4_cut_19 : decode cX4_cut 19 = .ok (.aload_n 0, 1) := by decide +kernel
theorem dX4_cut_20 : decode cX4_cut 20 = .ok (.iconst 1, 1) := by decide +kernel
theorem dX4_cut_21 : decode cX4_cut 21 = .ok (.putfield 1, 3) := by decide +kernel
theorem dX4_cut_24 : decode cX4_cut 24 = .ok (.iconst 0, 1) := by decide +kernel
theorem dX4_cut_25 : decode cX4_cut 25 = .ok (.ireturn, 1) := by decide +kernel
theorem dX4_cut_26 : decode cX4_cut 26 = .ok (.aload_n 0, 1) := by decide +kernel
theorem dX4_cut_27 : decode cX4_cut 27 = .ok (.getfield 103, 3) := by decide +kernel
theorem dX4_cut_30 : decode cX4_cut 30 = .ok (.iload_n 1, 1) := by decide +kernel
theorem dX4_cut_31 : decode cX4_cut 31 = .ok (.iaload, 1) := by decide +kernel
theorem dX4_cut_32 : decode cX4_cut 32 = .ok (.ireturn, 1) := by decide +kernel
theorem dX4_told_0 : decode cX4_told 0 = .ok (.aload_n 0, 1) := by decide +kernel
theorem dX4_told_1 : decode cX4_told 1 = .ok (.iconst 0, 1) := by decide +kernel
theorem dX4_told_2 : decode cX4_told 2 = .ok (.putfield 1, 3) := by decide +kernel
theorem dX4_told_5 : decode cX4_told 5 = .ok (.iconst 0, 1) := by decide +kernel
theorem dX4_told_6 : decode cX4_told 6 = .ok (.istore_n 2, 1) := by decide +kernel
theorem dX4_told_7 : decode cX4_told 7 = .ok (.iload_n 1, 1) := by decide +kernel
theorem dX4_told_8 : decode cX4_told 8 = .ok (.tableswitch 148 0 7 #[48, 53, 80, 85, 90, 95, 100, 135], 48) := by decide +kernel
theorem dX4_told_56 : decode cX4_told 56 = .ok (.aload_n 0, 1) := by decide +kernel
theorem dX4_told_57 : decode cX4_told 57 = .ok (.getfield 7, 3) := by decide +kernel
theorem dX4_told_60 : decode cX4_told 60 = .ok (.ireturn, 1) := by decide +kernel
theorem dX4_told_61 : decode cX4_told 61 = .ok (.iconst 0, 1) := by decide +kernel
theorem dX4_told_62 : decode cX4_told 62 = .ok (.istore_n 3, 1) := by decide +kernel
theorem dX4_told_63 : decode cX4_told 63 = .ok (.iload_n 3, 1) := by decide +kernel
theorem dX4_told_64 : decode cX4_told 64 = .ok (.aload_n 0, 1) := by decide +kernel
theorem dX4_told_65 : decode cX4_told 65 = .ok (.getfield 7, 3) := by decide +kernel
theorem dX4_told_68 : decode cX4_told 68 = .ok (.if_icmp .ge 18, 3) := by decide +kernel
theorem dX4_told_71 : decode cX4_told 71 = .ok (.iload_n 2, 1) := by decide +kernel
theorem dX4_told_72 : decode cX4_told 72 = .ok (.aload_n 0, 1) := by decide +kernel
theorem dX4_told_73 : decode cX4_told 73 = .ok (.iload_n 3, 1) := by decide +kernel
theorem dX4_told_74 : decode cX4_told 74 = .ok (.iconst 0, 1) := by decide +kernel
theorem dX4_told_75 : decode cX4_told 75 = .ok (.invokevirtual 128, 3) := by decide +kernel
theorem dX4_told_78 : decode cX4_told 78 = .ok (.iadd, 1) := by decide +kernel
theorem dX4_told_79 : decode cX4_told 79 = .ok (.istore_n 2, 1) := by decide +kernel
theorem dX4_told_80 : decode cX4_told 80 = .ok (.iinc 3 1, 3) := by decide +kernel
theorem dX4_told_83 : decode cX4_told 83 = .ok (.goto (-20), 3) := by decide +kernel
theorem dX4_told_86 : decode cX4_told 86 = .ok (.iload_n 2, 1) := by decide +kernel
theorem dX4_told_87 : decode cX4_told 87 = .ok (.ireturn, 1) := by decide +kernel
theorem dX4_told_88 : decode cX4_told 88 = .ok (.aload_n 0, 1) := by decide +kernel
theorem dX4_told_89 : decode cX4_told 89 = .ok (.getfield 10, 3) := by decide +kernel
theorem dX4_told_92 : decode cX4_told 92 = .ok (.ireturn, 1) := by decide +kernel
theorem dX4_told_93 : decode cX4_told 93 = .ok (.aload_n 0, 1) := by decide +kernel
theorem dX4_told_94 : decode cX4_told 94 = .ok (.getfield 13, 3) := by decide +kernel
theorem dX4_told_97 : decode cX4_told 97 = .ok (.ireturn, 1) := by decide +kernel
theorem dX4_told_98 : decode cX4_told 98 = .ok (.aload_n 0, 1) := by decide +kernel
theorem dX4_told_99 : decode cX4_told 99 = .ok (.getfield 23, 3) := by decide +kernel
theorem dX4_told_102 : decode cX4_told 102 = .ok (.ireturn, 1) := by decide +kernel
theorem dX4_told_103 : decode cX4_told 103 = .ok (.aload_n 0, 1) := by decide +kernel
theorem dX4_told_104 : decode cX4_told 104 = .ok (.getfield 26, 3) := by decide +kernel
theorem dX4_told_107 : decode cX4_told 107 = .ok (.ireturn, 1) := by decide +kernel
theorem dX4_told_108 : decode cX4_told 108 = .ok (.iconst 0, 1) := by decide +kernel
theorem dX4_told_109 : decode cX4_told 109 = .ok (.istore_n 3, 1) := by decide +kernel
theorem dX4_told_110 : decode cX4_told 110 = .ok (.iload_n 3, 1) := by decide +kernel
theorem dX4_told_111 : decode cX4_told 111 = .ok (.aload_n 0, 1) := by decide +kernel
theorem dX4_told_112 : decode cX4_told 112 = .ok (.getfield 7, 3) := by decide +kernel
theorem dX4_told_115 : decode cX4_told 115 = .ok (.if_icmp .ge 26, 3) := by decide +kernel
theorem dX4_told_118 : decode cX4_told 118 = .ok (.iload_n 2, 1) := by decide +kernel
theorem dX4_told_119 : decode cX4_told 119 = .ok (.aload_n 0, 1) := by decide +kernel
theorem dX4_told_120 : decode cX4_told 120 = .ok (.getfield 61, 3) := by decide +kernel
theorem dX4_told_123 : decode cX4_told 123 = .ok (.iload_n 3, 1) := by decide +kernel
theorem dX4_told_124 : decode cX4_told 124 = .ok (.iaload, 1) := by decide +kernel
theorem dX4_told_125 : decode cX4_told 125 = .ok (.ifCond .le 7, 3) := by decide +kernel
theorem dX4_told_128 : decode cX4_told 128 = .ok (.iconst 1, 1) := by decide +kernel
theorem dX4_told_129 : decode cX4_told 129 = .ok (.goto 4, 3) := by decide +kernel
theorem dX4_told_132 : decode cX4_told 132 = .ok (.iconst 0, 1) := by decide +kernel
theorem dX4_told_133 : decode cX4_told 133 = .ok (.iadd, 1) := by decide +kernel
theorem dX4_told_134 : decode cX4_told 134 = .ok (.istore_n 2, 1) := by decide +kernel
theorem dX4_told_135 : decode cX4_told 135 = .ok (.iinc 3 1, 3) := by decide +kernel
theorem dX4_told_138 : decode cX4_told 138 = .ok (.goto (-28), 3) := by decide +kernel
theorem dX4_told_141 : decode cX4_told 141 = .ok (.iload_n 2, 1) := by decide +kernel
theorem dX4_told_142 : decode cX4_told 142 = .ok (.ireturn, 1) := by decide +kernel
theorem dX4_told_143 : decode cX4_told 143 = .ok (.aload_n 0, 1) := by decide +kernel
theorem dX4_told_144 : decode cX4_told 144 = .ok (.getfield 19, 3) := by decide +kernel
theorem dX4_told_147 : decode cX4_told 147 = .ok (.ifCond .eq 7, 3) := by decide +kernel
theorem dX4_told_150 : decode cX4_told 150 = .ok (.iconst 1, 1) := by decide +kernel
theorem dX4_told_151 : decode cX4_told 151 = .ok (.goto 4, 3) := by decide +kernel
theorem dX4_told_154 : decode cX4_told 154 = .ok (.iconst 0, 1) := by decide +kernel
theorem dX4_told_155 : decode cX4_told 155 = .ok (.ireturn, 1) := by decide +kernel
theorem dX4_told_156 : decode cX4_told 156 = .ok (.ldc 113, 2) := by decide +kernel
theorem dX4_told_158 : decode cX4_told 158 = .ok (.ireturn, 1) := by decide +kernel
theorem dX4_clear_0 : decode cX4_clear 0 = .ok (.aload_n 0, 1) := by decide +kernel
theorem dX4_clear_1 : decode cX4_clear 1 = .ok (.iconst 0, 1) := by decide +kernel
theorem dX4_clear_2 : decode cX4_clear 2 = .ok (.putfield 1, 3) := by decide +kernel
theorem dX4_clear_5 : decode cX4_clear 5 = .ok (.aload_n 0, 1) := by decide +kernel
theorem dX4_clear_6 : decode cX4_clear 6 = .ok (.getfield 7, 3) := by decide +kernel
theorem dX4_clear_9 : decode cX4_clear 9 = .ok (.istore_n 1, 1) := by decide +kernel
theorem dX4_clear_10 : decode cX4_clear 10 = .ok (.aload_n 0, 1) := by decide +kernel
theorem dX4_clear_11 : decode cX4_clear 11 = .ok (.invokevirtual 106, 3) := by decide +kernel
theorem dX4_clear_14 : decode cX4_clear 14 = .ok (.iload_n 1, 1) := by decide +kernel
theorem dX4_clear_15 : decode cX4_clear 15 = .ok (.ireturn, 1) := by decide +kernel
end
section
theorem dL_hyphen_0 : decode cL_hyphen 0 = .ok (.aload 4, 2) := by decide +kernel
theorem dL_hyphen_2 : decode cL_hyphen 2 = .ok (.iconst 0, 1) := by decide +kernel
theorem dL_hyphen_3 : decode cL_hyphen 3 = .ok (.aload_n 0, 1) := by decide +kernel
theorem dL_hyphen_4 : decode cL_hyphen 4 = .ok (.iload_n 1, 1) := by decide +kernel
theorem dL_hyphen_5 : decode cL_hyphen 5 = .ok (.iload_n 2, 1) := by decide +kernel
theorem dL_hyphen_6 : decode cL_hyphen 6 = .ok (.iload_n 3, 1) := by decide +kernel
theorem dL_hyphen_7 : decode cL_hyphen 7 = .ok (.invokevirtual 7, 3) := by decide +kernel
theorem dL_hyphen_10 : decode cL_hyphen 10 = .ok (.i2l, 1) := by decide +kernel
theorem dL_hyphen_11 : decode cL_hyphen 11 = .ok (.lastore, 1) := by decide +kernel
theorem dL_hyphen_12 : decode cL_hyphen 12 = .ok (.goto 7, 3) := by decide +kernel
theorem dL_hyphen_15 : decode cL_hyphen 15 = .ok (.astore 5, 2) := by decide +kernel
theorem dL_hyphen_17 : decode cL_hyphen 17 = .ok (.iconst 1, 1) := by decide +kernel
theorem dL_hyphen_18 : decode cL_hyphen 18 = .ok (.ireturn, 1) := by decide +kernel
theorem dL_hyphen_19 : decode cL_hyphen 19 = .ok (.iconst 0, 1) := by decide +kernel
theorem dL_hyphen_20 : decode cL_hyphen 20 = .ok (.ireturn, 1) := by decide +kernel
theorem dL_strain_0 : decode cL_strain 0 = .ok (.aload_n 1, 1) := by decide +kernel
theorem dL_strain_1 : decode cL_strain 1 = .ok (.iconst 0, 1) := by decide +kernel
theorem dL_strain_2 : decode cL_strain 2 = .ok (.aload_n 0, 1) := by decide +kernel
theorem dL_strain_3 : decode cL_strain 3 = .ok (.invokevirtual 15, 3) := by decide +kernel
theorem dL_strain_6 : decode cL_strain 6 = .ok (.i2l, 1) := by decide +kernel
theorem dL_strain_7 : decode cL_strain 7 = .ok (.lastore, 1) := by decide +kernel
theorem dL_strain_8 : decode cL_strain 8 = .ok (.goto 6, 3) := by decide +kernel
theorem dL_strain_11 : decode cL_strain 11 = .ok (.astore_n 2, 1) := by decide +kernel
theorem dL_strain_12 : decode cL_strain 12 = .ok (.iconst 1, 1) := by decide +kernel
theorem dL_strain_13 : decode cL_strain 13 = .ok (.ireturn, 1) := by decide +kernel
theorem dL_strain_14 : decode cL_strain 14 = .ok (.iconst 0, 1) := by decide +kernel
theorem dL_strain_15 : decode cL_strain 15 = .ok (.ireturn, 1) := by decide +kernel
theorem dL_cut_0 : decode cL_cut 0 = .ok (.aload_n 2, 1) := by decide +kernel
theorem dL_cut_1 : decode cL_cut 1 = .ok (.iconst 0, 1) := by decide +kernel
theorem dL_cut_2 : decode cL_cut 2 = .ok (.aload_n 0, 1) := by decide +kernel
theorem dL_cut_3 : decode cL_cut 3 = .ok (.iload_n 1, 1) := by decide +kernel
theorem dL_cut_4 : decode cL_cut 4 = .ok (.invokevirtual 21, 3) := by decide +kernel
theorem dL_cut_7 : decode cL_cut 7 = .ok (.i2l, 1) := by decide +kernel
theorem dL_cut_8 : decode cL_cut 8 = .ok (.lastore, 1) := by decide +kernel
theorem dL_cut_9 : decode cL_cut 9 = .ok (.goto 6, 3) := by decide +kernel
theorem dL_cut_12 : decode cL_cut 12 = .ok (.astore_n 3, 1) := by decide +kernel
theorem dL_cut_13 : decode cL_cut 13 = .ok (.iconst 1, 1) := by decide +kernel
theorem dL_cut_14 : decode cL_cut 14 = .ok (.ireturn, 1) := by decide +kernel
theorem dL_cut_15 : decode cL_cut 15 = .ok (.iconst 0, 1) := by decide +kernel
theorem dL_cut_16 : decode cL_cut 16 = .ok (.ireturn, 1) := by decide +kernel
theorem dL_law_0 : decode cL_law 0 = .ok (.new 8, 3) := by decide +kernel
theorem dL_law_3 : decode cL_law 3 = .ok (.dup, 1) := by decide +kernel
theorem dL_law_4 : decode cL_law 4 = .ok (.invokespecial 25, 3) := by decide +kernel
theorem dL_law_7 : decode cL_law 7 = .ok (.astore_n 1, 1) := by decide +kernel
theorem dL_law_8 : decode cL_law 8 = .ok (.new 26, 3) := by decide +kernel
theorem dL_law_11 : decode cL_law 11 = .ok (.dup, 1) := by decide +kernel
theorem dL_law_12 : decode cL_law 12 = .ok (.invokespecial 28, 3) := by decide +kernel
theorem dL_law_15 : decode cL_law 15 = .ok (.astore_n 2, 1) := by decide +kernel
theorem dL_law_16 : decode cL_law 16 = .ok (.iconst 1, 1) := by decide +kernel
theorem dL_law_17 : decode cL_law 17 = .ok (.newarray .long, 2) := by decide +kernel
theorem dL_law_19 : decode cL_law 19 = .ok (.astore_n 3, 1) := by decide +kernel
theorem dL_law_20 : decode cL_law 20 = .ok (.iconst 0, 1) := by decide +kernel
theorem dL_law_21 : decode cL_law 21 = .ok (.istore 4, 2) := by decide +kernel
theorem dL_law_23 : decode cL_law 23 = .ok (.iload 4, 2) := by decide +kernel
theorem dL_law_25 : decode cL_law 25 = .ok (.aload_n 0, 1) := by decide +kernel
theorem dL_law_26 : decode cL_law 26 = .ok (.arraylength, 1) := by decide +kernel
theorem dL_law_27 : decode cL_law 27 = .ok (.bipush 6, 2) := by decide +kernel
theorem dL_law_29 : decode cL_law 29 = .ok (.isub, 1) := by decide +kernel
theorem dL_law_30 : decode cL_law 30 = .ok (.if_icmp .gt 1245, 3) := by decide +kernel
theorem dL_law_33 : decode cL_law 33 = .ok (.aload_n 0, 1) := by decide +kernel
theorem dL_law_34 : decode cL_law 34 = .ok (.iload 4, 2) := by decide +kernel
theorem dL_law_36 : decode cL_law 36 = .ok (.iaload, 1) := by decide +kernel
theorem dL_law_37 : decode cL_law 37 = .ok (.bipush 31, 2) := by decide +kernel
theorem dL_law_39 : decode cL_law 39 = .ok (.iand, 1) := by decide +kernel
theorem dL_law_40 : decode cL_law 40 = .ok (.tableswitch 1229 0 27 #[128, 193, 282, 319, 356, 393, 430, 467, 520, 545, 558, 595, 644, 681, 761, 810, 854, 867, 904, 929, 954, 991, 1060, 1085, 1122, 1135, 1191, 1216], 128) := by decide +kernel
theorem dL_law_168 : decode cL_law 168 = .ok (.aload_n 1, 1) := by decide +kernel
theorem dL_law_169 : decode cL_law 169 = .ok (.aload_n 0, 1) := by decide +kernel
theorem dL_law_170 : decode cL_law 170 = .ok (.iload 4, 2) := by decide +kernel
theorem dL_law_172 : decode cL_law 172 = .ok (.iconst 1, 1) := by decide +kernel
theorem dL_law_173 : decode cL_law 173 = .ok (.iadd, 1) := by decide +kernel
theorem dL_law_174 : decode cL_law 174 = .ok (.iaload, 1) := by decide +kernel
theorem dL_law_175 : decode cL_law 175 = .ok (.aload_n 0, 1) := by decide +kernel
theorem dL_law_176 : decode cL_law 176 = .ok (.iload 4, 2) := by decide +kernel
theorem dL_law_178 : decode cL_law 178 = .ok (.iconst 2, 1) := by decide +kernel
theorem dL_law_179 : decode cL_law 179 = .ok (.iadd, 1) := by decide +kernel
theorem dL_law_180 : decode cL_law 180 = .ok (.iaload, 1) := by decide +kernel
theorem dL_law_181 : decode cL_law 181 = .ok (.aload_n 0, 1) := by decide +kernel
theorem dL_law_182 : decode cL_law 182 = .ok (.iload 4, 2) := by decide +kernel
theorem dL_law_184 : decode cL_law 184 = .ok (.iconst 3, 1) := by decide +kernel
theorem dL_law_185 : decode cL_law 185 = .ok (.iadd, 1) := by decide +kernel
theorem dL_law_186 : decode cL_law 186 = .ok (.iaload, 1) := by decide +kernel
theorem dL_law_187 : decode cL_law 187 = .ok (.ifCond .eq 7, 3) := by decide +kernel
theorem dL_law_190 : decode cL_law 190 = .ok (.iconst 1, 1) := by decide +kernel
theorem dL_law_191 : decode cL_law 191 = .ok (.goto 4, 3) := by decide +kernel
theorem dL_law_194 : decode cL_law 194 = .ok (.iconst 0, 1) := by decide +kernel
theorem dL_law_195 : decode cL_law 195 = .ok (.invokevirtual 29, 3) := by decide +kernel
theorem dL_law_198 : decode cL_law 198 = .ok (.aload_n 2, 1) := by decide +kernel
theorem dL_law_199 : decode cL_law 199 = .ok (.aload_n 0, 1) := by decide +kernel
theorem dL_law_200 : decode cL_law 200 = .ok (.iload 4, 2) := by decide +kernel
theorem dL_law_202 : decode cL_law 202 = .ok (.iconst 1, 1) := by decide +kernel
theorem dL_law_203 : decode cL_law 203 = .ok (.iadd, 1) := by decide +kernel
theorem dL_law_204 : decode cL_law 204 = .ok (.iaload, 1) := by decide +kernel
theorem dL_law_205 : decode cL_law 205 = .ok (.aload_n 0, 1) := by decide +kernel
theorem dL_law_206 : decode cL_law 206 = .ok (.iload 4, 2) := by decide +kernel
theorem dL_law_208 : decode cL_law 208 = .ok (.iconst 2, 1) := by decide +kernel
theorem dL_law_209 : decode cL_law 209 = .ok (.iadd, 1) := by decide +kernel
theorem dL_law_210 : decode cL_law 210 = .ok (.iaload, 1) := by decide +kernel
theorem dL_law_211 : decode cL_law 211 = .ok (.aload_n 0, 1) := by decide +kernel
theorem dL_law_212 : decode cL_law 212 = .ok (.iload 4, 2) := by decide +kernel
theorem dL_law_214 : decode cL_law 214 = .ok (.iconst 3, 1) := by decide +kernel
theorem dL_law_215 : decode cL_law 215 = .ok (.iadd, 1) := by decide +kernel
theorem dL_law_216 : decode cL_law 216 = .ok (.iaload, 1) := by decide +kernel
theorem dL_law_217 : decode cL_law 217 = .ok (.ifCond .eq 7, 3) := by decide +kernel
theorem dL_law_220 : decode cL_law 220 = .ok (.iconst 1, 1) := by decide +kernel
theorem dL_law_221 : decode cL_law 221 = .ok (.goto 4, 3) := by decide +kernel
theorem dL_law_224 : decode cL_law 224 = .ok (.iconst 0, 1) := by decide +kernel
theorem dL_law_225 : decode cL_law 225 = .ok (.invokevirtual 33, 3) := by decide +kernel
theorem dL_law_228 : decode cL_law 228 = .ok (.if_icmp .eq 1041, 3) := by decide +kernel
theorem dL_law_231 : decode cL_law 231 = .ok (.iconst 0, 1) := by decide +kernel
theorem dL_law_232 : decode cL_law 232 = .ok (.ireturn, 1) := by decide +kernel
theorem dL_law_233 : decode cL_law 233 = .ok (.aload_n 1, 1) := by decide +kernel
theorem dL_law_234 : decode cL_law 234 = .ok (.aload_n 0, 1) := by decide +kernel
theorem dL_law_235 : decode cL_law 235 = .ok (.iload 4, 2) := by decide +kernel
theorem dL_law_237 : decode cL_law 237 = .ok (.iconst 1, 1) := by decide +kernel
theorem dL_law_238 : decode cL_law 238 = .ok (.iadd, 1) := by decide +kernel
theorem dL_law_239 : decode cL_law 239 = .ok (.iaload, 1) := by decide +kernel
theorem dL_law_240 : decode cL_law 240 = .ok (.aload_n 0, 1) := by decide +kernel
theorem dL_law_241 : decode cL_law 241 = .ok (.iload 4, 2) := by decide +kernel
theorem dL_law_243 : decode cL_law 243 = .ok (.iconst 2, 1) := by decide +kernel
theorem dL_law_244 : decode cL_law 244 = .ok (.iadd, 1) := by decide +kernel
theorem dL_law_245 : decode cL_law 245 = .ok (.iaload, 1) := by decide +kernel
theorem dL_law_246 : decode cL_law 246 = .ok (.aload_n 0, 1) := by decide +kernel
theorem dL_law_247 : decode cL_law 247 = .ok (.iload 4, 2) := by decide +kernel
theorem dL_law_249 : decode cL_law 249 = .ok (.iconst 3, 1) := by decide +kernel
theorem dL_law_250 : decode cL_law 250 = .ok (.iadd, 1) := by decide +kernel
theorem dL_law_251 : decode cL_law 251 = .ok (.iaload, 1) := by decide +kernel
theorem dL_law_252 : decode cL_law 252 = .ok (.aload_n 0, 1) := by decide +kernel
theorem dL_law_253 : decode cL_law 253 = .ok (.iload 4, 2) := by decide +kernel
theorem dL_law_255 : decode cL_law 255 = .ok (.iconst 4, 1) := by decide +kernel
theorem dL_law_256 : decode cL_law 256 = .ok (.iadd, 1) := by decide +kernel
theorem dL_law_257 : decode cL_law 257 = .ok (.iaload, 1) := by decide +kernel
theorem dL_law_258 : decode cL_law 258 = .ok (.aload_n 0, 1) := by decide +kernel
theorem dL_law_259 : decode cL_law 259 = .ok (.iload 4, 2) := by decide +kernel
theorem dL_law_261 : decode cL_law 261 = .ok (.iconst 5, 1) := by decide +kernel
theorem dL_law_262 : decode cL_law 262 = .ok (.iadd, 1) := by decide +kernel
theorem dL_law_263 : decode cL_law 263 = .ok (.iaload, 1) := by decide +kernel
theorem dL_law_264 : decode cL_law 264 = .ok (.ifCond .eq 7, 3) := by decide +kernel
theorem dL_law_267 : decode cL_law 267 = .ok (.iconst 1, 1) := by decide +kernel
theorem dL_law_268 : decode cL_law 268 = .ok (.goto 4, 3) := by decide +kernel
theorem dL_law_271 : decode cL_law 271 = .ok (.iconst 0, 1) := by decide +kernel
theorem dL_law_272 : decode cL_law 272 = .ok (.invokevirtual 34, 3) := by decide +kernel
theorem dL_law_275 : decode cL_law 275 = .ok (.aload_n 2, 1) := by decide +kernel
theorem dL_law_276 : decode cL_law 276 = .ok (.aload_n 0, 1) := by decide +kernel
theorem dL_law_277 : decode cL_law 277 = .ok (.iload 4, 2) := by decide +kernel
theorem dL_law_279 : decode cL_law 279 = .ok (.iconst 1, 1) := by decide +kernel
theorem dL_law_280 : decode cL_law 280 = .ok (.iadd, 1) := by decide +kernel
theorem dL_law_281 : decode cL_law 281 = .ok (.iaload, 1) := by decide +kernel
theorem dL_law_282 : decode cL_law 282 = .ok (.aload_n 0, 1) := by decide +kernel
theorem dL_law_283 : decode cL_law 283 = .ok (.iload 4, 2) := by decide +kernel
theorem dL_law_285 : decode cL_law 285 = .ok (.iconst 2, 1) := by decide +kernel
theorem dL_law_286 : decode cL_law 286 = .ok (.iadd, 1) := by decide +kernel
theorem dL_law_287 : decode cL_law 287 = .ok (.iaload, 1) := by decide +kernel
theorem dL_law_288 : decode cL_law 288 = .ok (.aload_n 0, 1) := by decide +kernel
theorem dL_law_289 : decode cL_law 289 = .ok (.iload 4, 2) := by decide +kernel
theorem dL_law_291 : decode cL_law 291 = .ok (.iconst 3, 1) := by decide +kernel
theorem dL_law_292 : decode cL_law 292 = .ok (.iadd, 1) := by decide +kernel
theorem dL_law_293 : decode cL_law 293 = .ok (.iaload, 1) := by decide +kernel
theorem dL_law_294 : decode cL_law 294 = .ok (.aload_n 0, 1) := by decide +kernel
theorem dL_law_295 : decode cL_law 295 = .ok (.iload 4, 2) := by decide +kernel
theorem dL_law_297 : decode cL_law 297 = .ok (.iconst 4, 1) := by decide +kernel
theorem dL_law_298 : decode cL_law 298 = .ok (.iadd, 1) := by decide +kernel
theorem dL_law_299 : decode cL_law 299 = .ok (.iaload, 1) := by decide +kernel
theorem dL_law_300 : decode cL_law 300 = .ok (.aload_n 0, 1) := by decide +kernel
theorem dL_law_301 : decode cL_law 301 = .ok (.iload 4, 2) := by decide +kernel
theorem dL_law_303 : decode cL_law 303 = .ok (.iconst 5, 1) := by decide +kernel
theorem dL_law_304 : decode cL_law 304 = .ok (.iadd, 1) := by decide +kernel
theorem dL_law_305 : decode cL_law 305 = .ok (.iaload, 1) := by decide +kernel
theorem dL_law_306 : decode cL_law 306 = .ok (.ifCond .eq 7, 3) := by decide +kernel
theorem dL_law_309 : decode cL_law 309 = .ok (.iconst 1, 1) := by decide +kernel
theorem dL_law_310 : decode cL_law 310 = .ok (.goto 4, 3) := by decide +kernel
theorem dL_law_313 : decode cL_law 313 = .ok (.iconst 0, 1) := by decide +kernel
theorem dL_law_314 : decode cL_law 314 = .ok (.invokevirtual 38, 3) := by decide +kernel
theorem dL_law_317 : decode cL_law 317 = .ok (.if_icmp .eq 952, 3) := by decide +kernel
theorem dL_law_320 : decode cL_law 320 = .ok (.iconst 0, 1) := by decide +kernel
theorem dL_law_321 : decode cL_law 321 = .ok (.ireturn, 1) := by decide +kernel
theorem dL_law_322 : decode cL_law 322 = .ok (.aload_n 1, 1) := by decide +kernel
theorem dL_law_323 : decode cL_law 323 = .ok (.aload_n 0, 1) := by decide +kernel
theorem dL_law_324 : decode cL_law 324 = .ok (.iload 4, 2) := by decide +kernel
theorem dL_law_326 : decode cL_law 326 = .ok (.iconst 1, 1) := by decide +kernel
theorem dL_law_327 : decode cL_law 327 = .ok (.iadd, 1) := by decide +kernel
theorem dL_law_328 : decode cL_law 328 = .ok (.iaload, 1) := by decide +kernel
theorem dL_law_329 : decode cL_law 329 = .ok (.aload_n 0, 1) := by decide +kernel
theorem dL_law_330 : decode cL_law 330 = .ok (.iload 4, 2) := by decide +kernel
theorem dL_law_332 : decode cL_law 332 = .ok (.iconst 2, 1) := by decide +kernel
theorem dL_law_333 : decode cL_law 333 = .ok (.iadd, 1) := by decide +kernel
theorem dL_law_334 : decode cL_law 334 = .ok (.iaload, 1) := by decide +kernel
theorem dL_law_335 : decode cL_law 335 = .ok (.invokevirtual 39, 3) := by decide +kernel
theorem dL_law_338 : decode cL_law 338 = .ok (.aload_n 2, 1) := by decide +kernel
theorem dL_law_339 : decode cL_law 339 = .ok (.aload_n 0, 1) := by decide +kernel
theorem dL_law_340 : decode cL_law 340 = .ok (.iload 4, 2) := by decide +kernel
theorem dL_law_342 : decode cL_law 342 = .ok (.iconst 1, 1) := by decide +kernel
theorem dL_law_343 : decode cL_law 343 = .ok (.iadd, 1) := by decide +kernel
theorem dL_law_344 : decode cL_law 344 = .ok (.iaload, 1) := by decide +kernel
theorem dL_law_345 : decode cL_law 345 = .ok (.aload_n 0, 1) := by decide +kernel
theorem dL_law_346 : decode cL_law 346 = .ok (.iload 4, 2) := by decide +kernel
theorem dL_law_348 : decode cL_law 348 = .ok (.iconst 2, 1) := by decide +kernel
theorem dL_law_349 : decode cL_law 349 = .ok (.iadd, 1) := by decide +kernel
theorem dL_law_350 : decode cL_law 350 = .ok (.iaload, 1) := by decide +kernel
theorem dL_law_351 : decode cL_law 351 = .ok (.invokevirtual 43, 3) := by decide +kernel
theorem dL_law_354 : decode cL_law 354 = .ok (.if_icmp .eq 915, 3) := by decide +kernel
theorem dL_law_357 : decode cL_law 357 = .ok (.iconst 0, 1) := by decide +kernel
theorem dL_law_358 : decode cL_law 358 = .ok (.ireturn, 1) := by decide +kernel
theorem dL_law_359 : decode cL_law 359 = .ok (.aload_n 1, 1) := by decide +kernel
theorem dL_law_360 : decode cL_law 360 = .ok (.aload_n 0, 1) := by decide +kernel
theorem dL_law_361 : decode cL_law 361 = .ok (.iload 4, 2) := by decide +kernel
theorem dL_law_363 : decode cL_law 363 = .ok (.iconst 1, 1) := by decide +kernel
theorem dL_law_364 : decode cL_law 364 = .ok (.iadd, 1) := by decide +kernel
theorem dL_law_365 : decode cL_law 365 = .ok (.iaload, 1) := by decide +kernel
theorem dL_law_366 : decode cL_law 366 = .ok (.aload_n 0, 1) := by decide +kernel
theorem dL_law_367 : decode cL_law 367 = .ok (.iload 4, 2) := by decide +kernel
theorem dL_law_369 : decode cL_law 369 = .ok (.iconst 2, 1) := by decide +kernel
theorem dL_law_370 : decode cL_law 370 = .ok (.iadd, 1) := by decide +kernel
theorem dL_law_371 : decode cL_law 371 = .ok (.iaload, 1) := by decide +kernel
theorem dL_law_372 : decode cL_law 372 = .ok (.invokevirtual 44, 3) := by decide +kernel
theorem dL_law_375 : decode cL_law 375 = .ok (.aload_n 2, 1) := by decide +kernel
theorem dL_law_376 : decode cL_law 376 = .ok (.aload_n 0, 1) := by decide +kernel
theorem dL_law_377 : decode cL_law 377 = .ok (.iload 4, 2) := by decide +kernel
theorem dL_law_379 : decode cL_law 379 = .ok (.iconst 1, 1) := by decide +kernel
theorem dL_law_380 : decode cL_law 380 = .ok (.iadd, 1) := by decide +kernel
theorem dL_law_381 : decode cL_law 381 = .ok (.iaload, 1) := by decide +kernel
theorem dL_law_382 : decode cL_law 382 = .ok (.aload_n 0, 1) := by decide +kernel
theorem dL_law_383 : decode cL_law 383 = .ok (.iload 4, 2) := by decide +kernel
theorem dL_law_385 : decode cL_law 385 = .ok (.iconst 2, 1) := by decide +kernel
theorem dL_law_386 : decode cL_law 386 = .ok (.iadd, 1) := by decide +kernel
theorem dL_law_387 : decode cL_law 387 = .ok (.iaload, 1) := by decide +kernel
theorem dL_law_388 : decode cL_law 388 = .ok (.invokevirtual 47, 3) := by decide +kernel
theorem dL_law_391 : decode cL_law 391 = .ok (.if_icmp .eq 878, 3) := by decide +kernel
theorem dL_law_394 : decode cL_law 394 = .ok (.iconst 0, 1) := by decide +kernel
theorem dL_law_395 : decode cL_law 395 = .ok (.ireturn, 1) := by decide +kernel
theorem dL_law_396 : decode cL_law 396 = .ok (.aload_n 1, 1) := by decide +kernel
theorem dL_law_397 : decode cL_law 397 = .ok (.aload_n 0, 1) := by decide +kernel
theorem dL_law_398 : decode cL_law 398 = .ok (.iload 4, 2) := by decide +kernel
theorem dL_law_400 : decode cL_law 400 = .ok (.iconst 1, 1) := by decide +kernel
theorem dL_law_401 : decode cL_law 401 = .ok (.iadd, 1) := by decide +kernel
theorem dL_law_402 : decode cL_law 402 = .ok (.iaload, 1) := by decide +kernel
theorem dL_law_403 : decode cL_law 403 = .ok (.aload_n 0, 1) := by decide +kernel
theorem dL_law_404 : decode cL_law 404 = .ok (.iload 4, 2) := by decide +kernel
theorem dL_law_406 : decode cL_law 406 = .ok (.iconst 2, 1) := by decide +kernel
theorem dL_law_407 : decode cL_law 407 = .ok (.iadd, 1) := by decide +kernel
theorem dL_law_408 : decode cL_law 408 = .ok (.iaload, 1) := by decide +kernel
theorem dL_law_409 : decode cL_law 409 = .ok (.invokevirtual 48, 3) := by decide +kernel
theorem dL_law_412 : decode cL_law 412 = .ok (.aload_n 2, 1) := by decide +kernel
theorem dL_law_413 : decode cL_law 413 = .ok (.aload_n 0, 1) := by decide +kernel
theorem dL_law_414 : decode cL_law 414 = .ok (.iload 4, 2) := by decide +kernel
theorem dL_law_416 : decode cL_law 416 = .ok (.iconst 1, 1) := by decide +kernel
theorem dL_law_417 : decode cL_law 417 = .ok (.iadd, 1) := by decide +kernel
theorem dL_law_418 : decode cL_law 418 = .ok (.iaload, 1) := by decide +kernel
theorem dL_law_419 : decode cL_law 419 = .ok (.aload_n 0, 1) := by decide +kernel
theorem dL_law_420 : decode cL_law 420 = .ok (.iload 4, 2) := by decide +kernel
theorem dL_law_422 : decode cL_law 422 = .ok (.iconst 2, 1) := by decide +kernel
theorem dL_law_423 : decode cL_law 423 = .ok (.iadd, 1) := by decide +kernel
theorem dL_law_424 : decode cL_law 424 = .ok (.iaload, 1) := by decide +kernel
theorem dL_law_425 : decode cL_law 425 = .ok (.invokevirtual 51, 3) := by decide +kernel
theorem dL_law_428 : decode cL_law 428 = .ok (.if_icmp .eq 841, 3) := by decide +kernel
theorem dL_law_431 : decode cL_law 431 = .ok (.iconst 0, 1) := by decide +kernel
theorem dL_law_432 : decode cL_law 432 = .ok (.ireturn, 1) := by decide +kernel
theorem dL_law_433 : decode cL_law 433 = .ok (.aload_n 1, 1) := by decide +kernel
theorem dL_law_434 : decode cL_law 434 = .ok (.aload_n 0, 1) := by decide +kernel
theorem dL_law_435 : decode cL_law 435 = .ok (.iload 4, 2) := by decide +kernel
theorem dL_law_437 : decode cL_law 437 = .ok (.iconst 1, 1) := by decide +kernel
theorem dL_law_438 : decode cL_law 438 = .ok (.iadd, 1) := by decide +kernel
theorem dL_law_439 : decode cL_law 439 = .ok (.iaload, 1) := by decide +kernel
theorem dL_law_440 : decode cL_law 440 = .ok (.aload_n 0, 1) := by decide +kernel
theorem dL_law_441 : decode cL_law 441 = .ok (.iload 4, 2) := by decide +kernel
theorem dL_law_443 : decode cL_law 443 = .ok (.iconst 2, 1) := by decide +kernel
theorem dL_law_444 : decode cL_law 444 = .ok (.iadd, 1) := by decide +kernel
theorem dL_law_445 : decode cL_law 445 = .ok (.iaload, 1) := by decide +kernel
theorem dL_law_446 : decode cL_law 446 = .ok (.invokevirtual 52, 3) := by decide +kernel
theorem dL_law_449 : decode cL_law 449 = .ok (.aload_n 2, 1) := by decide +kernel
theorem dL_law_450 : decode cL_law 450 = .ok (.aload_n 0, 1) := by decide +kernel
theorem dL_law_451 : decode cL_law 451 = .ok (.iload 4, 2) := by decide +kernel
theorem dL_law_453 : decode cL_law 453 = .ok (.iconst 1, 1) := by decide +kernel
theorem dL_law_454 : decode cL_law 454 = .ok (.iadd, 1) := by decide +kernel
theorem dL_law_455 : decode cL_law 455 = .ok (.iaload, 1) := by decide +kernel
theorem dL_law_456 : decode cL_law 456 = .ok (.aload_n 0, 1) := by decide +kernel
theorem dL_law_457 : decode cL_law 457 = .ok (.iload 4, 2) := by decide +kernel
theorem dL_law_459 : decode cL_law 459 = .ok (.iconst 2, 1) := by decide +kernel
theorem dL_law_460 : decode cL_law 460 = .ok (.iadd, 1) := by decide +kernel
theorem dL_law_461 : decode cL_law 461 = .ok (.iaload, 1) := by decide +kernel
theorem dL_law_462 : decode cL_law 462 = .ok (.invokevirtual 55, 3) := by decide +kernel
theorem dL_law_465 : decode cL_law 465 = .ok (.if_icmp .eq 804, 3) := by decide +kernel
theorem dL_law_468 : decode cL_law 468 = .ok (.iconst 0, 1) := by decide +kernel
theorem dL_law_469 : decode cL_law 469 = .ok (.ireturn, 1) := by decide +kernel
theorem dL_law_470 : decode cL_law 470 = .ok (.aload_n 1, 1) := by decide +kernel
theorem dL_law_471 : decode cL_law 471 = .ok (.aload_n 0, 1) := by decide +kernel
theorem dL_law_472 : decode cL_law 472 = .ok (.iload 4, 2) := by decide +kernel
theorem dL_law_474 : decode cL_law 474 = .ok (.iconst 1, 1) := by decide +kernel
theorem dL_law_475 : decode cL_law 475 = .ok (.iadd, 1) := by decide +kernel
theorem dL_law_476 : decode cL_law 476 = .ok (.iaload, 1) := by decide +kernel
theorem dL_law_477 : decode cL_law 477 = .ok (.aload_n 0, 1) := by decide +kernel
theorem dL_law_478 : decode cL_law 478 = .ok (.iload 4, 2) := by decide +kernel
theorem dL_law_480 : decode cL_law 480 = .ok (.iconst 2, 1) := by decide +kernel
theorem dL_law_481 : decode cL_law 481 = .ok (.iadd, 1) := by decide +kernel
theorem dL_law_482 : decode cL_law 482 = .ok (.iaload, 1) := by decide +kernel
theorem dL_law_483 : decode cL_law 483 = .ok (.invokevirtual 56, 3) := by decide +kernel
theorem dL_law_486 : decode cL_law 486 = .ok (.aload_n 2, 1) := by decide +kernel
theorem dL_law_487 : decode cL_law 487 = .ok (.aload_n 0, 1) := by decide +kernel
theorem dL_law_488 : decode cL_law 488 = .ok (.iload 4, 2) := by decide +kernel
theorem dL_law_490 : decode cL_law 490 = .ok (.iconst 1, 1) := by decide +kernel
theorem dL_law_491 : decode cL_law 491 = .ok (.iadd, 1) := by decide +kernel
theorem dL_law_492 : decode cL_law 492 = .ok (.iaload, 1) := by decide +kernel
theorem dL_law_493 : decode cL_law 493 = .ok (.aload_n 0, 1) := by decide +kernel
theorem dL_law_494 : decode cL_law 494 = .ok (.iload 4, 2) := by decide +kernel
theorem dL_law_496 : decode cL_law 496 = .ok (.iconst 2, 1) := by decide +kernel
theorem dL_law_497 : decode cL_law 497 = .ok (.iadd, 1) := by decide +kernel
theorem dL_law_498 : decode cL_law 498 = .ok (.iaload, 1) := by decide +kernel
theorem dL_law_499 : decode cL_law 499 = .ok (.invokevirtual 59, 3) := by decide +kernel
theorem dL_law_502 : decode cL_law 502 = .ok (.if_icmp .eq 767, 3) := by decide +kernel
theorem dL_law_505 : decode cL_law 505 = .ok (.iconst 0, 1) := by decide +kernel
theorem dL_law_506 : decode cL_law 506 = .ok (.ireturn, 1) := by decide +kernel
theorem dL_law_507 : decode cL_law 507 = .ok (.aload_n 1, 1) := by decide +kernel
theorem dL_law_508 : decode cL_law 508 = .ok (.aload_n 0, 1) := by decide +kernel
theorem dL_law_509 : decode cL_law 509 = .ok (.iload 4, 2) := by decide +kernel
theorem dL_law_511 : decode cL_law 511 = .ok (.iconst 1, 1) := by decide +kernel
theorem dL_law_512 : decode cL_law 512 = .ok (.iadd, 1) := by decide +kernel
theorem dL_law_513 : decode cL_law 513 = .ok (.iaload, 1) := by decide +kernel
theorem dL_law_514 : decode cL_law 514 = .ok (.aload_n 0, 1) := by decide +kernel
theorem dL_law_515 : decode cL_law 515 = .ok (.iload 4, 2) := by decide +kernel
theorem dL_law_517 : decode cL_law 517 = .ok (.iconst 2, 1) := by decide +kernel
theorem dL_law_518 : decode cL_law 518 = .ok (.iadd, 1) := by decide +kernel
theorem dL_law_519 : decode cL_law 519 = .ok (.iaload, 1) := by decide +kernel
theorem dL_law_520 : decode cL_law 520 = .ok (.ifCond .eq 7, 3) := by decide +kernel
theorem dL_law_523 : decode cL_law 523 = .ok (.iconst 1, 1) := by decide +kernel
theorem dL_law_524 : decode cL_law 524 = .ok (.goto 4, 3) := by decide +kernel
theorem dL_law_527 : decode cL_law 527 = .ok (.iconst 0, 1) := by decide +kernel
theorem dL_law_528 : decode cL_law 528 = .ok (.invokevirtual 60, 3) := by decide +kernel
theorem dL_law_531 : decode cL_law 531 = .ok (.aload_n 2, 1) := by decide +kernel
theorem dL_law_532 : decode cL_law 532 = .ok (.aload_n 0, 1) := by decide +kernel
theorem dL_law_533 : decode cL_law 533 = .ok (.iload 4, 2) := by decide +kernel
theorem dL_law_535 : decode cL_law 535 = .ok (.iconst 1, 1) := by decide +kernel
theorem dL_law_536 : decode cL_law 536 = .ok (.iadd, 1) := by decide +kernel
theorem dL_law_537 : decode cL_law 537 = .ok (.iaload, 1) := by decide +kernel
theorem dL_law_538 : decode cL_law 538 = .ok (.aload_n 0, 1) := by decide +kernel
theorem dL_law_539 : decode cL_law 539 = .ok (.iload 4, 2) := by decide +kernel
theorem dL_law_541 : decode cL_law 541 = .ok (.iconst 2, 1) := by decide +kernel
theorem dL_law_542 : decode cL_law 542 = .ok (.iadd, 1) := by decide +kernel
theorem dL_law_543 : decode cL_law 543 = .ok (.iaload, 1) := by decide +kernel
theorem dL_law_544 : decode cL_law 544 = .ok (.ifCond .eq 7, 3) := by decide +kernel
theorem dL_law_547 : decode cL_law 547 = .ok (.iconst 1, 1) := by decide +kernel
theorem dL_law_548 : decode cL_law 548 = .ok (.goto 4, 3) := by decide +kernel
theorem dL_law_551 : decode cL_law 551 = .ok (.iconst 0, 1) := by decide +kernel
theorem dL_law_552 : decode cL_law 552 = .ok (.invokevirtual 64, 3) := by decide +kernel
theorem dL_law_555 : decode cL_law 555 = .ok (.if_icmp .eq 714, 3) := by decide +kernel
theorem dL_law_558 : decode cL_law 558 = .ok (.iconst 0, 1) := by decide +kernel
theorem dL_law_559 : decode cL_law 559 = .ok (.ireturn, 1) := by decide +kernel
theorem dL_law_560 : decode cL_law 560 = .ok (.aload_n 1, 1) := by decide +kernel
theorem dL_law_561 : decode cL_law 561 = .ok (.aload_n 0, 1) := by decide +kernel
theorem dL_law_562 : decode cL_law 562 = .ok (.iload 4, 2) := by decide +kernel
theorem dL_law_564 : decode cL_law 564 = .ok (.iconst 1, 1) := by decide +kernel
theorem dL_law_565 : decode cL_law 565 = .ok (.iadd, 1) := by decide +kernel
theorem dL_law_566 : decode cL_law 566 = .ok (.iaload, 1) := by decide +kernel
theorem dL_law_567 : decode cL_law 567 = .ok (.invokevirtual 65, 3) := by decide +kernel
theorem dL_law_570 : decode cL_law 570 = .ok (.aload_n 2, 1) := by decide +kernel
theorem dL_law_571 : decode cL_law 571 = .ok (.aload_n 0, 1) := by decide +kernel
theorem dL_law_572 : decode cL_law 572 = .ok (.iload 4, 2) := by decide +kernel
theorem dL_law_574 : decode cL_law 574 = .ok (.iconst 1, 1) := by decide +kernel
theorem dL_law_575 : decode cL_law 575 = .ok (.iadd, 1) := by decide +kernel
theorem dL_law_576 : decode cL_law 576 = .ok (.iaload, 1) := by decide +kernel
theorem dL_law_577 : decode cL_law 577 = .ok (.invokevirtual 68, 3) := by decide +kernel
theorem dL_law_580 : decode cL_law 580 = .ok (.if_icmp .eq 689, 3) := by decide +kernel
theorem dL_law_583 : decode cL_law 583 = .ok (.iconst 0, 1) := by decide +kernel
theorem dL_law_584 : decode cL_law 584 = .ok (.ireturn, 1) := by decide +kernel
theorem dL_law_585 : decode cL_law 585 = .ok (.aload_n 1, 1) := by decide +kernel
theorem dL_law_586 : decode cL_law 586 = .ok (.invokevirtual 69, 3) := by decide +kernel
theorem dL_law_589 : decode cL_law 589 = .ok (.aload_n 2, 1) := by decide +kernel
theorem dL_law_590 : decode cL_law 590 = .ok (.invokevirtual 72, 3) := by decide +kernel
theorem dL_law_593 : decode cL_law 593 = .ok (.if_icmp .eq 676, 3) := by decide +kernel
theorem dL_law_596 : decode cL_law 596 = .ok (.iconst 0, 1) := by decide +kernel
theorem dL_law_597 : decode cL_law 597 = .ok (.ireturn, 1) := by decide +kernel
theorem dL_law_598 : decode cL_law 598 = .ok (.aload_n 1, 1) := by decide +kernel
theorem dL_law_599 : decode cL_law 599 = .ok (.aload_n 0, 1) := by decide +kernel
theorem dL_law_600 : decode cL_law 600 = .ok (.iload 4, 2) := by decide +kernel
theorem dL_law_602 : decode cL_law 602 = .ok (.iconst 1, 1) := by decide +kernel
theorem dL_law_603 : decode cL_law 603 = .ok (.iadd, 1) := by decide +kernel
theorem dL_law_604 : decode cL_law 604 = .ok (.iaload, 1) := by decide +kernel
theorem dL_law_605 : decode cL_law 605 = .ok (.aload_n 0, 1) := by decide +kernel
theorem dL_law_606 : decode cL_law 606 = .ok (.iload 4, 2) := by decide +kernel
theorem dL_law_608 : decode cL_law 608 = .ok (.iconst 2, 1) := by decide +kernel
theorem dL_law_609 : decode cL_law 609 = .ok (.iadd, 1) := by decide +kernel
theorem dL_law_610 : decode cL_law 610 = .ok (.iaload, 1) := by decide +kernel
theorem dL_law_611 : decode cL_law 611 = .ok (.invokevirtual 73, 3) := by decide +kernel
theorem dL_law_614 : decode cL_law 614 = .ok (.aload_n 2, 1) := by decide +kernel
theorem dL_law_615 : decode cL_law 615 = .ok (.aload_n 0, 1) := by decide +kernel
theorem dL_law_616 : decode cL_law 616 = .ok (.iload 4, 2) := by decide +kernel
theorem dL_law_618 : decode cL_law 618 = .ok (.iconst 1, 1) := by decide +kernel
theorem dL_law_619 : decode cL_law 619 = .ok (.iadd, 1) := by decide +kernel
theorem dL_law_620 : decode cL_law 620 = .ok (.iaload, 1) := by decide +kernel
theorem dL_law_621 : decode cL_law 621 = .ok (.aload_n 0, 1) := by decide +kernel
theorem dL_law_622 : decode cL_law 622 = .ok (.iload 4, 2) := by decide +kernel
theorem dL_law_624 : decode cL_law 624 = .ok (.iconst 2, 1) := by decide +kernel
theorem dL_law_625 : decode cL_law 625 = .ok (.iadd, 1) := by decide +kernel
theorem dL_law_626 : decode cL_law 626 = .ok (.iaload, 1) := by decide +kernel
theorem dL_law_627 : decode cL_law 627 = .ok (.invokevirtual 76, 3) := by decide +kernel
theorem dL_law_630 : decode cL_law 630 = .ok (.if_icmp .eq 639, 3) := by decide +kernel
theorem dL_law_633 : decode cL_law 633 = .ok (.iconst 0, 1) := by decide +kernel
theorem dL_law_634 : decode cL_law 634 = .ok (.ireturn, 1) := by decide +kernel
theorem dL_law_635 : decode cL_law 635 = .ok (.aload_n 1, 1) := by decide +kernel
theorem dL_law_636 : decode cL_law 636 = .ok (.aload_n 0, 1) := by decide +kernel
theorem dL_law_637 : decode cL_law 637 = .ok (.iload 4, 2) := by decide +kernel
theorem dL_law_639 : decode cL_law 639 = .ok (.iconst 1, 1) := by decide +kernel
theorem dL_law_640 : decode cL_law 640 = .ok (.iadd, 1) := by decide +kernel
theorem dL_law_641 : decode cL_law 641 = .ok (.iaload, 1) := by decide +kernel
theorem dL_law_642 : decode cL_law 642 = .ok (.aload_n 0, 1) := by decide +kernel
theorem dL_law_643 : decode cL_law 643 = .ok (.iload 4, 2) := by decide +kernel
theorem dL_law_645 : decode cL_law 645 = .ok (.iconst 2, 1) := by decide +kernel
theorem dL_law_646 : decode cL_law 646 = .ok (.iadd, 1) := by decide +kernel
theorem dL_law_647 : decode cL_law 647 = .ok (.iaload, 1) := by decide +kernel
theorem dL_law_648 : decode cL_law 648 = .ok (.aload_n 0, 1) := by decide +kernel
theorem dL_law_649 : decode cL_law 649 = .ok (.iload 4, 2) := by decide +kernel
theorem dL_law_651 : decode cL_law 651 = .ok (.iconst 3, 1) := by decide +kernel
theorem dL_law_652 : decode cL_law 652 = .ok (.iadd, 1) := by decide +kernel
theorem dL_law_653 : decode cL_law 653 = .ok (.iaload, 1) := by decide +kernel
theorem dL_law_654 : decode cL_law 654 = .ok (.invokevirtual 77, 3) := by decide +kernel
theorem dL_law_657 : decode cL_law 657 = .ok (.aload_n 2, 1) := by decide +kernel
theorem dL_law_658 : decode cL_law 658 = .ok (.aload_n 0, 1) := by decide +kernel
theorem dL_law_659 : decode cL_law 659 = .ok (.iload 4, 2) := by decide +kernel
theorem dL_law_661 : decode cL_law 661 = .ok (.iconst 1, 1) := by decide +kernel
theorem dL_law_662 : decode cL_law 662 = .ok (.iadd, 1) := by decide +kernel
theorem dL_law_663 : decode cL_law 663 = .ok (.iaload, 1) := by decide +kernel
theorem dL_law_664 : decode cL_law 664 = .ok (.aload_n 0, 1) := by decide +kernel
theorem dL_law_665 : decode cL_law 665 = .ok (.iload 4, 2) := by decide +kernel
theorem dL_law_667 : decode cL_law 667 = .ok (.iconst 2, 1) := by decide +kernel
theorem dL_law_668 : decode cL_law 668 = .ok (.iadd, 1) := by decide +kernel
theorem dL_law_669 : decode cL_law 669 = .ok (.iaload, 1) := by decide +kernel
theorem dL_law_670 : decode cL_law 670 = .ok (.aload_n 0, 1) := by decide +kernel
theorem dL_law_671 : decode cL_law 671 = .ok (.iload 4, 2) := by decide +kernel
theorem dL_law_673 : decode cL_law 673 = .ok (.iconst 3, 1) := by decide +kernel
theorem dL_law_674 : decode cL_law 674 = .ok (.iadd, 1) := by decide +kernel
theorem dL_law_675 : decode cL_law 675 = .ok (.iaload, 1) := by decide +kernel
theorem dL_law_676 : decode cL_law 676 = .ok (.invokevirtual 80, 3) := by decide +kernel
theorem dL_law_679 : decode cL_law 679 = .ok (.if_icmp .eq 590, 3) := by decide +kernel
theorem dL_law_682 : decode cL_law 682 = .ok (.iconst 0, 1) := by decide +kernel
theorem dL_law_683 : decode cL_law 683 = .ok (.ireturn, 1) := by decide +kernel
theorem dL_law_684 : decode cL_law 684 = .ok (.aload_n 1, 1) := by decide +kernel
theorem dL_law_685 : decode cL_law 685 = .ok (.aload_n 0, 1) := by decide +kernel
theorem dL_law_686 : decode cL_law 686 = .ok (.iload 4, 2) := by decide +kernel
theorem dL_law_688 : decode cL_law 688 = .ok (.iconst 1, 1) := by decide +kernel
theorem dL_law_689 : decode cL_law 689 = .ok (.iadd, 1) := by decide +kernel
theorem dL_law_690 : decode cL_law 690 = .ok (.iaload, 1) := by decide +kernel
theorem dL_law_691 : decode cL_law 691 = .ok (.aload_n 0, 1) := by decide +kernel
theorem dL_law_692 : decode cL_law 692 = .ok (.iload 4, 2) := by decide +kernel
theorem dL_law_694 : decode cL_law 694 = .ok (.iconst 2, 1) := by decide +kernel
theorem dL_law_695 : decode cL_law 695 = .ok (.iadd, 1) := by decide +kernel
theorem dL_law_696 : decode cL_law 696 = .ok (.iaload, 1) := by decide +kernel
theorem dL_law_697 : decode cL_law 697 = .ok (.invokevirtual 81, 3) := by decide +kernel
theorem dL_law_700 : decode cL_law 700 = .ok (.aload_n 2, 1) := by decide +kernel
theorem dL_law_701 : decode cL_law 701 = .ok (.aload_n 0, 1) := by decide +kernel
theorem dL_law_702 : decode cL_law 702 = .ok (.iload 4, 2) := by decide +kernel
theorem dL_law_704 : decode cL_law 704 = .ok (.iconst 1, 1) := by decide +kernel
theorem dL_law_705 : decode cL_law 705 = .ok (.iadd, 1) := by decide +kernel
theorem dL_law_706 : decode cL_law 706 = .ok (.iaload, 1) := by decide +kernel
theorem dL_law_707 : decode cL_law 707 = .ok (.aload_n 0, 1) := by decide +kernel
theorem dL_law_708 : decode cL_law 708 = .ok (.iload 4, 2) := by decide +kernel
theorem dL_law_710 : decode cL_law 710 = .ok (.iconst 2, 1) := by decide +kernel
theorem dL_law_711 : decode cL_law 711 = .ok (.iadd, 1) := by decide +kernel
theorem dL_law_712 : decode cL_law 712 = .ok (.iaload, 1) := by decide +kernel
theorem dL_law_713 : decode cL_law 713 = .ok (.invokevirtual 84, 3) := by decide +kernel
theorem dL_law_716 : decode cL_law 716 = .ok (.if_icmp .eq 553, 3) := by decide +kernel
theorem dL_law_719 : decode cL_law 719 = .ok (.iconst 0, 1) := by decide +kernel
theorem dL_law_720 : decode cL_law 720 = .ok (.ireturn, 1) := by decide +kernel
theorem dL_law_721 : decode cL_law 721 = .ok (.aload_n 1, 1) := by decide +kernel
theorem dL_law_722 : decode cL_law 722 = .ok (.aload_n 0, 1) := by decide +kernel
theorem dL_law_723 : decode cL_law 723 = .ok (.iload 4, 2) := by decide +kernel
theorem dL_law_725 : decode cL_law 725 = .ok (.iconst 1, 1) := by decide +kernel
theorem dL_law_726 : decode cL_law 726 = .ok (.iadd, 1) := by decide +kernel
theorem dL_law_727 : decode cL_law 727 = .ok (.iaload, 1) := by decide +kernel
theorem dL_law_728 : decode cL_law 728 = .ok (.aload_n 0, 1) := by decide +kernel
theorem dL_law_729 : decode cL_law 729 = .ok (.iload 4, 2) := by decide +kernel
theorem dL_law_731 : decode cL_law 731 = .ok (.iconst 2, 1) := by decide +kernel
theorem dL_law_732 : decode cL_law 732 = .ok (.iadd, 1) := by decide +kernel
theorem dL_law_733 : decode cL_law 733 = .ok (.iaload, 1) := by decide +kernel
theorem dL_law_734 : decode cL_law 734 = .ok (.aload_n 0, 1) := by decide +kernel
theorem dL_law_735 : decode cL_law 735 = .ok (.iload 4, 2) := by decide +kernel
theorem dL_law_737 : decode cL_law 737 = .ok (.iconst 3, 1) := by decide +kernel
theorem dL_law_738 : decode cL_law 738 = .ok (.iadd, 1) := by decide +kernel
theorem dL_law_739 : decode cL_law 739 = .ok (.iaload, 1) := by decide +kernel
theorem dL_law_740 : decode cL_law 740 = .ok (.aload_n 3, 1) := by decide +kernel
theorem dL_law_741 : decode cL_law 741 = .ok (.invokestatic 85, 3) := by decide +kernel
theorem dL_law_744 : decode cL_law 744 = .ok (.istore 5, 2) := by decide +kernel
theorem dL_law_746 : decode cL_law 746 = .ok (.aload_n 2, 1) := by decide +kernel
theorem dL_law_747 : decode cL_law 747 = .ok (.aload_n 0, 1) := by decide +kernel
theorem dL_law_748 : decode cL_law 748 = .ok (.iload 4, 2) := by decide +kernel
theorem dL_law_750 : decode cL_law 750 = .ok (.iconst 1, 1) := by decide +kernel
theorem dL_law_751 : decode cL_law 751 = .ok (.iadd, 1) := by decide +kernel
theorem dL_law_752 : decode cL_law 752 = .ok (.iaload, 1) := by decide +kernel
theorem dL_law_753 : decode cL_law 753 = .ok (.aload_n 0, 1) := by decide +kernel
theorem dL_law_754 : decode cL_law 754 = .ok (.iload 4, 2) := by decide +kernel
theorem dL_law_756 : decode cL_law 756 = .ok (.iconst 2, 1) := by decide +kernel
theorem dL_law_757 : decode cL_law 757 = .ok (.iadd, 1) := by decide +kernel
theorem dL_law_758 : decode cL_law 758 = .ok (.iaload, 1) := by decide +kernel
theorem dL_law_759 : decode cL_law 759 = .ok (.aload_n 0, 1) := by decide +kernel
theorem dL_law_760 : decode cL_law 760 = .ok (.iload 4, 2) := by decide +kernel
theorem dL_law_762 : decode cL_law 762 = .ok (.iconst 3, 1) := by decide +kernel
theorem dL_law_763 : decode cL_law 763 = .ok (.iadd, 1) := by decide +kernel
theorem dL_law_764 : decode cL_law 764 = .ok (.iaload, 1) := by decide +kernel
theorem dL_law_765 : decode cL_law 765 = .ok (.invokevirtual 90, 3) := by decide +kernel
theorem dL_law_768 : decode cL_law 768 = .ok (.istore 6, 2) := by decide +kernel
theorem dL_law_770 : decode cL_law 770 = .ok (.aload_n 2, 1) := by decide +kernel
theorem dL_law_771 : decode cL_law 771 = .ok (.invokevirtual 91, 3) := by decide +kernel
theorem dL_law_774 : decode cL_law 774 = .ok (.iload 5, 2) := by decide +kernel
theorem dL_law_776 : decode cL_law 776 = .ok (.if_icmp .eq 5, 3) := by decide +kernel
theorem dL_law_779 : decode cL_law 779 = .ok (.iconst 0, 1) := by decide +kernel
theorem dL_law_780 : decode cL_law 780 = .ok (.ireturn, 1) := by decide +kernel
theorem dL_law_781 : decode cL_law 781 = .ok (.iload 5, 2) := by decide +kernel
theorem dL_law_783 : decode cL_law 783 = .ok (.ifCond .ne 15, 3) := by decide +kernel
theorem dL_law_786 : decode cL_law 786 = .ok (.aload_n 3, 1) := by decide +kernel
theorem dL_law_787 : decode cL_law 787 = .ok (.iconst 0, 1) := by decide +kernel
theorem dL_law_788 : decode cL_law 788 = .ok (.laload, 1) := by decide +kernel
theorem dL_law_789 : decode cL_law 789 = .ok (.iload 6, 2) := by decide +kernel
theorem dL_law_791 : decode cL_law 791 = .ok (.i2l, 1) := by decide +kernel
theorem dL_law_792 : decode cL_law 792 = .ok (.lcmp, 1) := by decide +kernel
theorem dL_law_793 : decode cL_law 793 = .ok (.ifCond .eq 5, 3) := by decide +kernel
theorem dL_law_796 : decode cL_law 796 = .ok (.iconst 0, 1) := by decide +kernel
theorem dL_law_797 : decode cL_law 797 = .ok (.ireturn, 1) := by decide +kernel
theorem dL_law_798 : decode cL_law 798 = .ok (.goto 471, 3) := by decide +kernel
theorem dL_law_801 : decode cL_law 801 = .ok (.aload_n 1, 1) := by decide +kernel
theorem dL_law_802 : decode cL_law 802 = .ok (.aload_n 0, 1) := by decide +kernel
theorem dL_law_803 : decode cL_law 803 = .ok (.iload 4, 2) := by decide +kernel
theorem dL_law_805 : decode cL_law 805 = .ok (.iconst 1, 1) := by decide +kernel
theorem dL_law_806 : decode cL_law 806 = .ok (.iadd, 1) := by decide +kernel
theorem dL_law_807 : decode cL_law 807 = .ok (.iaload, 1) := by decide +kernel
theorem dL_law_808 : decode cL_law 808 = .ok (.aload_n 0, 1) := by decide +kernel
theorem dL_law_809 : decode cL_law 809 = .ok (.iload 4, 2) := by decide +kernel
theorem dL_law_811 : decode cL_law 811 = .ok (.iconst 2, 1) := by decide +kernel
theorem dL_law_812 : decode cL_law 812 = .ok (.iadd, 1) := by decide +kernel
theorem dL_law_813 : decode cL_law 813 = .ok (.iaload, 1) := by decide +kernel
theorem dL_law_814 : decode cL_law 814 = .ok (.aload_n 0, 1) := by decide +kernel
theorem dL_law_815 : decode cL_law 815 = .ok (.iload 4, 2) := by decide +kernel
theorem dL_law_817 : decode cL_law 817 = .ok (.iconst 3, 1) := by decide +kernel
theorem dL_law_818 : decode cL_law 818 = .ok (.iadd, 1) := by decide +kernel
theorem dL_law_819 : decode cL_law 819 = .ok (.iaload, 1) := by decide +kernel
theorem dL_law_820 : decode cL_law 820 = .ok (.invokevirtual 94, 3) := by decide +kernel
theorem dL_law_823 : decode cL_law 823 = .ok (.aload_n 2, 1) := by decide +kernel
theorem dL_law_824 : decode cL_law 824 = .ok (.aload_n 0, 1) := by decide +kernel
theorem dL_law_825 : decode cL_law 825 = .ok (.iload 4, 2) := by decide +kernel
theorem dL_law_827 : decode cL_law 827 = .ok (.iconst 1, 1) := by decide +kernel
theorem dL_law_828 : decode cL_law 828 = .ok (.iadd, 1) := by decide +kernel
theorem dL_law_829 : decode cL_law 829 = .ok (.iaload, 1) := by decide +kernel
theorem dL_law_830 : decode cL_law 830 = .ok (.aload_n 0, 1) := by decide +kernel
theorem dL_law_831 : decode cL_law 831 = .ok (.iload 4, 2) := by decide +kernel
theorem dL_law_833 : decode cL_law 833 = .ok (.iconst 2, 1) := by decide +kernel
theorem dL_law_834 : decode cL_law 834 = .ok (.iadd, 1) := by decide +kernel
theorem dL_law_835 : decode cL_law 835 = .ok (.iaload, 1) := by decide +kernel
theorem dL_law_836 : decode cL_law 836 = .ok (.aload_n 0, 1) := by decide +kernel
theorem dL_law_837 : decode cL_law 837 = .ok (.iload 4, 2) := by decide +kernel
theorem dL_law_839 : decode cL_law 839 = .ok (.iconst 3, 1) := by decide +kernel
theorem dL_law_840 : decode cL_law 840 = .ok (.iadd, 1) := by decide +kernel
theorem dL_law_841 : decode cL_law 841 = .ok (.iaload, 1) := by decide +kernel
theorem dL_law_842 : decode cL_law 842 = .ok (.invokevirtual 97, 3) := by decide +kernel
theorem dL_law_845 : decode cL_law 845 = .ok (.if_icmp .eq 424, 3) := by decide +kernel
theorem dL_law_848 : decode cL_law 848 = .ok (.iconst 0, 1) := by decide +kernel
theorem dL_law_849 : decode cL_law 849 = .ok (.ireturn, 1) := by decide +kernel
theorem dL_law_850 : decode cL_law 850 = .ok (.aload_n 1, 1) := by decide +kernel
theorem dL_law_851 : decode cL_law 851 = .ok (.aload_n 3, 1) := by decide +kernel
theorem dL_law_852 : decode cL_law 852 = .ok (.invokestatic 98, 3) := by decide +kernel
theorem dL_law_855 : decode cL_law 855 = .ok (.istore 5, 2) := by decide +kernel
theorem dL_law_857 : decode cL_law 857 = .ok (.aload_n 2, 1) := by decide +kernel
theorem dL_law_858 : decode cL_law 858 = .ok (.invokevirtual 101, 3) := by decide +kernel
theorem dL_law_861 : decode cL_law 861 = .ok (.istore 6, 2) := by decide +kernel
theorem dL_law_863 : decode cL_law 863 = .ok (.aload_n 2, 1) := by decide +kernel
theorem dL_law_864 : decode cL_law 864 = .ok (.invokevirtual 91, 3) := by decide +kernel
theorem dL_law_867 : decode cL_law 867 = .ok (.iload 5, 2) := by decide +kernel
theorem dL_law_869 : decode cL_law 869 = .ok (.if_icmp .eq 5, 3) := by decide +kernel
theorem dL_law_872 : decode cL_law 872 = .ok (.iconst 0, 1) := by decide +kernel
theorem dL_law_873 : decode cL_law 873 = .ok (.ireturn, 1) := by decide +kernel
theorem dL_law_874 : decode cL_law 874 = .ok (.iload 5, 2) := by decide +kernel
theorem dL_law_876 : decode cL_law 876 = .ok (.ifCond .ne 15, 3) := by decide +kernel
theorem dL_law_879 : decode cL_law 879 = .ok (.aload_n 3, 1) := by decide +kernel
theorem dL_law_880 : decode cL_law 880 = .ok (.iconst 0, 1) := by decide +kernel
theorem dL_law_881 : decode cL_law 881 = .ok (.laload, 1) := by decide +kernel
theorem dL_law_882 : decode cL_law 882 = .ok (.iload 6, 2) := by decide +kernel
theorem dL_law_884 : decode cL_law 884 = .ok (.i2l, 1) := by decide +kernel
theorem dL_law_885 : decode cL_law 885 = .ok (.lcmp, 1) := by decide +kernel
theorem dL_law_886 : decode cL_law 886 = .ok (.ifCond .eq 5, 3) := by decide +kernel
theorem dL_law_889 : decode cL_law 889 = .ok (.iconst 0, 1) := by decide +kernel
theorem dL_law_890 : decode cL_law 890 = .ok (.ireturn, 1) := by decide +kernel
theorem dL_law_891 : decode cL_law 891 = .ok (.goto 378, 3) := by decide +kernel
theorem dL_law_894 : decode cL_law 894 = .ok (.aload_n 1, 1) := by decide +kernel
theorem dL_law_895 : decode cL_law 895 = .ok (.invokevirtual 102, 3) := by decide +kernel
theorem dL_law_898 : decode cL_law 898 = .ok (.aload_n 2, 1) := by decide +kernel
theorem dL_law_899 : decode cL_law 899 = .ok (.invokevirtual 105, 3) := by decide +kernel
theorem dL_law_902 : decode cL_law 902 = .ok (.if_icmp .eq 367, 3) := by decide +kernel
theorem dL_law_905 : decode cL_law 905 = .ok (.iconst 0, 1) := by decide +kernel
theorem dL_law_906 : decode cL_law 906 = .ok (.ireturn, 1) := by decide +kernel
theorem dL_law_907 : decode cL_law 907 = .ok (.aload_n 1, 1) := by decide +kernel
theorem dL_law_908 : decode cL_law 908 = .ok (.aload_n 0, 1) := by decide +kernel
theorem dL_law_909 : decode cL_law 909 = .ok (.iload 4, 2) := by decide +kernel
theorem dL_law_911 : decode cL_law 911 = .ok (.iconst 1, 1) := by decide +kernel
theorem dL_law_912 : decode cL_law 912 = .ok (.iadd, 1) := by decide +kernel
theorem dL_law_913 : decode cL_law 913 = .ok (.iaload, 1) := by decide +kernel
theorem dL_law_914 : decode cL_law 914 = .ok (.aload_n 0, 1) := by decide +kernel
theorem dL_law_915 : decode cL_law 915 = .ok (.iload 4, 2) := by decide +kernel
theorem dL_law_917 : decode cL_law 917 = .ok (.iconst 2, 1) := by decide +kernel
theorem dL_law_918 : decode cL_law 918 = .ok (.iadd, 1) := by decide +kernel
theorem dL_law_919 : decode cL_law 919 = .ok (.iaload, 1) := by decide +kernel
theorem dL_law_920 : decode cL_law 920 = .ok (.invokevirtual 106, 3) := by decide +kernel
theorem dL_law_923 : decode cL_law 923 = .ok (.aload_n 2, 1) := by decide +kernel
theorem dL_law_924 : decode cL_law 924 = .ok (.aload_n 0, 1) := by decide +kernel
theorem dL_law_925 : decode cL_law 925 = .ok (.iload 4, 2) := by decide +kernel
theorem dL_law_927 : decode cL_law 927 = .ok (.iconst 1, 1) := by decide +kernel
theorem dL_law_928 : decode cL_law 928 = .ok (.iadd, 1) := by decide +kernel
theorem dL_law_929 : decode cL_law 929 = .ok (.iaload, 1) := by decide +kernel
theorem dL_law_930 : decode cL_law 930 = .ok (.aload_n 0, 1) := by decide +kernel
theorem dL_law_931 : decode cL_law 931 = .ok (.iload 4, 2) := by decide +kernel
theorem dL_law_933 : decode cL_law 933 = .ok (.iconst 2, 1) := by decide +kernel
theorem dL_law_934 : decode cL_law 934 = .ok (.iadd, 1) := by decide +kernel
theorem dL_law_935 : decode cL_law 935 = .ok (.iaload, 1) := by decide +kernel
theorem dL_law_936 : decode cL_law 936 = .ok (.invokevirtual 109, 3) := by decide +kernel
theorem dL_law_939 : decode cL_law 939 = .ok (.if_icmp .eq 330, 3) := by decide +kernel
theorem dL_law_942 : decode cL_law 942 = .ok (.iconst 0, 1) := by decide +kernel
theorem dL_law_943 : decode cL_law 943 = .ok (.ireturn, 1) := by decide +kernel
theorem dL_law_944 : decode cL_law 944 = .ok (.aload_n 1, 1) := by decide +kernel
theorem dL_law_945 : decode cL_law 945 = .ok (.aload_n 0, 1) := by decide +kernel
theorem dL_law_946 : decode cL_law 946 = .ok (.iload 4, 2) := by decide +kernel
theorem dL_law_948 : decode cL_law 948 = .ok (.iconst 1, 1) := by decide +kernel
theorem dL_law_949 : decode cL_law 949 = .ok (.iadd, 1) := by decide +kernel
theorem dL_law_950 : decode cL_law 950 = .ok (.iaload, 1) := by decide +kernel
theorem dL_law_951 : decode cL_law 951 = .ok (.invokevirtual 110, 3) := by decide +kernel
theorem dL_law_954 : decode cL_law 954 = .ok (.aload_n 2, 1) := by decide +kernel
theorem dL_law_955 : decode cL_law 955 = .ok (.aload_n 0, 1) := by decide +kernel
theorem dL_law_956 : decode cL_law 956 = .ok (.iload 4, 2) := by decide +kernel
theorem dL_law_958 : decode cL_law 958 = .ok (.iconst 1, 1) := by decide +kernel
theorem dL_law_959 : decode cL_law 959 = .ok (.iadd, 1) := by decide +kernel
theorem dL_law_960 : decode cL_law 960 = .ok (.iaload, 1) := by decide +kernel
theorem dL_law_961 : decode cL_law 961 = .ok (.invokevirtual 113, 3) := by decide +kernel
theorem dL_law_964 : decode cL_law 964 = .ok (.if_icmp .eq 305, 3) := by decide +kernel
theorem dL_law_967 : decode cL_law 967 = .ok (.iconst 0, 1) := by decide +kernel
theorem dL_law_968 : decode cL_law 968 = .ok (.ireturn, 1) := by decide +kernel
theorem dL_law_969 : decode cL_law 969 = .ok (.aload_n 1, 1) := by decide +kernel
theorem dL_law_970 : decode cL_law 970 = .ok (.aload_n 0, 1) := by decide +kernel
theorem dL_law_971 : decode cL_law 971 = .ok (.iload 4, 2) := by decide +kernel
theorem dL_law_973 : decode cL_law 973 = .ok (.iconst 1, 1) := by decide +kernel
theorem dL_law_974 : decode cL_law 974 = .ok (.iadd, 1) := by decide +kernel
theorem dL_law_975 : decode cL_law 975 = .ok (.iaload, 1) := by decide +kernel
theorem dL_law_976 : decode cL_law 976 = .ok (.invokevirtual 114, 3) := by decide +kernel
theorem dL_law_979 : decode cL_law 979 = .ok (.aload_n 2, 1) := by decide +kernel
theorem dL_law_980 : decode cL_law 980 = .ok (.aload_n 0, 1) := by decide +kernel
theorem dL_law_981 : decode cL_law 981 = .ok (.iload 4, 2) := by decide +kernel
theorem dL_law_983 : decode cL_law 983 = .ok (.iconst 1, 1) := by decide +kernel
theorem dL_law_984 : decode cL_law 984 = .ok (.iadd, 1) := by decide +kernel
theorem dL_law_985 : decode cL_law 985 = .ok (.iaload, 1) := by decide +kernel
theorem dL_law_986 : decode cL_law 986 = .ok (.invokevirtual 117, 3) := by decide +kernel
theorem dL_law_989 : decode cL_law 989 = .ok (.if_icmp .eq 280, 3) := by decide +kernel
theorem dL_law_992 : decode cL_law 992 = .ok (.iconst 0, 1) := by decide +kernel
theorem dL_law_993 : decode cL_law 993 = .ok (.ireturn, 1) := by decide +kernel
theorem dL_law_994 : decode cL_law 994 = .ok (.aload_n 1, 1) := by decide +kernel
theorem dL_law_995 : decode cL_law 995 = .ok (.aload_n 0, 1) := by decide +kernel
theorem dL_law_996 : decode cL_law 996 = .ok (.iload 4, 2) := by decide +kernel
theorem dL_law_998 : decode cL_law 998 = .ok (.iconst 1, 1) := by decide +kernel
theorem dL_law_999 : decode cL_law 999 = .ok (.iadd, 1) := by decide +kernel
theorem dL_law_1000 : decode cL_law 1000 = .ok (.iaload, 1) := by decide +kernel
theorem dL_law_1001 : decode cL_law 1001 = .ok (.aload_n 0, 1) := by decide +kernel
theorem dL_law_1002 : decode cL_law 1002 = .ok (.iload 4, 2) := by decide +kernel
theorem dL_law_1004 : decode cL_law 1004 = .ok (.iconst 2, 1) := by decide +kernel
theorem dL_law_1005 : decode cL_law 1005 = .ok (.iadd, 1) := by decide +kernel
theorem dL_law_1006 : decode cL_law 1006 = .ok (.iaload, 1) := by decide +kernel
theorem dL_law_1007 : decode cL_law 1007 = .ok (.invokevirtual 118, 3) := by decide +kernel
theorem dL_law_1010 : decode cL_law 1010 = .ok (.aload_n 2, 1) := by decide +kernel
theorem dL_law_1011 : decode cL_law 1011 = .ok (.aload_n 0, 1) := by decide +kernel
theorem dL_law_1012 : decode cL_law 1012 = .ok (.iload 4, 2) := by decide +kernel
theorem dL_law_1014 : decode cL_law 1014 = .ok (.iconst 1, 1) := by decide +kernel
theorem dL_law_1015 : decode cL_law 1015 = .ok (.iadd, 1) := by decide +kernel
theorem dL_law_1016 : decode cL_law 1016 = .ok (.iaload, 1) := by decide +kernel
theorem dL_law_1017 : decode cL_law 1017 = .ok (.aload_n 0, 1) := by decide +kernel
theorem dL_law_1018 : decode cL_law 1018 = .ok (.iload 4, 2) := by decide +kernel
theorem dL_law_1020 : decode cL_law 1020 = .ok (.iconst 2, 1) := by decide +kernel
theorem dL_law_1021 : decode cL_law 1021 = .ok (.iadd, 1) := by decide +kernel
theorem dL_law_1022 : decode cL_law 1022 = .ok (.iaload, 1) := by decide +kernel
theorem dL_law_1023 : decode cL_law 1023 = .ok (.invokevirtual 121, 3) := by decide +kernel
theorem dL_law_1026 : decode cL_law 1026 = .ok (.if_icmp .eq 243, 3) := by decide +kernel
theorem dL_law_1029 : decode cL_law 1029 = .ok (.iconst 0, 1) := by decide +kernel
theorem dL_law_1030 : decode cL_law 1030 = .ok (.ireturn, 1) := by decide +kernel
theorem dL_law_1031 : decode cL_law 1031 = .ok (.aload_n 1, 1) := by decide +kernel
theorem dL_law_1032 : decode cL_law 1032 = .ok (.aload_n 0, 1) := by decide +kernel
theorem dL_law_1033 : decode cL_law 1033 = .ok (.iload 4, 2) := by decide +kernel
theorem dL_law_1035 : decode cL_law 1035 = .ok (.iconst 1, 1) := by decide +kernel
theorem dL_law_1036 : decode cL_law 1036 = .ok (.iadd, 1) := by decide +kernel
theorem dL_law_1037 : decode cL_law 1037 = .ok (.iaload, 1) := by decide +kernel
theorem dL_law_1038 : decode cL_law 1038 = .ok (.i2l, 1) := by decide +kernel
theorem dL_law_1039 : decode cL_law 1039 = .ok (.bipush 32, 2) := by decide +kernel
theorem dL_law_1041 : decode cL_law 1041 = .ok (.lshl, 1) := by decide +kernel
theorem dL_law_1042 : decode cL_law 1042 = .ok (.aload_n 0, 1) := by decide +kernel
theorem dL_law_1043 : decode cL_law 1043 = .ok (.iload 4, 2) := by decide +kernel
theorem dL_law_1045 : decode cL_law 1045 = .ok (.iconst 2, 1) := by decide +kernel
theorem dL_law_1046 : decode cL_law 1046 = .ok (.iadd, 1) := by decide +kernel
theorem dL_law_1047 : decode cL_law 1047 = .ok (.iaload, 1) := by decide +kernel
theorem dL_law_1048 : decode cL_law 1048 = .ok (.i2l, 1) := by decide +kernel
theorem dL_law_1049 : decode cL_law 1049 = .ok (.ldc2_w 122, 3) := by decide +kernel
theorem dL_law_1052 : decode cL_law 1052 = .ok (.land, 1) := by decide +kernel
theorem dL_law_1053 : decode cL_law 1053 = .ok (.lor, 1) := by decide +kernel
theorem dL_law_1054 : decode cL_law 1054 = .ok (.aload_n 0, 1) := by decide +kernel
theorem dL_law_1055 : decode cL_law 1055 = .ok (.iload 4, 2) := by decide +kernel
theorem dL_law_1057 : decode cL_law 1057 = .ok (.iconst 3, 1) := by decide +kernel
theorem dL_law_1058 : decode cL_law 1058 = .ok (.iadd, 1) := by decide +kernel
theorem dL_law_1059 : decode cL_law 1059 = .ok (.iaload, 1) := by decide +kernel
theorem dL_law_1060 : decode cL_law 1060 = .ok (.invokevirtual 124, 3) := by decide +kernel
theorem dL_law_1063 : decode cL_law 1063 = .ok (.aload_n 2, 1) := by decide +kernel
theorem dL_law_1064 : decode cL_law 1064 = .ok (.aload_n 0, 1) := by decide +kernel
theorem dL_law_1065 : decode cL_law 1065 = .ok (.iload 4, 2) := by decide +kernel
theorem dL_law_1067 : decode cL_law 1067 = .ok (.iconst 1, 1) := by decide +kernel
theorem dL_law_1068 : decode cL_law 1068 = .ok (.iadd, 1) := by decide +kernel
theorem dL_law_1069 : decode cL_law 1069 = .ok (.iaload, 1) := by decide +kernel
theorem dL_law_1070 : decode cL_law 1070 = .ok (.i2l, 1) := by decide +kernel
theorem dL_law_1071 : decode cL_law 1071 = .ok (.bipush 32, 2) := by decide +kernel
theorem dL_law_1073 : decode cL_law 1073 = .ok (.lshl, 1) := by decide +kernel
theorem dL_law_1074 : decode cL_law 1074 = .ok (.aload_n 0, 1) := by decide +kernel
theorem dL_law_1075 : decode cL_law 1075 = .ok (.iload 4, 2) := by decide +kernel
theorem dL_law_1077 : decode cL_law 1077 = .ok (.iconst 2, 1) := by decide +kernel
theorem dL_law_1078 : decode cL_law 1078 = .ok (.iadd, 1) := by decide +kernel
theorem dL_law_1079 : decode cL_law 1079 = .ok (.iaload, 1) := by decide +kernel
theorem dL_law_1080 : decode cL_law 1080 = .ok (.i2l, 1) := by decide +kernel
theorem dL_law_1081 : decode cL_law 1081 = .ok (.ldc2_w 122, 3) := by decide +kernel
theorem dL_law_1084 : decode cL_law 1084 = .ok (.land, 1) := by decide +kernel
theorem dL_law_1085 : decode cL_law 1085 = .ok (.lor, 1) := by decide +kernel
theorem dL_law_1086 : decode cL_law 1086 = .ok (.aload_n 0, 1) := by decide +kernel
theorem dL_law_1087 : decode cL_law 1087 = .ok (.iload 4, 2) := by decide +kernel
theorem dL_law_1089 : decode cL_law 1089 = .ok (.iconst 3, 1) := by decide +kernel
theorem dL_law_1090 : decode cL_law 1090 = .ok (.iadd, 1) := by decide +kernel
theorem dL_law_1091 : decode cL_law 1091 = .ok (.iaload, 1) := by decide +kernel
theorem dL_law_1092 : decode cL_law 1092 = .ok (.invokevirtual 128, 3) := by decide +kernel
theorem dL_law_1095 : decode cL_law 1095 = .ok (.if_icmp .eq 174, 3) := by decide +kernel
theorem dL_law_1098 : decode cL_law 1098 = .ok (.iconst 0, 1) := by decide +kernel
theorem dL_law_1099 : decode cL_law 1099 = .ok (.ireturn, 1) := by decide +kernel
theorem dL_law_1100 : decode cL_law 1100 = .ok (.aload_n 1, 1) := by decide +kernel
theorem dL_law_1101 : decode cL_law 1101 = .ok (.aload_n 0, 1) := by decide +kernel
theorem dL_law_1102 : decode cL_law 1102 = .ok (.iload 4, 2) := by decide +kernel
theorem dL_law_1104 : decode cL_law 1104 = .ok (.iconst 1, 1) := by decide +kernel
theorem dL_law_1105 : decode cL_law 1105 = .ok (.iadd, 1) := by decide +kernel
theorem dL_law_1106 : decode cL_law 1106 = .ok (.iaload, 1) := by decide +kernel
theorem dL_law_1107 : decode cL_law 1107 = .ok (.invokevirtual 129, 3) := by decide +kernel
theorem dL_law_1110 : decode cL_law 1110 = .ok (.aload_n 2, 1) := by decide +kernel
theorem dL_law_1111 : decode cL_law 1111 = .ok (.aload_n 0, 1) := by decide +kernel
theorem dL_law_1112 : decode cL_law 1112 = .ok (.iload 4, 2) := by decide +kernel
theorem dL_law_1114 : decode cL_law 1114 = .ok (.iconst 1, 1) := by decide +kernel
theorem dL_law_1115 : decode cL_law 1115 = .ok (.iadd, 1) := by decide +kernel
theorem dL_law_1116 : decode cL_law 1116 = .ok (.iaload, 1) := by decide +kernel
theorem dL_law_1117 : decode cL_law 1117 = .ok (.invokevirtual 132, 3) := by decide +kernel
theorem dL_law_1120 : decode cL_law 1120 = .ok (.if_icmp .eq 149, 3) := by decide +kernel
theorem dL_law_1123 : decode cL_law 1123 = .ok (.iconst 0, 1) := by decide +kernel
theorem dL_law_1124 : decode cL_law 1124 = .ok (.ireturn, 1) := by decide +kernel
theorem dL_law_1125 : decode cL_law 1125 = .ok (.aload_n 1, 1) := by decide +kernel
theorem dL_law_1126 : decode cL_law 1126 = .ok (.aload_n 0, 1) := by decide +kernel
theorem dL_law_1127 : decode cL_law 1127 = .ok (.iload 4, 2) := by decide +kernel
theorem dL_law_1129 : decode cL_law 1129 = .ok (.iconst 1, 1) := by decide +kernel
theorem dL_law_1130 : decode cL_law 1130 = .ok (.iadd, 1) := by decide +kernel
theorem dL_law_1131 : decode cL_law 1131 = .ok (.iaload, 1) := by decide +kernel
theorem dL_law_1132 : decode cL_law 1132 = .ok (.aload_n 0, 1) := by decide +kernel
theorem dL_law_1133 : decode cL_law 1133 = .ok (.iload 4, 2) := by decide +kernel
theorem dL_law_1135 : decode cL_law 1135 = .ok (.iconst 2, 1) := by decide +kernel
theorem dL_law_1136 : decode cL_law 1136 = .ok (.iadd, 1) := by decide +kernel
theorem dL_law_1137 : decode cL_law 1137 = .ok (.iaload, 1) := by decide +kernel
theorem dL_law_1138 : decode cL_law 1138 = .ok (.invokevirtual 133, 3) := by decide +kernel
theorem dL_law_1141 : decode cL_law 1141 = .ok (.aload_n 2, 1) := by decide +kernel
theorem dL_law_1142 : decode cL_law 1142 = .ok (.aload_n 0, 1) := by decide +kernel
theorem dL_law_1143 : decode cL_law 1143 = .ok (.iload 4, 2) := by decide +kernel
theorem dL_law_1145 : decode cL_law 1145 = .ok (.iconst 1, 1) := by decide +kernel
theorem dL_law_1146 : decode cL_law 1146 = .ok (.iadd, 1) := by decide +kernel
theorem dL_law_1147 : decode cL_law 1147 = .ok (.iaload, 1) := by decide +kernel
theorem dL_law_1148 : decode cL_law 1148 = .ok (.aload_n 0, 1) := by decide +kernel
theorem dL_law_1149 : decode cL_law 1149 = .ok (.iload 4, 2) := by decide +kernel
theorem dL_law_1151 : decode cL_law 1151 = .ok (.iconst 2, 1) := by decide +kernel
theorem dL_law_1152 : decode cL_law 1152 = .ok (.iadd, 1) := by decide +kernel
theorem dL_law_1153 : decode cL_law 1153 = .ok (.iaload, 1) := by decide +kernel
theorem dL_law_1154 : decode cL_law 1154 = .ok (.invokevirtual 136, 3) := by decide +kernel
theorem dL_law_1157 : decode cL_law 1157 = .ok (.if_icmp .eq 112, 3) := by decide +kernel
theorem dL_law_1160 : decode cL_law 1160 = .ok (.iconst 0, 1) := by decide +kernel
theorem dL_law_1161 : decode cL_law 1161 = .ok (.ireturn, 1) := by decide +kernel
theorem dL_law_1162 : decode cL_law 1162 = .ok (.aload_n 1, 1) := by decide +kernel
theorem dL_law_1163 : decode cL_law 1163 = .ok (.invokevirtual 137, 3) := by decide +kernel
theorem dL_law_1166 : decode cL_law 1166 = .ok (.aload_n 2, 1) := by decide +kernel
theorem dL_law_1167 : decode cL_law 1167 = .ok (.invokevirtual 140, 3) := by decide +kernel
theorem dL_law_1170 : decode cL_law 1170 = .ok (.if_icmp .eq 99, 3) := by decide +kernel
theorem dL_law_1173 : decode cL_law 1173 = .ok (.iconst 0, 1) := by decide +kernel
theorem dL_law_1174 : decode cL_law 1174 = .ok (.ireturn, 1) := by decide +kernel
theorem dL_law_1175 : decode cL_law 1175 = .ok (.aload_n 1, 1) := by decide +kernel
theorem dL_law_1176 : decode cL_law 1176 = .ok (.aload_n 0, 1) := by decide +kernel
theorem dL_law_1177 : decode cL_law 1177 = .ok (.iload 4, 2) := by decide +kernel
theorem dL_law_1179 : decode cL_law 1179 = .ok (.iconst 1, 1) := by decide +kernel
theorem dL_law_1180 : decode cL_law 1180 = .ok (.iadd, 1) := by decide +kernel
theorem dL_law_1181 : decode cL_law 1181 = .ok (.iaload, 1) := by decide +kernel
theorem dL_law_1182 : decode cL_law 1182 = .ok (.aload_n 3, 1) := by decide +kernel
theorem dL_law_1183 : decode cL_law 1183 = .ok (.invokestatic 141, 3) := by decide +kernel
theorem dL_law_1186 : decode cL_law 1186 = .ok (.istore 5, 2) := by decide +kernel
theorem dL_law_1188 : decode cL_law 1188 = .ok (.aload_n 2, 1) := by decide +kernel
theorem dL_law_1189 : decode cL_law 1189 = .ok (.aload_n 0, 1) := by decide +kernel
theorem dL_law_1190 : decode cL_law 1190 = .ok (.iload 4, 2) := by decide +kernel
theorem dL_law_1192 : decode cL_law 1192 = .ok (.iconst 1, 1) := by decide +kernel
theorem dL_law_1193 : decode cL_law 1193 = .ok (.iadd, 1) := by decide +kernel
theorem dL_law_1194 : decode cL_law 1194 = .ok (.iaload, 1) := by decide +kernel
theorem dL_law_1195 : decode cL_law 1195 = .ok (.invokevirtual 144, 3) := by decide +kernel
theorem dL_law_1198 : decode cL_law 1198 = .ok (.istore 6, 2) := by decide +kernel
theorem dL_law_1200 : decode cL_law 1200 = .ok (.aload_n 2, 1) := by decide +kernel
theorem dL_law_1201 : decode cL_law 1201 = .ok (.invokevirtual 91, 3) := by decide +kernel
theorem dL_law_1204 : decode cL_law 1204 = .ok (.iload 5, 2) := by decide +kernel
theorem dL_law_1206 : decode cL_law 1206 = .ok (.if_icmp .eq 5, 3) := by decide +kernel
theorem dL_law_1209 : decode cL_law 1209 = .ok (.iconst 0, 1) := by decide +kernel
theorem dL_law_1210 : decode cL_law 1210 = .ok (.ireturn, 1) := by decide +kernel
theorem dL_law_1211 : decode cL_law 1211 = .ok (.iload 5, 2) := by decide +kernel
theorem dL_law_1213 : decode cL_law 1213 = .ok (.ifCond .ne 15, 3) := by decide +kernel
theorem dL_law_1216 : decode cL_law 1216 = .ok (.aload_n 3, 1) := by decide +kernel
theorem dL_law_1217 : decode cL_law 1217 = .ok (.iconst 0, 1) := by decide +kernel
theorem dL_law_1218 : decode cL_law 1218 = .ok (.laload, 1) := by decide +kernel
theorem dL_law_1219 : decode cL_law 1219 = .ok (.iload 6, 2) := by decide +kernel
theorem dL_law_1221 : decode cL_law 1221 = .ok (.i2l, 1) := by decide +kernel
theorem dL_law_1222 : decode cL_law 1222 = .ok (.lcmp, 1) := by decide +kernel
theorem dL_law_1223 : decode cL_law 1223 = .ok (.ifCond .eq 5, 3) := by decide +kernel
theorem dL_law_1226 : decode cL_law 1226 = .ok (.iconst 0, 1) := by decide +kernel
theorem dL_law_1227 : decode cL_law 1227 = .ok (.ireturn, 1) := by decide +kernel
theorem dL_law_1228 : decode cL_law 1228 = .ok (.goto 41, 3) := by decide +kernel
theorem dL_law_1231 : decode cL_law 1231 = .ok (.aload_n 1, 1) := by decide +kernel
theorem dL_law_1232 : decode cL_law 1232 = .ok (.aload_n 0, 1) := by decide +kernel
theorem dL_law_1233 : decode cL_law 1233 = .ok (.iload 4, 2) := by decide +kernel
theorem dL_law_1235 : decode cL_law 1235 = .ok (.iconst 1, 1) := by decide +kernel
theorem dL_law_1236 : decode cL_law 1236 = .ok (.iadd, 1) := by decide +kernel
theorem dL_law_1237 : decode cL_law 1237 = .ok (.iaload, 1) := by decide +kernel
theorem dL_law_1238 : decode cL_law 1238 = .ok (.invokevirtual 145, 3) := by decide +kernel
theorem dL_law_1241 : decode cL_law 1241 = .ok (.aload_n 2, 1) := by decide +kernel
theorem dL_law_1242 : decode cL_law 1242 = .ok (.aload_n 0, 1) := by decide +kernel
theorem dL_law_1243 : decode cL_law 1243 = .ok (.iload 4, 2) := by decide +kernel
theorem dL_law_1245 : decode cL_law 1245 = .ok (.iconst 1, 1) := by decide +kernel
theorem dL_law_1246 : decode cL_law 1246 = .ok (.iadd, 1) := by decide +kernel
theorem dL_law_1247 : decode cL_law 1247 = .ok (.iaload, 1) := by decide +kernel
theorem dL_law_1248 : decode cL_law 1248 = .ok (.invokevirtual 148, 3) := by decide +kernel
theorem dL_law_1251 : decode cL_law 1251 = .ok (.if_icmp .eq 18, 3) := by decide +kernel
theorem dL_law_1254 : decode cL_law 1254 = .ok (.iconst 0, 1) := by decide +kernel
theorem dL_law_1255 : decode cL_law 1255 = .ok (.ireturn, 1) := by decide +kernel
theorem dL_law_1256 : decode cL_law 1256 = .ok (.aload_n 1, 1) := by decide +kernel
theorem dL_law_1257 : decode cL_law 1257 = .ok (.invokevirtual 149, 3) := by decide +kernel
theorem dL_law_1260 : decode cL_law 1260 = .ok (.aload_n 2, 1) := by decide +kernel
theorem dL_law_1261 : decode cL_law 1261 = .ok (.invokevirtual 152, 3) := by decide +kernel
theorem dL_law_1264 : decode cL_law 1264 = .ok (.if_icmp .eq 5, 3) := by decide +kernel
theorem dL_law_1267 : decode cL_law 1267 = .ok (.iconst 0, 1) := by decide +kernel
theorem dL_law_1268 : decode cL_law 1268 = .ok (.ireturn, 1) := by decide +kernel
theorem dL_law_1269 : decode cL_law 1269 = .ok (.iinc 4 6, 3) := by decide +kernel
theorem dL_law_1272 : decode cL_law 1272 = .ok (.goto (-1249), 3) := by decide +kernel
theorem dL_law_1275 : decode cL_law 1275 = .ok (.iconst 1, 1) := by decide +kernel
theorem dL_law_1276 : decode cL_law 1276 = .ok (.ireturn, 1) := by decide +kernel
end
section
/-! The world: cells by kind and number; a memory of ints by kind, number and slot. -/
abbrev mem : Type := Nat → Nat → Nat → Int32
/-- one int changes -/
def mup (S : mem) (k i j : Nat) (v : Int32) : mem := fun a b => if a = k ∧ b = i then upd (S k i) j v else S a b
/-- the tables' numbers, the array classes by a number, the addresses by kind and number -/
abbrev cx : Type := va_G × (Nat → ClassId) × (Nat → Nat → Nat)
abbrev enT : Type := cx → Nat → Nat → (Nat → Int32) → va_E
def cwG (ix : List (Nat × Nat)) (en : enT) (g : cx) (S : mem) : va_W := ix.map (fun q => (g.2.2 q.1 q.2, en g q.1 q.2 (S q.1 q.2)))
abbrev tysA (g : cx) : List (ClassId × FieldType) := [(g.2.1 0, .int), (g.2.1 1, .boolean), (g.2.1 2, .object "WordRows$Note"), (g.2.1 3, .object "WordRows$Verse")]
theorem cwG_at {ix : List (Nat × Nat)} (en : enT) (g : cx) (S : mem) {k i : Nat} (h : (k, i) ∈ ix) : ∃ q : Nat, ix[q]? = some (k, i) ∧ (cwG ix en g S)[q]? = some (g.2.2 k i, en g k i (S k i)) := by
  obtain ⟨q, hq⟩ := List.getElem?_of_mem h
  exact ⟨q, hq, by simp [cwG, hq]⟩
theorem cwG_set {ix : List (Nat × Nat)} (nd : ix.Nodup) (en : enT) (g : cx) (S : mem) {k i q : Nat} (hq : ix[q]? = some (k, i)) (j : Nat) (v : Int32) : (cwG ix en g S).set q (g.2.2 k i, en g k i (upd (S k i) j v)) = cwG ix en g (mup S k i j v) := by
  have hl := (List.getElem?_eq_some_iff.mp hq).1
  apply List.ext_getElem?
  intro n
  by_cases hn : q = n
  · subst hn
    rw [List.getElem?_set_self (by simpa [cwG] using hl)]
    simp [cwG, hq, mup]
  · rw [List.getElem?_set_ne hn]
    simp only [cwG, List.getElem?_map]
    cases hm : ix[n]? with
    | none => rfl
    | some z =>
      obtain ⟨a, b⟩ := z
      have : ¬ (a = k ∧ b = i) := by
        rintro ⟨rfl, rfl⟩
        have hln := (List.getElem?_eq_some_iff.mp hm).1
        exact hn ((List.getElem?_inj hl nd).mp (hq.trans hm.symm))
      simp [mup, this]
theorem cwG_ad {ix : List (Nat × Nat)} {en : enT} {g : cx} {S S' : mem} {A : Nat → Prop} (h : va_D A (cwG ix en g S)) : va_D A (cwG ix en g S') := by
  refine ⟨fun i j p q hi hj e => ?_, fun k q hk => ?_⟩
  · simp only [cwG, List.getElem?_map, Option.map_eq_some_iff] at hi hj
    obtain ⟨a, ha, rfl⟩ := hi
    obtain ⟨b, hb, rfl⟩ := hj
    exact h.1 i j (g.2.2 a.1 a.2, en g a.1 a.2 (S a.1 a.2)) (g.2.2 b.1 b.2, en g b.1 b.2 (S b.1 b.2)) (by simp [cwG, ha]) (by simp [cwG, hb]) e
  · simp only [cwG, List.getElem?_map, Option.map_eq_some_iff] at hk
    obtain ⟨a, ha, rfl⟩ := hk
    exact h.2 k (g.2.2 a.1 a.2, en g a.1 a.2 (S a.1 a.2)) (by simp [cwG, ha])
/-- the words on nest mates -/
def nestW : List Cond := tables_1.filter (fun w => match w with | .fieldLinkNest _ _ _ _ _ _ => true | .methodLinkNest _ _ _ _ => true | _ => false)
def nestOK (U : State) : Prop := ∀ w ∈ nestW, va_Nw w U
theorem nestOK.warm {s U : State} (hW : s.WarmedH U.vm) (h : nestOK s) : nestOK U := by
  intro w hw
  have h1 := h w hw
  have h2 := (List.mem_filter.mp hw).2
  cases w <;> first | (simp at h2; done) | exact va_Nw.warmF hW h1 | exact va_Nw.warmM hW h1
theorem nestOK.same {s U : State} (hv : s.vm = U.vm) (h : nestOK s) : nestOK U := by
  intro w hw
  have h1 := h w hw
  have h2 := (List.mem_filter.mp hw).2
  cases w <;> first | (simp at h2; done) | exact va_Nw.same rfl hv h1
/-- the common words of all methods -/
def TBg : List Cond := lw_tbl.filter goodWord
def wsU (y : MethodName) (b : ByteArray) (n : Nat) (r : Option FieldType) : List Cond := .code y b n r :: TBg
theorem wsU_in {y : MethodName} {b : ByteArray} {n : Nat} {r : Option FieldType} {w : Cond} (h : w ∈ TBg) : w ∈ wsU y b n r := List.mem_cons_of_mem _ h
theorem wsU_good {y y' : MethodName} {b b' : ByteArray} {n n' : Nat} {r r' : Option FieldType} (h : Cond.code y' b' n' r' ∈ TBg) : GoodIn (wsU y b n r) (wsU y' b' n' r') := by
  intro w hw
  have hw' : w ∈ TBg := by
    rcases List.mem_cons.mp hw with rfl | hw
    · exact h
    · exact hw
  exact ⟨wsU_in hw', good_of_word (List.mem_filter.mp hw').2⟩
/-- the world as a method sees it on its way -/
def Wd (ix : List (Nat × Nat)) (en : enT) (g : cx) (S : mem) (A : Nat → Prop) (s : State) (H : Heap) (locs : List Loc) : Prop :=
  va_K g.1 vwCl (tysA g) s ∧ va_P g.1 vwCl (cwG ix en g S) H ∧ va_D A (cwG ix en g S) ∧ va_S A s.heap H locs ∧ nestOK s
/-- the world as a state holds it -/
def Wu (ix : List (Nat × Nat)) (en : enT) (g : cx) (S : mem) (U : State) : Prop :=
  va_K g.1 vwCl (tysA g) U ∧ va_P g.1 vwCl (cwG ix en g S) U.heap ∧ va_D (fun _ => True) (cwG ix en g S) ∧ nestOK U
/-- the cells that a method may write -/
def Aw (ix : List (Nat × Nat)) (g : cx) (sz : Nat) : Nat → Prop := fun q => (∃ k i : Nat, (k, i) ∈ ix ∧ q = g.2.2 k i) ∨ sz ≤ q
theorem Wu.calling {ix : List (Nat × Nat)} {en : enT} {g : cx} {S : mem} {U : State} {f : JFrame} {mk : MethodId} {a : Array Value} (h : Wu ix en g S U) : Wu ix en g S (U.calling f mk a) := ⟨va_K.moved (u := U) (U := U.calling f mk a) (Vm.Alike.refl U.vm) h.1, h.2.1, h.2.2.1, nestOK.same (s := U) (U := U.calling f mk a) rfl h.2.2.2⟩
theorem Wd.u {ix : List (Nat × Nat)} {en : enT} {g : cx} {S : mem} {A : Nat → Prop} {s U : State} {H : Heap} {locs : List Loc} (h : Wd ix en g S A s H locs) (hU : U.heap = H) (hW : s.WarmedH U.vm) : Wu ix en g S U := ⟨va_K.moved hW.alike h.1, by rw [hU]; exact h.2.1, h.2.2.1.weaken (fun _ _ _ _ => trivial), nestOK.warm hW h.2.2.2.2⟩
theorem Wu.d {ix : List (Nat × Nat)} {en : enT} {g : cx} {S : mem} {s : State} {sz : Nat} (h : Wu ix en g S s) (hz : s.heap.size = sz) : Wd ix en g S (Aw ix g sz) s s.heap [] := by
  refine ⟨h.1, h.2.1, ⟨h.2.2.1.1, fun k q hk => ?_⟩, va_S.rf, h.2.2.2⟩
  simp only [cwG, List.getElem?_map, Option.map_eq_some_iff] at hk
  obtain ⟨a, ha, rfl⟩ := hk
  exact Or.inl ⟨a.1, a.2, List.mem_of_getElem? ha, rfl⟩
end
section
/-! Rows over the world -/
section Rw
variable {p : Program} {l : Launch} {e : Env} {R : Room} {s : State} {m : MethodId} {args : Array Value} {below : List Frame} {meth : Method} {c : Code} {H : Heap} {locs : List Loc} {cells slots : Nat} {Q : State → Prop}
variable {cc : ByteArray} {pc nL : Nat} {ls : Array Slot} {rest : List Value} {Ts : List Cond} {own : String} {ix : List (Nat × Nat)} {en : enT} {g : cx} {S : mem} {A : Nat → Prop}
theorem w_get (F : CallFix p m c cc nL s args Ts own) (B : Wd ix en g S A s H locs) {k i : Nat} (hi : (k, i) ∈ ix) {C : String} {T : u_T} {N ci index : Nat} {fs : List Value} (he : en g k i (S k i) = .inr (ci, fs)) (hc : vwCl[ci]? = some (C, T, N)) (hin : ∀ w ∈ u_ws C T N, w ∈ Ts) (j : Nat) (hj : j < N)
    (hlink : (Cond.fieldLink own index (T j).1 (T j).2.1 (T j).2.2.1).before args s = true) {v : Value} (hv : fs[j]? = some v) (hdg : decode cc pc = .ok (.getfield index, 3))
    (kk : W p l e R s m args below meth c H locs cells slots Q (F0 m (pc + 3) ls (v :: rest))) : W p l e R s m args below meth c H locs cells slots Q (F0 m pc ls (.ref (g.2.2 k i) :: rest)) := by
  obtain ⟨q, -, hq⟩ := cwG_at en g S hi
  rw [he] at hq
  exact va_get F.1 F.2.1 F.2.2.2.2 hin F.2.2.2.1 B.1 B.2.1 q hq hc j hj hlink (fun _ h9 => h9) hv hdg kk
theorem w_getN (F : CallFix p m c cc nL s args Ts own) (B : Wd ix en g S A s H locs) {k i : Nat} (hi : (k, i) ∈ ix) {C host : String} {T : u_T} {N ci index : Nat} {fs : List Value} (he : en g k i (S k i) = .inr (ci, fs)) (hc : vwCl[ci]? = some (C, T, N)) (hin : ∀ w ∈ u_ws C T N, w ∈ Ts) (j : Nat) (hj : j < N)
    (hlink : Cond.fieldLinkNest own index (T j).1 (T j).2.1 (T j).2.2.1 host ∈ nestW) {v : Value} (hv : fs[j]? = some v) (hdg : decode cc pc = .ok (.getfield index, 3))
    (kk : W p l e R s m args below meth c H locs cells slots Q (F0 m (pc + 3) ls (v :: rest))) : W p l e R s m args below meth c H locs cells slots Q (F0 m pc ls (.ref (g.2.2 k i) :: rest)) := by
  obtain ⟨q, -, hq⟩ := cwG_at en g S hi
  rw [he] at hq
  exact va_getN F.1 F.2.1 F.2.2.2.2 hin F.2.2.2.1 B.1 B.2.1 q hq hc j hj (va_Nw.use rfl (B.2.2.2.2 _ hlink)) (fun _ h9 => h9) hv hdg kk
theorem w_put (F : CallFix p m c cc nL s args Ts own) (nd : ix.Nodup) (B : Wd ix en g S A s H locs) {k i : Nat} (hi : (k, i) ∈ ix) {C : String} {T : u_T} {N ci index : Nat} {fs : List Value} {x : Int32} (j : Nat) (hj : j < N) (he : en g k i (S k i) = .inr (ci, fs)) (he2 : en g k i (upd (S k i) j x) = .inr (ci, fs.set j (.int x))) (hc : vwCl[ci]? = some (C, T, N)) (hin : ∀ w ∈ u_ws C T N, w ∈ Ts) (ty0 : Nat → FieldType) (hty : ∀ k, k < N → parseFieldDescriptor (T k).2.2.1 = some (ty0 k)) (hnm : ∀ a, a < N → ∀ b, b < N → a ≠ b → (T a).2.1 ≠ (T b).2.1)
    (hlink : (Cond.fieldLink own index (T j).1 (T j).2.1 (T j).2.2.1).before args s = true) (hfin : (T j).2.2.2 = false) (hn : narrow (ty0 j) (.int x) = .int x) (hfit : fits (ty0 j) (.int x) = true) (hl : j < fs.length) (hdg : decode cc pc = .ok (.putfield index, 3))
    (kk : ∀ (H : Heap) (locs : List Loc), Wd ix en g (mup S k i j x) A s H locs → W p l e R s m args below meth c H locs cells slots Q (F0 m (pc + 3) ls rest)) : W p l e R s m args below meth c H locs cells slots Q (F0 m pc ls (.int x :: .ref (g.2.2 k i) :: rest)) := by
  obtain ⟨q, hqi, hq⟩ := cwG_at en g S hi
  rw [he] at hq
  refine va_put F.1 F.2.1 F.2.2.2.2 hin ty0 hty hnm F.2.2.2.1 B.1 B.2.1 B.2.2.1 B.2.2.2.1 q hq hc j hj hlink (fun _ h9 => h9) hfin (hty j hj) hn hfit hl hdg (fun H1 locs1 hP hD hS => ?_)
  rw [← he2, cwG_set nd en g S hqi j x] at hP hD
  exact kk H1 locs1 ⟨B.1, hP, hD, hS, B.2.2.2.2⟩
theorem w_putN (F : CallFix p m c cc nL s args Ts own) (nd : ix.Nodup) (B : Wd ix en g S A s H locs) {k i : Nat} (hi : (k, i) ∈ ix) {C host : String} {T : u_T} {N ci index : Nat} {fs : List Value} {x : Int32} (j : Nat) (hj : j < N) (he : en g k i (S k i) = .inr (ci, fs)) (he2 : en g k i (upd (S k i) j x) = .inr (ci, fs.set j (.int x))) (hc : vwCl[ci]? = some (C, T, N)) (hin : ∀ w ∈ u_ws C T N, w ∈ Ts) (ty0 : Nat → FieldType) (hty : ∀ k, k < N → parseFieldDescriptor (T k).2.2.1 = some (ty0 k)) (hnm : ∀ a, a < N → ∀ b, b < N → a ≠ b → (T a).2.1 ≠ (T b).2.1)
    (hlink : Cond.fieldLinkNest own index (T j).1 (T j).2.1 (T j).2.2.1 host ∈ nestW) (hfin : (T j).2.2.2 = false) (hn : narrow (ty0 j) (.int x) = .int x) (hfit : fits (ty0 j) (.int x) = true) (hl : j < fs.length) (hdg : decode cc pc = .ok (.putfield index, 3))
    (kk : ∀ (H : Heap) (locs : List Loc), Wd ix en g (mup S k i j x) A s H locs → W p l e R s m args below meth c H locs cells slots Q (F0 m (pc + 3) ls rest)) : W p l e R s m args below meth c H locs cells slots Q (F0 m pc ls (.int x :: .ref (g.2.2 k i) :: rest)) := by
  obtain ⟨q, hqi, hq⟩ := cwG_at en g S hi
  rw [he] at hq
  refine va_putN F.1 F.2.1 F.2.2.2.2 hin ty0 hty hnm F.2.2.2.1 B.1 B.2.1 B.2.2.1 B.2.2.2.1 q hq hc j hj (va_Nw.use rfl (B.2.2.2.2 _ hlink)) (fun _ h9 => h9) hfin (hty j hj) hn hfit hl hdg (fun H1 locs1 hP hD hS => ?_)
  rw [← he2, cwG_set nd en g S hqi j x] at hP hD
  exact kk H1 locs1 ⟨B.1, hP, hD, hS, B.2.2.2.2⟩
theorem w_iald (F : CallFix p m c cc nL s args Ts own) (B : Wd ix en g S A s H locs) {k i : Nat} (hi : (k, i) ∈ ix) {n : Nat} (he : en g k i (S k i) = .inl (g.2.1 0, n, .inl (S k i))) {x : Int32} (hin : ¬ (x < 0 ∨ n ≤ x.toNatClampNeg)) (hdg : decode cc pc = .ok (.iaload, 1))
    (kk : W p l e R s m args below meth c H locs cells slots Q (F0 m (pc + 1) ls (.int (S k i x.toNatClampNeg) :: rest))) : W p l e R s m args below meth c H locs cells slots Q (F0 m pc ls (.int x :: .ref (g.2.2 k i) :: rest)) := by
  obtain ⟨q, -, hq⟩ := cwG_at en g S hi
  rw [he] at hq
  exact va_iald F.1 F.2.1 B.1 B.2.1 q 0 hq rfl hin hdg kk
theorem w_zald (F : CallFix p m c cc nL s args Ts own) (B : Wd ix en g S A s H locs) {k i : Nat} (hi : (k, i) ∈ ix) {n : Nat} (he : en g k i (S k i) = .inl (g.2.1 1, n, .inl (S k i))) {x : Int32} (hin : ¬ (x < 0 ∨ n ≤ x.toNatClampNeg)) (hdg : decode cc pc = .ok (.baload, 1))
    (kk : W p l e R s m args below meth c H locs cells slots Q (F0 m (pc + 1) ls (.int (S k i x.toNatClampNeg) :: rest))) : W p l e R s m args below meth c H locs cells slots Q (F0 m pc ls (.int x :: .ref (g.2.2 k i) :: rest)) := by
  obtain ⟨q, -, hq⟩ := cwG_at en g S hi
  rw [he] at hq
  exact va_zald F.1 F.2.1 B.1 B.2.1 q 1 hq rfl hin hdg kk
theorem w_aald (F : CallFix p m c cc nL s args Ts own) (B : Wd ix en g S A s H locs) {k i : Nat} (hi : (k, i) ∈ ix) {n t k2 : Nat} {C : String} (he : en g k i (S k i) = .inl (g.2.1 t, n, .inr (.inr (.inr (.inr (fun j => some (g.2.2 k2 j))))))) (ht : (tysA g)[t]? = some (g.2.1 t, .object C)) {x : Int32} (hin : ¬ (x < 0 ∨ n ≤ x.toNatClampNeg)) (hdg : decode cc pc = .ok (.aaload, 1))
    (kk : W p l e R s m args below meth c H locs cells slots Q (F0 m (pc + 1) ls (.ref (g.2.2 k2 x.toNatClampNeg) :: rest))) : W p l e R s m args below meth c H locs cells slots Q (F0 m pc ls (.int x :: .ref (g.2.2 k i) :: rest)) := by
  obtain ⟨q, -, hq⟩ := cwG_at en g S hi
  rw [he] at hq
  exact va_aldq F.1 F.2.1 B.1 B.2.1 q t hq ht hin hdg kk
theorem w_iast (F : CallFix p m c cc nL s args Ts own) (nd : ix.Nodup) (B : Wd ix en g S A s H locs) {k i : Nat} (hi : (k, i) ∈ ix) {n : Nat} (he : ∀ r : Nat → Int32, en g k i r = .inl (g.2.1 0, n, .inl r)) {x v : Int32} (hin : ¬ (x < 0 ∨ n ≤ x.toNatClampNeg)) (hdg : decode cc pc = .ok (.iastore, 1))
    (kk : ∀ (H : Heap) (locs : List Loc), Wd ix en g (mup S k i x.toNatClampNeg v) A s H locs → W p l e R s m args below meth c H locs cells slots Q (F0 m (pc + 1) ls rest)) : W p l e R s m args below meth c H locs cells slots Q (F0 m pc ls (.int v :: .int x :: .ref (g.2.2 k i) :: rest)) := by
  obtain ⟨q, hqi, hq⟩ := cwG_at en g S hi
  rw [he] at hq
  refine va_iast F.1 F.2.1 B.1 B.2.1 B.2.2.1 B.2.2.2.1 q 0 hq rfl hin hdg (fun H1 locs1 hP hD hS => ?_)
  rw [← he, cwG_set nd en g S hqi] at hP hD
  exact kk H1 locs1 ⟨B.1, hP, hD, hS, B.2.2.2.2⟩
theorem w_zast (F : CallFix p m c cc nL s args Ts own) (nd : ix.Nodup) (B : Wd ix en g S A s H locs) {k i : Nat} (hi : (k, i) ∈ ix) {n : Nat} (he : ∀ r : Nat → Int32, en g k i r = .inl (g.2.1 1, n, .inl r)) {x v : Int32} (hin : ¬ (x < 0 ∨ n ≤ x.toNatClampNeg)) (hdg : decode cc pc = .ok (.bastore, 1))
    (kk : ∀ (H : Heap) (locs : List Loc), Wd ix en g (mup S k i x.toNatClampNeg (vp_nar .boolean v)) A s H locs → W p l e R s m args below meth c H locs cells slots Q (F0 m (pc + 1) ls rest)) : W p l e R s m args below meth c H locs cells slots Q (F0 m pc ls (.int v :: .int x :: .ref (g.2.2 k i) :: rest)) := by
  obtain ⟨q, hqi, hq⟩ := cwG_at en g S hi
  rw [he] at hq
  refine va_zast F.1 F.2.1 B.1 B.2.1 B.2.2.1 B.2.2.2.1 q 1 hq rfl hin hdg (fun H1 locs1 hP hD hS => ?_)
  rw [← he, cwG_set nd en g S hqi] at hP hD
  exact kk H1 locs1 ⟨B.1, hP, hD, hS, B.2.2.2.2⟩
/-- contracts over the world: the start, and the ends -/
def PcW (ix : List (Nat × Nat)) (en : enT) (g : cx) (S : mem) (sz : Nat) (av : List Value) : Array Value → State → Prop := va_Pc av (fun U => U.heap.size = sz ∧ Wu ix en g S U)
abbrev QiW (ix : List (Nat × Nat)) (en : enT) (g : cx) (sz : Nat) (r : Int32) (S' : mem) : Array Value → State → Outcome → State → Prop := va_Qi (fun (x : Int32) (_ : Unit) => x = r) (fun _ t => Wu ix en g S' t) (Aw ix g sz)
abbrev QvW (ix : List (Nat × Nat)) (en : enT) (g : cx) (sz : Nat) (S' : mem) : Array Value → State → Outcome → State → Prop := va_Qv (fun (_ : Unit) => True) (fun _ t => Wu ix en g S' t) (Aw ix g sz)
theorem PcW.blind {sz : Nat} {av : List Value} : FrameBlind (PcW ix en g S sz av) := fun a U f mk h => ⟨h.1, h.2.1, h.2.2.calling⟩
theorem w_iret {S' : mem} {v : Int32} (F : CallFix p m c cc nL s args Ts own) (hr : meth.sig.returnType = some .int) (hlocks : meth.locks = false) (B : Wd ix en g S' (Aw ix g s.heap.size) s H locs) (hdg : decode cc pc = .ok (.ireturn, 1)) :
    W p l e R s m args below meth c H locs cells slots (MQ below (QiW ix en g s.heap.size v S') args s cells slots (Aw ix g s.heap.size)) (F0 m pc ls [.int v]) :=
  W.iret F.1 F.2.1 hr (fun t ht hW => ⟨⟨v, (), rfl, rfl, B.u ht hW⟩, B.2.2.2.1.F ht⟩) B.2.2.2.1.2.2 hdg hlocks
theorem w_zret {S' : mem} {v : Int32} (F : CallFix p m c cc nL s args Ts own) (hr : meth.sig.returnType = some .boolean) (hlocks : meth.locks = false) (hv : v = 0 ∨ v = 1) (B : Wd ix en g S' (Aw ix g s.heap.size) s H locs) (hdg : decode cc pc = .ok (.ireturn, 1)) :
    W p l e R s m args below meth c H locs cells slots (MQ below (QiW ix en g s.heap.size v S') args s cells slots (Aw ix g s.heap.size)) (F0 m pc ls [.int v]) :=
  W.zret F.1 F.2.1 hr (by rcases hv with rfl | rfl <;> rfl) (fun t ht hW => ⟨⟨v, (), rfl, rfl, B.u ht hW⟩, B.2.2.2.1.F ht⟩) B.2.2.2.1.2.2 hdg hlocks
theorem w_vret {S' : mem} (F : CallFix p m c cc nL s args Ts own) (hr : meth.sig.returnType = none) (hlocks : meth.locks = false) (B : Wd ix en g S' (Aw ix g s.heap.size) s H locs) (hdg : decode cc pc = .ok (.return_, 1)) :
    W p l e R s m args below meth c H locs cells slots (MQ below (QvW ix en g s.heap.size S') args s cells slots (Aw ix g s.heap.size)) (F0 m pc ls []) :=
  W.vret F.1 F.2.1 hr (fun t ht hW => ⟨⟨(), rfl, trivial, B.u ht hW⟩, B.2.2.2.1.F ht⟩) B.2.2.2.1.2.2 hdg hlocks
end Rw
end
section
/-! The start of a contract, and calls, over the world -/
def rmD (d : Nat) : Room := { frames := d, cells := 0, slots := 0, locals := 40 * d }
theorem met_intro {l : Launch} {y : MethodName} {cc : ByteArray} {maxL : Nat} {ret : Option FieldType} {rm : Room} {ix : List (Nat × Nat)} {en : enT} {g : cx} {S : mem} {sz : Nat} {Qc : Nat → Array Value → State → Outcome → State → Prop} {free : Nat → Addr → Prop} (av : List Value) (own : String) (ho : y.cls = own) (hy : plainName y.cls = true) (hfit : (lg_sl av).length ≤ maxL)
    (body : ∀ p e s m below meth c, CallFix p m c cc maxL s av.toArray (wsU y cc maxL ret) own → meth.sig.returnType = ret → meth.locks = false → Wd ix en g S (Aw ix g s.heap.size) s s.heap [] → ∀ ls, lv_has ls maxL (lv_args 0 av) →
      W p l e rm s m av.toArray below meth c s.heap [] 0 0 (MQ below (Qc s.heap.size) av.toArray s 0 0 (free s.heap.size)) (F0 m 0 ls [])) :
    Met l y (wsU y cc maxL ret) rm (PcW ix en g S sz av) (Qc sz) 0 0 (free sz) := by
  refine Met.ofW (cc := cc) (maxL := maxL) (ret := ret) hy rfl ?_
  intro p e s m args below meth c s₁ B hml hv
  obtain ⟨rfl, hsz, hU⟩ := hv
  subst hsz
  have hts := atoms_spec (ws := wsU y cc maxL ret) B.pre
  have hown : s.vm.findClass own = some m.cls := by rw [← ho]; exact findClass_of_methodNamed B.named
  have hl := lv_entry av (n := maxL) hfit
  rw [lg_entry_eq]
  exact body p e s m below meth c ⟨B.exec, B.bytes, hml, hown, hts⟩ B.returns B.notSynchronized (hU.d rfl) _ hl
section Cl
variable {p : Program} {l : Launch} {e : Env} {R : Room} {s : State} {m : MethodId} {args : Array Value} {below : List Frame} {meth : Method} {c : Code} {H : Heap} {locs : List Loc} {cells slots : Nat} {Q : State → Prop}
variable {cc : ByteArray} {pc nL : Nat} {ls : Array Slot} {rest st0 : List Value} {own : String} {ix : List (Nat × Nat)} {en : enT} {g : cx} {S S' : mem} {y y' : MethodName} {ret r' : Option FieldType} {b' : ByteArray} {n' d' : Nat} {As : List Value} {k i index : Nat} {C host : String} {T : u_T} {N ci : Nat} {fs : List Value} {r : Int32}
theorem w_back (B : Wd ix en g S (Aw ix g s.heap.size) s H locs) {t : State} {H1 : Heap} {locs1 : List Loc} (ht : t.heap = H1) (hu : Wu ix en g S' t) (hS : va_S (Aw ix g s.heap.size) s.heap H1 locs1) : Wd ix en g S' (Aw ix g s.heap.size) s H1 locs1 :=
  ⟨B.1, by rw [← ht]; exact hu.2.1, cwG_ad B.2.2.1, hS, B.2.2.2.2⟩
theorem w_awA (B : Wd ix en g S (Aw ix g s.heap.size) s H locs) (q : Nat) (h : Aw ix g H.size q) : Aw ix g s.heap.size q := h.elim Or.inl (fun h => Or.inr (Nat.le_trans B.2.2.2.1.1 h))
theorem w_prV (B : Wd ix en g S (Aw ix g s.heap.size) s H locs) (hi : (k, i) ∈ ix) (he : en g k i (S k i) = .inr (ci, fs)) (hc : vwCl[ci]? = some (C, T, N)) : PreV s H C (g.2.2 k i) (PcW ix en g S H.size (.ref (g.2.2 k i) :: As)) As := by
  obtain ⟨q, -, hq⟩ := cwG_at en g S hi
  rw [he] at hq
  exact ⟨PcW.blind, va_recv B.1 B.2.1 hc hq, fun U hU hW => ⟨rfl, by rw [hU], B.u hU hW⟩⟩
theorem w_prS (B : Wd ix en g S (Aw ix g s.heap.size) s H locs) : PreS s H (PcW ix en g S H.size As) As := ⟨PcW.blind, fun U hU hW => ⟨rfl, by rw [hU], B.u hU hW⟩⟩
/-- what a call of y' by its name costs and needs -/
def okD (y' : MethodName) (n' d' nn : Nat) (R : Room) : Prop := (y'.cls ≠ "java/lang/invoke/MethodHandle" ∧ y'.cls ≠ "java/lang/invoke/VarHandle" ∧ (parseMethodDescriptor y'.desc).map (fun d => d.parameters.length) = some nn) ∧ (d' + 1 ≤ R.frames ∧ 8 + (n' + 11) + 40 * d' ≤ R.locals ∧ cells ≤ R.cells ∧ slots ≤ R.slots)
theorem w_cbB {nn : Nat} (F : CallFix p m c cc nL s args (wsU y cc nL ret) own) (hcd : Cond.code y' b' n' r' ∈ TBg) (hlk : Cond.methodLink own index y' ∈ TBg) (hini : Cond.initialized y'.cls ∈ TBg) (hd : okD (cells := cells) (slots := slots) y' n' d' nn R) : CallB R s args own index y' b' n' r' (wsU y' b' n' r') (rmD d') 0 0 nn :=
  callB_of nn F.2.2.2.2 (wsU_good hcd) rfl rfl rfl (F.2.2.2.2 _ (wsU_in hini)) (F.2.2.2.2 _ (wsU_in hlk)) hd.1 ⟨hd.2.1, hd.2.2.1⟩
theorem w_cbN {nn : Nat} (F : CallFix p m c cc nL s args (wsU y cc nL ret) own) (B : Wd ix en g S (Aw ix g s.heap.size) s H locs) (hcd : Cond.code y' b' n' r' ∈ TBg) (hlk : Cond.methodLinkNest own index y' host ∈ nestW) (hini : Cond.initialized y'.cls ∈ TBg) (hd : okD (cells := cells) (slots := slots) y' n' d' nn R) : va_CN R s args own index y' host b' n' r' (wsU y' b' n' r') (rmD d') 0 0 nn :=
  va_cnB nn F.2.2.2.2 (wsU_good hcd) rfl rfl rfl (B.2.2.2.2 _ hlk) (F.2.2.2.2 _ (wsU_in hini)) hd.1 ⟨hd.2.1, hd.2.2.1⟩
theorem w_callVi {nn : Nat} (F : CallFix p m c cc nL s args (wsU y cc nL ret) own) (B : Wd ix en g S (Aw ix g s.heap.size) s H locs) (hM : Met l y' (wsU y' b' n' r') (rmD d') (PcW ix en g S H.size (.ref (g.2.2 k i) :: As)) (QiW ix en g H.size r S') 0 0 (Aw ix g H.size))
    (hcd : Cond.code y' b' n' r' ∈ TBg) (hlk : Cond.methodLink own index y' ∈ TBg) (hini : Cond.initialized y'.cls ∈ TBg) (hins : Cond.instanceMethod y' ∈ TBg) (hsel : Cond.selects C y' y' ∈ TBg) (hi : (k, i) ∈ ix) (he : en g k i (S k i) = .inr (ci, fs)) (hc : vwCl[ci]? = some (C, T, N)) (hd : okD (cells := cells) (slots := slots) y' n' d' nn R) (hn : As.length = nn) (hsz : ls.size = nL) (hst : st0 = As.reverse ++ .ref (g.2.2 k i) :: rest) (hw : (rest.map fun v => v.category).sum ≤ 8) (hdg : decode cc pc = .ok (.invokevirtual index, 3))
    (kk : ∀ (H : Heap) (locs : List Loc), Wd ix en g S' (Aw ix g s.heap.size) s H locs → W p l e R s m args below meth c H locs cells slots Q (F0 m (pc + 3) ls (.int r :: rest))) : W p l e R s m args below meth c H locs cells slots Q (F0 m pc ls st0) := by
  refine va_calli (va_runV (As := As) (rest := rest) F hM ⟨w_cbB F hcd hlk hini hd, F.2.2.2.2 _ (wsU_in hins), F.2.2.2.2 _ (wsU_in hsel)⟩ (w_prV B hi he hc) rfl hn hsz hst (lv_room hw) hdg ⟨hd.2.2.2.1, hd.2.2.2.2⟩) B.2.2.2.1 (fun q _ h => w_awA B q h) (w_awA B) (fun r1 u t H1 locs1 ht _ hp hB _ _ hS => ?_)
  subst hp
  exact kk H1 locs1 (w_back B ht hB hS)
theorem w_callVv {nn : Nat} (F : CallFix p m c cc nL s args (wsU y cc nL ret) own) (B : Wd ix en g S (Aw ix g s.heap.size) s H locs) (hM : Met l y' (wsU y' b' n' r') (rmD d') (PcW ix en g S H.size (.ref (g.2.2 k i) :: As)) (QvW ix en g H.size S') 0 0 (Aw ix g H.size))
    (hcd : Cond.code y' b' n' r' ∈ TBg) (hlk : Cond.methodLink own index y' ∈ TBg) (hini : Cond.initialized y'.cls ∈ TBg) (hins : Cond.instanceMethod y' ∈ TBg) (hsel : Cond.selects C y' y' ∈ TBg) (hi : (k, i) ∈ ix) (he : en g k i (S k i) = .inr (ci, fs)) (hc : vwCl[ci]? = some (C, T, N)) (hd : okD (cells := cells) (slots := slots) y' n' d' nn R) (hn : As.length = nn) (hsz : ls.size = nL) (hst : st0 = As.reverse ++ .ref (g.2.2 k i) :: rest) (hw : (rest.map fun v => v.category).sum ≤ 8) (hdg : decode cc pc = .ok (.invokevirtual index, 3))
    (kk : ∀ (H : Heap) (locs : List Loc), Wd ix en g S' (Aw ix g s.heap.size) s H locs → W p l e R s m args below meth c H locs cells slots Q (F0 m (pc + 3) ls rest)) : W p l e R s m args below meth c H locs cells slots Q (F0 m pc ls st0) := by
  refine va_callv (va_runV (As := As) (rest := rest) F hM ⟨w_cbB F hcd hlk hini hd, F.2.2.2.2 _ (wsU_in hins), F.2.2.2.2 _ (wsU_in hsel)⟩ (w_prV B hi he hc) rfl hn hsz hst (lv_room hw) hdg ⟨hd.2.2.2.1, hd.2.2.2.2⟩) B.2.2.2.1 (fun q _ h => w_awA B q h) (w_awA B) (fun u t H1 locs1 ht _ hp hB _ _ hS => ?_)
  exact kk H1 locs1 (w_back B ht hB hS)
theorem w_callNi {nn : Nat} (F : CallFix p m c cc nL s args (wsU y cc nL ret) own) (B : Wd ix en g S (Aw ix g s.heap.size) s H locs) (hM : Met l y' (wsU y' b' n' r') (rmD d') (PcW ix en g S H.size (.ref (g.2.2 k i) :: As)) (QiW ix en g H.size r S') 0 0 (Aw ix g H.size))
    (hcd : Cond.code y' b' n' r' ∈ TBg) (hlk : Cond.methodLinkNest own index y' host ∈ nestW) (hini : Cond.initialized y'.cls ∈ TBg) (hins : Cond.instanceMethod y' ∈ TBg) (hsel : Cond.selects C y' y' ∈ TBg) (hi : (k, i) ∈ ix) (he : en g k i (S k i) = .inr (ci, fs)) (hc : vwCl[ci]? = some (C, T, N)) (hd : okD (cells := cells) (slots := slots) y' n' d' nn R) (hn : As.length = nn) (hsz : ls.size = nL) (hst : st0 = As.reverse ++ .ref (g.2.2 k i) :: rest) (hw : (rest.map fun v => v.category).sum ≤ 8) (hdg : decode cc pc = .ok (.invokevirtual index, 3))
    (kk : ∀ (H : Heap) (locs : List Loc), Wd ix en g S' (Aw ix g s.heap.size) s H locs → W p l e R s m args below meth c H locs cells slots Q (F0 m (pc + 3) ls (.int r :: rest))) : W p l e R s m args below meth c H locs cells slots Q (F0 m pc ls st0) := by
  refine va_calli (va_runVN (As := As) (rest := rest) F hM ⟨w_cbN F B hcd hlk hini hd, F.2.2.2.2 _ (wsU_in hins), F.2.2.2.2 _ (wsU_in hsel)⟩ (w_prV B hi he hc) rfl hn hsz hst (lv_room hw) hdg ⟨hd.2.2.2.1, hd.2.2.2.2⟩) B.2.2.2.1 (fun q _ h => w_awA B q h) (w_awA B) (fun r1 u t H1 locs1 ht _ hp hB _ _ hS => ?_)
  subst hp
  exact kk H1 locs1 (w_back B ht hB hS)
theorem w_callNv {nn : Nat} (F : CallFix p m c cc nL s args (wsU y cc nL ret) own) (B : Wd ix en g S (Aw ix g s.heap.size) s H locs) (hM : Met l y' (wsU y' b' n' r') (rmD d') (PcW ix en g S H.size (.ref (g.2.2 k i) :: As)) (QvW ix en g H.size S') 0 0 (Aw ix g H.size))
    (hcd : Cond.code y' b' n' r' ∈ TBg) (hlk : Cond.methodLinkNest own index y' host ∈ nestW) (hini : Cond.initialized y'.cls ∈ TBg) (hins : Cond.instanceMethod y' ∈ TBg) (hsel : Cond.selects C y' y' ∈ TBg) (hi : (k, i) ∈ ix) (he : en g k i (S k i) = .inr (ci, fs)) (hc : vwCl[ci]? = some (C, T, N)) (hd : okD (cells := cells) (slots := slots) y' n' d' nn R) (hn : As.length = nn) (hsz : ls.size = nL) (hst : st0 = As.reverse ++ .ref (g.2.2 k i) :: rest) (hw : (rest.map fun v => v.category).sum ≤ 8) (hdg : decode cc pc = .ok (.invokevirtual index, 3))
    (kk : ∀ (H : Heap) (locs : List Loc), Wd ix en g S' (Aw ix g s.heap.size) s H locs → W p l e R s m args below meth c H locs cells slots Q (F0 m (pc + 3) ls rest)) : W p l e R s m args below meth c H locs cells slots Q (F0 m pc ls st0) := by
  refine va_callv (va_runVN (As := As) (rest := rest) F hM ⟨w_cbN F B hcd hlk hini hd, F.2.2.2.2 _ (wsU_in hins), F.2.2.2.2 _ (wsU_in hsel)⟩ (w_prV B hi he hc) rfl hn hsz hst (lv_room hw) hdg ⟨hd.2.2.2.1, hd.2.2.2.2⟩) B.2.2.2.1 (fun q _ h => w_awA B q h) (w_awA B) (fun u t H1 locs1 ht _ hp hB _ _ hS => ?_)
  exact kk H1 locs1 (w_back B ht hB hS)
theorem w_callSi {nn : Nat} (F : CallFix p m c cc nL s args (wsU y cc nL ret) own) (B : Wd ix en g S (Aw ix g s.heap.size) s H locs) (hM : Met l y' (wsU y' b' n' r') (rmD d') (PcW ix en g S H.size As) (QiW ix en g H.size r S') 0 0 (Aw ix g H.size))
    (hcd : Cond.code y' b' n' r' ∈ TBg) (hlk : Cond.methodLink own index y' ∈ TBg) (hini : Cond.initialized y'.cls ∈ TBg) (hstt : Cond.static y' ∈ TBg) (hd : okD (cells := cells) (slots := slots) y' n' d' nn R) (hn : As.length = nn) (hsz : ls.size = nL) (hst : st0 = As.reverse ++ rest) (hw : (rest.map fun v => v.category).sum ≤ 8) (hdg : decode cc pc = .ok (.invokestatic index, 3))
    (kk : ∀ (H : Heap) (locs : List Loc), Wd ix en g S' (Aw ix g s.heap.size) s H locs → W p l e R s m args below meth c H locs cells slots Q (F0 m (pc + 3) ls (.int r :: rest))) : W p l e R s m args below meth c H locs cells slots Q (F0 m pc ls st0) := by
  refine va_calli (va_runS (As := As) (rest := rest) F hM ⟨w_cbB F hcd hlk hini hd, F.2.2.2.2 _ (wsU_in hstt)⟩ (w_prS B) rfl hn hsz hst (lv_room hw) hdg ⟨hd.2.2.2.1, hd.2.2.2.2⟩) B.2.2.2.1 (fun q _ h => w_awA B q h) (w_awA B) (fun r1 u t H1 locs1 ht _ hp hB _ _ hS => ?_)
  subst hp
  exact kk H1 locs1 (w_back B ht hB hS)
theorem w_callSNi {nn : Nat} (F : CallFix p m c cc nL s args (wsU y cc nL ret) own) (B : Wd ix en g S (Aw ix g s.heap.size) s H locs) (hM : Met l y' (wsU y' b' n' r') (rmD d') (PcW ix en g S H.size As) (QiW ix en g H.size r S') 0 0 (Aw ix g H.size))
    (hcd : Cond.code y' b' n' r' ∈ TBg) (hlk : Cond.methodLinkNest own index y' host ∈ nestW) (hini : Cond.initialized y'.cls ∈ TBg) (hstt : Cond.static y' ∈ TBg) (hd : okD (cells := cells) (slots := slots) y' n' d' nn R) (hn : As.length = nn) (hsz : ls.size = nL) (hst : st0 = As.reverse ++ rest) (hw : (rest.map fun v => v.category).sum ≤ 8) (hdg : decode cc pc = .ok (.invokestatic index, 3))
    (kk : ∀ (H : Heap) (locs : List Loc), Wd ix en g S' (Aw ix g s.heap.size) s H locs → W p l e R s m args below meth c H locs cells slots Q (F0 m (pc + 3) ls (.int r :: rest))) : W p l e R s m args below meth c H locs cells slots Q (F0 m pc ls st0) := by
  refine va_calli (va_runSN (As := As) (rest := rest) F hM ⟨w_cbN F B hcd hlk hini hd, F.2.2.2.2 _ (wsU_in hstt), trivial⟩ (w_prS B) rfl hn hsz hst (lv_room hw) hdg ⟨hd.2.2.2.1, hd.2.2.2.2⟩) B.2.2.2.1 (fun q _ h => w_awA B q h) (w_awA B) (fun r1 u t H1 locs1 ht _ hp hB _ _ hS => ?_)
  subst hp
  exact kk H1 locs1 (w_back B ht hB hS)
end Cl
/-! The pure side's words: guards, calls, loops -/
def grd {β : Type} (c : Prop) [Decidable c] (x : Option β) : Option β := if c then x else none
theorem grd_some {β : Type} {c : Prop} [Decidable c] {x : Option β} {r : β} (h : grd c x = some r) : c ∧ x = some r := by
  unfold grd at h
  split at h
  · exact ⟨by assumption, h⟩
  · cases h
def cal {α β : Type} (x : Option α) (k : α → Option β) : Option β := match x with
  | none => none
  | some a => k a
theorem cal_some {α β : Type} {x : Option α} {k : α → Option β} {r : β} (h : cal x k = some r) : ∃ a, x = some a ∧ k a = some r := by
  cases x with
  | none => cases h
  | some a => exact ⟨a, rfl, h⟩
def lp {σ ρ : Type} (body : σ → Option (σ ⊕ ρ)) : Nat → σ → Option ρ
  | 0, _ => none
  | n + 1, q => match body q with
    | none => none
    | some (.inl q') => lp body n q'
    | some (.inr r) => some r
def lpN {σ ρ : Type} (body : σ → Option (σ ⊕ ρ)) (n : Nat) (r : ρ) (t : σ ⊕ ρ) : Prop := match t with
  | .inl q' => lp body n q' = some r
  | .inr r' => r' = r
theorem lp_zero {σ ρ : Type} {body : σ → Option (σ ⊕ ρ)} {q : σ} {r : ρ} (h : lp body 0 q = some r) : False := by cases h
theorem lp_succ {σ ρ : Type} {body : σ → Option (σ ⊕ ρ)} {n : Nat} {q : σ} {r : ρ} (h : lp body (n + 1) q = some r) : ∃ t, body q = some t ∧ lpN body n r t := by
  rw [lp] at h
  cases hb : body q with
  | none => rw [hb] at h; cases h
  | some t =>
    rw [hb] at h
    refine ⟨t, rfl, ?_⟩
    cases t with
    | inl q' => exact h
    | inr r' => exact Option.some.inj h
end
section
theorem zz_test : True := trivial
end
