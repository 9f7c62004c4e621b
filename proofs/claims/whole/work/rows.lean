section
-- ===== PART A: goes FIRST, ahead of the names: the tables' words, and 'selects' of the private methods out of them =====
/-- a private method of a class that the tables say can be made, by its rows of tables_1 -/
def lw_okq (q : MethodName × Nat) : Prop := (q.1.cls ≠ "java/lang/invoke/MethodHandle" ∧ q.1.cls ≠ "java/lang/invoke/VarHandle") ∧ Cond.instantiable q.1.cls q.2 ∈ tables_1 ∧ Cond.privateMethod q.1 ∈ tables_1 ∧ Cond.instanceMethod q.1 ∈ tables_1
theorem lw_p0 : lw_okq (⟨"SumsThatTell$Numbers", "hasRoomFor", "(III)Z"⟩, 12) := ⟨⟨by decide +kernel, by decide +kernel⟩, List.mem_of_getElem? (i := 30) (by decide +kernel), List.mem_of_getElem? (i := 233) (by decide +kernel), List.mem_of_getElem? (i := 234) (by decide +kernel)⟩
theorem lw_p1 : lw_okq (⟨"SumsThatTell$State", "addNumber", "(IIIII)V"⟩, 4) := ⟨⟨by decide +kernel, by decide +kernel⟩, List.mem_of_getElem? (i := 24) (by decide +kernel), List.mem_of_getElem? (i := 237) (by decide +kernel), List.mem_of_getElem? (i := 238) (by decide +kernel)⟩
theorem lw_p2 : lw_okq (⟨"SumsThatTell$Knowledge", "widen", "(II)V"⟩, 2) := ⟨⟨by decide +kernel, by decide +kernel⟩, List.mem_of_getElem? (i := 88) (by decide +kernel), List.mem_of_getElem? (i := 241) (by decide +kernel), List.mem_of_getElem? (i := 242) (by decide +kernel)⟩
theorem lw_p3 : lw_okq (⟨"SumsThatTell$Numbers", "add", "(IIIII)V"⟩, 12) := ⟨⟨by decide +kernel, by decide +kernel⟩, List.mem_of_getElem? (i := 30) (by decide +kernel), List.mem_of_getElem? (i := 251) (by decide +kernel), List.mem_of_getElem? (i := 252) (by decide +kernel)⟩
theorem lw_p4 : lw_okq (⟨"SumsThatTell$Numbers", "valueCount", "(I)I"⟩, 12) := ⟨⟨by decide +kernel, by decide +kernel⟩, List.mem_of_getElem? (i := 30) (by decide +kernel), List.mem_of_getElem? (i := 255) (by decide +kernel), List.mem_of_getElem? (i := 256) (by decide +kernel)⟩
theorem lw_p5 : lw_okq (⟨"SumsThatTell$Numbers", "onlyPeople", "(I)I"⟩, 12) := ⟨⟨by decide +kernel, by decide +kernel⟩, List.mem_of_getElem? (i := 30) (by decide +kernel), List.mem_of_getElem? (i := 273) (by decide +kernel), List.mem_of_getElem? (i := 274) (by decide +kernel)⟩
theorem lw_p6 : lw_okq (⟨"SumsThatTell", "judge", "(IIII)I"⟩, 5) := ⟨⟨by decide +kernel, by decide +kernel⟩, List.mem_of_getElem? (i := 16) (by decide +kernel), List.mem_of_getElem? (i := 277) (by decide +kernel), List.mem_of_getElem? (i := 278) (by decide +kernel)⟩
theorem lw_p7 : lw_okq (⟨"SumsThatTell$Sheet", "markTables", "(LSumsThatTell$Numbers;)V"⟩, 3) := ⟨⟨by decide +kernel, by decide +kernel⟩, List.mem_of_getElem? (i := 166) (by decide +kernel), List.mem_of_getElem? (i := 281) (by decide +kernel), List.mem_of_getElem? (i := 282) (by decide +kernel)⟩
theorem lw_p8 : lw_okq (⟨"SumsThatTell$Sheet", "answerTables", "(LSumsThatTell$Numbers;III)V"⟩, 3) := ⟨⟨by decide +kernel, by decide +kernel⟩, List.mem_of_getElem? (i := 166) (by decide +kernel), List.mem_of_getElem? (i := 286) (by decide +kernel), List.mem_of_getElem? (i := 287) (by decide +kernel)⟩
theorem lw_p9 : lw_okq (⟨"SumsThatTell$Numbers", "isAskedOf", "(II)Z"⟩, 12) := ⟨⟨by decide +kernel, by decide +kernel⟩, List.mem_of_getElem? (i := 30) (by decide +kernel), List.mem_of_getElem? (i := 290) (by decide +kernel), List.mem_of_getElem? (i := 291) (by decide +kernel)⟩
theorem lw_p10 : lw_okq (⟨"SumsThatTell$Numbers", "isCurrent", "(I)Z"⟩, 12) := ⟨⟨by decide +kernel, by decide +kernel⟩, List.mem_of_getElem? (i := 30) (by decide +kernel), List.mem_of_getElem? (i := 294) (by decide +kernel), List.mem_of_getElem? (i := 295) (by decide +kernel)⟩
theorem lw_p11 : lw_okq (⟨"SumsThatTell$Sheet", "cutAnswers", "(II)V"⟩, 3) := ⟨⟨by decide +kernel, by decide +kernel⟩, List.mem_of_getElem? (i := 166) (by decide +kernel), List.mem_of_getElem? (i := 310) (by decide +kernel), List.mem_of_getElem? (i := 311) (by decide +kernel)⟩
theorem lw_p12 : lw_okq (⟨"SumsThatTell$Knowledge", "leftOf", "(I)[J"⟩, 2) := ⟨⟨by decide +kernel, by decide +kernel⟩, List.mem_of_getElem? (i := 88) (by decide +kernel), List.mem_of_getElem? (i := 314) (by decide +kernel), List.mem_of_getElem? (i := 315) (by decide +kernel)⟩
theorem lw_p13 : lw_okq (⟨"SumsThatTell$Sheet", "gatherCells", "([JI)V"⟩, 3) := ⟨⟨by decide +kernel, by decide +kernel⟩, List.mem_of_getElem? (i := 166) (by decide +kernel), List.mem_of_getElem? (i := 318) (by decide +kernel), List.mem_of_getElem? (i := 319) (by decide +kernel)⟩
theorem lw_p14 : lw_okq (⟨"SumsThatTell$Sheet", "cellsUsed", "()I"⟩, 3) := ⟨⟨by decide +kernel, by decide +kernel⟩, List.mem_of_getElem? (i := 166) (by decide +kernel), List.mem_of_getElem? (i := 326) (by decide +kernel), List.mem_of_getElem? (i := 327) (by decide +kernel)⟩
theorem lw_p15 : lw_okq (⟨"SumsThatTell$Sheet", "areCellsSafe", "(LSumsThatTell$Numbers;)Z"⟩, 3) := ⟨⟨by decide +kernel, by decide +kernel⟩, List.mem_of_getElem? (i := 166) (by decide +kernel), List.mem_of_getElem? (i := 330) (by decide +kernel), List.mem_of_getElem? (i := 331) (by decide +kernel)⟩
def lw_privs_1 : List (MethodName × Nat) := [(⟨"SumsThatTell$Numbers", "hasRoomFor", "(III)Z"⟩, 12), (⟨"SumsThatTell$State", "addNumber", "(IIIII)V"⟩, 4), (⟨"SumsThatTell$Knowledge", "widen", "(II)V"⟩, 2), (⟨"SumsThatTell$Numbers", "add", "(IIIII)V"⟩, 12), (⟨"SumsThatTell$Numbers", "valueCount", "(I)I"⟩, 12), (⟨"SumsThatTell$Numbers", "onlyPeople", "(I)I"⟩, 12), (⟨"SumsThatTell", "judge", "(IIII)I"⟩, 5), (⟨"SumsThatTell$Sheet", "markTables", "(LSumsThatTell$Numbers;)V"⟩, 3), (⟨"SumsThatTell$Sheet", "answerTables", "(LSumsThatTell$Numbers;III)V"⟩, 3), (⟨"SumsThatTell$Numbers", "isAskedOf", "(II)Z"⟩, 12), (⟨"SumsThatTell$Numbers", "isCurrent", "(I)Z"⟩, 12), (⟨"SumsThatTell$Sheet", "cutAnswers", "(II)V"⟩, 3), (⟨"SumsThatTell$Knowledge", "leftOf", "(I)[J"⟩, 2), (⟨"SumsThatTell$Sheet", "gatherCells", "([JI)V"⟩, 3), (⟨"SumsThatTell$Sheet", "cellsUsed", "()I"⟩, 3), (⟨"SumsThatTell$Sheet", "areCellsSafe", "(LSumsThatTell$Numbers;)Z"⟩, 3)]
theorem lw_r1 : ∀ q ∈ lw_privs_1, lw_okq q := List.forall_mem_cons.mpr ⟨lw_p0, List.forall_mem_cons.mpr ⟨lw_p1, List.forall_mem_cons.mpr ⟨lw_p2, List.forall_mem_cons.mpr ⟨lw_p3, List.forall_mem_cons.mpr ⟨lw_p4, List.forall_mem_cons.mpr ⟨lw_p5, List.forall_mem_cons.mpr ⟨lw_p6, List.forall_mem_cons.mpr ⟨lw_p7, List.forall_mem_cons.mpr ⟨lw_p8, List.forall_mem_cons.mpr ⟨lw_p9, List.forall_mem_cons.mpr ⟨lw_p10, List.forall_mem_cons.mpr ⟨lw_p11, List.forall_mem_cons.mpr ⟨lw_p12, List.forall_mem_cons.mpr ⟨lw_p13, List.forall_mem_cons.mpr ⟨lw_p14, List.forall_mem_cons.mpr ⟨lw_p15, fun _ h => absurd h List.not_mem_nil⟩⟩⟩⟩⟩⟩⟩⟩⟩⟩⟩⟩⟩⟩⟩⟩
theorem lw_p16 : lw_okq (⟨"SumsThatTell$Numbers", "areSafe", "(J)Z"⟩, 12) := ⟨⟨by decide +kernel, by decide +kernel⟩, List.mem_of_getElem? (i := 30) (by decide +kernel), List.mem_of_getElem? (i := 334) (by decide +kernel), List.mem_of_getElem? (i := 335) (by decide +kernel)⟩
theorem lw_p17 : lw_okq (⟨"SumsThatTell$Numbers", "valuesIn", "(IJ)I"⟩, 12) := ⟨⟨by decide +kernel, by decide +kernel⟩, List.mem_of_getElem? (i := 30) (by decide +kernel), List.mem_of_getElem? (i := 338) (by decide +kernel), List.mem_of_getElem? (i := 339) (by decide +kernel)⟩
theorem lw_p18 : lw_okq (⟨"SumsThatTell$Numbers", "hiddenTable", "()I"⟩, 12) := ⟨⟨by decide +kernel, by decide +kernel⟩, List.mem_of_getElem? (i := 30) (by decide +kernel), List.mem_of_getElem? (i := 342) (by decide +kernel), List.mem_of_getElem? (i := 343) (by decide +kernel)⟩
theorem lw_p19 : lw_okq (⟨"SumsThatTell$Knowledge", "keepOnly", "(II[II)V"⟩, 2) := ⟨⟨by decide +kernel, by decide +kernel⟩, List.mem_of_getElem? (i := 88) (by decide +kernel), List.mem_of_getElem? (i := 346) (by decide +kernel), List.mem_of_getElem? (i := 347) (by decide +kernel)⟩
theorem lw_p20 : lw_okq (⟨"SumsThatTell$Asks", "add", "(IIIII)V"⟩, 3) := ⟨⟨by decide +kernel, by decide +kernel⟩, List.mem_of_getElem? (i := 104) (by decide +kernel), List.mem_of_getElem? (i := 352) (by decide +kernel), List.mem_of_getElem? (i := 353) (by decide +kernel)⟩
theorem lw_p21 : lw_okq (⟨"SumsThatTell$Knowledge", "unite", "(II)Z"⟩, 2) := ⟨⟨by decide +kernel, by decide +kernel⟩, List.mem_of_getElem? (i := 88) (by decide +kernel), List.mem_of_getElem? (i := 364) (by decide +kernel), List.mem_of_getElem? (i := 365) (by decide +kernel)⟩
theorem lw_p22 : lw_okq (⟨"SumsThatTell", "seenBy", "(I)J"⟩, 5) := ⟨⟨by decide +kernel, by decide +kernel⟩, List.mem_of_getElem? (i := 16) (by decide +kernel), List.mem_of_getElem? (i := 372) (by decide +kernel), List.mem_of_getElem? (i := 373) (by decide +kernel)⟩
theorem lw_p23 : lw_okq (⟨"SumsThatTell$Sheet", "seenIn", "([JI)J"⟩, 3) := ⟨⟨by decide +kernel, by decide +kernel⟩, List.mem_of_getElem? (i := 166) (by decide +kernel), List.mem_of_getElem? (i := 376) (by decide +kernel), List.mem_of_getElem? (i := 377) (by decide +kernel)⟩
theorem lw_p24 : lw_okq (⟨"SumsThatTell$Knowledge", "tablesLeft", "(I)I"⟩, 2) := ⟨⟨by decide +kernel, by decide +kernel⟩, List.mem_of_getElem? (i := 88) (by decide +kernel), List.mem_of_getElem? (i := 398) (by decide +kernel), List.mem_of_getElem? (i := 399) (by decide +kernel)⟩
theorem lw_p25 : lw_okq (⟨"SumsThatTell$Wishes", "add", "(III)I"⟩, 4) := ⟨⟨by decide +kernel, by decide +kernel⟩, List.mem_of_getElem? (i := 125) (by decide +kernel), List.mem_of_getElem? (i := 426) (by decide +kernel), List.mem_of_getElem? (i := 427) (by decide +kernel)⟩
theorem lw_p26 : lw_okq (⟨"SumsThatTell", "answerWishes", "(I)V"⟩, 5) := ⟨⟨by decide +kernel, by decide +kernel⟩, List.mem_of_getElem? (i := 16) (by decide +kernel), List.mem_of_getElem? (i := 438) (by decide +kernel), List.mem_of_getElem? (i := 439) (by decide +kernel)⟩
theorem lw_p27 : lw_okq (⟨"SumsThatTell$Sorter", "begin", "(LSumsThatTell$Numbers;[J[J)V"⟩, 7) := ⟨⟨by decide +kernel, by decide +kernel⟩, List.mem_of_getElem? (i := 185) (by decide +kernel), List.mem_of_getElem? (i := 442) (by decide +kernel), List.mem_of_getElem? (i := 443) (by decide +kernel)⟩
theorem lw_p28 : lw_okq (⟨"SumsThatTell$Sorter", "addAnswers", "(I[I)V"⟩, 7) := ⟨⟨by decide +kernel, by decide +kernel⟩, List.mem_of_getElem? (i := 185) (by decide +kernel), List.mem_of_getElem? (i := 447) (by decide +kernel), List.mem_of_getElem? (i := 448) (by decide +kernel)⟩
theorem lw_p29 : lw_okq (⟨"SumsThatTell$Sorter", "isGranted", "(I)Z"⟩, 7) := ⟨⟨by decide +kernel, by decide +kernel⟩, List.mem_of_getElem? (i := 185) (by decide +kernel), List.mem_of_getElem? (i := 454) (by decide +kernel), List.mem_of_getElem? (i := 455) (by decide +kernel)⟩
theorem lw_p30 : lw_okq (⟨"SumsThatTell$Sorter", "sortBy", "(I)V"⟩, 7) := ⟨⟨by decide +kernel, by decide +kernel⟩, List.mem_of_getElem? (i := 185) (by decide +kernel), List.mem_of_getElem? (i := 459) (by decide +kernel), List.mem_of_getElem? (i := 460) (by decide +kernel)⟩
theorem lw_p31 : lw_okq (⟨"SumsThatTell$Sorter", "answerTo", "(II)I"⟩, 7) := ⟨⟨by decide +kernel, by decide +kernel⟩, List.mem_of_getElem? (i := 185) (by decide +kernel), List.mem_of_getElem? (i := 466) (by decide +kernel), List.mem_of_getElem? (i := 467) (by decide +kernel)⟩
def lw_privs_2 : List (MethodName × Nat) := [(⟨"SumsThatTell$Numbers", "areSafe", "(J)Z"⟩, 12), (⟨"SumsThatTell$Numbers", "valuesIn", "(IJ)I"⟩, 12), (⟨"SumsThatTell$Numbers", "hiddenTable", "()I"⟩, 12), (⟨"SumsThatTell$Knowledge", "keepOnly", "(II[II)V"⟩, 2), (⟨"SumsThatTell$Asks", "add", "(IIIII)V"⟩, 3), (⟨"SumsThatTell$Knowledge", "unite", "(II)Z"⟩, 2), (⟨"SumsThatTell", "seenBy", "(I)J"⟩, 5), (⟨"SumsThatTell$Sheet", "seenIn", "([JI)J"⟩, 3), (⟨"SumsThatTell$Knowledge", "tablesLeft", "(I)I"⟩, 2), (⟨"SumsThatTell$Wishes", "add", "(III)I"⟩, 4), (⟨"SumsThatTell", "answerWishes", "(I)V"⟩, 5), (⟨"SumsThatTell$Sorter", "begin", "(LSumsThatTell$Numbers;[J[J)V"⟩, 7), (⟨"SumsThatTell$Sorter", "addAnswers", "(I[I)V"⟩, 7), (⟨"SumsThatTell$Sorter", "isGranted", "(I)Z"⟩, 7), (⟨"SumsThatTell$Sorter", "sortBy", "(I)V"⟩, 7), (⟨"SumsThatTell$Sorter", "answerTo", "(II)I"⟩, 7)]
theorem lw_r2 : ∀ q ∈ lw_privs_2, lw_okq q := List.forall_mem_cons.mpr ⟨lw_p16, List.forall_mem_cons.mpr ⟨lw_p17, List.forall_mem_cons.mpr ⟨lw_p18, List.forall_mem_cons.mpr ⟨lw_p19, List.forall_mem_cons.mpr ⟨lw_p20, List.forall_mem_cons.mpr ⟨lw_p21, List.forall_mem_cons.mpr ⟨lw_p22, List.forall_mem_cons.mpr ⟨lw_p23, List.forall_mem_cons.mpr ⟨lw_p24, List.forall_mem_cons.mpr ⟨lw_p25, List.forall_mem_cons.mpr ⟨lw_p26, List.forall_mem_cons.mpr ⟨lw_p27, List.forall_mem_cons.mpr ⟨lw_p28, List.forall_mem_cons.mpr ⟨lw_p29, List.forall_mem_cons.mpr ⟨lw_p30, List.forall_mem_cons.mpr ⟨lw_p31, fun _ h => absurd h List.not_mem_nil⟩⟩⟩⟩⟩⟩⟩⟩⟩⟩⟩⟩⟩⟩⟩⟩
theorem lw_p32 : lw_okq (⟨"SumsThatTell$Sorter", "areCellsSafe", "(J)Z"⟩, 7) := ⟨⟨by decide +kernel, by decide +kernel⟩, List.mem_of_getElem? (i := 185) (by decide +kernel), List.mem_of_getElem? (i := 474) (by decide +kernel), List.mem_of_getElem? (i := 475) (by decide +kernel)⟩
theorem lw_p33 : lw_okq (⟨"SumsThatTell$Knowledge", "circles", "()I"⟩, 2) := ⟨⟨by decide +kernel, by decide +kernel⟩, List.mem_of_getElem? (i := 88) (by decide +kernel), List.mem_of_getElem? (i := 491) (by decide +kernel), List.mem_of_getElem? (i := 492) (by decide +kernel)⟩
theorem lw_p34 : lw_okq (⟨"SumsThatTell$State", "copyFrom", "(LSumsThatTell$State;)V"⟩, 4) := ⟨⟨by decide +kernel, by decide +kernel⟩, List.mem_of_getElem? (i := 24) (by decide +kernel), List.mem_of_getElem? (i := 499) (by decide +kernel), List.mem_of_getElem? (i := 500) (by decide +kernel)⟩
theorem lw_p35 : lw_okq (⟨"SumsThatTell$Numbers", "copyFrom", "(LSumsThatTell$Numbers;)V"⟩, 12) := ⟨⟨by decide +kernel, by decide +kernel⟩, List.mem_of_getElem? (i := 30) (by decide +kernel), List.mem_of_getElem? (i := 503) (by decide +kernel), List.mem_of_getElem? (i := 504) (by decide +kernel)⟩
theorem lw_p36 : lw_okq (⟨"SumsThatTell$Knowledge", "copyFrom", "(LSumsThatTell$Knowledge;)V"⟩, 2) := ⟨⟨by decide +kernel, by decide +kernel⟩, List.mem_of_getElem? (i := 88) (by decide +kernel), List.mem_of_getElem? (i := 510) (by decide +kernel), List.mem_of_getElem? (i := 511) (by decide +kernel)⟩
theorem lw_p37 : lw_okq (⟨"SumsThatTell$Asks", "copyFrom", "(LSumsThatTell$Asks;)V"⟩, 3) := ⟨⟨by decide +kernel, by decide +kernel⟩, List.mem_of_getElem? (i := 104) (by decide +kernel), List.mem_of_getElem? (i := 515) (by decide +kernel), List.mem_of_getElem? (i := 516) (by decide +kernel)⟩
theorem lw_p38 : lw_okq (⟨"SumsThatTell$Wishes", "copyFrom", "(LSumsThatTell$Wishes;)V"⟩, 4) := ⟨⟨by decide +kernel, by decide +kernel⟩, List.mem_of_getElem? (i := 125) (by decide +kernel), List.mem_of_getElem? (i := 520) (by decide +kernel), List.mem_of_getElem? (i := 521) (by decide +kernel)⟩
theorem lw_p39 : lw_okq (⟨"SumsThatTellModel", "mayCome", "(II)Z"⟩, 14) := ⟨⟨by decide +kernel, by decide +kernel⟩, List.mem_of_getElem? (i := 529) (by decide +kernel), List.mem_of_getElem? (i := 586) (by decide +kernel), List.mem_of_getElem? (i := 587) (by decide +kernel)⟩
theorem lw_p40 : lw_okq (⟨"SumsThatTellModel", "of", "(II)I"⟩, 14) := ⟨⟨by decide +kernel, by decide +kernel⟩, List.mem_of_getElem? (i := 529) (by decide +kernel), List.mem_of_getElem? (i := 590) (by decide +kernel), List.mem_of_getElem? (i := 591) (by decide +kernel)⟩
theorem lw_p41 : lw_okq (⟨"SumsThatTellModel", "comes", "(IIIII)I"⟩, 14) := ⟨⟨by decide +kernel, by decide +kernel⟩, List.mem_of_getElem? (i := 529) (by decide +kernel), List.mem_of_getElem? (i := 594) (by decide +kernel), List.mem_of_getElem? (i := 595) (by decide +kernel)⟩
theorem lw_p42 : lw_okq (⟨"SumsThatTellModel", "isPerson", "(I)Z"⟩, 14) := ⟨⟨by decide +kernel, by decide +kernel⟩, List.mem_of_getElem? (i := 529) (by decide +kernel), List.mem_of_getElem? (i := 602) (by decide +kernel), List.mem_of_getElem? (i := 603) (by decide +kernel)⟩
theorem lw_p43 : lw_okq (⟨"SumsThatTellModel", "numbersOf", "(I)I"⟩, 14) := ⟨⟨by decide +kernel, by decide +kernel⟩, List.mem_of_getElem? (i := 529) (by decide +kernel), List.mem_of_getElem? (i := 616) (by decide +kernel), List.mem_of_getElem? (i := 617) (by decide +kernel)⟩
theorem lw_p44 : lw_okq (⟨"SumsThatTellModel", "judged", "(IIII)I"⟩, 14) := ⟨⟨by decide +kernel, by decide +kernel⟩, List.mem_of_getElem? (i := 529) (by decide +kernel), List.mem_of_getElem? (i := 620) (by decide +kernel), List.mem_of_getElem? (i := 621) (by decide +kernel)⟩
theorem lw_p45 : lw_okq (⟨"SumsThatTellModel", "clears", "()V"⟩, 14) := ⟨⟨by decide +kernel, by decide +kernel⟩, List.mem_of_getElem? (i := 529) (by decide +kernel), List.mem_of_getElem? (i := 624) (by decide +kernel), List.mem_of_getElem? (i := 625) (by decide +kernel)⟩
theorem lw_p46 : lw_okq (⟨"SumsThatTellModel", "isLeft", "(II)Z"⟩, 14) := ⟨⟨by decide +kernel, by decide +kernel⟩, List.mem_of_getElem? (i := 529) (by decide +kernel), List.mem_of_getElem? (i := 628) (by decide +kernel), List.mem_of_getElem? (i := 629) (by decide +kernel)⟩
theorem lw_p47 : lw_okq (⟨"SumsThatTellModel", "answerIn", "(IIII)I"⟩, 14) := ⟨⟨by decide +kernel, by decide +kernel⟩, List.mem_of_getElem? (i := 529) (by decide +kernel), List.mem_of_getElem? (i := 632) (by decide +kernel), List.mem_of_getElem? (i := 633) (by decide +kernel)⟩
def lw_privs_3 : List (MethodName × Nat) := [(⟨"SumsThatTell$Sorter", "areCellsSafe", "(J)Z"⟩, 7), (⟨"SumsThatTell$Knowledge", "circles", "()I"⟩, 2), (⟨"SumsThatTell$State", "copyFrom", "(LSumsThatTell$State;)V"⟩, 4), (⟨"SumsThatTell$Numbers", "copyFrom", "(LSumsThatTell$Numbers;)V"⟩, 12), (⟨"SumsThatTell$Knowledge", "copyFrom", "(LSumsThatTell$Knowledge;)V"⟩, 2), (⟨"SumsThatTell$Asks", "copyFrom", "(LSumsThatTell$Asks;)V"⟩, 3), (⟨"SumsThatTell$Wishes", "copyFrom", "(LSumsThatTell$Wishes;)V"⟩, 4), (⟨"SumsThatTellModel", "mayCome", "(II)Z"⟩, 14), (⟨"SumsThatTellModel", "of", "(II)I"⟩, 14), (⟨"SumsThatTellModel", "comes", "(IIIII)I"⟩, 14), (⟨"SumsThatTellModel", "isPerson", "(I)Z"⟩, 14), (⟨"SumsThatTellModel", "numbersOf", "(I)I"⟩, 14), (⟨"SumsThatTellModel", "judged", "(IIII)I"⟩, 14), (⟨"SumsThatTellModel", "clears", "()V"⟩, 14), (⟨"SumsThatTellModel", "isLeft", "(II)Z"⟩, 14), (⟨"SumsThatTellModel", "answerIn", "(IIII)I"⟩, 14)]
theorem lw_r3 : ∀ q ∈ lw_privs_3, lw_okq q := List.forall_mem_cons.mpr ⟨lw_p32, List.forall_mem_cons.mpr ⟨lw_p33, List.forall_mem_cons.mpr ⟨lw_p34, List.forall_mem_cons.mpr ⟨lw_p35, List.forall_mem_cons.mpr ⟨lw_p36, List.forall_mem_cons.mpr ⟨lw_p37, List.forall_mem_cons.mpr ⟨lw_p38, List.forall_mem_cons.mpr ⟨lw_p39, List.forall_mem_cons.mpr ⟨lw_p40, List.forall_mem_cons.mpr ⟨lw_p41, List.forall_mem_cons.mpr ⟨lw_p42, List.forall_mem_cons.mpr ⟨lw_p43, List.forall_mem_cons.mpr ⟨lw_p44, List.forall_mem_cons.mpr ⟨lw_p45, List.forall_mem_cons.mpr ⟨lw_p46, List.forall_mem_cons.mpr ⟨lw_p47, fun _ h => absurd h List.not_mem_nil⟩⟩⟩⟩⟩⟩⟩⟩⟩⟩⟩⟩⟩⟩⟩⟩
theorem lw_p48 : lw_okq (⟨"SumsThatTellModel", "begins", "()V"⟩, 14) := ⟨⟨by decide +kernel, by decide +kernel⟩, List.mem_of_getElem? (i := 529) (by decide +kernel), List.mem_of_getElem? (i := 636) (by decide +kernel), List.mem_of_getElem? (i := 637) (by decide +kernel)⟩
theorem lw_p49 : lw_okq (⟨"SumsThatTellModel", "valueIn", "(II)I"⟩, 14) := ⟨⟨by decide +kernel, by decide +kernel⟩, List.mem_of_getElem? (i := 529) (by decide +kernel), List.mem_of_getElem? (i := 640) (by decide +kernel), List.mem_of_getElem? (i := 641) (by decide +kernel)⟩
theorem lw_p50 : lw_okq (⟨"SumsThatTellModel", "many", "(I)I"⟩, 14) := ⟨⟨by decide +kernel, by decide +kernel⟩, List.mem_of_getElem? (i := 529) (by decide +kernel), List.mem_of_getElem? (i := 644) (by decide +kernel), List.mem_of_getElem? (i := 645) (by decide +kernel)⟩
theorem lw_p51 : lw_okq (⟨"SumsThatTellModel", "takes", "(II)V"⟩, 14) := ⟨⟨by decide +kernel, by decide +kernel⟩, List.mem_of_getElem? (i := 529) (by decide +kernel), List.mem_of_getElem? (i := 648) (by decide +kernel), List.mem_of_getElem? (i := 649) (by decide +kernel)⟩
theorem lw_p52 : lw_okq (⟨"SumsThatTellModel", "answer", "(II)I"⟩, 14) := ⟨⟨by decide +kernel, by decide +kernel⟩, List.mem_of_getElem? (i := 529) (by decide +kernel), List.mem_of_getElem? (i := 652) (by decide +kernel), List.mem_of_getElem? (i := 653) (by decide +kernel)⟩
theorem lw_p53 : lw_okq (⟨"SumsThatTellModel", "meets", "(II)V"⟩, 14) := ⟨⟨by decide +kernel, by decide +kernel⟩, List.mem_of_getElem? (i := 529) (by decide +kernel), List.mem_of_getElem? (i := 656) (by decide +kernel), List.mem_of_getElem? (i := 657) (by decide +kernel)⟩
theorem lw_p54 : lw_okq (⟨"SumsThatTellModel", "isClose", "(I)Z"⟩, 14) := ⟨⟨by decide +kernel, by decide +kernel⟩, List.mem_of_getElem? (i := 529) (by decide +kernel), List.mem_of_getElem? (i := 660) (by decide +kernel), List.mem_of_getElem? (i := 661) (by decide +kernel)⟩
theorem lw_p55 : lw_okq (⟨"SumsThatTellModel", "hiddenAnswer", "(III)I"⟩, 14) := ⟨⟨by decide +kernel, by decide +kernel⟩, List.mem_of_getElem? (i := 529) (by decide +kernel), List.mem_of_getElem? (i := 668) (by decide +kernel), List.mem_of_getElem? (i := 669) (by decide +kernel)⟩
theorem lw_p56 : lw_okq (⟨"SumsThatTellModel", "known", "(I)I"⟩, 14) := ⟨⟨by decide +kernel, by decide +kernel⟩, List.mem_of_getElem? (i := 529) (by decide +kernel), List.mem_of_getElem? (i := 672) (by decide +kernel), List.mem_of_getElem? (i := 673) (by decide +kernel)⟩
theorem lw_p57 : lw_okq (⟨"SumsThatTellModel", "isNumber", "(I)Z"⟩, 14) := ⟨⟨by decide +kernel, by decide +kernel⟩, List.mem_of_getElem? (i := 529) (by decide +kernel), List.mem_of_getElem? (i := 684) (by decide +kernel), List.mem_of_getElem? (i := 685) (by decide +kernel)⟩
theorem lw_p58 : lw_okq (⟨"SumsThatTellModel", "reckons", "(I)V"⟩, 14) := ⟨⟨by decide +kernel, by decide +kernel⟩, List.mem_of_getElem? (i := 529) (by decide +kernel), List.mem_of_getElem? (i := 716) (by decide +kernel), List.mem_of_getElem? (i := 717) (by decide +kernel)⟩
theorem lw_p59 : lw_okq (⟨"SumsThatTellModel", "mayBe", "(I)Z"⟩, 14) := ⟨⟨by decide +kernel, by decide +kernel⟩, List.mem_of_getElem? (i := 529) (by decide +kernel), List.mem_of_getElem? (i := 720) (by decide +kernel), List.mem_of_getElem? (i := 721) (by decide +kernel)⟩
theorem lw_p60 : lw_okq (⟨"SumsThatTellModel", "sorts", "(I)V"⟩, 14) := ⟨⟨by decide +kernel, by decide +kernel⟩, List.mem_of_getElem? (i := 529) (by decide +kernel), List.mem_of_getElem? (i := 724) (by decide +kernel), List.mem_of_getElem? (i := 725) (by decide +kernel)⟩
def lw_privs_4 : List (MethodName × Nat) := [(⟨"SumsThatTellModel", "begins", "()V"⟩, 14), (⟨"SumsThatTellModel", "valueIn", "(II)I"⟩, 14), (⟨"SumsThatTellModel", "many", "(I)I"⟩, 14), (⟨"SumsThatTellModel", "takes", "(II)V"⟩, 14), (⟨"SumsThatTellModel", "answer", "(II)I"⟩, 14), (⟨"SumsThatTellModel", "meets", "(II)V"⟩, 14), (⟨"SumsThatTellModel", "isClose", "(I)Z"⟩, 14), (⟨"SumsThatTellModel", "hiddenAnswer", "(III)I"⟩, 14), (⟨"SumsThatTellModel", "known", "(I)I"⟩, 14), (⟨"SumsThatTellModel", "isNumber", "(I)Z"⟩, 14), (⟨"SumsThatTellModel", "reckons", "(I)V"⟩, 14), (⟨"SumsThatTellModel", "mayBe", "(I)Z"⟩, 14), (⟨"SumsThatTellModel", "sorts", "(I)V"⟩, 14)]
theorem lw_r4 : ∀ q ∈ lw_privs_4, lw_okq q := List.forall_mem_cons.mpr ⟨lw_p48, List.forall_mem_cons.mpr ⟨lw_p49, List.forall_mem_cons.mpr ⟨lw_p50, List.forall_mem_cons.mpr ⟨lw_p51, List.forall_mem_cons.mpr ⟨lw_p52, List.forall_mem_cons.mpr ⟨lw_p53, List.forall_mem_cons.mpr ⟨lw_p54, List.forall_mem_cons.mpr ⟨lw_p55, List.forall_mem_cons.mpr ⟨lw_p56, List.forall_mem_cons.mpr ⟨lw_p57, List.forall_mem_cons.mpr ⟨lw_p58, List.forall_mem_cons.mpr ⟨lw_p59, List.forall_mem_cons.mpr ⟨lw_p60, fun _ h => absurd h List.not_mem_nil⟩⟩⟩⟩⟩⟩⟩⟩⟩⟩⟩⟩⟩
def lw_privs : List (MethodName × Nat) := lw_privs_1 ++ (lw_privs_2 ++ (lw_privs_3 ++ (lw_privs_4)))
def lw_tbl : List Cond := k2_sels lw_privs ++ tables_1
theorem lw_privs_ok : ∀ q ∈ lw_privs, lw_okq q := by
  show ∀ q ∈ lw_privs_1 ++ (lw_privs_2 ++ (lw_privs_3 ++ (lw_privs_4))), lw_okq q
  exact List.forall_mem_append.mpr ⟨lw_r1, List.forall_mem_append.mpr ⟨lw_r2, List.forall_mem_append.mpr ⟨lw_r3, lw_r4⟩⟩⟩
-- ===== end of PART A; then your names; then what follows =====
end
section
/-! ===== BEGIN printed: names, fields, word lists, decode rows ===== -/
def RX0 : String := "SumsThatTell$Asks"
def TX0 : u_T := fun k => match k with
  | 0 => ("SumsThatTell$Asks", "parts", "[[I", true)
  | 1 => ("SumsThatTell$Asks", "size", "I", false)
  | _ => ("SumsThatTell$Asks", "refused", "I", false)
def tyX0 : Nat → FieldType := fun k => match k with
  | 0 => .array (.array .int)
  | 1 => .int
  | _ => .int
abbrev wsX00 : List Cond := u_ws RX0 TX0 3
theorem nmX0 : ∀ a, a < 3 → ∀ b, b < 3 → a ≠ b → (TX0 a).2.1 ≠ (TX0 b).2.1 := by decide +kernel
theorem tyX0_ok : ∀ k, k < 3 → parseFieldDescriptor (TX0 k).2.2.1 = some (tyX0 k) := by decide +kernel
abbrev cX0_init : ByteArray := prog_2_method_1_code
def yX0_init : MethodName := ⟨RX0, "<init>", "()V"⟩
abbrev cX0_add : ByteArray := prog_2_method_2_code
def yX0_add : MethodName := ⟨RX0, "add", "(IIIII)V"⟩
abbrev cX0_copyFrom : ByteArray := prog_2_method_3_code
def yX0_copyFrom : MethodName := ⟨RX0, "copyFrom", "(LSumsThatTell$Asks;)V"⟩
def RX1 : String := "SumsThatTell$Knowledge"
def TX1 : u_T := fun k => match k with
  | 0 => ("SumsThatTell$Knowledge", "leader", "[I", true)
  | _ => ("SumsThatTell$Knowledge", "left", "[[J", true)
def tyX1 : Nat → FieldType := fun k => match k with
  | 0 => .array .int
  | _ => .array (.array .long)
abbrev wsX10 : List Cond := u_ws RX1 TX1 2
theorem nmX1 : ∀ a, a < 2 → ∀ b, b < 2 → a ≠ b → (TX1 a).2.1 ≠ (TX1 b).2.1 := by decide +kernel
theorem tyX1_ok : ∀ k, k < 2 → parseFieldDescriptor (TX1 k).2.2.1 = some (tyX1 k) := by decide +kernel
abbrev cX1_init : ByteArray := prog_3_method_1_code
def yX1_init : MethodName := ⟨RX1, "<init>", "()V"⟩
abbrev cX1_holds : ByteArray := prog_3_method_2_code
def yX1_holds : MethodName := ⟨RX1, "holds", "([JI)Z"⟩
abbrev cX1_leftOf : ByteArray := prog_3_method_3_code
def yX1_leftOf : MethodName := ⟨RX1, "leftOf", "(I)[J"⟩
abbrev cX1_tablesLeft : ByteArray := prog_3_method_4_code
def yX1_tablesLeft : MethodName := ⟨RX1, "tablesLeft", "(I)I"⟩
abbrev cX1_circles : ByteArray := prog_3_method_5_code
def yX1_circles : MethodName := ⟨RX1, "circles", "()I"⟩
abbrev cX1_widen : ByteArray := prog_3_method_6_code
def yX1_widen : MethodName := ⟨RX1, "widen", "(II)V"⟩
abbrev cX1_repeat : ByteArray := prog_3_method_7_code
def yX1_repeat : MethodName := ⟨RX1, "repeat", "([JII)V"⟩
abbrev cX1_keepOnly : ByteArray := prog_3_method_8_code
def yX1_keepOnly : MethodName := ⟨RX1, "keepOnly", "(II[II)V"⟩
abbrev cX1_unite : ByteArray := prog_3_method_9_code
def yX1_unite : MethodName := ⟨RX1, "unite", "(II)Z"⟩
abbrev cX1_copyFrom : ByteArray := prog_3_method_10_code
def yX1_copyFrom : MethodName := ⟨RX1, "copyFrom", "(LSumsThatTell$Knowledge;)V"⟩
def RX2 : String := "SumsThatTell$Numbers"
def TX2 : u_T := fun k => match k with
  | 0 => ("SumsThatTell$Numbers", "current", "[I", true)
  | 1 => ("SumsThatTell$Numbers", "owner", "[I", true)
  | 2 => ("SumsThatTell$Numbers", "least", "[I", true)
  | 3 => ("SumsThatTell$Numbers", "greatest", "[I", true)
  | 4 => ("SumsThatTell$Numbers", "need", "[I", true)
  | 5 => ("SumsThatTell$Numbers", "value", "[I", true)
  | 6 => ("SumsThatTell$Numbers", "firstBit", "[I", true)
  | 7 => ("SumsThatTell$Numbers", "people", "I", false)
  | 8 => ("SumsThatTell$Numbers", "size", "I", false)
  | 9 => ("SumsThatTell$Numbers", "tableCount", "I", false)
  | 10 => ("SumsThatTell$Numbers", "total", "I", false)
  | _ => ("SumsThatTell$Numbers", "bitsUsed", "I", false)
def tyX2 : Nat → FieldType := fun k => match k with
  | 0 => .array .int
  | 1 => .array .int
  | 2 => .array .int
  | 3 => .array .int
  | 4 => .array .int
  | 5 => .array .int
  | 6 => .array .int
  | 7 => .int
  | 8 => .int
  | 9 => .int
  | 10 => .int
  | _ => .int
abbrev wsX20 : List Cond := u_ws RX2 TX2 12
theorem nmX2 : ∀ a, a < 12 → ∀ b, b < 12 → a ≠ b → (TX2 a).2.1 ≠ (TX2 b).2.1 := by decide +kernel
theorem tyX2_ok : ∀ k, k < 12 → parseFieldDescriptor (TX2 k).2.2.1 = some (tyX2 k) := by decide +kernel
abbrev cX2_init : ByteArray := prog_4_method_1_code
def yX2_init : MethodName := ⟨RX2, "<init>", "()V"⟩
abbrev cX2_hasRoomFor : ByteArray := prog_4_method_2_code
def yX2_hasRoomFor : MethodName := ⟨RX2, "hasRoomFor", "(III)Z"⟩
abbrev cX2_add : ByteArray := prog_4_method_3_code
def yX2_add : MethodName := ⟨RX2, "add", "(IIIII)V"⟩
abbrev cX2_valueCount : ByteArray := prog_4_method_4_code
def yX2_valueCount : MethodName := ⟨RX2, "valueCount", "(I)I"⟩
abbrev cX2_isCurrent : ByteArray := prog_4_method_5_code
def yX2_isCurrent : MethodName := ⟨RX2, "isCurrent", "(I)Z"⟩
abbrev cX2_isAskedOf : ByteArray := prog_4_method_6_code
def yX2_isAskedOf : MethodName := ⟨RX2, "isAskedOf", "(II)Z"⟩
abbrev cX2_onlyPeople : ByteArray := prog_4_method_7_code
def yX2_onlyPeople : MethodName := ⟨RX2, "onlyPeople", "(I)I"⟩
abbrev cX2_hiddenTable : ByteArray := prog_4_method_8_code
def yX2_hiddenTable : MethodName := ⟨RX2, "hiddenTable", "()I"⟩
abbrev cX2_valuesIn : ByteArray := prog_4_method_9_code
def yX2_valuesIn : MethodName := ⟨RX2, "valuesIn", "(IJ)I"⟩
abbrev cX2_areSafe : ByteArray := prog_4_method_10_code
def yX2_areSafe : MethodName := ⟨RX2, "areSafe", "(J)Z"⟩
abbrev cX2_copyFrom : ByteArray := prog_4_method_11_code
def yX2_copyFrom : MethodName := ⟨RX2, "copyFrom", "(LSumsThatTell$Numbers;)V"⟩
def RX3 : String := "SumsThatTell$Sheet"
def TX3 : u_T := fun k => match k with
  | 0 => ("SumsThatTell$Sheet", "marks", "[J", true)
  | 1 => ("SumsThatTell$Sheet", "answers", "[I", true)
  | _ => ("SumsThatTell$Sheet", "cells", "[J", true)
def tyX3 : Nat → FieldType := fun k => match k with
  | 0 => .array .long
  | 1 => .array .int
  | _ => .array .long
abbrev wsX30 : List Cond := u_ws RX3 TX3 3
theorem nmX3 : ∀ a, a < 3 → ∀ b, b < 3 → a ≠ b → (TX3 a).2.1 ≠ (TX3 b).2.1 := by decide +kernel
theorem tyX3_ok : ∀ k, k < 3 → parseFieldDescriptor (TX3 k).2.2.1 = some (tyX3 k) := by decide +kernel
abbrev cX3_init : ByteArray := prog_5_method_1_code
def yX3_init : MethodName := ⟨RX3, "<init>", "()V"⟩
abbrev cX3_markTables : ByteArray := prog_5_method_2_code
def yX3_markTables : MethodName := ⟨RX3, "markTables", "(LSumsThatTell$Numbers;)V"⟩
abbrev cX3_answerTables : ByteArray := prog_5_method_3_code
def yX3_answerTables : MethodName := ⟨RX3, "answerTables", "(LSumsThatTell$Numbers;III)V"⟩
abbrev cX3_withValue : ByteArray := prog_5_method_4_code
def yX3_withValue : MethodName := ⟨RX3, "withValue", "(IIII)I"⟩
abbrev cX3_cutAnswers : ByteArray := prog_5_method_5_code
def yX3_cutAnswers : MethodName := ⟨RX3, "cutAnswers", "(II)V"⟩
abbrev cX3_seenIn : ByteArray := prog_5_method_6_code
def yX3_seenIn : MethodName := ⟨RX3, "seenIn", "([JI)J"⟩
abbrev cX3_gatherCells : ByteArray := prog_5_method_7_code
def yX3_gatherCells : MethodName := ⟨RX3, "gatherCells", "([JI)V"⟩
abbrev cX3_cellsUsed : ByteArray := prog_5_method_8_code
def yX3_cellsUsed : MethodName := ⟨RX3, "cellsUsed", "()I"⟩
abbrev cX3_areCellsSafe : ByteArray := prog_5_method_9_code
def yX3_areCellsSafe : MethodName := ⟨RX3, "areCellsSafe", "(LSumsThatTell$Numbers;)Z"⟩
def RX4 : String := "SumsThatTell$Sorter"
def TX4 : u_T := fun k => match k with
  | 0 => ("SumsThatTell$Sorter", "rows", "[J", true)
  | 1 => ("SumsThatTell$Sorter", "order", "[I", false)
  | 2 => ("SumsThatTell$Sorter", "spare", "[I", false)
  | 3 => ("SumsThatTell$Sorter", "starts", "[I", true)
  | 4 => ("SumsThatTell$Sorter", "numbers", "LSumsThatTell$Numbers;", false)
  | 5 => ("SumsThatTell$Sorter", "marks", "[J", false)
  | _ => ("SumsThatTell$Sorter", "size", "I", false)
def tyX4 : Nat → FieldType := fun k => match k with
  | 0 => .array .long
  | 1 => .array .int
  | 2 => .array .int
  | 3 => .array .int
  | 4 => .object "SumsThatTell$Numbers"
  | 5 => .array .long
  | _ => .int
abbrev wsX40 : List Cond := u_ws RX4 TX4 7
theorem nmX4 : ∀ a, a < 7 → ∀ b, b < 7 → a ≠ b → (TX4 a).2.1 ≠ (TX4 b).2.1 := by decide +kernel
theorem tyX4_ok : ∀ k, k < 7 → parseFieldDescriptor (TX4 k).2.2.1 = some (tyX4 k) := by decide +kernel
abbrev cX4_init : ByteArray := prog_6_method_1_code
def yX4_init : MethodName := ⟨RX4, "<init>", "()V"⟩
abbrev cX4_begin : ByteArray := prog_6_method_2_code
def yX4_begin : MethodName := ⟨RX4, "begin", "(LSumsThatTell$Numbers;[J[J)V"⟩
abbrev cX4_addAnswers : ByteArray := prog_6_method_3_code
def yX4_addAnswers : MethodName := ⟨RX4, "addAnswers", "(I[I)V"⟩
abbrev cX4_answerTo : ByteArray := prog_6_method_4_code
def yX4_answerTo : MethodName := ⟨RX4, "answerTo", "(II)I"⟩
abbrev cX4_isGranted : ByteArray := prog_6_method_5_code
def yX4_isGranted : MethodName := ⟨RX4, "isGranted", "(I)Z"⟩
abbrev cX4_sortBy : ByteArray := prog_6_method_6_code
def yX4_sortBy : MethodName := ⟨RX4, "sortBy", "(I)V"⟩
abbrev cX4_areCellsSafe : ByteArray := prog_6_method_7_code
def yX4_areCellsSafe : MethodName := ⟨RX4, "areCellsSafe", "(J)Z"⟩
abbrev cX4_answerBitsOf : ByteArray := prog_6_method_8_code
def yX4_answerBitsOf : MethodName := ⟨RX4, "answerBitsOf", "(I)J"⟩
def RX5 : String := "SumsThatTell$State"
def TX5 : u_T := fun k => match k with
  | 0 => ("SumsThatTell$State", "numbers", "LSumsThatTell$Numbers;", true)
  | 1 => ("SumsThatTell$State", "knowledge", "LSumsThatTell$Knowledge;", true)
  | 2 => ("SumsThatTell$State", "asks", "LSumsThatTell$Asks;", true)
  | _ => ("SumsThatTell$State", "wishes", "LSumsThatTell$Wishes;", true)
def tyX5 : Nat → FieldType := fun k => match k with
  | 0 => .object "SumsThatTell$Numbers"
  | 1 => .object "SumsThatTell$Knowledge"
  | 2 => .object "SumsThatTell$Asks"
  | _ => .object "SumsThatTell$Wishes"
abbrev wsX50 : List Cond := u_ws RX5 TX5 4
theorem nmX5 : ∀ a, a < 4 → ∀ b, b < 4 → a ≠ b → (TX5 a).2.1 ≠ (TX5 b).2.1 := by decide +kernel
theorem tyX5_ok : ∀ k, k < 4 → parseFieldDescriptor (TX5 k).2.2.1 = some (tyX5 k) := by decide +kernel
abbrev cX5_init : ByteArray := prog_7_method_1_code
def yX5_init : MethodName := ⟨RX5, "<init>", "()V"⟩
abbrev cX5_addNumber : ByteArray := prog_7_method_2_code
def yX5_addNumber : MethodName := ⟨RX5, "addNumber", "(IIIII)V"⟩
abbrev cX5_copyFrom : ByteArray := prog_7_method_3_code
def yX5_copyFrom : MethodName := ⟨RX5, "copyFrom", "(LSumsThatTell$State;)V"⟩
def RX6 : String := "SumsThatTell$Wishes"
def TX6 : u_T := fun k => match k with
  | 0 => ("SumsThatTell$Wishes", "kind", "[I", true)
  | 1 => ("SumsThatTell$Wishes", "set", "[I", true)
  | 2 => ("SumsThatTell$Wishes", "extra", "[I", true)
  | _ => ("SumsThatTell$Wishes", "size", "I", false)
def tyX6 : Nat → FieldType := fun k => match k with
  | 0 => .array .int
  | 1 => .array .int
  | 2 => .array .int
  | _ => .int
abbrev wsX60 : List Cond := u_ws RX6 TX6 4
theorem nmX6 : ∀ a, a < 4 → ∀ b, b < 4 → a ≠ b → (TX6 a).2.1 ≠ (TX6 b).2.1 := by decide +kernel
theorem tyX6_ok : ∀ k, k < 4 → parseFieldDescriptor (TX6 k).2.2.1 = some (tyX6 k) := by decide +kernel
abbrev cX6_init : ByteArray := prog_8_method_1_code
def yX6_init : MethodName := ⟨RX6, "<init>", "()V"⟩
abbrev cX6_add : ByteArray := prog_8_method_2_code
def yX6_add : MethodName := ⟨RX6, "add", "(III)I"⟩
abbrev cX6_copyFrom : ByteArray := prog_8_method_3_code
def yX6_copyFrom : MethodName := ⟨RX6, "copyFrom", "(LSumsThatTell$Wishes;)V"⟩
def RX7 : String := "SumsThatTell"
def TX7 : u_T := fun k => match k with
  | 0 => ("SumsThatTell", "now", "LSumsThatTell$State;", true)
  | 1 => ("SumsThatTell", "images", "[LSumsThatTell$State;", true)
  | 2 => ("SumsThatTell", "isTaken", "[Z", true)
  | 3 => ("SumsThatTell", "sheet", "LSumsThatTell$Sheet;", true)
  | _ => ("SumsThatTell", "sorter", "LSumsThatTell$Sorter;", true)
def tyX7 : Nat → FieldType := fun k => match k with
  | 0 => .object "SumsThatTell$State"
  | 1 => .array (.object "SumsThatTell$State")
  | 2 => .array .boolean
  | 3 => .object "SumsThatTell$Sheet"
  | _ => .object "SumsThatTell$Sorter"
abbrev wsX70 : List Cond := u_ws RX7 TX7 5
theorem nmX7 : ∀ a, a < 5 → ∀ b, b < 5 → a ≠ b → (TX7 a).2.1 ≠ (TX7 b).2.1 := by decide +kernel
theorem tyX7_ok : ∀ k, k < 5 → parseFieldDescriptor (TX7 k).2.2.1 = some (tyX7 k) := by decide +kernel
abbrev cX7_init : ByteArray := prog_1_method_1_code
def yX7_init : MethodName := ⟨RX7, "<init>", "()V"⟩
abbrev cX7_person : ByteArray := prog_1_method_2_code
def yX7_person : MethodName := ⟨RX7, "person", "(IIII)I"⟩
abbrev cX7_change : ByteArray := prog_1_method_3_code
def yX7_change : MethodName := ⟨RX7, "change", "(II)I"⟩
abbrev cX7_ask : ByteArray := prog_1_method_4_code
def yX7_ask : MethodName := ⟨RX7, "ask", "(IIII)I"⟩
abbrev cX7_would : ByteArray := prog_1_method_5_code
def yX7_would : MethodName := ⟨RX7, "would", "(IIII)I"⟩
abbrev cX7_join : ByteArray := prog_1_method_6_code
def yX7_join : MethodName := ⟨RX7, "join", "(II)Z"⟩
abbrev cX7_knows : ByteArray := prog_1_method_7_code
def yX7_knows : MethodName := ⟨RX7, "knows", "(III)I"⟩
abbrev cX7_tables : ByteArray := prog_1_method_8_code
def yX7_tables : MethodName := ⟨RX7, "tables", "(I)I"⟩
abbrev cX7_broken : ByteArray := prog_1_method_9_code
def yX7_broken : MethodName := ⟨RX7, "broken", "(I)Z"⟩
abbrev cX7_tell : ByteArray := prog_1_method_10_code
def yX7_tell : MethodName := ⟨RX7, "tell", "(II)I"⟩
abbrev cX7_asked : ByteArray := prog_1_method_11_code
def yX7_asked : MethodName := ⟨RX7, "asked", "(II)I"⟩
abbrev cX7_wish : ByteArray := prog_1_method_12_code
def yX7_wish : MethodName := ⟨RX7, "wish", "(III)I"⟩
abbrev cX7_clear : ByteArray := prog_1_method_13_code
def yX7_clear : MethodName := ⟨RX7, "clear", "()V"⟩
abbrev cX7_most : ByteArray := prog_1_method_14_code
def yX7_most : MethodName := ⟨RX7, "most", "(I)I"⟩
abbrev cX7_together : ByteArray := prog_1_method_15_code
def yX7_together : MethodName := ⟨RX7, "together", "(II)Z"⟩
abbrev cX7_count : ByteArray := prog_1_method_16_code
def yX7_count : MethodName := ⟨RX7, "count", "(I)I"⟩
abbrev cX7_image : ByteArray := prog_1_method_17_code
def yX7_image : MethodName := ⟨RX7, "image", "(I)Z"⟩
abbrev cX7_again : ByteArray := prog_1_method_18_code
def yX7_again : MethodName := ⟨RX7, "again", "(I)Z"⟩
abbrev cX7_isAsker : ByteArray := prog_1_method_19_code
def yX7_isAsker : MethodName := ⟨RX7, "isAsker", "(I)Z"⟩
abbrev cX7_isQuestion : ByteArray := prog_1_method_20_code
def yX7_isQuestion : MethodName := ⟨RX7, "isQuestion", "(II)Z"⟩
abbrev cX7_holdsBit : ByteArray := prog_1_method_21_code
def yX7_holdsBit : MethodName := ⟨RX7, "holdsBit", "(II)Z"⟩
abbrev cX7_lowestBit : ByteArray := prog_1_method_22_code
def yX7_lowestBit : MethodName := ⟨RX7, "lowestBit", "(I)I"⟩
abbrev cX7_highestBit : ByteArray := prog_1_method_23_code
def yX7_highestBit : MethodName := ⟨RX7, "highestBit", "(I)I"⟩
abbrev cX7_judge : ByteArray := prog_1_method_24_code
def yX7_judge : MethodName := ⟨RX7, "judge", "(IIII)I"⟩
abbrev cX7_seenBy : ByteArray := prog_1_method_25_code
def yX7_seenBy : MethodName := ⟨RX7, "seenBy", "(I)J"⟩
abbrev cX7_answerWishes : ByteArray := prog_1_method_26_code
def yX7_answerWishes : MethodName := ⟨RX7, "answerWishes", "(I)V"⟩
abbrev cX7_largestGranted : ByteArray := prog_1_method_27_code
def yX7_largestGranted : MethodName := ⟨RX7, "largestGranted", "(LSumsThatTell$Sorter;IIII)I"⟩
abbrev cX7_betterOf : ByteArray := prog_1_method_28_code
def yX7_betterOf : MethodName := ⟨RX7, "betterOf", "(II)I"⟩
def RX8 : String := "SumsThatTellModel"
def TX8 : u_T := fun k => match k with
  | 0 => ("SumsThatTellModel", "all", "[I", true)
  | 1 => ("SumsThatTellModel", "has", "[Z", true)
  | 2 => ("SumsThatTellModel", "sum", "I", false)
  | 3 => ("SumsThatTellModel", "many0", "I", false)
  | 4 => ("SumsThatTellModel", "greatest0", "I", false)
  | 5 => ("SumsThatTellModel", "least0", "I", false)
  | 6 => ("SumsThatTellModel", "low", "[I", true)
  | 7 => ("SumsThatTellModel", "high", "[I", true)
  | 8 => ("SumsThatTellModel", "met", "[Z", true)
  | 9 => ("SumsThatTellModel", "table", "[I", true)
  | 10 => ("SumsThatTellModel", "answers", "[J", true)
  | 11 => ("SumsThatTellModel", "key", "[J", true)
  | 12 => ("SumsThatTellModel", "row", "[I", true)
  | _ => ("SumsThatTellModel", "left", "I", false)
def tyX8 : Nat → FieldType := fun k => match k with
  | 0 => .array .int
  | 1 => .array .boolean
  | 2 => .int
  | 3 => .int
  | 4 => .int
  | 5 => .int
  | 6 => .array .int
  | 7 => .array .int
  | 8 => .array .boolean
  | 9 => .array .int
  | 10 => .array .long
  | 11 => .array .long
  | 12 => .array .int
  | _ => .int
abbrev wsX80 : List Cond := u_ws RX8 TX8 14
theorem nmX8 : ∀ a, a < 14 → ∀ b, b < 14 → a ≠ b → (TX8 a).2.1 ≠ (TX8 b).2.1 := by decide +kernel
theorem tyX8_ok : ∀ k, k < 14 → parseFieldDescriptor (TX8 k).2.2.1 = some (tyX8 k) := by decide +kernel
abbrev cX8_init : ByteArray := prog_10_method_1_code
def yX8_init : MethodName := ⟨RX8, "<init>", "()V"⟩
abbrev cX8_isIn : ByteArray := prog_10_method_2_code
def yX8_isIn : MethodName := ⟨RX8, "isIn", "(III)Z"⟩
abbrev cX8_isAsker : ByteArray := prog_10_method_3_code
def yX8_isAsker : MethodName := ⟨RX8, "isAsker", "(I)Z"⟩
abbrev cX8_isPerson : ByteArray := prog_10_method_4_code
def yX8_isPerson : MethodName := ⟨RX8, "isPerson", "(I)Z"⟩
abbrev cX8_isNumber : ByteArray := prog_10_method_5_code
def yX8_isNumber : MethodName := ⟨RX8, "isNumber", "(I)Z"⟩
abbrev cX8_of : ByteArray := prog_10_method_6_code
def yX8_of : MethodName := ⟨RX8, "of", "(II)I"⟩
abbrev cX8_many : ByteArray := prog_10_method_7_code
def yX8_many : MethodName := ⟨RX8, "many", "(I)I"⟩
abbrev cX8_valueIn : ByteArray := prog_10_method_8_code
def yX8_valueIn : MethodName := ⟨RX8, "valueIn", "(II)I"⟩
abbrev cX8_mayCome : ByteArray := prog_10_method_9_code
def yX8_mayCome : MethodName := ⟨RX8, "mayCome", "(II)Z"⟩
abbrev cX8_comes : ByteArray := prog_10_method_10_code
def yX8_comes : MethodName := ⟨RX8, "comes", "(IIIII)I"⟩
abbrev cX8_person : ByteArray := prog_10_method_11_code
def yX8_person : MethodName := ⟨RX8, "person", "(IIII)I"⟩
abbrev cX8_change : ByteArray := prog_10_method_12_code
def yX8_change : MethodName := ⟨RX8, "change", "(II)I"⟩
abbrev cX8_numbersOf : ByteArray := prog_10_method_13_code
def yX8_numbersOf : MethodName := ⟨RX8, "numbersOf", "(I)I"⟩
abbrev cX8_begins : ByteArray := prog_10_method_14_code
def yX8_begins : MethodName := ⟨RX8, "begins", "()V"⟩
abbrev cX8_takes : ByteArray := prog_10_method_15_code
def yX8_takes : MethodName := ⟨RX8, "takes", "(II)V"⟩
abbrev cX8_answer : ByteArray := prog_10_method_16_code
def yX8_answer : MethodName := ⟨RX8, "answer", "(II)I"⟩
abbrev cX8_answerIn : ByteArray := prog_10_method_17_code
def yX8_answerIn : MethodName := ⟨RX8, "answerIn", "(IIII)I"⟩
abbrev cX8_hiddenAnswer : ByteArray := prog_10_method_18_code
def yX8_hiddenAnswer : MethodName := ⟨RX8, "hiddenAnswer", "(III)I"⟩
abbrev cX8_isAsk : ByteArray := prog_10_method_19_code
def yX8_isAsk : MethodName := ⟨RX8, "isAsk", "(II)Z"⟩
abbrev cX8_isLeft : ByteArray := prog_10_method_20_code
def yX8_isLeft : MethodName := ⟨RX8, "isLeft", "(II)Z"⟩
abbrev cX8_meets : ByteArray := prog_10_method_21_code
def yX8_meets : MethodName := ⟨RX8, "meets", "(II)V"⟩
abbrev cX8_isClose : ByteArray := prog_10_method_22_code
def yX8_isClose : MethodName := ⟨RX8, "isClose", "(I)Z"⟩
abbrev cX8_clears : ByteArray := prog_10_method_23_code
def yX8_clears : MethodName := ⟨RX8, "clears", "()V"⟩
abbrev cX8_judged : ByteArray := prog_10_method_24_code
def yX8_judged : MethodName := ⟨RX8, "judged", "(IIII)I"⟩
abbrev cX8_would : ByteArray := prog_10_method_25_code
def yX8_would : MethodName := ⟨RX8, "would", "(IIII)I"⟩
abbrev cX8_known : ByteArray := prog_10_method_26_code
def yX8_known : MethodName := ⟨RX8, "known", "(I)I"⟩
abbrev cX8_ask : ByteArray := prog_10_method_27_code
def yX8_ask : MethodName := ⟨RX8, "ask", "(IIII)I"⟩
abbrev cX8_join : ByteArray := prog_10_method_28_code
def yX8_join : MethodName := ⟨RX8, "join", "(II)Z"⟩
abbrev cX8_knows : ByteArray := prog_10_method_29_code
def yX8_knows : MethodName := ⟨RX8, "knows", "(III)I"⟩
abbrev cX8_tables : ByteArray := prog_10_method_30_code
def yX8_tables : MethodName := ⟨RX8, "tables", "(I)I"⟩
abbrev cX8_broken : ByteArray := prog_10_method_31_code
def yX8_broken : MethodName := ⟨RX8, "broken", "(I)Z"⟩
abbrev cX8_tell : ByteArray := prog_10_method_32_code
def yX8_tell : MethodName := ⟨RX8, "tell", "(II)I"⟩
abbrev cX8_asked : ByteArray := prog_10_method_33_code
def yX8_asked : MethodName := ⟨RX8, "asked", "(II)I"⟩
abbrev cX8_wish : ByteArray := prog_10_method_34_code
def yX8_wish : MethodName := ⟨RX8, "wish", "(III)I"⟩
abbrev cX8_clear : ByteArray := prog_10_method_35_code
def yX8_clear : MethodName := ⟨RX8, "clear", "()V"⟩
abbrev cX8_reckons : ByteArray := prog_10_method_36_code
def yX8_reckons : MethodName := ⟨RX8, "reckons", "(I)V"⟩
abbrev cX8_sorts : ByteArray := prog_10_method_37_code
def yX8_sorts : MethodName := ⟨RX8, "sorts", "(I)V"⟩
abbrev cX8_mayBe : ByteArray := prog_10_method_38_code
def yX8_mayBe : MethodName := ⟨RX8, "mayBe", "(I)Z"⟩
abbrev cX8_together : ByteArray := prog_10_method_39_code
def yX8_together : MethodName := ⟨RX8, "together", "(II)Z"⟩
abbrev cX8_bitsOf : ByteArray := prog_10_method_40_code
def yX8_bitsOf : MethodName := ⟨RX8, "bitsOf", "(I)I"⟩
abbrev cX8_most : ByteArray := prog_10_method_41_code
def yX8_most : MethodName := ⟨RX8, "most", "(I)I"⟩
abbrev cX8_count : ByteArray := prog_10_method_42_code
def yX8_count : MethodName := ⟨RX8, "count", "(I)I"⟩
abbrev cX8_image : ByteArray := prog_10_method_43_code
def yX8_image : MethodName := ⟨RX8, "image", "(I)Z"⟩
abbrev cX8_again : ByteArray := prog_10_method_44_code
def yX8_again : MethodName := ⟨RX8, "again", "(I)Z"⟩
def RJ6 : String := "java/lang/Integer"
def TJ6 : u_T := fun k => match k with
  | _ => ("", "", "", false)
def tyJ6 : Nat → FieldType := fun k => match k with
  | _ => .int
abbrev wsJ60 : List Cond := u_ws RJ6 TJ6 0
theorem nmJ6 : ∀ a, a < 0 → ∀ b, b < 0 → a ≠ b → (TJ6 a).2.1 ≠ (TJ6 b).2.1 := by decide +kernel
theorem tyJ6_ok : ∀ k, k < 0 → parseFieldDescriptor (TJ6 k).2.2.1 = some (tyJ6 k) := by decide +kernel
abbrev cJ6_bitCount_0f7a4 : ByteArray := prog_11_method_49_code
def yJ6_bitCount_0f7a4 : MethodName := ⟨RJ6, "bitCount", "(I)I"⟩
def RJ13 : String := "java/lang/Long"
def TJ13 : u_T := fun k => match k with
  | _ => ("", "", "", false)
def tyJ13 : Nat → FieldType := fun k => match k with
  | _ => .int
abbrev wsJ130 : List Cond := u_ws RJ13 TJ13 0
theorem nmJ13 : ∀ a, a < 0 → ∀ b, b < 0 → a ≠ b → (TJ13 a).2.1 ≠ (TJ13 b).2.1 := by decide +kernel
theorem tyJ13_ok : ∀ k, k < 0 → parseFieldDescriptor (TJ13 k).2.2.1 = some (tyJ13 k) := by decide +kernel
abbrev cJ13_bitCount_95d88 : ByteArray := prog_12_method_50_code
def yJ13_bitCount_95d88 : MethodName := ⟨RJ13, "bitCount", "(J)I"⟩
def RJ9 : String := "java/lang/Math"
def TJ9 : u_T := fun k => match k with
  | _ => ("", "", "", false)
def tyJ9 : Nat → FieldType := fun k => match k with
  | _ => .int
abbrev wsJ90 : List Cond := u_ws RJ9 TJ9 0
theorem nmJ9 : ∀ a, a < 0 → ∀ b, b < 0 → a ≠ b → (TJ9 a).2.1 ≠ (TJ9 b).2.1 := by decide +kernel
theorem tyJ9_ok : ∀ k, k < 0 → parseFieldDescriptor (TJ9 k).2.2.1 = some (tyJ9 k) := by decide +kernel
abbrev cJ9_max_7cf53 : ByteArray := prog_13_method_65_code
def yJ9_max_7cf53 : MethodName := ⟨RJ9, "max", "(II)I"⟩
abbrev cJ9_min_7cf53 : ByteArray := prog_13_method_69_code
def yJ9_min_7cf53 : MethodName := ⟨RJ9, "min", "(II)I"⟩
def RJ10 : String := "java/lang/System"
def TJ10 : u_T := fun k => match k with
  | _ => ("", "", "", false)
def tyJ10 : Nat → FieldType := fun k => match k with
  | _ => .int
abbrev wsJ100 : List Cond := u_ws RJ10 TJ10 0
theorem nmJ10 : ∀ a, a < 0 → ∀ b, b < 0 → a ≠ b → (TJ10 a).2.1 ≠ (TJ10 b).2.1 := by decide +kernel
theorem tyJ10_ok : ∀ k, k < 0 → parseFieldDescriptor (TJ10 k).2.2.1 = some (tyJ10 k) := by decide +kernel
def RJ7 : String := "java/util/Arrays"
def TJ7 : u_T := fun k => match k with
  | _ => ("", "", "", false)
def tyJ7 : Nat → FieldType := fun k => match k with
  | _ => .int
abbrev wsJ70 : List Cond := u_ws RJ7 TJ7 0
theorem nmJ7 : ∀ a, a < 0 → ∀ b, b < 0 → a ≠ b → (TJ7 a).2.1 ≠ (TJ7 b).2.1 := by decide +kernel
theorem tyJ7_ok : ∀ k, k < 0 → parseFieldDescriptor (TJ7 k).2.2.1 = some (tyJ7 k) := by decide +kernel
abbrev cJ7_fill_d0a16 : ByteArray := prog_15_method_101_code
def yJ7_fill_d0a16 : MethodName := ⟨RJ7, "fill", "([JJ)V"⟩
abbrev cJ7_fill_53178 : ByteArray := prog_15_method_103_code
def yJ7_fill_53178 : MethodName := ⟨RJ7, "fill", "([II)V"⟩
def RL : String := "SumsThatTellLaw"
abbrev cL_law : ByteArray := code
def yL_law : MethodName := ⟨RL, "law", "([I)Z"⟩
abbrev vwCl : List vw_C := [(RX0, TX0, 3), (RX1, TX1, 2), (RX2, TX2, 12), (RX3, TX3, 3), (RX4, TX4, 7), (RX5, TX5, 4), (RX6, TX6, 4), (RX7, TX7, 5), (RX8, TX8, 14)]
end
section
theorem dX8_init_0 : decode cX8_init 0 = .ok (.aload_n 0, 1) := by decide +kernel
theorem dX8_init_1 : decode cX8_init 1 = .ok (.invokespecial 1, 3) := by decide +kernel
theorem dX8_init_4 : decode cX8_init 4 = .ok (.aload_n 0, 1) := by decide +kernel
theorem dX8_init_5 : decode cX8_init 5 = .ok (.ldc 7, 2) := by decide +kernel
theorem dX8_init_7 : decode cX8_init 7 = .ok (.newarray .int, 2) := by decide +kernel
theorem dX8_init_9 : decode cX8_init 9 = .ok (.putfield 8, 3) := by decide +kernel
theorem dX8_init_12 : decode cX8_init 12 = .ok (.aload_n 0, 1) := by decide +kernel
theorem dX8_init_13 : decode cX8_init 13 = .ok (.iconst 3, 1) := by decide +kernel
theorem dX8_init_14 : decode cX8_init 14 = .ok (.newarray .boolean, 2) := by decide +kernel
theorem dX8_init_16 : decode cX8_init 16 = .ok (.putfield 14, 3) := by decide +kernel
theorem dX8_init_19 : decode cX8_init 19 = .ok (.aload_n 0, 1) := by decide +kernel
theorem dX8_init_20 : decode cX8_init 20 = .ok (.sipush 610, 3) := by decide +kernel
theorem dX8_init_23 : decode cX8_init 23 = .ok (.newarray .int, 2) := by decide +kernel
theorem dX8_init_25 : decode cX8_init 25 = .ok (.putfield 18, 3) := by decide +kernel
theorem dX8_init_28 : decode cX8_init 28 = .ok (.aload_n 0, 1) := by decide +kernel
theorem dX8_init_29 : decode cX8_init 29 = .ok (.sipush 610, 3) := by decide +kernel
theorem dX8_init_32 : decode cX8_init 32 = .ok (.newarray .int, 2) := by decide +kernel
theorem dX8_init_34 : decode cX8_init 34 = .ok (.putfield 21, 3) := by decide +kernel
theorem dX8_init_37 : decode cX8_init 37 = .ok (.aload_n 0, 1) := by decide +kernel
theorem dX8_init_38 : decode cX8_init 38 = .ok (.bipush 61, 2) := by decide +kernel
theorem dX8_init_40 : decode cX8_init 40 = .ok (.newarray .boolean, 2) := by decide +kernel
theorem dX8_init_42 : decode cX8_init 42 = .ok (.putfield 24, 3) := by decide +kernel
theorem dX8_init_45 : decode cX8_init 45 = .ok (.aload_n 0, 1) := by decide +kernel
theorem dX8_init_46 : decode cX8_init 46 = .ok (.sipush 4096, 3) := by decide +kernel
theorem dX8_init_49 : decode cX8_init 49 = .ok (.newarray .int, 2) := by decide +kernel
theorem dX8_init_51 : decode cX8_init 51 = .ok (.putfield 27, 3) := by decide +kernel
theorem dX8_init_54 : decode cX8_init 54 = .ok (.aload_n 0, 1) := by decide +kernel
theorem dX8_init_55 : decode cX8_init 55 = .ok (.sipush 4096, 3) := by decide +kernel
theorem dX8_init_58 : decode cX8_init 58 = .ok (.newarray .long, 2) := by decide +kernel
theorem dX8_init_60 : decode cX8_init 60 = .ok (.putfield 30, 3) := by decide +kernel
theorem dX8_init_63 : decode cX8_init 63 = .ok (.aload_n 0, 1) := by decide +kernel
theorem dX8_init_64 : decode cX8_init 64 = .ok (.sipush 4096, 3) := by decide +kernel
theorem dX8_init_67 : decode cX8_init 67 = .ok (.newarray .long, 2) := by decide +kernel
theorem dX8_init_69 : decode cX8_init 69 = .ok (.putfield 34, 3) := by decide +kernel
theorem dX8_init_72 : decode cX8_init 72 = .ok (.aload_n 0, 1) := by decide +kernel
theorem dX8_init_73 : decode cX8_init 73 = .ok (.sipush 4096, 3) := by decide +kernel
theorem dX8_init_76 : decode cX8_init 76 = .ok (.newarray .int, 2) := by decide +kernel
theorem dX8_init_78 : decode cX8_init 78 = .ok (.putfield 37, 3) := by decide +kernel
theorem dX8_init_81 : decode cX8_init 81 = .ok (.aload_n 0, 1) := by decide +kernel
theorem dX8_init_82 : decode cX8_init 82 = .ok (.getfield 8, 3) := by decide +kernel
theorem dX8_init_85 : decode cX8_init 85 = .ok (.iconst 2, 1) := by decide +kernel
theorem dX8_init_86 : decode cX8_init 86 = .ok (.iconst 1, 1) := by decide +kernel
theorem dX8_init_87 : decode cX8_init 87 = .ok (.iastore, 1) := by decide +kernel
theorem dX8_init_88 : decode cX8_init 88 = .ok (.iconst 0, 1) := by decide +kernel
theorem dX8_init_89 : decode cX8_init 89 = .ok (.istore_n 1, 1) := by decide +kernel
theorem dX8_init_90 : decode cX8_init 90 = .ok (.iload_n 1, 1) := by decide +kernel
theorem dX8_init_91 : decode cX8_init 91 = .ok (.iconst 4, 1) := by decide +kernel
theorem dX8_init_92 : decode cX8_init 92 = .ok (.if_icmp .ge 34, 3) := by decide +kernel
theorem dX8_init_95 : decode cX8_init 95 = .ok (.aload_n 0, 1) := by decide +kernel
theorem dX8_init_96 : decode cX8_init 96 = .ok (.getfield 8, 3) := by decide +kernel
theorem dX8_init_99 : decode cX8_init 99 = .ok (.bipush 6, 2) := by decide +kernel
theorem dX8_init_101 : decode cX8_init 101 = .ok (.iload_n 1, 1) := by decide +kernel
theorem dX8_init_102 : decode cX8_init 102 = .ok (.iadd, 1) := by decide +kernel
theorem dX8_init_103 : decode cX8_init 103 = .ok (.iload_n 1, 1) := by decide +kernel
theorem dX8_init_104 : decode cX8_init 104 = .ok (.iastore, 1) := by decide +kernel
theorem dX8_init_105 : decode cX8_init 105 = .ok (.aload_n 0, 1) := by decide +kernel
theorem dX8_init_106 : decode cX8_init 106 = .ok (.getfield 8, 3) := by decide +kernel
theorem dX8_init_109 : decode cX8_init 109 = .ok (.sipush 1130, 3) := by decide +kernel
theorem dX8_init_112 : decode cX8_init 112 = .ok (.sipush 4096, 3) := by decide +kernel
theorem dX8_init_115 : decode cX8_init 115 = .ok (.iload_n 1, 1) := by decide +kernel
theorem dX8_init_116 : decode cX8_init 116 = .ok (.imul, 1) := by decide +kernel
theorem dX8_init_117 : decode cX8_init 117 = .ok (.iadd, 1) := by decide +kernel
theorem dX8_init_118 : decode cX8_init 118 = .ok (.iconst 1, 1) := by decide +kernel
theorem dX8_init_119 : decode cX8_init 119 = .ok (.iastore, 1) := by decide +kernel
theorem dX8_init_120 : decode cX8_init 120 = .ok (.iinc 1 1, 3) := by decide +kernel
theorem dX8_init_123 : decode cX8_init 123 = .ok (.goto (-33), 3) := by decide +kernel
theorem dX8_init_126 : decode cX8_init 126 = .ok (.return_, 1) := by decide +kernel
theorem dX8_isIn_0 : decode cX8_isIn 0 = .ok (.iload_n 0, 1) := by decide +kernel
theorem dX8_isIn_1 : decode cX8_isIn 1 = .ok (.iload_n 1, 1) := by decide +kernel
theorem dX8_isIn_2 : decode cX8_isIn 2 = .ok (.if_icmp .lt 12, 3) := by decide +kernel
theorem dX8_isIn_5 : decode cX8_isIn 5 = .ok (.iload_n 0, 1) := by decide +kernel
theorem dX8_isIn_6 : decode cX8_isIn 6 = .ok (.iload_n 2, 1) := by decide +kernel
theorem dX8_isIn_7 : decode cX8_isIn 7 = .ok (.if_icmp .gt 7, 3) := by decide +kernel
theorem dX8_isIn_10 : decode cX8_isIn 10 = .ok (.iconst 1, 1) := by decide +kernel
theorem dX8_isIn_11 : decode cX8_isIn 11 = .ok (.goto 4, 3) := by decide +kernel
theorem dX8_isIn_14 : decode cX8_isIn 14 = .ok (.iconst 0, 1) := by decide +kernel
theorem dX8_isIn_15 : decode cX8_isIn 15 = .ok (.ireturn, 1) := by decide +kernel
theorem dX8_isAsker_0 : decode cX8_isAsker 0 = .ok (.iload_n 0, 1) := by decide +kernel
theorem dX8_isAsker_1 : decode cX8_isAsker 1 = .ok (.iconst 0, 1) := by decide +kernel
theorem dX8_isAsker_2 : decode cX8_isAsker 2 = .ok (.iconst 3, 1) := by decide +kernel
theorem dX8_isAsker_3 : decode cX8_isAsker 3 = .ok (.invokestatic 40, 3) := by decide +kernel
theorem dX8_isAsker_6 : decode cX8_isAsker 6 = .ok (.ireturn, 1) := by decide +kernel
theorem dX8_isPerson_0 : decode cX8_isPerson 0 = .ok (.iload_n 1, 1) := by decide +kernel
theorem dX8_isPerson_1 : decode cX8_isPerson 1 = .ok (.iconst 0, 1) := by decide +kernel
theorem dX8_isPerson_2 : decode cX8_isPerson 2 = .ok (.aload_n 0, 1) := by decide +kernel
theorem dX8_isPerson_3 : decode cX8_isPerson 3 = .ok (.getfield 8, 3) := by decide +kernel
theorem dX8_isPerson_6 : decode cX8_isPerson 6 = .ok (.iconst 0, 1) := by decide +kernel
theorem dX8_isPerson_7 : decode cX8_isPerson 7 = .ok (.iaload, 1) := by decide +kernel
theorem dX8_isPerson_8 : decode cX8_isPerson 8 = .ok (.iconst 1, 1) := by decide +kernel
theorem dX8_isPerson_9 : decode cX8_isPerson 9 = .ok (.isub, 1) := by decide +kernel
theorem dX8_isPerson_10 : decode cX8_isPerson 10 = .ok (.invokestatic 40, 3) := by decide +kernel
theorem dX8_isPerson_13 : decode cX8_isPerson 13 = .ok (.ireturn, 1) := by decide +kernel
theorem dX8_isNumber_0 : decode cX8_isNumber 0 = .ok (.iload_n 1, 1) := by decide +kernel
theorem dX8_isNumber_1 : decode cX8_isNumber 1 = .ok (.iconst 0, 1) := by decide +kernel
theorem dX8_isNumber_2 : decode cX8_isNumber 2 = .ok (.aload_n 0, 1) := by decide +kernel
theorem dX8_isNumber_3 : decode cX8_isNumber 3 = .ok (.getfield 8, 3) := by decide +kernel
theorem dX8_isNumber_6 : decode cX8_isNumber 6 = .ok (.iconst 1, 1) := by decide +kernel
theorem dX8_isNumber_7 : decode cX8_isNumber 7 = .ok (.iaload, 1) := by decide +kernel
theorem dX8_isNumber_8 : decode cX8_isNumber 8 = .ok (.iconst 1, 1) := by decide +kernel
theorem dX8_isNumber_9 : decode cX8_isNumber 9 = .ok (.isub, 1) := by decide +kernel
theorem dX8_isNumber_10 : decode cX8_isNumber 10 = .ok (.invokestatic 40, 3) := by decide +kernel
theorem dX8_isNumber_13 : decode cX8_isNumber 13 = .ok (.ireturn, 1) := by decide +kernel
theorem dX8_of_0 : decode cX8_of 0 = .ok (.aload_n 0, 1) := by decide +kernel
theorem dX8_of_1 : decode cX8_of 1 = .ok (.getfield 8, 3) := by decide +kernel
theorem dX8_of_4 : decode cX8_of 4 = .ok (.bipush 20, 2) := by decide +kernel
theorem dX8_of_6 : decode cX8_of 6 = .ok (.bipush 8, 2) := by decide +kernel
theorem dX8_of_8 : decode cX8_of 8 = .ok (.iload_n 1, 1) := by decide +kernel
theorem dX8_of_9 : decode cX8_of 9 = .ok (.imul, 1) := by decide +kernel
theorem dX8_of_10 : decode cX8_of 10 = .ok (.iadd, 1) := by decide +kernel
theorem dX8_of_11 : decode cX8_of 11 = .ok (.iload_n 2, 1) := by decide +kernel
theorem dX8_of_12 : decode cX8_of 12 = .ok (.iadd, 1) := by decide +kernel
theorem dX8_of_13 : decode cX8_of 13 = .ok (.iaload, 1) := by decide +kernel
theorem dX8_of_14 : decode cX8_of 14 = .ok (.ireturn, 1) := by decide +kernel
theorem dX8_many_0 : decode cX8_many 0 = .ok (.aload_n 0, 1) := by decide +kernel
theorem dX8_many_1 : decode cX8_many 1 = .ok (.iload_n 1, 1) := by decide +kernel
theorem dX8_many_2 : decode cX8_many 2 = .ok (.iconst 2, 1) := by decide +kernel
theorem dX8_many_3 : decode cX8_many 3 = .ok (.invokevirtual 44, 3) := by decide +kernel
theorem dX8_many_6 : decode cX8_many 6 = .ok (.aload_n 0, 1) := by decide +kernel
theorem dX8_many_7 : decode cX8_many 7 = .ok (.iload_n 1, 1) := by decide +kernel
theorem dX8_many_8 : decode cX8_many 8 = .ok (.iconst 1, 1) := by decide +kernel
theorem dX8_many_9 : decode cX8_many 9 = .ok (.invokevirtual 44, 3) := by decide +kernel
theorem dX8_many_12 : decode cX8_many 12 = .ok (.isub, 1) := by decide +kernel
theorem dX8_many_13 : decode cX8_many 13 = .ok (.iconst 1, 1) := by decide +kernel
theorem dX8_many_14 : decode cX8_many 14 = .ok (.iadd, 1) := by decide +kernel
theorem dX8_many_15 : decode cX8_many 15 = .ok (.ireturn, 1) := by decide +kernel
theorem dX8_valueIn_0 : decode cX8_valueIn 0 = .ok (.aload_n 0, 1) := by decide +kernel
theorem dX8_valueIn_1 : decode cX8_valueIn 1 = .ok (.iload_n 2, 1) := by decide +kernel
theorem dX8_valueIn_2 : decode cX8_valueIn 2 = .ok (.iconst 1, 1) := by decide +kernel
theorem dX8_valueIn_3 : decode cX8_valueIn 3 = .ok (.invokevirtual 44, 3) := by decide +kernel
theorem dX8_valueIn_6 : decode cX8_valueIn 6 = .ok (.iload_n 1, 1) := by decide +kernel
theorem dX8_valueIn_7 : decode cX8_valueIn 7 = .ok (.aload_n 0, 1) := by decide +kernel
theorem dX8_valueIn_8 : decode cX8_valueIn 8 = .ok (.iload_n 2, 1) := by decide +kernel
theorem dX8_valueIn_9 : decode cX8_valueIn 9 = .ok (.iconst 5, 1) := by decide +kernel
theorem dX8_valueIn_10 : decode cX8_valueIn 10 = .ok (.invokevirtual 44, 3) := by decide +kernel
theorem dX8_valueIn_13 : decode cX8_valueIn 13 = .ok (.idiv, 1) := by decide +kernel
theorem dX8_valueIn_14 : decode cX8_valueIn 14 = .ok (.aload_n 0, 1) := by decide +kernel
theorem dX8_valueIn_15 : decode cX8_valueIn 15 = .ok (.iload_n 2, 1) := by decide +kernel
theorem dX8_valueIn_16 : decode cX8_valueIn 16 = .ok (.invokevirtual 48, 3) := by decide +kernel
theorem dX8_valueIn_19 : decode cX8_valueIn 19 = .ok (.irem, 1) := by decide +kernel
theorem dX8_valueIn_20 : decode cX8_valueIn 20 = .ok (.iadd, 1) := by decide +kernel
theorem dX8_valueIn_21 : decode cX8_valueIn 21 = .ok (.ireturn, 1) := by decide +kernel
theorem dX8_mayCome_0 : decode cX8_mayCome 0 = .ok (.iload_n 2, 1) := by decide +kernel
theorem dX8_mayCome_1 : decode cX8_mayCome 1 = .ok (.istore_n 3, 1) := by decide +kernel
theorem dX8_mayCome_2 : decode cX8_mayCome 2 = .ok (.iconst 0, 1) := by decide +kernel
theorem dX8_mayCome_3 : decode cX8_mayCome 3 = .ok (.istore 4, 2) := by decide +kernel
theorem dX8_mayCome_5 : decode cX8_mayCome 5 = .ok (.iload 4, 2) := by decide +kernel
theorem dX8_mayCome_7 : decode cX8_mayCome 7 = .ok (.aload_n 0, 1) := by decide +kernel
theorem dX8_mayCome_8 : decode cX8_mayCome 8 = .ok (.getfield 8, 3) := by decide +kernel
theorem dX8_mayCome_11 : decode cX8_mayCome 11 = .ok (.iconst 1, 1) := by decide +kernel
theorem dX8_mayCome_12 : decode cX8_mayCome 12 = .ok (.iaload, 1) := by decide +kernel
theorem dX8_mayCome_13 : decode cX8_mayCome 13 = .ok (.if_icmp .ge 19, 3) := by decide +kernel
theorem dX8_mayCome_16 : decode cX8_mayCome 16 = .ok (.iload_n 3, 1) := by decide +kernel
theorem dX8_mayCome_17 : decode cX8_mayCome 17 = .ok (.aload_n 0, 1) := by decide +kernel
theorem dX8_mayCome_18 : decode cX8_mayCome 18 = .ok (.iload 4, 2) := by decide +kernel
theorem dX8_mayCome_20 : decode cX8_mayCome 20 = .ok (.iconst 2, 1) := by decide +kernel
theorem dX8_mayCome_21 : decode cX8_mayCome 21 = .ok (.invokevirtual 44, 3) := by decide +kernel
theorem dX8_mayCome_24 : decode cX8_mayCome 24 = .ok (.iadd, 1) := by decide +kernel
theorem dX8_mayCome_25 : decode cX8_mayCome 25 = .ok (.istore_n 3, 1) := by decide +kernel
theorem dX8_mayCome_26 : decode cX8_mayCome 26 = .ok (.iinc 4 1, 3) := by decide +kernel
theorem dX8_mayCome_29 : decode cX8_mayCome 29 = .ok (.goto (-24), 3) := by decide +kernel
theorem dX8_mayCome_32 : decode cX8_mayCome 32 = .ok (.aload_n 0, 1) := by decide +kernel
theorem dX8_mayCome_33 : decode cX8_mayCome 33 = .ok (.getfield 8, 3) := by decide +kernel
theorem dX8_mayCome_36 : decode cX8_mayCome 36 = .ok (.iconst 1, 1) := by decide +kernel
theorem dX8_mayCome_37 : decode cX8_mayCome 37 = .ok (.iaload, 1) := by decide +kernel
theorem dX8_mayCome_38 : decode cX8_mayCome 38 = .ok (.bipush 10, 2) := by decide +kernel
theorem dX8_mayCome_40 : decode cX8_mayCome 40 = .ok (.if_icmp .ge 31, 3) := by decide +kernel
theorem dX8_mayCome_43 : decode cX8_mayCome 43 = .ok (.aload_n 0, 1) := by decide +kernel
theorem dX8_mayCome_44 : decode cX8_mayCome 44 = .ok (.getfield 8, 3) := by decide +kernel
theorem dX8_mayCome_47 : decode cX8_mayCome 47 = .ok (.iconst 2, 1) := by decide +kernel
theorem dX8_mayCome_48 : decode cX8_mayCome 48 = .ok (.iaload, 1) := by decide +kernel
theorem dX8_mayCome_49 : decode cX8_mayCome 49 = .ok (.iload_n 2, 1) := by decide +kernel
theorem dX8_mayCome_50 : decode cX8_mayCome 50 = .ok (.iload_n 1, 1) := by decide +kernel
theorem dX8_mayCome_51 : decode cX8_mayCome 51 = .ok (.isub, 1) := by decide +kernel
theorem dX8_mayCome_52 : decode cX8_mayCome 52 = .ok (.iconst 1, 1) := by decide +kernel
theorem dX8_mayCome_53 : decode cX8_mayCome 53 = .ok (.iadd, 1) := by decide +kernel
theorem dX8_mayCome_54 : decode cX8_mayCome 54 = .ok (.imul, 1) := by decide +kernel
theorem dX8_mayCome_55 : decode cX8_mayCome 55 = .ok (.sipush 4096, 3) := by decide +kernel
theorem dX8_mayCome_58 : decode cX8_mayCome 58 = .ok (.if_icmp .gt 13, 3) := by decide +kernel
theorem dX8_mayCome_61 : decode cX8_mayCome 61 = .ok (.iload_n 3, 1) := by decide +kernel
theorem dX8_mayCome_62 : decode cX8_mayCome 62 = .ok (.bipush 60, 2) := by decide +kernel
theorem dX8_mayCome_64 : decode cX8_mayCome 64 = .ok (.if_icmp .gt 7, 3) := by decide +kernel
theorem dX8_mayCome_67 : decode cX8_mayCome 67 = .ok (.iconst 1, 1) := by decide +kernel
theorem dX8_mayCome_68 : decode cX8_mayCome 68 = .ok (.goto 4, 3) := by decide +kernel
theorem dX8_mayCome_71 : decode cX8_mayCome 71 = .ok (.iconst 0, 1) := by decide +kernel
theorem dX8_mayCome_72 : decode cX8_mayCome 72 = .ok (.ireturn, 1) := by decide +kernel
theorem dX8_comes_0 : decode cX8_comes 0 = .ok (.aload_n 0, 1) := by decide +kernel
theorem dX8_comes_1 : decode cX8_comes 1 = .ok (.getfield 8, 3) := by decide +kernel
theorem dX8_comes_4 : decode cX8_comes 4 = .ok (.iconst 1, 1) := by decide +kernel
theorem dX8_comes_5 : decode cX8_comes 5 = .ok (.iaload, 1) := by decide +kernel
theorem dX8_comes_6 : decode cX8_comes 6 = .ok (.istore 6, 2) := by decide +kernel
theorem dX8_comes_8 : decode cX8_comes 8 = .ok (.bipush 20, 2) := by decide +kernel
theorem dX8_comes_10 : decode cX8_comes 10 = .ok (.bipush 8, 2) := by decide +kernel
theorem dX8_comes_12 : decode cX8_comes 12 = .ok (.iload 6, 2) := by decide +kernel
theorem dX8_comes_14 : decode cX8_comes 14 = .ok (.imul, 1) := by decide +kernel
theorem dX8_comes_15 : decode cX8_comes 15 = .ok (.iadd, 1) := by decide +kernel
theorem dX8_comes_16 : decode cX8_comes 16 = .ok (.istore 7, 2) := by decide +kernel
theorem dX8_comes_18 : decode cX8_comes 18 = .ok (.aload_n 0, 1) := by decide +kernel
theorem dX8_comes_19 : decode cX8_comes 19 = .ok (.getfield 8, 3) := by decide +kernel
theorem dX8_comes_22 : decode cX8_comes 22 = .ok (.iconst 2, 1) := by decide +kernel
theorem dX8_comes_23 : decode cX8_comes 23 = .ok (.iaload, 1) := by decide +kernel
theorem dX8_comes_24 : decode cX8_comes 24 = .ok (.istore 8, 2) := by decide +kernel
theorem dX8_comes_26 : decode cX8_comes 26 = .ok (.aload_n 0, 1) := by decide +kernel
theorem dX8_comes_27 : decode cX8_comes 27 = .ok (.getfield 8, 3) := by decide +kernel
theorem dX8_comes_30 : decode cX8_comes 30 = .ok (.iload 7, 2) := by decide +kernel
theorem dX8_comes_32 : decode cX8_comes 32 = .ok (.iload_n 1, 1) := by decide +kernel
theorem dX8_comes_33 : decode cX8_comes 33 = .ok (.iastore, 1) := by decide +kernel
theorem dX8_comes_34 : decode cX8_comes 34 = .ok (.aload_n 0, 1) := by decide +kernel
theorem dX8_comes_35 : decode cX8_comes 35 = .ok (.getfield 8, 3) := by decide +kernel
theorem dX8_comes_38 : decode cX8_comes 38 = .ok (.iload 7, 2) := by decide +kernel
theorem dX8_comes_40 : decode cX8_comes 40 = .ok (.iconst 1, 1) := by decide +kernel
theorem dX8_comes_41 : decode cX8_comes 41 = .ok (.iadd, 1) := by decide +kernel
theorem dX8_comes_42 : decode cX8_comes 42 = .ok (.iload_n 3, 1) := by decide +kernel
theorem dX8_comes_43 : decode cX8_comes 43 = .ok (.iastore, 1) := by decide +kernel
theorem dX8_comes_44 : decode cX8_comes 44 = .ok (.aload_n 0, 1) := by decide +kernel
theorem dX8_comes_45 : decode cX8_comes 45 = .ok (.getfield 8, 3) := by decide +kernel
theorem dX8_comes_48 : decode cX8_comes 48 = .ok (.iload 7, 2) := by decide +kernel
theorem dX8_comes_50 : decode cX8_comes 50 = .ok (.iconst 2, 1) := by decide +kernel
theorem dX8_comes_51 : decode cX8_comes 51 = .ok (.iadd, 1) := by decide +kernel
theorem dX8_comes_52 : decode cX8_comes 52 = .ok (.iload 4, 2) := by decide +kernel
theorem dX8_comes_54 : decode cX8_comes 54 = .ok (.iastore, 1) := by decide +kernel
theorem dX8_comes_55 : decode cX8_comes 55 = .ok (.aload_n 0, 1) := by decide +kernel
theorem dX8_comes_56 : decode cX8_comes 56 = .ok (.getfield 8, 3) := by decide +kernel
theorem dX8_comes_59 : decode cX8_comes 59 = .ok (.iload 7, 2) := by decide +kernel
theorem dX8_comes_61 : decode cX8_comes 61 = .ok (.iconst 3, 1) := by decide +kernel
theorem dX8_comes_62 : decode cX8_comes 62 = .ok (.iadd, 1) := by decide +kernel
theorem dX8_comes_63 : decode cX8_comes 63 = .ok (.iload 5, 2) := by decide +kernel
theorem dX8_comes_65 : decode cX8_comes 65 = .ok (.iastore, 1) := by decide +kernel
theorem dX8_comes_66 : decode cX8_comes 66 = .ok (.aload_n 0, 1) := by decide +kernel
theorem dX8_comes_67 : decode cX8_comes 67 = .ok (.getfield 8, 3) := by decide +kernel
theorem dX8_comes_70 : decode cX8_comes 70 = .ok (.iload 7, 2) := by decide +kernel
theorem dX8_comes_72 : decode cX8_comes 72 = .ok (.iconst 4, 1) := by decide +kernel
theorem dX8_comes_73 : decode cX8_comes 73 = .ok (.iadd, 1) := by decide +kernel
theorem dX8_comes_74 : decode cX8_comes 74 = .ok (.iload_n 2, 1) := by decide +kernel
theorem dX8_comes_75 : decode cX8_comes 75 = .ok (.iastore, 1) := by decide +kernel
theorem dX8_comes_76 : decode cX8_comes 76 = .ok (.aload_n 0, 1) := by decide +kernel
theorem dX8_comes_77 : decode cX8_comes 77 = .ok (.getfield 8, 3) := by decide +kernel
theorem dX8_comes_80 : decode cX8_comes 80 = .ok (.iload 7, 2) := by decide +kernel
theorem dX8_comes_82 : decode cX8_comes 82 = .ok (.iconst 5, 1) := by decide +kernel
theorem dX8_comes_83 : decode cX8_comes 83 = .ok (.iadd, 1) := by decide +kernel
theorem dX8_comes_84 : decode cX8_comes 84 = .ok (.iload 8, 2) := by decide +kernel
theorem dX8_comes_86 : decode cX8_comes 86 = .ok (.iastore, 1) := by decide +kernel
theorem dX8_comes_87 : decode cX8_comes 87 = .ok (.aload_n 0, 1) := by decide +kernel
theorem dX8_comes_88 : decode cX8_comes 88 = .ok (.getfield 8, 3) := by decide +kernel
theorem dX8_comes_91 : decode cX8_comes 91 = .ok (.iconst 1, 1) := by decide +kernel
theorem dX8_comes_92 : decode cX8_comes 92 = .ok (.dup2, 1) := by decide +kernel
theorem dX8_comes_93 : decode cX8_comes 93 = .ok (.iaload, 1) := by decide +kernel
theorem dX8_comes_94 : decode cX8_comes 94 = .ok (.iconst 1, 1) := by decide +kernel
theorem dX8_comes_95 : decode cX8_comes 95 = .ok (.iadd, 1) := by decide +kernel
theorem dX8_comes_96 : decode cX8_comes 96 = .ok (.iastore, 1) := by decide +kernel
theorem dX8_comes_97 : decode cX8_comes 97 = .ok (.aload_n 0, 1) := by decide +kernel
theorem dX8_comes_98 : decode cX8_comes 98 = .ok (.getfield 8, 3) := by decide +kernel
theorem dX8_comes_101 : decode cX8_comes 101 = .ok (.iconst 2, 1) := by decide +kernel
theorem dX8_comes_102 : decode cX8_comes 102 = .ok (.iload 8, 2) := by decide +kernel
theorem dX8_comes_104 : decode cX8_comes 104 = .ok (.iload 4, 2) := by decide +kernel
theorem dX8_comes_106 : decode cX8_comes 106 = .ok (.iload_n 3, 1) := by decide +kernel
theorem dX8_comes_107 : decode cX8_comes 107 = .ok (.isub, 1) := by decide +kernel
theorem dX8_comes_108 : decode cX8_comes 108 = .ok (.iconst 1, 1) := by decide +kernel
theorem dX8_comes_109 : decode cX8_comes 109 = .ok (.iadd, 1) := by decide +kernel
theorem dX8_comes_110 : decode cX8_comes 110 = .ok (.imul, 1) := by decide +kernel
theorem dX8_comes_111 : decode cX8_comes 111 = .ok (.iastore, 1) := by decide +kernel
theorem dX8_comes_112 : decode cX8_comes 112 = .ok (.iconst 0, 1) := by decide +kernel
theorem dX8_comes_113 : decode cX8_comes 113 = .ok (.istore 9, 2) := by decide +kernel
theorem dX8_comes_115 : decode cX8_comes 115 = .ok (.iload 9, 2) := by decide +kernel
theorem dX8_comes_117 : decode cX8_comes 117 = .ok (.iconst 4, 1) := by decide +kernel
theorem dX8_comes_118 : decode cX8_comes 118 = .ok (.if_icmp .ge 69, 3) := by decide +kernel
theorem dX8_comes_121 : decode cX8_comes 121 = .ok (.iload 8, 2) := by decide +kernel
theorem dX8_comes_123 : decode cX8_comes 123 = .ok (.istore 10, 2) := by decide +kernel
theorem dX8_comes_125 : decode cX8_comes 125 = .ok (.iload 10, 2) := by decide +kernel
theorem dX8_comes_127 : decode cX8_comes 127 = .ok (.aload_n 0, 1) := by decide +kernel
theorem dX8_comes_128 : decode cX8_comes 128 = .ok (.getfield 8, 3) := by decide +kernel
theorem dX8_comes_131 : decode cX8_comes 131 = .ok (.iconst 2, 1) := by decide +kernel
theorem dX8_comes_132 : decode cX8_comes 132 = .ok (.iaload, 1) := by decide +kernel
theorem dX8_comes_133 : decode cX8_comes 133 = .ok (.if_icmp .ge 48, 3) := by decide +kernel
theorem dX8_comes_136 : decode cX8_comes 136 = .ok (.aload_n 0, 1) := by decide +kernel
theorem dX8_comes_137 : decode cX8_comes 137 = .ok (.getfield 8, 3) := by decide +kernel
theorem dX8_comes_140 : decode cX8_comes 140 = .ok (.sipush 1130, 3) := by decide +kernel
theorem dX8_comes_143 : decode cX8_comes 143 = .ok (.sipush 4096, 3) := by decide +kernel
theorem dX8_comes_146 : decode cX8_comes 146 = .ok (.iload 9, 2) := by decide +kernel
theorem dX8_comes_148 : decode cX8_comes 148 = .ok (.imul, 1) := by decide +kernel
theorem dX8_comes_149 : decode cX8_comes 149 = .ok (.iadd, 1) := by decide +kernel
theorem dX8_comes_150 : decode cX8_comes 150 = .ok (.iload 10, 2) := by decide +kernel
theorem dX8_comes_152 : decode cX8_comes 152 = .ok (.iadd, 1) := by decide +kernel
theorem dX8_comes_153 : decode cX8_comes 153 = .ok (.aload_n 0, 1) := by decide +kernel
theorem dX8_comes_154 : decode cX8_comes 154 = .ok (.getfield 8, 3) := by decide +kernel
theorem dX8_comes_157 : decode cX8_comes 157 = .ok (.sipush 1130, 3) := by decide +kernel
theorem dX8_comes_160 : decode cX8_comes 160 = .ok (.sipush 4096, 3) := by decide +kernel
theorem dX8_comes_163 : decode cX8_comes 163 = .ok (.iload 9, 2) := by decide +kernel
theorem dX8_comes_165 : decode cX8_comes 165 = .ok (.imul, 1) := by decide +kernel
theorem dX8_comes_166 : decode cX8_comes 166 = .ok (.iadd, 1) := by decide +kernel
theorem dX8_comes_167 : decode cX8_comes 167 = .ok (.iload 10, 2) := by decide +kernel
theorem dX8_comes_169 : decode cX8_comes 169 = .ok (.iadd, 1) := by decide +kernel
theorem dX8_comes_170 : decode cX8_comes 170 = .ok (.iload 8, 2) := by decide +kernel
theorem dX8_comes_172 : decode cX8_comes 172 = .ok (.isub, 1) := by decide +kernel
theorem dX8_comes_173 : decode cX8_comes 173 = .ok (.iaload, 1) := by decide +kernel
theorem dX8_comes_174 : decode cX8_comes 174 = .ok (.iastore, 1) := by decide +kernel
theorem dX8_comes_175 : decode cX8_comes 175 = .ok (.iinc 10 1, 3) := by decide +kernel
theorem dX8_comes_178 : decode cX8_comes 178 = .ok (.goto (-53), 3) := by decide +kernel
theorem dX8_comes_181 : decode cX8_comes 181 = .ok (.iinc 9 1, 3) := by decide +kernel
theorem dX8_comes_184 : decode cX8_comes 184 = .ok (.goto (-69), 3) := by decide +kernel
theorem dX8_comes_187 : decode cX8_comes 187 = .ok (.aload_n 0, 1) := by decide +kernel
theorem dX8_comes_188 : decode cX8_comes 188 = .ok (.getfield 8, 3) := by decide +kernel
theorem dX8_comes_191 : decode cX8_comes 191 = .ok (.bipush 10, 2) := by decide +kernel
theorem dX8_comes_193 : decode cX8_comes 193 = .ok (.iload_n 1, 1) := by decide +kernel
theorem dX8_comes_194 : decode cX8_comes 194 = .ok (.iadd, 1) := by decide +kernel
theorem dX8_comes_195 : decode cX8_comes 195 = .ok (.iload 6, 2) := by decide +kernel
theorem dX8_comes_197 : decode cX8_comes 197 = .ok (.iastore, 1) := by decide +kernel
theorem dX8_comes_198 : decode cX8_comes 198 = .ok (.iload 6, 2) := by decide +kernel
theorem dX8_comes_200 : decode cX8_comes 200 = .ok (.ireturn, 1) := by decide +kernel
theorem dX8_person_0 : decode cX8_person 0 = .ok (.aload_n 0, 1) := by decide +kernel
theorem dX8_person_1 : decode cX8_person 1 = .ok (.getfield 8, 3) := by decide +kernel
theorem dX8_person_4 : decode cX8_person 4 = .ok (.iconst 0, 1) := by decide +kernel
theorem dX8_person_5 : decode cX8_person 5 = .ok (.iaload, 1) := by decide +kernel
theorem dX8_person_6 : decode cX8_person 6 = .ok (.bipush 8, 2) := by decide +kernel
theorem dX8_person_8 : decode cX8_person 8 = .ok (.if_icmp .eq 55, 3) := by decide +kernel
theorem dX8_person_11 : decode cX8_person 11 = .ok (.iload_n 2, 1) := by decide +kernel
theorem dX8_person_12 : decode cX8_person 12 = .ok (.iconst 0, 1) := by decide +kernel
theorem dX8_person_13 : decode cX8_person 13 = .ok (.bipush 20, 2) := by decide +kernel
theorem dX8_person_15 : decode cX8_person 15 = .ok (.invokestatic 40, 3) := by decide +kernel
theorem dX8_person_18 : decode cX8_person 18 = .ok (.ifCond .eq 45, 3) := by decide +kernel
theorem dX8_person_21 : decode cX8_person 21 = .ok (.iload_n 3, 1) := by decide +kernel
theorem dX8_person_22 : decode cX8_person 22 = .ok (.iload_n 2, 1) := by decide +kernel
theorem dX8_person_23 : decode cX8_person 23 = .ok (.bipush 20, 2) := by decide +kernel
theorem dX8_person_25 : decode cX8_person 25 = .ok (.invokestatic 40, 3) := by decide +kernel
theorem dX8_person_28 : decode cX8_person 28 = .ok (.ifCond .eq 35, 3) := by decide +kernel
theorem dX8_person_31 : decode cX8_person 31 = .ok (.iload_n 1, 1) := by decide +kernel
theorem dX8_person_32 : decode cX8_person 32 = .ok (.iload_n 2, 1) := by decide +kernel
theorem dX8_person_33 : decode cX8_person 33 = .ok (.iload_n 3, 1) := by decide +kernel
theorem dX8_person_34 : decode cX8_person 34 = .ok (.invokestatic 40, 3) := by decide +kernel
theorem dX8_person_37 : decode cX8_person 37 = .ok (.ifCond .eq 26, 3) := by decide +kernel
theorem dX8_person_40 : decode cX8_person 40 = .ok (.iload 4, 2) := by decide +kernel
theorem dX8_person_42 : decode cX8_person 42 = .ok (.iconst 1, 1) := by decide +kernel
theorem dX8_person_43 : decode cX8_person 43 = .ok (.iload_n 3, 1) := by decide +kernel
theorem dX8_person_44 : decode cX8_person 44 = .ok (.iload_n 2, 1) := by decide +kernel
theorem dX8_person_45 : decode cX8_person 45 = .ok (.isub, 1) := by decide +kernel
theorem dX8_person_46 : decode cX8_person 46 = .ok (.iconst 1, 1) := by decide +kernel
theorem dX8_person_47 : decode cX8_person 47 = .ok (.iadd, 1) := by decide +kernel
theorem dX8_person_48 : decode cX8_person 48 = .ok (.invokestatic 40, 3) := by decide +kernel
theorem dX8_person_51 : decode cX8_person 51 = .ok (.ifCond .eq 12, 3) := by decide +kernel
theorem dX8_person_54 : decode cX8_person 54 = .ok (.aload_n 0, 1) := by decide +kernel
theorem dX8_person_55 : decode cX8_person 55 = .ok (.iload_n 2, 1) := by decide +kernel
theorem dX8_person_56 : decode cX8_person 56 = .ok (.iload_n 3, 1) := by decide +kernel
theorem dX8_person_57 : decode cX8_person 57 = .ok (.invokevirtual 52, 3) := by decide +kernel
theorem dX8_person_60 : decode cX8_person 60 = .ok (.ifCond .ne 5, 3) := by decide +kernel
theorem dX8_person_63 : decode cX8_person 63 = .ok (.iconst (-1), 1) := by decide +kernel
theorem dX8_person_64 : decode cX8_person 64 = .ok (.ireturn, 1) := by decide +kernel
theorem dX8_person_65 : decode cX8_person 65 = .ok (.aload_n 0, 1) := by decide +kernel
theorem dX8_person_66 : decode cX8_person 66 = .ok (.getfield 8, 3) := by decide +kernel
theorem dX8_person_69 : decode cX8_person 69 = .ok (.iconst 0, 1) := by decide +kernel
theorem dX8_person_70 : decode cX8_person 70 = .ok (.iaload, 1) := by decide +kernel
theorem dX8_person_71 : decode cX8_person 71 = .ok (.istore 5, 2) := by decide +kernel
theorem dX8_person_73 : decode cX8_person 73 = .ok (.aload_n 0, 1) := by decide +kernel
theorem dX8_person_74 : decode cX8_person 74 = .ok (.getfield 8, 3) := by decide +kernel
theorem dX8_person_77 : decode cX8_person 77 = .ok (.iconst 0, 1) := by decide +kernel
theorem dX8_person_78 : decode cX8_person 78 = .ok (.dup2, 1) := by decide +kernel
theorem dX8_person_79 : decode cX8_person 79 = .ok (.iaload, 1) := by decide +kernel
theorem dX8_person_80 : decode cX8_person 80 = .ok (.iconst 1, 1) := by decide +kernel
theorem dX8_person_81 : decode cX8_person 81 = .ok (.iadd, 1) := by decide +kernel
theorem dX8_person_82 : decode cX8_person 82 = .ok (.iastore, 1) := by decide +kernel
theorem dX8_person_83 : decode cX8_person 83 = .ok (.aload_n 0, 1) := by decide +kernel
theorem dX8_person_84 : decode cX8_person 84 = .ok (.iload 5, 2) := by decide +kernel
theorem dX8_person_86 : decode cX8_person 86 = .ok (.iload_n 1, 1) := by decide +kernel
theorem dX8_person_87 : decode cX8_person 87 = .ok (.iload_n 2, 1) := by decide +kernel
theorem dX8_person_88 : decode cX8_person 88 = .ok (.iload_n 3, 1) := by decide +kernel
theorem dX8_person_89 : decode cX8_person 89 = .ok (.iload 4, 2) := by decide +kernel
theorem dX8_person_91 : decode cX8_person 91 = .ok (.invokevirtual 56, 3) := by decide +kernel
theorem dX8_person_94 : decode cX8_person 94 = .ok (.istore 6, 2) := by decide +kernel
theorem dX8_person_96 : decode cX8_person 96 = .ok (.iload 5, 2) := by decide +kernel
theorem dX8_person_98 : decode cX8_person 98 = .ok (.ireturn, 1) := by decide +kernel
theorem dX8_change_0 : decode cX8_change 0 = .ok (.aload_n 0, 1) := by decide +kernel
theorem dX8_change_1 : decode cX8_change 1 = .ok (.iload_n 1, 1) := by decide +kernel
theorem dX8_change_2 : decode cX8_change 2 = .ok (.invokevirtual 60, 3) := by decide +kernel
theorem dX8_change_5 : decode cX8_change 5 = .ok (.ifCond .ne 5, 3) := by decide +kernel
theorem dX8_change_8 : decode cX8_change 8 = .ok (.iconst (-1), 1) := by decide +kernel
theorem dX8_change_9 : decode cX8_change 9 = .ok (.ireturn, 1) := by decide +kernel
theorem dX8_change_10 : decode cX8_change 10 = .ok (.aload_n 0, 1) := by decide +kernel
theorem dX8_change_11 : decode cX8_change 11 = .ok (.getfield 8, 3) := by decide +kernel
theorem dX8_change_14 : decode cX8_change 14 = .ok (.bipush 10, 2) := by decide +kernel
theorem dX8_change_16 : decode cX8_change 16 = .ok (.iload_n 1, 1) := by decide +kernel
theorem dX8_change_17 : decode cX8_change 17 = .ok (.iadd, 1) := by decide +kernel
theorem dX8_change_18 : decode cX8_change 18 = .ok (.iaload, 1) := by decide +kernel
theorem dX8_change_19 : decode cX8_change 19 = .ok (.istore_n 3, 1) := by decide +kernel
theorem dX8_change_20 : decode cX8_change 20 = .ok (.iload_n 2, 1) := by decide +kernel
theorem dX8_change_21 : decode cX8_change 21 = .ok (.aload_n 0, 1) := by decide +kernel
theorem dX8_change_22 : decode cX8_change 22 = .ok (.iload_n 3, 1) := by decide +kernel
theorem dX8_change_23 : decode cX8_change 23 = .ok (.iconst 1, 1) := by decide +kernel
theorem dX8_change_24 : decode cX8_change 24 = .ok (.invokevirtual 44, 3) := by decide +kernel
theorem dX8_change_27 : decode cX8_change 27 = .ok (.aload_n 0, 1) := by decide +kernel
theorem dX8_change_28 : decode cX8_change 28 = .ok (.iload_n 3, 1) := by decide +kernel
theorem dX8_change_29 : decode cX8_change 29 = .ok (.iconst 2, 1) := by decide +kernel
theorem dX8_change_30 : decode cX8_change 30 = .ok (.invokevirtual 44, 3) := by decide +kernel
theorem dX8_change_33 : decode cX8_change 33 = .ok (.invokestatic 40, 3) := by decide +kernel
theorem dX8_change_36 : decode cX8_change 36 = .ok (.ifCond .eq 22, 3) := by decide +kernel
theorem dX8_change_39 : decode cX8_change 39 = .ok (.aload_n 0, 1) := by decide +kernel
theorem dX8_change_40 : decode cX8_change 40 = .ok (.aload_n 0, 1) := by decide +kernel
theorem dX8_change_41 : decode cX8_change 41 = .ok (.iload_n 3, 1) := by decide +kernel
theorem dX8_change_42 : decode cX8_change 42 = .ok (.iconst 1, 1) := by decide +kernel
theorem dX8_change_43 : decode cX8_change 43 = .ok (.invokevirtual 44, 3) := by decide +kernel
theorem dX8_change_46 : decode cX8_change 46 = .ok (.aload_n 0, 1) := by decide +kernel
theorem dX8_change_47 : decode cX8_change 47 = .ok (.iload_n 3, 1) := by decide +kernel
theorem dX8_change_48 : decode cX8_change 48 = .ok (.iconst 2, 1) := by decide +kernel
theorem dX8_change_49 : decode cX8_change 49 = .ok (.invokevirtual 44, 3) := by decide +kernel
theorem dX8_change_52 : decode cX8_change 52 = .ok (.invokevirtual 52, 3) := by decide +kernel
theorem dX8_change_55 : decode cX8_change 55 = .ok (.ifCond .ne 7, 3) := by decide +kernel
theorem dX8_change_58 : decode cX8_change 58 = .ok (.iconst (-1), 1) := by decide +kernel
theorem dX8_change_59 : decode cX8_change 59 = .ok (.goto 27, 3) := by decide +kernel
theorem dX8_change_62 : decode cX8_change 62 = .ok (.aload_n 0, 1) := by decide +kernel
theorem dX8_change_63 : decode cX8_change 63 = .ok (.iload_n 1, 1) := by decide +kernel
theorem dX8_change_64 : decode cX8_change 64 = .ok (.iload_n 2, 1) := by decide +kernel
theorem dX8_change_65 : decode cX8_change 65 = .ok (.aload_n 0, 1) := by decide +kernel
theorem dX8_change_66 : decode cX8_change 66 = .ok (.iload_n 3, 1) := by decide +kernel
theorem dX8_change_67 : decode cX8_change 67 = .ok (.iconst 1, 1) := by decide +kernel
theorem dX8_change_68 : decode cX8_change 68 = .ok (.invokevirtual 44, 3) := by decide +kernel
theorem dX8_change_71 : decode cX8_change 71 = .ok (.aload_n 0, 1) := by decide +kernel
theorem dX8_change_72 : decode cX8_change 72 = .ok (.iload_n 3, 1) := by decide +kernel
theorem dX8_change_73 : decode cX8_change 73 = .ok (.iconst 2, 1) := by decide +kernel
theorem dX8_change_74 : decode cX8_change 74 = .ok (.invokevirtual 44, 3) := by decide +kernel
theorem dX8_change_77 : decode cX8_change 77 = .ok (.aload_n 0, 1) := by decide +kernel
theorem dX8_change_78 : decode cX8_change 78 = .ok (.iload_n 3, 1) := by decide +kernel
theorem dX8_change_79 : decode cX8_change 79 = .ok (.iconst 3, 1) := by decide +kernel
theorem dX8_change_80 : decode cX8_change 80 = .ok (.invokevirtual 44, 3) := by decide +kernel
theorem dX8_change_83 : decode cX8_change 83 = .ok (.invokevirtual 56, 3) := by decide +kernel
theorem dX8_change_86 : decode cX8_change 86 = .ok (.ireturn, 1) := by decide +kernel
theorem dX8_numbersOf_0 : decode cX8_numbersOf 0 = .ok (.iconst 0, 1) := by decide +kernel
theorem dX8_numbersOf_1 : decode cX8_numbersOf 1 = .ok (.istore_n 2, 1) := by decide +kernel
theorem dX8_numbersOf_2 : decode cX8_numbersOf 2 = .ok (.iconst 0, 1) := by decide +kernel
theorem dX8_numbersOf_3 : decode cX8_numbersOf 3 = .ok (.istore_n 3, 1) := by decide +kernel
theorem dX8_numbersOf_4 : decode cX8_numbersOf 4 = .ok (.iload_n 3, 1) := by decide +kernel
theorem dX8_numbersOf_5 : decode cX8_numbersOf 5 = .ok (.aload_n 0, 1) := by decide +kernel
theorem dX8_numbersOf_6 : decode cX8_numbersOf 6 = .ok (.getfield 8, 3) := by decide +kernel
theorem dX8_numbersOf_9 : decode cX8_numbersOf 9 = .ok (.iconst 0, 1) := by decide +kernel
theorem dX8_numbersOf_10 : decode cX8_numbersOf 10 = .ok (.iaload, 1) := by decide +kernel
theorem dX8_numbersOf_11 : decode cX8_numbersOf 11 = .ok (.if_icmp .ge 32, 3) := by decide +kernel
theorem dX8_numbersOf_14 : decode cX8_numbersOf 14 = .ok (.iload_n 1, 1) := by decide +kernel
theorem dX8_numbersOf_15 : decode cX8_numbersOf 15 = .ok (.iload_n 3, 1) := by decide +kernel
theorem dX8_numbersOf_16 : decode cX8_numbersOf 16 = .ok (.ishr, 1) := by decide +kernel
theorem dX8_numbersOf_17 : decode cX8_numbersOf 17 = .ok (.iconst 1, 1) := by decide +kernel
theorem dX8_numbersOf_18 : decode cX8_numbersOf 18 = .ok (.iand, 1) := by decide +kernel
theorem dX8_numbersOf_19 : decode cX8_numbersOf 19 = .ok (.iconst 1, 1) := by decide +kernel
theorem dX8_numbersOf_20 : decode cX8_numbersOf 20 = .ok (.if_icmp .ne 17, 3) := by decide +kernel
theorem dX8_numbersOf_23 : decode cX8_numbersOf 23 = .ok (.iload_n 2, 1) := by decide +kernel
theorem dX8_numbersOf_24 : decode cX8_numbersOf 24 = .ok (.iconst 1, 1) := by decide +kernel
theorem dX8_numbersOf_25 : decode cX8_numbersOf 25 = .ok (.aload_n 0, 1) := by decide +kernel
theorem dX8_numbersOf_26 : decode cX8_numbersOf 26 = .ok (.getfield 8, 3) := by decide +kernel
theorem dX8_numbersOf_29 : decode cX8_numbersOf 29 = .ok (.bipush 10, 2) := by decide +kernel
theorem dX8_numbersOf_31 : decode cX8_numbersOf 31 = .ok (.iload_n 3, 1) := by decide +kernel
theorem dX8_numbersOf_32 : decode cX8_numbersOf 32 = .ok (.iadd, 1) := by decide +kernel
theorem dX8_numbersOf_33 : decode cX8_numbersOf 33 = .ok (.iaload, 1) := by decide +kernel
theorem dX8_numbersOf_34 : decode cX8_numbersOf 34 = .ok (.ishl, 1) := by decide +kernel
theorem dX8_numbersOf_35 : decode cX8_numbersOf 35 = .ok (.ior, 1) := by decide +kernel
theorem dX8_numbersOf_36 : decode cX8_numbersOf 36 = .ok (.istore_n 2, 1) := by decide +kernel
theorem dX8_numbersOf_37 : decode cX8_numbersOf 37 = .ok (.iinc 3 1, 3) := by decide +kernel
theorem dX8_numbersOf_40 : decode cX8_numbersOf 40 = .ok (.goto (-36), 3) := by decide +kernel
theorem dX8_numbersOf_43 : decode cX8_numbersOf 43 = .ok (.iload_n 2, 1) := by decide +kernel
theorem dX8_numbersOf_44 : decode cX8_numbersOf 44 = .ok (.ireturn, 1) := by decide +kernel
theorem dX8_begins_0 : decode cX8_begins 0 = .ok (.aload_n 0, 1) := by decide +kernel
theorem dX8_begins_1 : decode cX8_begins 1 = .ok (.iconst 0, 1) := by decide +kernel
theorem dX8_begins_2 : decode cX8_begins 2 = .ok (.putfield 64, 3) := by decide +kernel
theorem dX8_begins_5 : decode cX8_begins 5 = .ok (.aload_n 0, 1) := by decide +kernel
theorem dX8_begins_6 : decode cX8_begins 6 = .ok (.iconst 0, 1) := by decide +kernel
theorem dX8_begins_7 : decode cX8_begins 7 = .ok (.putfield 68, 3) := by decide +kernel
theorem dX8_begins_10 : decode cX8_begins 10 = .ok (.aload_n 0, 1) := by decide +kernel
theorem dX8_begins_11 : decode cX8_begins 11 = .ok (.iconst (-1), 1) := by decide +kernel
theorem dX8_begins_12 : decode cX8_begins 12 = .ok (.putfield 71, 3) := by decide +kernel
theorem dX8_begins_15 : decode cX8_begins 15 = .ok (.aload_n 0, 1) := by decide +kernel
theorem dX8_begins_16 : decode cX8_begins 16 = .ok (.iconst (-1), 1) := by decide +kernel
theorem dX8_begins_17 : decode cX8_begins 17 = .ok (.putfield 74, 3) := by decide +kernel
theorem dX8_begins_20 : decode cX8_begins 20 = .ok (.return_, 1) := by decide +kernel
theorem dX8_takes_0 : decode cX8_takes 0 = .ok (.aload_n 0, 1) := by decide +kernel
theorem dX8_takes_1 : decode cX8_takes 1 = .ok (.dup, 1) := by decide +kernel
theorem dX8_takes_2 : decode cX8_takes 2 = .ok (.getfield 64, 3) := by decide +kernel
theorem dX8_takes_5 : decode cX8_takes 5 = .ok (.iload_n 1, 1) := by decide +kernel
theorem dX8_takes_6 : decode cX8_takes 6 = .ok (.iadd, 1) := by decide +kernel
theorem dX8_takes_7 : decode cX8_takes 7 = .ok (.putfield 64, 3) := by decide +kernel
theorem dX8_takes_10 : decode cX8_takes 10 = .ok (.aload_n 0, 1) := by decide +kernel
theorem dX8_takes_11 : decode cX8_takes 11 = .ok (.dup, 1) := by decide +kernel
theorem dX8_takes_12 : decode cX8_takes 12 = .ok (.getfield 68, 3) := by decide +kernel
theorem dX8_takes_15 : decode cX8_takes 15 = .ok (.iload_n 1, 1) := by decide +kernel
theorem dX8_takes_16 : decode cX8_takes 16 = .ok (.iload_n 2, 1) := by decide +kernel
theorem dX8_takes_17 : decode cX8_takes 17 = .ok (.if_icmp .lt 7, 3) := by decide +kernel
theorem dX8_takes_20 : decode cX8_takes 20 = .ok (.iconst 1, 1) := by decide +kernel
theorem dX8_takes_21 : decode cX8_takes 21 = .ok (.goto 4, 3) := by decide +kernel
theorem dX8_takes_24 : decode cX8_takes 24 = .ok (.iconst 0, 1) := by decide +kernel
theorem dX8_takes_25 : decode cX8_takes 25 = .ok (.iadd, 1) := by decide +kernel
theorem dX8_takes_26 : decode cX8_takes 26 = .ok (.putfield 68, 3) := by decide +kernel
theorem dX8_takes_29 : decode cX8_takes 29 = .ok (.aload_n 0, 1) := by decide +kernel
theorem dX8_takes_30 : decode cX8_takes 30 = .ok (.iload_n 1, 1) := by decide +kernel
theorem dX8_takes_31 : decode cX8_takes 31 = .ok (.aload_n 0, 1) := by decide +kernel
theorem dX8_takes_32 : decode cX8_takes 32 = .ok (.getfield 71, 3) := by decide +kernel
theorem dX8_takes_35 : decode cX8_takes 35 = .ok (.if_icmp .le 7, 3) := by decide +kernel
theorem dX8_takes_38 : decode cX8_takes 38 = .ok (.iload_n 1, 1) := by decide +kernel
theorem dX8_takes_39 : decode cX8_takes 39 = .ok (.goto 7, 3) := by decide +kernel
theorem dX8_takes_42 : decode cX8_takes 42 = .ok (.aload_n 0, 1) := by decide +kernel
theorem dX8_takes_43 : decode cX8_takes 43 = .ok (.getfield 71, 3) := by decide +kernel
theorem dX8_takes_46 : decode cX8_takes 46 = .ok (.putfield 71, 3) := by decide +kernel
theorem dX8_takes_49 : decode cX8_takes 49 = .ok (.aload_n 0, 1) := by decide +kernel
theorem dX8_takes_50 : decode cX8_takes 50 = .ok (.aload_n 0, 1) := by decide +kernel
theorem dX8_takes_51 : decode cX8_takes 51 = .ok (.getfield 74, 3) := by decide +kernel
theorem dX8_takes_54 : decode cX8_takes 54 = .ok (.ifCond .lt 11, 3) := by decide +kernel
theorem dX8_takes_57 : decode cX8_takes 57 = .ok (.iload_n 1, 1) := by decide +kernel
theorem dX8_takes_58 : decode cX8_takes 58 = .ok (.aload_n 0, 1) := by decide +kernel
theorem dX8_takes_59 : decode cX8_takes 59 = .ok (.getfield 74, 3) := by decide +kernel
theorem dX8_takes_62 : decode cX8_takes 62 = .ok (.if_icmp .ge 7, 3) := by decide +kernel
theorem dX8_takes_65 : decode cX8_takes 65 = .ok (.iload_n 1, 1) := by decide +kernel
theorem dX8_takes_66 : decode cX8_takes 66 = .ok (.goto 7, 3) := by decide +kernel
theorem dX8_takes_69 : decode cX8_takes 69 = .ok (.aload_n 0, 1) := by decide +kernel
theorem dX8_takes_70 : decode cX8_takes 70 = .ok (.getfield 74, 3) := by decide +kernel
theorem dX8_takes_73 : decode cX8_takes 73 = .ok (.putfield 74, 3) := by decide +kernel
theorem dX8_takes_76 : decode cX8_takes 76 = .ok (.return_, 1) := by decide +kernel
theorem dX8_answer_0 : decode cX8_answer 0 = .ok (.iload_n 1, 1) := by decide +kernel
theorem dX8_answer_1 : decode cX8_answer 1 = .ok (.tableswitch 57 0 2 #[27, 36, 41], 27) := by decide +kernel
theorem dX8_answer_28 : decode cX8_answer 28 = .ok (.aload_n 0, 1) := by decide +kernel
theorem dX8_answer_29 : decode cX8_answer 29 = .ok (.getfield 64, 3) := by decide +kernel
theorem dX8_answer_32 : decode cX8_answer 32 = .ok (.iload_n 2, 1) := by decide +kernel
theorem dX8_answer_33 : decode cX8_answer 33 = .ok (.idiv, 1) := by decide +kernel
theorem dX8_answer_34 : decode cX8_answer 34 = .ok (.iload_n 2, 1) := by decide +kernel
theorem dX8_answer_35 : decode cX8_answer 35 = .ok (.imul, 1) := by decide +kernel
theorem dX8_answer_36 : decode cX8_answer 36 = .ok (.ireturn, 1) := by decide +kernel
theorem dX8_answer_37 : decode cX8_answer 37 = .ok (.aload_n 0, 1) := by decide +kernel
theorem dX8_answer_38 : decode cX8_answer 38 = .ok (.getfield 68, 3) := by decide +kernel
theorem dX8_answer_41 : decode cX8_answer 41 = .ok (.ireturn, 1) := by decide +kernel
theorem dX8_answer_42 : decode cX8_answer 42 = .ok (.aload_n 0, 1) := by decide +kernel
theorem dX8_answer_43 : decode cX8_answer 43 = .ok (.getfield 71, 3) := by decide +kernel
theorem dX8_answer_46 : decode cX8_answer 46 = .ok (.ifCond .ge 7, 3) := by decide +kernel
theorem dX8_answer_49 : decode cX8_answer 49 = .ok (.iconst 0, 1) := by decide +kernel
theorem dX8_answer_50 : decode cX8_answer 50 = .ok (.goto 7, 3) := by decide +kernel
theorem dX8_answer_53 : decode cX8_answer 53 = .ok (.aload_n 0, 1) := by decide +kernel
theorem dX8_answer_54 : decode cX8_answer 54 = .ok (.getfield 71, 3) := by decide +kernel
theorem dX8_answer_57 : decode cX8_answer 57 = .ok (.ireturn, 1) := by decide +kernel
theorem dX8_answer_58 : decode cX8_answer 58 = .ok (.aload_n 0, 1) := by decide +kernel
theorem dX8_answer_59 : decode cX8_answer 59 = .ok (.getfield 74, 3) := by decide +kernel
theorem dX8_answer_62 : decode cX8_answer 62 = .ok (.ifCond .ge 7, 3) := by decide +kernel
theorem dX8_answer_65 : decode cX8_answer 65 = .ok (.iconst 0, 1) := by decide +kernel
theorem dX8_answer_66 : decode cX8_answer 66 = .ok (.goto 7, 3) := by decide +kernel
theorem dX8_answer_69 : decode cX8_answer 69 = .ok (.aload_n 0, 1) := by decide +kernel
theorem dX8_answer_70 : decode cX8_answer 70 = .ok (.getfield 74, 3) := by decide +kernel
theorem dX8_answer_73 : decode cX8_answer 73 = .ok (.ireturn, 1) := by decide +kernel
theorem dX8_answerIn_0 : decode cX8_answerIn 0 = .ok (.aload_n 0, 1) := by decide +kernel
theorem dX8_answerIn_1 : decode cX8_answerIn 1 = .ok (.invokevirtual 77, 3) := by decide +kernel
theorem dX8_answerIn_4 : decode cX8_answerIn 4 = .ok (.iconst 0, 1) := by decide +kernel
theorem dX8_answerIn_5 : decode cX8_answerIn 5 = .ok (.istore 5, 2) := by decide +kernel
theorem dX8_answerIn_7 : decode cX8_answerIn 7 = .ok (.iload 5, 2) := by decide +kernel
theorem dX8_answerIn_9 : decode cX8_answerIn 9 = .ok (.aload_n 0, 1) := by decide +kernel
theorem dX8_answerIn_10 : decode cX8_answerIn 10 = .ok (.getfield 8, 3) := by decide +kernel
theorem dX8_answerIn_13 : decode cX8_answerIn 13 = .ok (.iconst 1, 1) := by decide +kernel
theorem dX8_answerIn_14 : decode cX8_answerIn 14 = .ok (.iaload, 1) := by decide +kernel
theorem dX8_answerIn_15 : decode cX8_answerIn 15 = .ok (.if_icmp .ge 32, 3) := by decide +kernel
theorem dX8_answerIn_18 : decode cX8_answerIn 18 = .ok (.iload_n 3, 1) := by decide +kernel
theorem dX8_answerIn_19 : decode cX8_answerIn 19 = .ok (.iload 5, 2) := by decide +kernel
theorem dX8_answerIn_21 : decode cX8_answerIn 21 = .ok (.ishr, 1) := by decide +kernel
theorem dX8_answerIn_22 : decode cX8_answerIn 22 = .ok (.iconst 1, 1) := by decide +kernel
theorem dX8_answerIn_23 : decode cX8_answerIn 23 = .ok (.iand, 1) := by decide +kernel
theorem dX8_answerIn_24 : decode cX8_answerIn 24 = .ok (.iconst 1, 1) := by decide +kernel
theorem dX8_answerIn_25 : decode cX8_answerIn 25 = .ok (.if_icmp .ne 16, 3) := by decide +kernel
theorem dX8_answerIn_28 : decode cX8_answerIn 28 = .ok (.aload_n 0, 1) := by decide +kernel
theorem dX8_answerIn_29 : decode cX8_answerIn 29 = .ok (.aload_n 0, 1) := by decide +kernel
theorem dX8_answerIn_30 : decode cX8_answerIn 30 = .ok (.iload_n 1, 1) := by decide +kernel
theorem dX8_answerIn_31 : decode cX8_answerIn 31 = .ok (.iload 5, 2) := by decide +kernel
theorem dX8_answerIn_33 : decode cX8_answerIn 33 = .ok (.invokevirtual 80, 3) := by decide +kernel
theorem dX8_answerIn_36 : decode cX8_answerIn 36 = .ok (.iload 4, 2) := by decide +kernel
theorem dX8_answerIn_38 : decode cX8_answerIn 38 = .ok (.invokevirtual 83, 3) := by decide +kernel
theorem dX8_answerIn_41 : decode cX8_answerIn 41 = .ok (.iinc 5 1, 3) := by decide +kernel
theorem dX8_answerIn_44 : decode cX8_answerIn 44 = .ok (.goto (-37), 3) := by decide +kernel
theorem dX8_answerIn_47 : decode cX8_answerIn 47 = .ok (.aload_n 0, 1) := by decide +kernel
theorem dX8_answerIn_48 : decode cX8_answerIn 48 = .ok (.iload_n 2, 1) := by decide +kernel
theorem dX8_answerIn_49 : decode cX8_answerIn 49 = .ok (.iload 4, 2) := by decide +kernel
theorem dX8_answerIn_51 : decode cX8_answerIn 51 = .ok (.invokevirtual 87, 3) := by decide +kernel
theorem dX8_answerIn_54 : decode cX8_answerIn 54 = .ok (.ireturn, 1) := by decide +kernel
theorem dX8_hiddenAnswer_0 : decode cX8_hiddenAnswer 0 = .ok (.aload_n 0, 1) := by decide +kernel
theorem dX8_hiddenAnswer_1 : decode cX8_hiddenAnswer 1 = .ok (.invokevirtual 77, 3) := by decide +kernel
theorem dX8_hiddenAnswer_4 : decode cX8_hiddenAnswer 4 = .ok (.iconst 0, 1) := by decide +kernel
theorem dX8_hiddenAnswer_5 : decode cX8_hiddenAnswer 5 = .ok (.istore 4, 2) := by decide +kernel
theorem dX8_hiddenAnswer_7 : decode cX8_hiddenAnswer 7 = .ok (.iload 4, 2) := by decide +kernel
theorem dX8_hiddenAnswer_9 : decode cX8_hiddenAnswer 9 = .ok (.aload_n 0, 1) := by decide +kernel
theorem dX8_hiddenAnswer_10 : decode cX8_hiddenAnswer 10 = .ok (.getfield 8, 3) := by decide +kernel
theorem dX8_hiddenAnswer_13 : decode cX8_hiddenAnswer 13 = .ok (.iconst 1, 1) := by decide +kernel
theorem dX8_hiddenAnswer_14 : decode cX8_hiddenAnswer 14 = .ok (.iaload, 1) := by decide +kernel
theorem dX8_hiddenAnswer_15 : decode cX8_hiddenAnswer 15 = .ok (.if_icmp .ge 31, 3) := by decide +kernel
theorem dX8_hiddenAnswer_18 : decode cX8_hiddenAnswer 18 = .ok (.iload_n 2, 1) := by decide +kernel
theorem dX8_hiddenAnswer_19 : decode cX8_hiddenAnswer 19 = .ok (.iload 4, 2) := by decide +kernel
theorem dX8_hiddenAnswer_21 : decode cX8_hiddenAnswer 21 = .ok (.ishr, 1) := by decide +kernel
theorem dX8_hiddenAnswer_22 : decode cX8_hiddenAnswer 22 = .ok (.iconst 1, 1) := by decide +kernel
theorem dX8_hiddenAnswer_23 : decode cX8_hiddenAnswer 23 = .ok (.iand, 1) := by decide +kernel
theorem dX8_hiddenAnswer_24 : decode cX8_hiddenAnswer 24 = .ok (.iconst 1, 1) := by decide +kernel
theorem dX8_hiddenAnswer_25 : decode cX8_hiddenAnswer 25 = .ok (.if_icmp .ne 15, 3) := by decide +kernel
theorem dX8_hiddenAnswer_28 : decode cX8_hiddenAnswer 28 = .ok (.aload_n 0, 1) := by decide +kernel
theorem dX8_hiddenAnswer_29 : decode cX8_hiddenAnswer 29 = .ok (.aload_n 0, 1) := by decide +kernel
theorem dX8_hiddenAnswer_30 : decode cX8_hiddenAnswer 30 = .ok (.iload 4, 2) := by decide +kernel
theorem dX8_hiddenAnswer_32 : decode cX8_hiddenAnswer 32 = .ok (.iconst 4, 1) := by decide +kernel
theorem dX8_hiddenAnswer_33 : decode cX8_hiddenAnswer 33 = .ok (.invokevirtual 44, 3) := by decide +kernel
theorem dX8_hiddenAnswer_36 : decode cX8_hiddenAnswer 36 = .ok (.iload_n 3, 1) := by decide +kernel
theorem dX8_hiddenAnswer_37 : decode cX8_hiddenAnswer 37 = .ok (.invokevirtual 83, 3) := by decide +kernel
theorem dX8_hiddenAnswer_40 : decode cX8_hiddenAnswer 40 = .ok (.iinc 4 1, 3) := by decide +kernel
theorem dX8_hiddenAnswer_43 : decode cX8_hiddenAnswer 43 = .ok (.goto (-36), 3) := by decide +kernel
theorem dX8_hiddenAnswer_46 : decode cX8_hiddenAnswer 46 = .ok (.aload_n 0, 1) := by decide +kernel
theorem dX8_hiddenAnswer_47 : decode cX8_hiddenAnswer 47 = .ok (.iload_n 1, 1) := by decide +kernel
theorem dX8_hiddenAnswer_48 : decode cX8_hiddenAnswer 48 = .ok (.iload_n 3, 1) := by decide +kernel
theorem dX8_hiddenAnswer_49 : decode cX8_hiddenAnswer 49 = .ok (.invokevirtual 87, 3) := by decide +kernel
theorem dX8_hiddenAnswer_52 : decode cX8_hiddenAnswer 52 = .ok (.ireturn, 1) := by decide +kernel
theorem dX8_isAsk_0 : decode cX8_isAsk 0 = .ok (.iload_n 0, 1) := by decide +kernel
theorem dX8_isAsk_1 : decode cX8_isAsk 1 = .ok (.ifCond .ne 13, 3) := by decide +kernel
theorem dX8_isAsk_4 : decode cX8_isAsk 4 = .ok (.iload_n 1, 1) := by decide +kernel
theorem dX8_isAsk_5 : decode cX8_isAsk 5 = .ok (.iconst 1, 1) := by decide +kernel
theorem dX8_isAsk_6 : decode cX8_isAsk 6 = .ok (.bipush 20, 2) := by decide +kernel
theorem dX8_isAsk_8 : decode cX8_isAsk 8 = .ok (.invokestatic 40, 3) := by decide +kernel
theorem dX8_isAsk_11 : decode cX8_isAsk 11 = .ok (.goto 33, 3) := by decide +kernel
theorem dX8_isAsk_14 : decode cX8_isAsk 14 = .ok (.iload_n 0, 1) := by decide +kernel
theorem dX8_isAsk_15 : decode cX8_isAsk 15 = .ok (.iconst 1, 1) := by decide +kernel
theorem dX8_isAsk_16 : decode cX8_isAsk 16 = .ok (.if_icmp .ne 13, 3) := by decide +kernel
theorem dX8_isAsk_19 : decode cX8_isAsk 19 = .ok (.iload_n 1, 1) := by decide +kernel
theorem dX8_isAsk_20 : decode cX8_isAsk 20 = .ok (.iconst 0, 1) := by decide +kernel
theorem dX8_isAsk_21 : decode cX8_isAsk 21 = .ok (.bipush 20, 2) := by decide +kernel
theorem dX8_isAsk_23 : decode cX8_isAsk 23 = .ok (.invokestatic 40, 3) := by decide +kernel
theorem dX8_isAsk_26 : decode cX8_isAsk 26 = .ok (.goto 18, 3) := by decide +kernel
theorem dX8_isAsk_29 : decode cX8_isAsk 29 = .ok (.iload_n 0, 1) := by decide +kernel
theorem dX8_isAsk_30 : decode cX8_isAsk 30 = .ok (.iconst 2, 1) := by decide +kernel
theorem dX8_isAsk_31 : decode cX8_isAsk 31 = .ok (.if_icmp .eq 8, 3) := by decide +kernel
theorem dX8_isAsk_34 : decode cX8_isAsk 34 = .ok (.iload_n 0, 1) := by decide +kernel
theorem dX8_isAsk_35 : decode cX8_isAsk 35 = .ok (.iconst 3, 1) := by decide +kernel
theorem dX8_isAsk_36 : decode cX8_isAsk 36 = .ok (.if_icmp .ne 7, 3) := by decide +kernel
theorem dX8_isAsk_39 : decode cX8_isAsk 39 = .ok (.iconst 1, 1) := by decide +kernel
theorem dX8_isAsk_40 : decode cX8_isAsk 40 = .ok (.goto 4, 3) := by decide +kernel
theorem dX8_isAsk_43 : decode cX8_isAsk 43 = .ok (.iconst 0, 1) := by decide +kernel
theorem dX8_isAsk_44 : decode cX8_isAsk 44 = .ok (.ireturn, 1) := by decide +kernel
theorem dX8_isLeft_0 : decode cX8_isLeft 0 = .ok (.aload_n 0, 1) := by decide +kernel
theorem dX8_isLeft_1 : decode cX8_isLeft 1 = .ok (.getfield 8, 3) := by decide +kernel
theorem dX8_isLeft_4 : decode cX8_isLeft 4 = .ok (.sipush 1130, 3) := by decide +kernel
theorem dX8_isLeft_7 : decode cX8_isLeft 7 = .ok (.sipush 4096, 3) := by decide +kernel
theorem dX8_isLeft_10 : decode cX8_isLeft 10 = .ok (.iload_n 1, 1) := by decide +kernel
theorem dX8_isLeft_11 : decode cX8_isLeft 11 = .ok (.imul, 1) := by decide +kernel
theorem dX8_isLeft_12 : decode cX8_isLeft 12 = .ok (.iadd, 1) := by decide +kernel
theorem dX8_isLeft_13 : decode cX8_isLeft 13 = .ok (.iload_n 2, 1) := by decide +kernel
theorem dX8_isLeft_14 : decode cX8_isLeft 14 = .ok (.iadd, 1) := by decide +kernel
theorem dX8_isLeft_15 : decode cX8_isLeft 15 = .ok (.iaload, 1) := by decide +kernel
theorem dX8_isLeft_16 : decode cX8_isLeft 16 = .ok (.iconst 1, 1) := by decide +kernel
theorem dX8_isLeft_17 : decode cX8_isLeft 17 = .ok (.if_icmp .ne 7, 3) := by decide +kernel
theorem dX8_isLeft_20 : decode cX8_isLeft 20 = .ok (.iconst 1, 1) := by decide +kernel
theorem dX8_isLeft_21 : decode cX8_isLeft 21 = .ok (.goto 4, 3) := by decide +kernel
theorem dX8_isLeft_24 : decode cX8_isLeft 24 = .ok (.iconst 0, 1) := by decide +kernel
theorem dX8_isLeft_25 : decode cX8_isLeft 25 = .ok (.ireturn, 1) := by decide +kernel
theorem dX8_meets_0 : decode cX8_meets 0 = .ok (.iconst 0, 1) := by decide +kernel
theorem dX8_meets_1 : decode cX8_meets 1 = .ok (.istore_n 3, 1) := by decide +kernel
theorem dX8_meets_2 : decode cX8_meets 2 = .ok (.iload_n 3, 1) := by decide +kernel
theorem dX8_meets_3 : decode cX8_meets 3 = .ok (.aload_n 0, 1) := by decide +kernel
theorem dX8_meets_4 : decode cX8_meets 4 = .ok (.getfield 8, 3) := by decide +kernel
theorem dX8_meets_7 : decode cX8_meets 7 = .ok (.iconst 1, 1) := by decide +kernel
theorem dX8_meets_8 : decode cX8_meets 8 = .ok (.iaload, 1) := by decide +kernel
theorem dX8_meets_9 : decode cX8_meets 9 = .ok (.if_icmp .ge 105, 3) := by decide +kernel
theorem dX8_meets_12 : decode cX8_meets 12 = .ok (.aload_n 0, 1) := by decide +kernel
theorem dX8_meets_13 : decode cX8_meets 13 = .ok (.iload_n 2, 1) := by decide +kernel
theorem dX8_meets_14 : decode cX8_meets 14 = .ok (.iload_n 3, 1) := by decide +kernel
theorem dX8_meets_15 : decode cX8_meets 15 = .ok (.invokevirtual 80, 3) := by decide +kernel
theorem dX8_meets_18 : decode cX8_meets 18 = .ok (.istore 4, 2) := by decide +kernel
theorem dX8_meets_20 : decode cX8_meets 20 = .ok (.bipush 10, 2) := by decide +kernel
theorem dX8_meets_22 : decode cX8_meets 22 = .ok (.iload_n 1, 1) := by decide +kernel
theorem dX8_meets_23 : decode cX8_meets 23 = .ok (.imul, 1) := by decide +kernel
theorem dX8_meets_24 : decode cX8_meets 24 = .ok (.iload_n 3, 1) := by decide +kernel
theorem dX8_meets_25 : decode cX8_meets 25 = .ok (.iadd, 1) := by decide +kernel
theorem dX8_meets_26 : decode cX8_meets 26 = .ok (.istore 5, 2) := by decide +kernel
theorem dX8_meets_28 : decode cX8_meets 28 = .ok (.aload_n 0, 1) := by decide +kernel
theorem dX8_meets_29 : decode cX8_meets 29 = .ok (.getfield 18, 3) := by decide +kernel
theorem dX8_meets_32 : decode cX8_meets 32 = .ok (.iload 5, 2) := by decide +kernel
theorem dX8_meets_34 : decode cX8_meets 34 = .ok (.aload_n 0, 1) := by decide +kernel
theorem dX8_meets_35 : decode cX8_meets 35 = .ok (.getfield 24, 3) := by decide +kernel
theorem dX8_meets_38 : decode cX8_meets 38 = .ok (.iload_n 1, 1) := by decide +kernel
theorem dX8_meets_39 : decode cX8_meets 39 = .ok (.baload, 1) := by decide +kernel
theorem dX8_meets_40 : decode cX8_meets 40 = .ok (.ifCond .eq 15, 3) := by decide +kernel
theorem dX8_meets_43 : decode cX8_meets 43 = .ok (.iload 4, 2) := by decide +kernel
theorem dX8_meets_45 : decode cX8_meets 45 = .ok (.aload_n 0, 1) := by decide +kernel
theorem dX8_meets_46 : decode cX8_meets 46 = .ok (.getfield 18, 3) := by decide +kernel
theorem dX8_meets_49 : decode cX8_meets 49 = .ok (.iload 5, 2) := by decide +kernel
theorem dX8_meets_51 : decode cX8_meets 51 = .ok (.iaload, 1) := by decide +kernel
theorem dX8_meets_52 : decode cX8_meets 52 = .ok (.if_icmp .ge 8, 3) := by decide +kernel
theorem dX8_meets_55 : decode cX8_meets 55 = .ok (.iload 4, 2) := by decide +kernel
theorem dX8_meets_57 : decode cX8_meets 57 = .ok (.goto 10, 3) := by decide +kernel
theorem dX8_meets_60 : decode cX8_meets 60 = .ok (.aload_n 0, 1) := by decide +kernel
theorem dX8_meets_61 : decode cX8_meets 61 = .ok (.getfield 18, 3) := by decide +kernel
theorem dX8_meets_64 : decode cX8_meets 64 = .ok (.iload 5, 2) := by decide +kernel
theorem dX8_meets_66 : decode cX8_meets 66 = .ok (.iaload, 1) := by decide +kernel
theorem dX8_meets_67 : decode cX8_meets 67 = .ok (.iastore, 1) := by decide +kernel
theorem dX8_meets_68 : decode cX8_meets 68 = .ok (.aload_n 0, 1) := by decide +kernel
theorem dX8_meets_69 : decode cX8_meets 69 = .ok (.getfield 21, 3) := by decide +kernel
theorem dX8_meets_72 : decode cX8_meets 72 = .ok (.iload 5, 2) := by decide +kernel
theorem dX8_meets_74 : decode cX8_meets 74 = .ok (.aload_n 0, 1) := by decide +kernel
theorem dX8_meets_75 : decode cX8_meets 75 = .ok (.getfield 24, 3) := by decide +kernel
theorem dX8_meets_78 : decode cX8_meets 78 = .ok (.iload_n 1, 1) := by decide +kernel
theorem dX8_meets_79 : decode cX8_meets 79 = .ok (.baload, 1) := by decide +kernel
theorem dX8_meets_80 : decode cX8_meets 80 = .ok (.ifCond .eq 15, 3) := by decide +kernel
theorem dX8_meets_83 : decode cX8_meets 83 = .ok (.iload 4, 2) := by decide +kernel
theorem dX8_meets_85 : decode cX8_meets 85 = .ok (.aload_n 0, 1) := by decide +kernel
theorem dX8_meets_86 : decode cX8_meets 86 = .ok (.getfield 21, 3) := by decide +kernel
theorem dX8_meets_89 : decode cX8_meets 89 = .ok (.iload 5, 2) := by decide +kernel
theorem dX8_meets_91 : decode cX8_meets 91 = .ok (.iaload, 1) := by decide +kernel
theorem dX8_meets_92 : decode cX8_meets 92 = .ok (.if_icmp .le 8, 3) := by decide +kernel
theorem dX8_meets_95 : decode cX8_meets 95 = .ok (.iload 4, 2) := by decide +kernel
theorem dX8_meets_97 : decode cX8_meets 97 = .ok (.goto 10, 3) := by decide +kernel
theorem dX8_meets_100 : decode cX8_meets 100 = .ok (.aload_n 0, 1) := by decide +kernel
theorem dX8_meets_101 : decode cX8_meets 101 = .ok (.getfield 21, 3) := by decide +kernel
theorem dX8_meets_104 : decode cX8_meets 104 = .ok (.iload 5, 2) := by decide +kernel
theorem dX8_meets_106 : decode cX8_meets 106 = .ok (.iaload, 1) := by decide +kernel
theorem dX8_meets_107 : decode cX8_meets 107 = .ok (.iastore, 1) := by decide +kernel
theorem dX8_meets_108 : decode cX8_meets 108 = .ok (.iinc 3 1, 3) := by decide +kernel
theorem dX8_meets_111 : decode cX8_meets 111 = .ok (.goto (-109), 3) := by decide +kernel
theorem dX8_meets_114 : decode cX8_meets 114 = .ok (.aload_n 0, 1) := by decide +kernel
theorem dX8_meets_115 : decode cX8_meets 115 = .ok (.getfield 24, 3) := by decide +kernel
theorem dX8_meets_118 : decode cX8_meets 118 = .ok (.iload_n 1, 1) := by decide +kernel
theorem dX8_meets_119 : decode cX8_meets 119 = .ok (.iconst 1, 1) := by decide +kernel
theorem dX8_meets_120 : decode cX8_meets 120 = .ok (.bastore, 1) := by decide +kernel
theorem dX8_meets_121 : decode cX8_meets 121 = .ok (.return_, 1) := by decide +kernel
theorem dX8_isClose_0 : decode cX8_isClose 0 = .ok (.iconst 0, 1) := by decide +kernel
theorem dX8_isClose_1 : decode cX8_isClose 1 = .ok (.istore_n 2, 1) := by decide +kernel
theorem dX8_isClose_2 : decode cX8_isClose 2 = .ok (.iconst 0, 1) := by decide +kernel
theorem dX8_isClose_3 : decode cX8_isClose 3 = .ok (.istore_n 3, 1) := by decide +kernel
theorem dX8_isClose_4 : decode cX8_isClose 4 = .ok (.iload_n 3, 1) := by decide +kernel
theorem dX8_isClose_5 : decode cX8_isClose 5 = .ok (.aload_n 0, 1) := by decide +kernel
theorem dX8_isClose_6 : decode cX8_isClose 6 = .ok (.getfield 8, 3) := by decide +kernel
theorem dX8_isClose_9 : decode cX8_isClose 9 = .ok (.iconst 1, 1) := by decide +kernel
theorem dX8_isClose_10 : decode cX8_isClose 10 = .ok (.iaload, 1) := by decide +kernel
theorem dX8_isClose_11 : decode cX8_isClose 11 = .ok (.if_icmp .ge 53, 3) := by decide +kernel
theorem dX8_isClose_14 : decode cX8_isClose 14 = .ok (.iload_n 2, 1) := by decide +kernel
theorem dX8_isClose_15 : decode cX8_isClose 15 = .ok (.ifCond .ne 37, 3) := by decide +kernel
theorem dX8_isClose_18 : decode cX8_isClose 18 = .ok (.aload_n 0, 1) := by decide +kernel
theorem dX8_isClose_19 : decode cX8_isClose 19 = .ok (.getfield 21, 3) := by decide +kernel
theorem dX8_isClose_22 : decode cX8_isClose 22 = .ok (.bipush 10, 2) := by decide +kernel
theorem dX8_isClose_24 : decode cX8_isClose 24 = .ok (.iload_n 1, 1) := by decide +kernel
theorem dX8_isClose_25 : decode cX8_isClose 25 = .ok (.imul, 1) := by decide +kernel
theorem dX8_isClose_26 : decode cX8_isClose 26 = .ok (.iload_n 3, 1) := by decide +kernel
theorem dX8_isClose_27 : decode cX8_isClose 27 = .ok (.iadd, 1) := by decide +kernel
theorem dX8_isClose_28 : decode cX8_isClose 28 = .ok (.iaload, 1) := by decide +kernel
theorem dX8_isClose_29 : decode cX8_isClose 29 = .ok (.aload_n 0, 1) := by decide +kernel
theorem dX8_isClose_30 : decode cX8_isClose 30 = .ok (.getfield 18, 3) := by decide +kernel
theorem dX8_isClose_33 : decode cX8_isClose 33 = .ok (.bipush 10, 2) := by decide +kernel
theorem dX8_isClose_35 : decode cX8_isClose 35 = .ok (.iload_n 1, 1) := by decide +kernel
theorem dX8_isClose_36 : decode cX8_isClose 36 = .ok (.imul, 1) := by decide +kernel
theorem dX8_isClose_37 : decode cX8_isClose 37 = .ok (.iload_n 3, 1) := by decide +kernel
theorem dX8_isClose_38 : decode cX8_isClose 38 = .ok (.iadd, 1) := by decide +kernel
theorem dX8_isClose_39 : decode cX8_isClose 39 = .ok (.iaload, 1) := by decide +kernel
theorem dX8_isClose_40 : decode cX8_isClose 40 = .ok (.isub, 1) := by decide +kernel
theorem dX8_isClose_41 : decode cX8_isClose 41 = .ok (.iconst 1, 1) := by decide +kernel
theorem dX8_isClose_42 : decode cX8_isClose 42 = .ok (.iadd, 1) := by decide +kernel
theorem dX8_isClose_43 : decode cX8_isClose 43 = .ok (.aload_n 0, 1) := by decide +kernel
theorem dX8_isClose_44 : decode cX8_isClose 44 = .ok (.iload_n 3, 1) := by decide +kernel
theorem dX8_isClose_45 : decode cX8_isClose 45 = .ok (.iconst 3, 1) := by decide +kernel
theorem dX8_isClose_46 : decode cX8_isClose 46 = .ok (.invokevirtual 44, 3) := by decide +kernel
theorem dX8_isClose_49 : decode cX8_isClose 49 = .ok (.if_icmp .ge 7, 3) := by decide +kernel
theorem dX8_isClose_52 : decode cX8_isClose 52 = .ok (.iconst 1, 1) := by decide +kernel
theorem dX8_isClose_53 : decode cX8_isClose 53 = .ok (.goto 4, 3) := by decide +kernel
theorem dX8_isClose_56 : decode cX8_isClose 56 = .ok (.iconst 0, 1) := by decide +kernel
theorem dX8_isClose_57 : decode cX8_isClose 57 = .ok (.istore_n 2, 1) := by decide +kernel
theorem dX8_isClose_58 : decode cX8_isClose 58 = .ok (.iinc 3 1, 3) := by decide +kernel
theorem dX8_isClose_61 : decode cX8_isClose 61 = .ok (.goto (-57), 3) := by decide +kernel
theorem dX8_isClose_64 : decode cX8_isClose 64 = .ok (.iload_n 2, 1) := by decide +kernel
theorem dX8_isClose_65 : decode cX8_isClose 65 = .ok (.ireturn, 1) := by decide +kernel
theorem dX8_clears_0 : decode cX8_clears 0 = .ok (.iconst 0, 1) := by decide +kernel
theorem dX8_clears_1 : decode cX8_clears 1 = .ok (.istore_n 1, 1) := by decide +kernel
theorem dX8_clears_2 : decode cX8_clears 2 = .ok (.iload_n 1, 1) := by decide +kernel
theorem dX8_clears_3 : decode cX8_clears 3 = .ok (.bipush 61, 2) := by decide +kernel
theorem dX8_clears_5 : decode cX8_clears 5 = .ok (.if_icmp .ge 16, 3) := by decide +kernel
theorem dX8_clears_8 : decode cX8_clears 8 = .ok (.aload_n 0, 1) := by decide +kernel
theorem dX8_clears_9 : decode cX8_clears 9 = .ok (.getfield 24, 3) := by decide +kernel
theorem dX8_clears_12 : decode cX8_clears 12 = .ok (.iload_n 1, 1) := by decide +kernel
theorem dX8_clears_13 : decode cX8_clears 13 = .ok (.iconst 0, 1) := by decide +kernel
theorem dX8_clears_14 : decode cX8_clears 14 = .ok (.bastore, 1) := by decide +kernel
theorem dX8_clears_15 : decode cX8_clears 15 = .ok (.iinc 1 1, 3) := by decide +kernel
theorem dX8_clears_18 : decode cX8_clears 18 = .ok (.goto (-16), 3) := by decide +kernel
theorem dX8_clears_21 : decode cX8_clears 21 = .ok (.return_, 1) := by decide +kernel
theorem dX8_judged_0 : decode cX8_judged 0 = .ok (.aload_n 0, 1) := by decide +kernel
theorem dX8_judged_1 : decode cX8_judged 1 = .ok (.invokevirtual 90, 3) := by decide +kernel
theorem dX8_judged_4 : decode cX8_judged 4 = .ok (.iconst 0, 1) := by decide +kernel
theorem dX8_judged_5 : decode cX8_judged 5 = .ok (.istore 5, 2) := by decide +kernel
theorem dX8_judged_7 : decode cX8_judged 7 = .ok (.iconst 0, 1) := by decide +kernel
theorem dX8_judged_8 : decode cX8_judged 8 = .ok (.istore 6, 2) := by decide +kernel
theorem dX8_judged_10 : decode cX8_judged 10 = .ok (.iload 6, 2) := by decide +kernel
theorem dX8_judged_12 : decode cX8_judged 12 = .ok (.aload_n 0, 1) := by decide +kernel
theorem dX8_judged_13 : decode cX8_judged 13 = .ok (.getfield 8, 3) := by decide +kernel
theorem dX8_judged_16 : decode cX8_judged 16 = .ok (.iconst 2, 1) := by decide +kernel
theorem dX8_judged_17 : decode cX8_judged 17 = .ok (.iaload, 1) := by decide +kernel
theorem dX8_judged_18 : decode cX8_judged 18 = .ok (.if_icmp .ge 62, 3) := by decide +kernel
theorem dX8_judged_21 : decode cX8_judged 21 = .ok (.aload_n 0, 1) := by decide +kernel
theorem dX8_judged_22 : decode cX8_judged 22 = .ok (.iload_n 1, 1) := by decide +kernel
theorem dX8_judged_23 : decode cX8_judged 23 = .ok (.iload 6, 2) := by decide +kernel
theorem dX8_judged_25 : decode cX8_judged 25 = .ok (.invokevirtual 93, 3) := by decide +kernel
theorem dX8_judged_28 : decode cX8_judged 28 = .ok (.ifCond .ne 6, 3) := by decide +kernel
theorem dX8_judged_31 : decode cX8_judged 31 = .ok (.goto 43, 3) := by decide +kernel
theorem dX8_judged_34 : decode cX8_judged 34 = .ok (.aload_n 0, 1) := by decide +kernel
theorem dX8_judged_35 : decode cX8_judged 35 = .ok (.iload 6, 2) := by decide +kernel
theorem dX8_judged_37 : decode cX8_judged 37 = .ok (.iload_n 2, 1) := by decide +kernel
theorem dX8_judged_38 : decode cX8_judged 38 = .ok (.iload_n 3, 1) := by decide +kernel
theorem dX8_judged_39 : decode cX8_judged 39 = .ok (.iload 4, 2) := by decide +kernel
theorem dX8_judged_41 : decode cX8_judged 41 = .ok (.invokevirtual 96, 3) := by decide +kernel
theorem dX8_judged_44 : decode cX8_judged 44 = .ok (.istore 7, 2) := by decide +kernel
theorem dX8_judged_46 : decode cX8_judged 46 = .ok (.iload 5, 2) := by decide +kernel
theorem dX8_judged_48 : decode cX8_judged 48 = .ok (.aload_n 0, 1) := by decide +kernel
theorem dX8_judged_49 : decode cX8_judged 49 = .ok (.getfield 24, 3) := by decide +kernel
theorem dX8_judged_52 : decode cX8_judged 52 = .ok (.iload 7, 2) := by decide +kernel
theorem dX8_judged_54 : decode cX8_judged 54 = .ok (.baload, 1) := by decide +kernel
theorem dX8_judged_55 : decode cX8_judged 55 = .ok (.ifCond .eq 7, 3) := by decide +kernel
theorem dX8_judged_58 : decode cX8_judged 58 = .ok (.iconst 0, 1) := by decide +kernel
theorem dX8_judged_59 : decode cX8_judged 59 = .ok (.goto 4, 3) := by decide +kernel
theorem dX8_judged_62 : decode cX8_judged 62 = .ok (.iconst 1, 1) := by decide +kernel
theorem dX8_judged_63 : decode cX8_judged 63 = .ok (.iadd, 1) := by decide +kernel
theorem dX8_judged_64 : decode cX8_judged 64 = .ok (.istore 5, 2) := by decide +kernel
theorem dX8_judged_66 : decode cX8_judged 66 = .ok (.aload_n 0, 1) := by decide +kernel
theorem dX8_judged_67 : decode cX8_judged 67 = .ok (.iload 7, 2) := by decide +kernel
theorem dX8_judged_69 : decode cX8_judged 69 = .ok (.iload 6, 2) := by decide +kernel
theorem dX8_judged_71 : decode cX8_judged 71 = .ok (.invokevirtual 100, 3) := by decide +kernel
theorem dX8_judged_74 : decode cX8_judged 74 = .ok (.iinc 6 1, 3) := by decide +kernel
theorem dX8_judged_77 : decode cX8_judged 77 = .ok (.goto (-67), 3) := by decide +kernel
theorem dX8_judged_80 : decode cX8_judged 80 = .ok (.iload 5, 2) := by decide +kernel
theorem dX8_judged_82 : decode cX8_judged 82 = .ok (.iconst 1, 1) := by decide +kernel
theorem dX8_judged_83 : decode cX8_judged 83 = .ok (.if_icmp .ne 5, 3) := by decide +kernel
theorem dX8_judged_86 : decode cX8_judged 86 = .ok (.iconst 2, 1) := by decide +kernel
theorem dX8_judged_87 : decode cX8_judged 87 = .ok (.ireturn, 1) := by decide +kernel
theorem dX8_judged_88 : decode cX8_judged 88 = .ok (.iconst 0, 1) := by decide +kernel
theorem dX8_judged_89 : decode cX8_judged 89 = .ok (.istore 6, 2) := by decide +kernel
theorem dX8_judged_91 : decode cX8_judged 91 = .ok (.iload 6, 2) := by decide +kernel
theorem dX8_judged_93 : decode cX8_judged 93 = .ok (.bipush 61, 2) := by decide +kernel
theorem dX8_judged_95 : decode cX8_judged 95 = .ok (.if_icmp .ge 30, 3) := by decide +kernel
theorem dX8_judged_98 : decode cX8_judged 98 = .ok (.aload_n 0, 1) := by decide +kernel
theorem dX8_judged_99 : decode cX8_judged 99 = .ok (.getfield 24, 3) := by decide +kernel
theorem dX8_judged_102 : decode cX8_judged 102 = .ok (.iload 6, 2) := by decide +kernel
theorem dX8_judged_104 : decode cX8_judged 104 = .ok (.baload, 1) := by decide +kernel
theorem dX8_judged_105 : decode cX8_judged 105 = .ok (.ifCond .eq 14, 3) := by decide +kernel
theorem dX8_judged_108 : decode cX8_judged 108 = .ok (.aload_n 0, 1) := by decide +kernel
theorem dX8_judged_109 : decode cX8_judged 109 = .ok (.iload 6, 2) := by decide +kernel
theorem dX8_judged_111 : decode cX8_judged 111 = .ok (.invokevirtual 103, 3) := by decide +kernel
theorem dX8_judged_114 : decode cX8_judged 114 = .ok (.ifCond .eq 5, 3) := by decide +kernel
theorem dX8_judged_117 : decode cX8_judged 117 = .ok (.iconst 0, 1) := by decide +kernel
theorem dX8_judged_118 : decode cX8_judged 118 = .ok (.ireturn, 1) := by decide +kernel
theorem dX8_judged_119 : decode cX8_judged 119 = .ok (.iinc 6 1, 3) := by decide +kernel
theorem dX8_judged_122 : decode cX8_judged 122 = .ok (.goto (-31), 3) := by decide +kernel
theorem dX8_judged_125 : decode cX8_judged 125 = .ok (.iconst 1, 1) := by decide +kernel
theorem dX8_judged_126 : decode cX8_judged 126 = .ok (.ireturn, 1) := by decide +kernel
theorem dX8_would_0 : decode cX8_would 0 = .ok (.iload_n 1, 1) := by decide +kernel
theorem dX8_would_1 : decode cX8_would 1 = .ok (.invokestatic 106, 3) := by decide +kernel
theorem dX8_would_4 : decode cX8_would 4 = .ok (.ifCond .eq 28, 3) := by decide +kernel
theorem dX8_would_7 : decode cX8_would 7 = .ok (.iload_n 2, 1) := by decide +kernel
theorem dX8_would_8 : decode cX8_would 8 = .ok (.iload 4, 2) := by decide +kernel
theorem dX8_would_10 : decode cX8_would 10 = .ok (.invokestatic 109, 3) := by decide +kernel
theorem dX8_would_13 : decode cX8_would 13 = .ok (.ifCond .eq 19, 3) := by decide +kernel
theorem dX8_would_16 : decode cX8_would 16 = .ok (.aload_n 0, 1) := by decide +kernel
theorem dX8_would_17 : decode cX8_would 17 = .ok (.iload_n 1, 1) := by decide +kernel
theorem dX8_would_18 : decode cX8_would 18 = .ok (.iload_n 2, 1) := by decide +kernel
theorem dX8_would_19 : decode cX8_would 19 = .ok (.aload_n 0, 1) := by decide +kernel
theorem dX8_would_20 : decode cX8_would 20 = .ok (.iload_n 3, 1) := by decide +kernel
theorem dX8_would_21 : decode cX8_would 21 = .ok (.invokevirtual 112, 3) := by decide +kernel
theorem dX8_would_24 : decode cX8_would 24 = .ok (.iload 4, 2) := by decide +kernel
theorem dX8_would_26 : decode cX8_would 26 = .ok (.invokevirtual 115, 3) := by decide +kernel
theorem dX8_would_29 : decode cX8_would 29 = .ok (.goto 4, 3) := by decide +kernel
theorem dX8_would_32 : decode cX8_would 32 = .ok (.iconst (-1), 1) := by decide +kernel
theorem dX8_would_33 : decode cX8_would 33 = .ok (.ireturn, 1) := by decide +kernel
theorem dX8_known_0 : decode cX8_known 0 = .ok (.iload_n 1, 1) := by decide +kernel
theorem dX8_known_1 : decode cX8_known 1 = .ok (.iconst 1, 1) := by decide +kernel
theorem dX8_known_2 : decode cX8_known 2 = .ok (.aload_n 0, 1) := by decide +kernel
theorem dX8_known_3 : decode cX8_known 3 = .ok (.getfield 8, 3) := by decide +kernel
theorem dX8_known_6 : decode cX8_known 6 = .ok (.iconst 0, 1) := by decide +kernel
theorem dX8_known_7 : decode cX8_known 7 = .ok (.iaload, 1) := by decide +kernel
theorem dX8_known_8 : decode cX8_known 8 = .ok (.ishl, 1) := by decide +kernel
theorem dX8_known_9 : decode cX8_known 9 = .ok (.iconst 1, 1) := by decide +kernel
theorem dX8_known_10 : decode cX8_known 10 = .ok (.isub, 1) := by decide +kernel
theorem dX8_known_11 : decode cX8_known 11 = .ok (.iand, 1) := by decide +kernel
theorem dX8_known_12 : decode cX8_known 12 = .ok (.ireturn, 1) := by decide +kernel
theorem dX8_ask_0 : decode cX8_ask 0 = .ok (.iload_n 1, 1) := by decide +kernel
theorem dX8_ask_1 : decode cX8_ask 1 = .ok (.invokestatic 106, 3) := by decide +kernel
theorem dX8_ask_4 : decode cX8_ask 4 = .ok (.ifCond .eq 24, 3) := by decide +kernel
theorem dX8_ask_7 : decode cX8_ask 7 = .ok (.iload_n 2, 1) := by decide +kernel
theorem dX8_ask_8 : decode cX8_ask 8 = .ok (.iload 4, 2) := by decide +kernel
theorem dX8_ask_10 : decode cX8_ask 10 = .ok (.invokestatic 109, 3) := by decide +kernel
theorem dX8_ask_13 : decode cX8_ask 13 = .ok (.ifCond .eq 15, 3) := by decide +kernel
theorem dX8_ask_16 : decode cX8_ask 16 = .ok (.aload_n 0, 1) := by decide +kernel
theorem dX8_ask_17 : decode cX8_ask 17 = .ok (.getfield 8, 3) := by decide +kernel
theorem dX8_ask_20 : decode cX8_ask 20 = .ok (.iconst 3, 1) := by decide +kernel
theorem dX8_ask_21 : decode cX8_ask 21 = .ok (.iaload, 1) := by decide +kernel
theorem dX8_ask_22 : decode cX8_ask 22 = .ok (.sipush 200, 3) := by decide +kernel
theorem dX8_ask_25 : decode cX8_ask 25 = .ok (.if_icmp .ne 5, 3) := by decide +kernel
theorem dX8_ask_28 : decode cX8_ask 28 = .ok (.iconst (-1), 1) := by decide +kernel
theorem dX8_ask_29 : decode cX8_ask 29 = .ok (.ireturn, 1) := by decide +kernel
theorem dX8_ask_30 : decode cX8_ask 30 = .ok (.aload_n 0, 1) := by decide +kernel
theorem dX8_ask_31 : decode cX8_ask 31 = .ok (.iload_n 3, 1) := by decide +kernel
theorem dX8_ask_32 : decode cX8_ask 32 = .ok (.invokevirtual 112, 3) := by decide +kernel
theorem dX8_ask_35 : decode cX8_ask 35 = .ok (.istore 5, 2) := by decide +kernel
theorem dX8_ask_37 : decode cX8_ask 37 = .ok (.aload_n 0, 1) := by decide +kernel
theorem dX8_ask_38 : decode cX8_ask 38 = .ok (.iload_n 1, 1) := by decide +kernel
theorem dX8_ask_39 : decode cX8_ask 39 = .ok (.iload_n 2, 1) := by decide +kernel
theorem dX8_ask_40 : decode cX8_ask 40 = .ok (.iload 5, 2) := by decide +kernel
theorem dX8_ask_42 : decode cX8_ask 42 = .ok (.iload 4, 2) := by decide +kernel
theorem dX8_ask_44 : decode cX8_ask 44 = .ok (.invokevirtual 115, 3) := by decide +kernel
theorem dX8_ask_47 : decode cX8_ask 47 = .ok (.ifCond .ne 8, 3) := by decide +kernel
theorem dX8_ask_50 : decode cX8_ask 50 = .ok (.bipush (-2), 2) := by decide +kernel
theorem dX8_ask_52 : decode cX8_ask 52 = .ok (.goto 12, 3) := by decide +kernel
theorem dX8_ask_55 : decode cX8_ask 55 = .ok (.aload_n 0, 1) := by decide +kernel
theorem dX8_ask_56 : decode cX8_ask 56 = .ok (.iload_n 2, 1) := by decide +kernel
theorem dX8_ask_57 : decode cX8_ask 57 = .ok (.iload 5, 2) := by decide +kernel
theorem dX8_ask_59 : decode cX8_ask 59 = .ok (.iload 4, 2) := by decide +kernel
theorem dX8_ask_61 : decode cX8_ask 61 = .ok (.invokevirtual 118, 3) := by decide +kernel
theorem dX8_ask_64 : decode cX8_ask 64 = .ok (.istore 6, 2) := by decide +kernel
theorem dX8_ask_66 : decode cX8_ask 66 = .ok (.bipush 100, 2) := by decide +kernel
theorem dX8_ask_68 : decode cX8_ask 68 = .ok (.iconst 5, 1) := by decide +kernel
theorem dX8_ask_69 : decode cX8_ask 69 = .ok (.aload_n 0, 1) := by decide +kernel
theorem dX8_ask_70 : decode cX8_ask 70 = .ok (.getfield 8, 3) := by decide +kernel
theorem dX8_ask_73 : decode cX8_ask 73 = .ok (.iconst 3, 1) := by decide +kernel
theorem dX8_ask_74 : decode cX8_ask 74 = .ok (.iaload, 1) := by decide +kernel
theorem dX8_ask_75 : decode cX8_ask 75 = .ok (.imul, 1) := by decide +kernel
theorem dX8_ask_76 : decode cX8_ask 76 = .ok (.iadd, 1) := by decide +kernel
theorem dX8_ask_77 : decode cX8_ask 77 = .ok (.istore 7, 2) := by decide +kernel
theorem dX8_ask_79 : decode cX8_ask 79 = .ok (.aload_n 0, 1) := by decide +kernel
theorem dX8_ask_80 : decode cX8_ask 80 = .ok (.getfield 8, 3) := by decide +kernel
theorem dX8_ask_83 : decode cX8_ask 83 = .ok (.iload 7, 2) := by decide +kernel
theorem dX8_ask_85 : decode cX8_ask 85 = .ok (.iload_n 1, 1) := by decide +kernel
theorem dX8_ask_86 : decode cX8_ask 86 = .ok (.iastore, 1) := by decide +kernel
theorem dX8_ask_87 : decode cX8_ask 87 = .ok (.aload_n 0, 1) := by decide +kernel
theorem dX8_ask_88 : decode cX8_ask 88 = .ok (.getfield 8, 3) := by decide +kernel
theorem dX8_ask_91 : decode cX8_ask 91 = .ok (.iload 7, 2) := by decide +kernel
theorem dX8_ask_93 : decode cX8_ask 93 = .ok (.iconst 1, 1) := by decide +kernel
theorem dX8_ask_94 : decode cX8_ask 94 = .ok (.iadd, 1) := by decide +kernel
theorem dX8_ask_95 : decode cX8_ask 95 = .ok (.iload_n 2, 1) := by decide +kernel
theorem dX8_ask_96 : decode cX8_ask 96 = .ok (.iastore, 1) := by decide +kernel
theorem dX8_ask_97 : decode cX8_ask 97 = .ok (.aload_n 0, 1) := by decide +kernel
theorem dX8_ask_98 : decode cX8_ask 98 = .ok (.getfield 8, 3) := by decide +kernel
theorem dX8_ask_101 : decode cX8_ask 101 = .ok (.iload 7, 2) := by decide +kernel
theorem dX8_ask_103 : decode cX8_ask 103 = .ok (.iconst 2, 1) := by decide +kernel
theorem dX8_ask_104 : decode cX8_ask 104 = .ok (.iadd, 1) := by decide +kernel
theorem dX8_ask_105 : decode cX8_ask 105 = .ok (.aload_n 0, 1) := by decide +kernel
theorem dX8_ask_106 : decode cX8_ask 106 = .ok (.iload_n 3, 1) := by decide +kernel
theorem dX8_ask_107 : decode cX8_ask 107 = .ok (.invokevirtual 122, 3) := by decide +kernel
theorem dX8_ask_110 : decode cX8_ask 110 = .ok (.iastore, 1) := by decide +kernel
theorem dX8_ask_111 : decode cX8_ask 111 = .ok (.aload_n 0, 1) := by decide +kernel
theorem dX8_ask_112 : decode cX8_ask 112 = .ok (.getfield 8, 3) := by decide +kernel
theorem dX8_ask_115 : decode cX8_ask 115 = .ok (.iload 7, 2) := by decide +kernel
theorem dX8_ask_117 : decode cX8_ask 117 = .ok (.iconst 3, 1) := by decide +kernel
theorem dX8_ask_118 : decode cX8_ask 118 = .ok (.iadd, 1) := by decide +kernel
theorem dX8_ask_119 : decode cX8_ask 119 = .ok (.iload 4, 2) := by decide +kernel
theorem dX8_ask_121 : decode cX8_ask 121 = .ok (.iastore, 1) := by decide +kernel
theorem dX8_ask_122 : decode cX8_ask 122 = .ok (.aload_n 0, 1) := by decide +kernel
theorem dX8_ask_123 : decode cX8_ask 123 = .ok (.getfield 8, 3) := by decide +kernel
theorem dX8_ask_126 : decode cX8_ask 126 = .ok (.iload 7, 2) := by decide +kernel
theorem dX8_ask_128 : decode cX8_ask 128 = .ok (.iconst 4, 1) := by decide +kernel
theorem dX8_ask_129 : decode cX8_ask 129 = .ok (.iadd, 1) := by decide +kernel
theorem dX8_ask_130 : decode cX8_ask 130 = .ok (.iload 6, 2) := by decide +kernel
theorem dX8_ask_132 : decode cX8_ask 132 = .ok (.iastore, 1) := by decide +kernel
theorem dX8_ask_133 : decode cX8_ask 133 = .ok (.aload_n 0, 1) := by decide +kernel
theorem dX8_ask_134 : decode cX8_ask 134 = .ok (.getfield 8, 3) := by decide +kernel
theorem dX8_ask_137 : decode cX8_ask 137 = .ok (.iconst 3, 1) := by decide +kernel
theorem dX8_ask_138 : decode cX8_ask 138 = .ok (.dup2, 1) := by decide +kernel
theorem dX8_ask_139 : decode cX8_ask 139 = .ok (.iaload, 1) := by decide +kernel
theorem dX8_ask_140 : decode cX8_ask 140 = .ok (.iconst 1, 1) := by decide +kernel
theorem dX8_ask_141 : decode cX8_ask 141 = .ok (.iadd, 1) := by decide +kernel
theorem dX8_ask_142 : decode cX8_ask 142 = .ok (.iastore, 1) := by decide +kernel
theorem dX8_ask_143 : decode cX8_ask 143 = .ok (.iload 6, 2) := by decide +kernel
theorem dX8_ask_145 : decode cX8_ask 145 = .ok (.bipush (-2), 2) := by decide +kernel
theorem dX8_ask_147 : decode cX8_ask 147 = .ok (.if_icmp .ne 16, 3) := by decide +kernel
theorem dX8_ask_150 : decode cX8_ask 150 = .ok (.aload_n 0, 1) := by decide +kernel
theorem dX8_ask_151 : decode cX8_ask 151 = .ok (.getfield 8, 3) := by decide +kernel
theorem dX8_ask_154 : decode cX8_ask 154 = .ok (.iconst 4, 1) := by decide +kernel
theorem dX8_ask_155 : decode cX8_ask 155 = .ok (.dup2, 1) := by decide +kernel
theorem dX8_ask_156 : decode cX8_ask 156 = .ok (.iaload, 1) := by decide +kernel
theorem dX8_ask_157 : decode cX8_ask 157 = .ok (.iconst 1, 1) := by decide +kernel
theorem dX8_ask_158 : decode cX8_ask 158 = .ok (.iadd, 1) := by decide +kernel
theorem dX8_ask_159 : decode cX8_ask 159 = .ok (.iastore, 1) := by decide +kernel
theorem dX8_ask_160 : decode cX8_ask 160 = .ok (.iload 6, 2) := by decide +kernel
theorem dX8_ask_162 : decode cX8_ask 162 = .ok (.ireturn, 1) := by decide +kernel
theorem dX8_ask_163 : decode cX8_ask 163 = .ok (.iconst 0, 1) := by decide +kernel
theorem dX8_ask_164 : decode cX8_ask 164 = .ok (.istore 8, 2) := by decide +kernel
theorem dX8_ask_166 : decode cX8_ask 166 = .ok (.iload 8, 2) := by decide +kernel
theorem dX8_ask_168 : decode cX8_ask 168 = .ok (.aload_n 0, 1) := by decide +kernel
theorem dX8_ask_169 : decode cX8_ask 169 = .ok (.getfield 8, 3) := by decide +kernel
theorem dX8_ask_172 : decode cX8_ask 172 = .ok (.iconst 2, 1) := by decide +kernel
theorem dX8_ask_173 : decode cX8_ask 173 = .ok (.iaload, 1) := by decide +kernel
theorem dX8_ask_174 : decode cX8_ask 174 = .ok (.if_icmp .ge 94, 3) := by decide +kernel
theorem dX8_ask_177 : decode cX8_ask 177 = .ok (.aload_n 0, 1) := by decide +kernel
theorem dX8_ask_178 : decode cX8_ask 178 = .ok (.iload_n 1, 1) := by decide +kernel
theorem dX8_ask_179 : decode cX8_ask 179 = .ok (.iload 8, 2) := by decide +kernel
theorem dX8_ask_181 : decode cX8_ask 181 = .ok (.invokevirtual 93, 3) := by decide +kernel
theorem dX8_ask_184 : decode cX8_ask 184 = .ok (.ifCond .eq 78, 3) := by decide +kernel
theorem dX8_ask_187 : decode cX8_ask 187 = .ok (.aload_n 0, 1) := by decide +kernel
theorem dX8_ask_188 : decode cX8_ask 188 = .ok (.iload 8, 2) := by decide +kernel
theorem dX8_ask_190 : decode cX8_ask 190 = .ok (.iload_n 2, 1) := by decide +kernel
theorem dX8_ask_191 : decode cX8_ask 191 = .ok (.iload 5, 2) := by decide +kernel
theorem dX8_ask_193 : decode cX8_ask 193 = .ok (.iload 4, 2) := by decide +kernel
theorem dX8_ask_195 : decode cX8_ask 195 = .ok (.invokevirtual 96, 3) := by decide +kernel
theorem dX8_ask_198 : decode cX8_ask 198 = .ok (.iload 6, 2) := by decide +kernel
theorem dX8_ask_200 : decode cX8_ask 200 = .ok (.if_icmp .ne 6, 3) := by decide +kernel
theorem dX8_ask_203 : decode cX8_ask 203 = .ok (.goto 59, 3) := by decide +kernel
theorem dX8_ask_206 : decode cX8_ask 206 = .ok (.iconst 0, 1) := by decide +kernel
theorem dX8_ask_207 : decode cX8_ask 207 = .ok (.istore 9, 2) := by decide +kernel
theorem dX8_ask_209 : decode cX8_ask 209 = .ok (.iload 9, 2) := by decide +kernel
theorem dX8_ask_211 : decode cX8_ask 211 = .ok (.iconst 4, 1) := by decide +kernel
theorem dX8_ask_212 : decode cX8_ask 212 = .ok (.if_icmp .ge 50, 3) := by decide +kernel
theorem dX8_ask_215 : decode cX8_ask 215 = .ok (.aload_n 0, 1) := by decide +kernel
theorem dX8_ask_216 : decode cX8_ask 216 = .ok (.getfield 8, 3) := by decide +kernel
theorem dX8_ask_219 : decode cX8_ask 219 = .ok (.bipush 6, 2) := by decide +kernel
theorem dX8_ask_221 : decode cX8_ask 221 = .ok (.iload 9, 2) := by decide +kernel
theorem dX8_ask_223 : decode cX8_ask 223 = .ok (.iadd, 1) := by decide +kernel
theorem dX8_ask_224 : decode cX8_ask 224 = .ok (.iaload, 1) := by decide +kernel
theorem dX8_ask_225 : decode cX8_ask 225 = .ok (.aload_n 0, 1) := by decide +kernel
theorem dX8_ask_226 : decode cX8_ask 226 = .ok (.getfield 8, 3) := by decide +kernel
theorem dX8_ask_229 : decode cX8_ask 229 = .ok (.bipush 6, 2) := by decide +kernel
theorem dX8_ask_231 : decode cX8_ask 231 = .ok (.iload_n 1, 1) := by decide +kernel
theorem dX8_ask_232 : decode cX8_ask 232 = .ok (.iadd, 1) := by decide +kernel
theorem dX8_ask_233 : decode cX8_ask 233 = .ok (.iaload, 1) := by decide +kernel
theorem dX8_ask_234 : decode cX8_ask 234 = .ok (.if_icmp .ne 22, 3) := by decide +kernel
theorem dX8_ask_237 : decode cX8_ask 237 = .ok (.aload_n 0, 1) := by decide +kernel
theorem dX8_ask_238 : decode cX8_ask 238 = .ok (.getfield 8, 3) := by decide +kernel
theorem dX8_ask_241 : decode cX8_ask 241 = .ok (.sipush 1130, 3) := by decide +kernel
theorem dX8_ask_244 : decode cX8_ask 244 = .ok (.sipush 4096, 3) := by decide +kernel
theorem dX8_ask_247 : decode cX8_ask 247 = .ok (.iload 9, 2) := by decide +kernel
theorem dX8_ask_249 : decode cX8_ask 249 = .ok (.imul, 1) := by decide +kernel
theorem dX8_ask_250 : decode cX8_ask 250 = .ok (.iadd, 1) := by decide +kernel
theorem dX8_ask_251 : decode cX8_ask 251 = .ok (.iload 8, 2) := by decide +kernel
theorem dX8_ask_253 : decode cX8_ask 253 = .ok (.iadd, 1) := by decide +kernel
theorem dX8_ask_254 : decode cX8_ask 254 = .ok (.iconst 0, 1) := by decide +kernel
theorem dX8_ask_255 : decode cX8_ask 255 = .ok (.iastore, 1) := by decide +kernel
theorem dX8_ask_256 : decode cX8_ask 256 = .ok (.iinc 9 1, 3) := by decide +kernel
theorem dX8_ask_259 : decode cX8_ask 259 = .ok (.goto (-50), 3) := by decide +kernel
theorem dX8_ask_262 : decode cX8_ask 262 = .ok (.iinc 8 1, 3) := by decide +kernel
theorem dX8_ask_265 : decode cX8_ask 265 = .ok (.goto (-99), 3) := by decide +kernel
theorem dX8_ask_268 : decode cX8_ask 268 = .ok (.iload 6, 2) := by decide +kernel
theorem dX8_ask_270 : decode cX8_ask 270 = .ok (.ireturn, 1) := by decide +kernel
theorem dX8_join_0 : decode cX8_join 0 = .ok (.iload_n 1, 1) := by decide +kernel
theorem dX8_join_1 : decode cX8_join 1 = .ok (.invokestatic 106, 3) := by decide +kernel
theorem dX8_join_4 : decode cX8_join 4 = .ok (.ifCond .eq 31, 3) := by decide +kernel
theorem dX8_join_7 : decode cX8_join 7 = .ok (.iload_n 2, 1) := by decide +kernel
theorem dX8_join_8 : decode cX8_join 8 = .ok (.invokestatic 106, 3) := by decide +kernel
theorem dX8_join_11 : decode cX8_join 11 = .ok (.ifCond .eq 24, 3) := by decide +kernel
theorem dX8_join_14 : decode cX8_join 14 = .ok (.aload_n 0, 1) := by decide +kernel
theorem dX8_join_15 : decode cX8_join 15 = .ok (.getfield 8, 3) := by decide +kernel
theorem dX8_join_18 : decode cX8_join 18 = .ok (.bipush 6, 2) := by decide +kernel
theorem dX8_join_20 : decode cX8_join 20 = .ok (.iload_n 1, 1) := by decide +kernel
theorem dX8_join_21 : decode cX8_join 21 = .ok (.iadd, 1) := by decide +kernel
theorem dX8_join_22 : decode cX8_join 22 = .ok (.iaload, 1) := by decide +kernel
theorem dX8_join_23 : decode cX8_join 23 = .ok (.aload_n 0, 1) := by decide +kernel
theorem dX8_join_24 : decode cX8_join 24 = .ok (.getfield 8, 3) := by decide +kernel
theorem dX8_join_27 : decode cX8_join 27 = .ok (.bipush 6, 2) := by decide +kernel
theorem dX8_join_29 : decode cX8_join 29 = .ok (.iload_n 2, 1) := by decide +kernel
theorem dX8_join_30 : decode cX8_join 30 = .ok (.iadd, 1) := by decide +kernel
theorem dX8_join_31 : decode cX8_join 31 = .ok (.iaload, 1) := by decide +kernel
theorem dX8_join_32 : decode cX8_join 32 = .ok (.if_icmp .ne 5, 3) := by decide +kernel
theorem dX8_join_35 : decode cX8_join 35 = .ok (.iconst 0, 1) := by decide +kernel
theorem dX8_join_36 : decode cX8_join 36 = .ok (.ireturn, 1) := by decide +kernel
theorem dX8_join_37 : decode cX8_join 37 = .ok (.aload_n 0, 1) := by decide +kernel
theorem dX8_join_38 : decode cX8_join 38 = .ok (.getfield 8, 3) := by decide +kernel
theorem dX8_join_41 : decode cX8_join 41 = .ok (.bipush 6, 2) := by decide +kernel
theorem dX8_join_43 : decode cX8_join 43 = .ok (.iload_n 1, 1) := by decide +kernel
theorem dX8_join_44 : decode cX8_join 44 = .ok (.iadd, 1) := by decide +kernel
theorem dX8_join_45 : decode cX8_join 45 = .ok (.iaload, 1) := by decide +kernel
theorem dX8_join_46 : decode cX8_join 46 = .ok (.istore_n 3, 1) := by decide +kernel
theorem dX8_join_47 : decode cX8_join 47 = .ok (.aload_n 0, 1) := by decide +kernel
theorem dX8_join_48 : decode cX8_join 48 = .ok (.getfield 8, 3) := by decide +kernel
theorem dX8_join_51 : decode cX8_join 51 = .ok (.bipush 6, 2) := by decide +kernel
theorem dX8_join_53 : decode cX8_join 53 = .ok (.iload_n 2, 1) := by decide +kernel
theorem dX8_join_54 : decode cX8_join 54 = .ok (.iadd, 1) := by decide +kernel
theorem dX8_join_55 : decode cX8_join 55 = .ok (.iaload, 1) := by decide +kernel
theorem dX8_join_56 : decode cX8_join 56 = .ok (.istore 4, 2) := by decide +kernel
theorem dX8_join_58 : decode cX8_join 58 = .ok (.iload_n 3, 1) := by decide +kernel
theorem dX8_join_59 : decode cX8_join 59 = .ok (.iload 4, 2) := by decide +kernel
theorem dX8_join_61 : decode cX8_join 61 = .ok (.if_icmp .ge 7, 3) := by decide +kernel
theorem dX8_join_64 : decode cX8_join 64 = .ok (.iload_n 3, 1) := by decide +kernel
theorem dX8_join_65 : decode cX8_join 65 = .ok (.goto 5, 3) := by decide +kernel
theorem dX8_join_68 : decode cX8_join 68 = .ok (.iload 4, 2) := by decide +kernel
theorem dX8_join_70 : decode cX8_join 70 = .ok (.istore 5, 2) := by decide +kernel
theorem dX8_join_72 : decode cX8_join 72 = .ok (.iconst 0, 1) := by decide +kernel
theorem dX8_join_73 : decode cX8_join 73 = .ok (.istore 6, 2) := by decide +kernel
theorem dX8_join_75 : decode cX8_join 75 = .ok (.iload 6, 2) := by decide +kernel
theorem dX8_join_77 : decode cX8_join 77 = .ok (.aload_n 0, 1) := by decide +kernel
theorem dX8_join_78 : decode cX8_join 78 = .ok (.getfield 8, 3) := by decide +kernel
theorem dX8_join_81 : decode cX8_join 81 = .ok (.iconst 2, 1) := by decide +kernel
theorem dX8_join_82 : decode cX8_join 82 = .ok (.iaload, 1) := by decide +kernel
theorem dX8_join_83 : decode cX8_join 83 = .ok (.if_icmp .ge 110, 3) := by decide +kernel
theorem dX8_join_86 : decode cX8_join 86 = .ok (.aload_n 0, 1) := by decide +kernel
theorem dX8_join_87 : decode cX8_join 87 = .ok (.getfield 8, 3) := by decide +kernel
theorem dX8_join_90 : decode cX8_join 90 = .ok (.sipush 1130, 3) := by decide +kernel
theorem dX8_join_93 : decode cX8_join 93 = .ok (.sipush 4096, 3) := by decide +kernel
theorem dX8_join_96 : decode cX8_join 96 = .ok (.iload_n 1, 1) := by decide +kernel
theorem dX8_join_97 : decode cX8_join 97 = .ok (.imul, 1) := by decide +kernel
theorem dX8_join_98 : decode cX8_join 98 = .ok (.iadd, 1) := by decide +kernel
theorem dX8_join_99 : decode cX8_join 99 = .ok (.iload 6, 2) := by decide +kernel
theorem dX8_join_101 : decode cX8_join 101 = .ok (.iadd, 1) := by decide +kernel
theorem dX8_join_102 : decode cX8_join 102 = .ok (.iaload, 1) := by decide +kernel
theorem dX8_join_103 : decode cX8_join 103 = .ok (.aload_n 0, 1) := by decide +kernel
theorem dX8_join_104 : decode cX8_join 104 = .ok (.getfield 8, 3) := by decide +kernel
theorem dX8_join_107 : decode cX8_join 107 = .ok (.sipush 1130, 3) := by decide +kernel
theorem dX8_join_110 : decode cX8_join 110 = .ok (.sipush 4096, 3) := by decide +kernel
theorem dX8_join_113 : decode cX8_join 113 = .ok (.iload_n 2, 1) := by decide +kernel
theorem dX8_join_114 : decode cX8_join 114 = .ok (.imul, 1) := by decide +kernel
theorem dX8_join_115 : decode cX8_join 115 = .ok (.iadd, 1) := by decide +kernel
theorem dX8_join_116 : decode cX8_join 116 = .ok (.iload 6, 2) := by decide +kernel
theorem dX8_join_118 : decode cX8_join 118 = .ok (.iadd, 1) := by decide +kernel
theorem dX8_join_119 : decode cX8_join 119 = .ok (.iaload, 1) := by decide +kernel
theorem dX8_join_120 : decode cX8_join 120 = .ok (.imul, 1) := by decide +kernel
theorem dX8_join_121 : decode cX8_join 121 = .ok (.istore 7, 2) := by decide +kernel
theorem dX8_join_123 : decode cX8_join 123 = .ok (.iconst 0, 1) := by decide +kernel
theorem dX8_join_124 : decode cX8_join 124 = .ok (.istore 8, 2) := by decide +kernel
theorem dX8_join_126 : decode cX8_join 126 = .ok (.iload 8, 2) := by decide +kernel
theorem dX8_join_128 : decode cX8_join 128 = .ok (.iconst 4, 1) := by decide +kernel
theorem dX8_join_129 : decode cX8_join 129 = .ok (.if_icmp .ge 58, 3) := by decide +kernel
theorem dX8_join_132 : decode cX8_join 132 = .ok (.aload_n 0, 1) := by decide +kernel
theorem dX8_join_133 : decode cX8_join 133 = .ok (.getfield 8, 3) := by decide +kernel
theorem dX8_join_136 : decode cX8_join 136 = .ok (.bipush 6, 2) := by decide +kernel
theorem dX8_join_138 : decode cX8_join 138 = .ok (.iload 8, 2) := by decide +kernel
theorem dX8_join_140 : decode cX8_join 140 = .ok (.iadd, 1) := by decide +kernel
theorem dX8_join_141 : decode cX8_join 141 = .ok (.iaload, 1) := by decide +kernel
theorem dX8_join_142 : decode cX8_join 142 = .ok (.iload_n 3, 1) := by decide +kernel
theorem dX8_join_143 : decode cX8_join 143 = .ok (.if_icmp .eq 18, 3) := by decide +kernel
theorem dX8_join_146 : decode cX8_join 146 = .ok (.aload_n 0, 1) := by decide +kernel
theorem dX8_join_147 : decode cX8_join 147 = .ok (.getfield 8, 3) := by decide +kernel
theorem dX8_join_150 : decode cX8_join 150 = .ok (.bipush 6, 2) := by decide +kernel
theorem dX8_join_152 : decode cX8_join 152 = .ok (.iload 8, 2) := by decide +kernel
theorem dX8_join_154 : decode cX8_join 154 = .ok (.iadd, 1) := by decide +kernel
theorem dX8_join_155 : decode cX8_join 155 = .ok (.iaload, 1) := by decide +kernel
theorem dX8_join_156 : decode cX8_join 156 = .ok (.iload 4, 2) := by decide +kernel
theorem dX8_join_158 : decode cX8_join 158 = .ok (.if_icmp .ne 23, 3) := by decide +kernel
theorem dX8_join_161 : decode cX8_join 161 = .ok (.aload_n 0, 1) := by decide +kernel
theorem dX8_join_162 : decode cX8_join 162 = .ok (.getfield 8, 3) := by decide +kernel
theorem dX8_join_165 : decode cX8_join 165 = .ok (.sipush 1130, 3) := by decide +kernel
theorem dX8_join_168 : decode cX8_join 168 = .ok (.sipush 4096, 3) := by decide +kernel
theorem dX8_join_171 : decode cX8_join 171 = .ok (.iload 8, 2) := by decide +kernel
theorem dX8_join_173 : decode cX8_join 173 = .ok (.imul, 1) := by decide +kernel
theorem dX8_join_174 : decode cX8_join 174 = .ok (.iadd, 1) := by decide +kernel
theorem dX8_join_175 : decode cX8_join 175 = .ok (.iload 6, 2) := by decide +kernel
theorem dX8_join_177 : decode cX8_join 177 = .ok (.iadd, 1) := by decide +kernel
theorem dX8_join_178 : decode cX8_join 178 = .ok (.iload 7, 2) := by decide +kernel
theorem dX8_join_180 : decode cX8_join 180 = .ok (.iastore, 1) := by decide +kernel
theorem dX8_join_181 : decode cX8_join 181 = .ok (.iinc 8 1, 3) := by decide +kernel
theorem dX8_join_184 : decode cX8_join 184 = .ok (.goto (-58), 3) := by decide +kernel
theorem dX8_join_187 : decode cX8_join 187 = .ok (.iinc 6 1, 3) := by decide +kernel
theorem dX8_join_190 : decode cX8_join 190 = .ok (.goto (-115), 3) := by decide +kernel
theorem dX8_join_193 : decode cX8_join 193 = .ok (.iconst 0, 1) := by decide +kernel
theorem dX8_join_194 : decode cX8_join 194 = .ok (.istore 6, 2) := by decide +kernel
theorem dX8_join_196 : decode cX8_join 196 = .ok (.iload 6, 2) := by decide +kernel
theorem dX8_join_198 : decode cX8_join 198 = .ok (.iconst 4, 1) := by decide +kernel
theorem dX8_join_199 : decode cX8_join 199 = .ok (.if_icmp .ge 50, 3) := by decide +kernel
theorem dX8_join_202 : decode cX8_join 202 = .ok (.aload_n 0, 1) := by decide +kernel
theorem dX8_join_203 : decode cX8_join 203 = .ok (.getfield 8, 3) := by decide +kernel
theorem dX8_join_206 : decode cX8_join 206 = .ok (.bipush 6, 2) := by decide +kernel
theorem dX8_join_208 : decode cX8_join 208 = .ok (.iload 6, 2) := by decide +kernel
theorem dX8_join_210 : decode cX8_join 210 = .ok (.iadd, 1) := by decide +kernel
theorem dX8_join_211 : decode cX8_join 211 = .ok (.iaload, 1) := by decide +kernel
theorem dX8_join_212 : decode cX8_join 212 = .ok (.iload_n 3, 1) := by decide +kernel
theorem dX8_join_213 : decode cX8_join 213 = .ok (.if_icmp .eq 18, 3) := by decide +kernel
theorem dX8_join_216 : decode cX8_join 216 = .ok (.aload_n 0, 1) := by decide +kernel
theorem dX8_join_217 : decode cX8_join 217 = .ok (.getfield 8, 3) := by decide +kernel
theorem dX8_join_220 : decode cX8_join 220 = .ok (.bipush 6, 2) := by decide +kernel
theorem dX8_join_222 : decode cX8_join 222 = .ok (.iload 6, 2) := by decide +kernel
theorem dX8_join_224 : decode cX8_join 224 = .ok (.iadd, 1) := by decide +kernel
theorem dX8_join_225 : decode cX8_join 225 = .ok (.iaload, 1) := by decide +kernel
theorem dX8_join_226 : decode cX8_join 226 = .ok (.iload 4, 2) := by decide +kernel
theorem dX8_join_228 : decode cX8_join 228 = .ok (.if_icmp .ne 15, 3) := by decide +kernel
theorem dX8_join_231 : decode cX8_join 231 = .ok (.aload_n 0, 1) := by decide +kernel
theorem dX8_join_232 : decode cX8_join 232 = .ok (.getfield 8, 3) := by decide +kernel
theorem dX8_join_235 : decode cX8_join 235 = .ok (.bipush 6, 2) := by decide +kernel
theorem dX8_join_237 : decode cX8_join 237 = .ok (.iload 6, 2) := by decide +kernel
theorem dX8_join_239 : decode cX8_join 239 = .ok (.iadd, 1) := by decide +kernel
theorem dX8_join_240 : decode cX8_join 240 = .ok (.iload 5, 2) := by decide +kernel
theorem dX8_join_242 : decode cX8_join 242 = .ok (.iastore, 1) := by decide +kernel
theorem dX8_join_243 : decode cX8_join 243 = .ok (.iinc 6 1, 3) := by decide +kernel
theorem dX8_join_246 : decode cX8_join 246 = .ok (.goto (-50), 3) := by decide +kernel
theorem dX8_join_249 : decode cX8_join 249 = .ok (.iconst 1, 1) := by decide +kernel
theorem dX8_join_250 : decode cX8_join 250 = .ok (.ireturn, 1) := by decide +kernel
theorem dX8_knows_0 : decode cX8_knows 0 = .ok (.iload_n 1, 1) := by decide +kernel
theorem dX8_knows_1 : decode cX8_knows 1 = .ok (.invokestatic 106, 3) := by decide +kernel
theorem dX8_knows_4 : decode cX8_knows 4 = .ok (.ifCond .eq 20, 3) := by decide +kernel
theorem dX8_knows_7 : decode cX8_knows 7 = .ok (.aload_n 0, 1) := by decide +kernel
theorem dX8_knows_8 : decode cX8_knows 8 = .ok (.iload_n 2, 1) := by decide +kernel
theorem dX8_knows_9 : decode cX8_knows 9 = .ok (.invokevirtual 125, 3) := by decide +kernel
theorem dX8_knows_12 : decode cX8_knows 12 = .ok (.ifCond .eq 12, 3) := by decide +kernel
theorem dX8_knows_15 : decode cX8_knows 15 = .ok (.iload_n 3, 1) := by decide +kernel
theorem dX8_knows_16 : decode cX8_knows 16 = .ok (.iconst 0, 1) := by decide +kernel
theorem dX8_knows_17 : decode cX8_knows 17 = .ok (.iconst 3, 1) := by decide +kernel
theorem dX8_knows_18 : decode cX8_knows 18 = .ok (.invokestatic 40, 3) := by decide +kernel
theorem dX8_knows_21 : decode cX8_knows 21 = .ok (.ifCond .ne 5, 3) := by decide +kernel
theorem dX8_knows_24 : decode cX8_knows 24 = .ok (.iconst (-1), 1) := by decide +kernel
theorem dX8_knows_25 : decode cX8_knows 25 = .ok (.ireturn, 1) := by decide +kernel
theorem dX8_knows_26 : decode cX8_knows 26 = .ok (.iconst 0, 1) := by decide +kernel
theorem dX8_knows_27 : decode cX8_knows 27 = .ok (.istore 4, 2) := by decide +kernel
theorem dX8_knows_29 : decode cX8_knows 29 = .ok (.iconst 0, 1) := by decide +kernel
theorem dX8_knows_30 : decode cX8_knows 30 = .ok (.istore 5, 2) := by decide +kernel
theorem dX8_knows_32 : decode cX8_knows 32 = .ok (.iload 5, 2) := by decide +kernel
theorem dX8_knows_34 : decode cX8_knows 34 = .ok (.aload_n 0, 1) := by decide +kernel
theorem dX8_knows_35 : decode cX8_knows 35 = .ok (.getfield 8, 3) := by decide +kernel
theorem dX8_knows_38 : decode cX8_knows 38 = .ok (.iconst 2, 1) := by decide +kernel
theorem dX8_knows_39 : decode cX8_knows 39 = .ok (.iaload, 1) := by decide +kernel
theorem dX8_knows_40 : decode cX8_knows 40 = .ok (.if_icmp .ge 33, 3) := by decide +kernel
theorem dX8_knows_43 : decode cX8_knows 43 = .ok (.aload_n 0, 1) := by decide +kernel
theorem dX8_knows_44 : decode cX8_knows 44 = .ok (.iload_n 1, 1) := by decide +kernel
theorem dX8_knows_45 : decode cX8_knows 45 = .ok (.iload 5, 2) := by decide +kernel
theorem dX8_knows_47 : decode cX8_knows 47 = .ok (.invokevirtual 93, 3) := by decide +kernel
theorem dX8_knows_50 : decode cX8_knows 50 = .ok (.ifCond .eq 17, 3) := by decide +kernel
theorem dX8_knows_53 : decode cX8_knows 53 = .ok (.iload 4, 2) := by decide +kernel
theorem dX8_knows_55 : decode cX8_knows 55 = .ok (.iconst 1, 1) := by decide +kernel
theorem dX8_knows_56 : decode cX8_knows 56 = .ok (.aload_n 0, 1) := by decide +kernel
theorem dX8_knows_57 : decode cX8_knows 57 = .ok (.iload 5, 2) := by decide +kernel
theorem dX8_knows_59 : decode cX8_knows 59 = .ok (.iload_n 2, 1) := by decide +kernel
theorem dX8_knows_60 : decode cX8_knows 60 = .ok (.invokevirtual 80, 3) := by decide +kernel
theorem dX8_knows_63 : decode cX8_knows 63 = .ok (.ishl, 1) := by decide +kernel
theorem dX8_knows_64 : decode cX8_knows 64 = .ok (.ior, 1) := by decide +kernel
theorem dX8_knows_65 : decode cX8_knows 65 = .ok (.istore 4, 2) := by decide +kernel
theorem dX8_knows_67 : decode cX8_knows 67 = .ok (.iinc 5 1, 3) := by decide +kernel
theorem dX8_knows_70 : decode cX8_knows 70 = .ok (.goto (-38), 3) := by decide +kernel
theorem dX8_knows_73 : decode cX8_knows 73 = .ok (.iconst (-1), 1) := by decide +kernel
theorem dX8_knows_74 : decode cX8_knows 74 = .ok (.istore 5, 2) := by decide +kernel
theorem dX8_knows_76 : decode cX8_knows 76 = .ok (.iconst (-1), 1) := by decide +kernel
theorem dX8_knows_77 : decode cX8_knows 77 = .ok (.istore 6, 2) := by decide +kernel
theorem dX8_knows_79 : decode cX8_knows 79 = .ok (.iconst 0, 1) := by decide +kernel
theorem dX8_knows_80 : decode cX8_knows 80 = .ok (.istore 7, 2) := by decide +kernel
theorem dX8_knows_82 : decode cX8_knows 82 = .ok (.iconst 0, 1) := by decide +kernel
theorem dX8_knows_83 : decode cX8_knows 83 = .ok (.istore 8, 2) := by decide +kernel
theorem dX8_knows_85 : decode cX8_knows 85 = .ok (.iload 8, 2) := by decide +kernel
theorem dX8_knows_87 : decode cX8_knows 87 = .ok (.bipush 21, 2) := by decide +kernel
theorem dX8_knows_89 : decode cX8_knows 89 = .ok (.if_icmp .ge 43, 3) := by decide +kernel
theorem dX8_knows_92 : decode cX8_knows 92 = .ok (.iload 4, 2) := by decide +kernel
theorem dX8_knows_94 : decode cX8_knows 94 = .ok (.iload 8, 2) := by decide +kernel
theorem dX8_knows_96 : decode cX8_knows 96 = .ok (.ishr, 1) := by decide +kernel
theorem dX8_knows_97 : decode cX8_knows 97 = .ok (.iconst 1, 1) := by decide +kernel
theorem dX8_knows_98 : decode cX8_knows 98 = .ok (.iand, 1) := by decide +kernel
theorem dX8_knows_99 : decode cX8_knows 99 = .ok (.ifCond .ne 6, 3) := by decide +kernel
theorem dX8_knows_102 : decode cX8_knows 102 = .ok (.goto 24, 3) := by decide +kernel
theorem dX8_knows_105 : decode cX8_knows 105 = .ok (.iload 5, 2) := by decide +kernel
theorem dX8_knows_107 : decode cX8_knows 107 = .ok (.ifCond .ge 8, 3) := by decide +kernel
theorem dX8_knows_110 : decode cX8_knows 110 = .ok (.iload 8, 2) := by decide +kernel
theorem dX8_knows_112 : decode cX8_knows 112 = .ok (.goto 5, 3) := by decide +kernel
theorem dX8_knows_115 : decode cX8_knows 115 = .ok (.iload 5, 2) := by decide +kernel
theorem dX8_knows_117 : decode cX8_knows 117 = .ok (.istore 5, 2) := by decide +kernel
theorem dX8_knows_119 : decode cX8_knows 119 = .ok (.iload 8, 2) := by decide +kernel
theorem dX8_knows_121 : decode cX8_knows 121 = .ok (.istore 6, 2) := by decide +kernel
theorem dX8_knows_123 : decode cX8_knows 123 = .ok (.iinc 7 1, 3) := by decide +kernel
theorem dX8_knows_126 : decode cX8_knows 126 = .ok (.iinc 8 1, 3) := by decide +kernel
theorem dX8_knows_129 : decode cX8_knows 129 = .ok (.goto (-44), 3) := by decide +kernel
theorem dX8_knows_132 : decode cX8_knows 132 = .ok (.iload_n 3, 1) := by decide +kernel
theorem dX8_knows_133 : decode cX8_knows 133 = .ok (.ifCond .ne 8, 3) := by decide +kernel
theorem dX8_knows_136 : decode cX8_knows 136 = .ok (.iload 5, 2) := by decide +kernel
theorem dX8_knows_138 : decode cX8_knows 138 = .ok (.goto 30, 3) := by decide +kernel
theorem dX8_knows_141 : decode cX8_knows 141 = .ok (.iload_n 3, 1) := by decide +kernel
theorem dX8_knows_142 : decode cX8_knows 142 = .ok (.iconst 1, 1) := by decide +kernel
theorem dX8_knows_143 : decode cX8_knows 143 = .ok (.if_icmp .ne 8, 3) := by decide +kernel
theorem dX8_knows_146 : decode cX8_knows 146 = .ok (.iload 6, 2) := by decide +kernel
theorem dX8_knows_148 : decode cX8_knows 148 = .ok (.goto 20, 3) := by decide +kernel
theorem dX8_knows_151 : decode cX8_knows 151 = .ok (.iload_n 3, 1) := by decide +kernel
theorem dX8_knows_152 : decode cX8_knows 152 = .ok (.iconst 2, 1) := by decide +kernel
theorem dX8_knows_153 : decode cX8_knows 153 = .ok (.if_icmp .ne 8, 3) := by decide +kernel
theorem dX8_knows_156 : decode cX8_knows 156 = .ok (.iload 7, 2) := by decide +kernel
theorem dX8_knows_158 : decode cX8_knows 158 = .ok (.goto 10, 3) := by decide +kernel
theorem dX8_knows_161 : decode cX8_knows 161 = .ok (.iload 6, 2) := by decide +kernel
theorem dX8_knows_163 : decode cX8_knows 163 = .ok (.iload 5, 2) := by decide +kernel
theorem dX8_knows_165 : decode cX8_knows 165 = .ok (.isub, 1) := by decide +kernel
theorem dX8_knows_166 : decode cX8_knows 166 = .ok (.iconst 1, 1) := by decide +kernel
theorem dX8_knows_167 : decode cX8_knows 167 = .ok (.iadd, 1) := by decide +kernel
theorem dX8_knows_168 : decode cX8_knows 168 = .ok (.ireturn, 1) := by decide +kernel
theorem dX8_tables_0 : decode cX8_tables 0 = .ok (.iload_n 1, 1) := by decide +kernel
theorem dX8_tables_1 : decode cX8_tables 1 = .ok (.invokestatic 106, 3) := by decide +kernel
theorem dX8_tables_4 : decode cX8_tables 4 = .ok (.ifCond .ne 5, 3) := by decide +kernel
theorem dX8_tables_7 : decode cX8_tables 7 = .ok (.iconst (-1), 1) := by decide +kernel
theorem dX8_tables_8 : decode cX8_tables 8 = .ok (.ireturn, 1) := by decide +kernel
theorem dX8_tables_9 : decode cX8_tables 9 = .ok (.iconst 0, 1) := by decide +kernel
theorem dX8_tables_10 : decode cX8_tables 10 = .ok (.istore_n 2, 1) := by decide +kernel
theorem dX8_tables_11 : decode cX8_tables 11 = .ok (.iconst 0, 1) := by decide +kernel
theorem dX8_tables_12 : decode cX8_tables 12 = .ok (.istore_n 3, 1) := by decide +kernel
theorem dX8_tables_13 : decode cX8_tables 13 = .ok (.iload_n 3, 1) := by decide +kernel
theorem dX8_tables_14 : decode cX8_tables 14 = .ok (.aload_n 0, 1) := by decide +kernel
theorem dX8_tables_15 : decode cX8_tables 15 = .ok (.getfield 8, 3) := by decide +kernel
theorem dX8_tables_18 : decode cX8_tables 18 = .ok (.iconst 2, 1) := by decide +kernel
theorem dX8_tables_19 : decode cX8_tables 19 = .ok (.iaload, 1) := by decide +kernel
theorem dX8_tables_20 : decode cX8_tables 20 = .ok (.if_icmp .ge 28, 3) := by decide +kernel
theorem dX8_tables_23 : decode cX8_tables 23 = .ok (.iload_n 2, 1) := by decide +kernel
theorem dX8_tables_24 : decode cX8_tables 24 = .ok (.aload_n 0, 1) := by decide +kernel
theorem dX8_tables_25 : decode cX8_tables 25 = .ok (.getfield 8, 3) := by decide +kernel
theorem dX8_tables_28 : decode cX8_tables 28 = .ok (.sipush 1130, 3) := by decide +kernel
theorem dX8_tables_31 : decode cX8_tables 31 = .ok (.sipush 4096, 3) := by decide +kernel
theorem dX8_tables_34 : decode cX8_tables 34 = .ok (.iload_n 1, 1) := by decide +kernel
theorem dX8_tables_35 : decode cX8_tables 35 = .ok (.imul, 1) := by decide +kernel
theorem dX8_tables_36 : decode cX8_tables 36 = .ok (.iadd, 1) := by decide +kernel
theorem dX8_tables_37 : decode cX8_tables 37 = .ok (.iload_n 3, 1) := by decide +kernel
theorem dX8_tables_38 : decode cX8_tables 38 = .ok (.iadd, 1) := by decide +kernel
theorem dX8_tables_39 : decode cX8_tables 39 = .ok (.iaload, 1) := by decide +kernel
theorem dX8_tables_40 : decode cX8_tables 40 = .ok (.iadd, 1) := by decide +kernel
theorem dX8_tables_41 : decode cX8_tables 41 = .ok (.istore_n 2, 1) := by decide +kernel
theorem dX8_tables_42 : decode cX8_tables 42 = .ok (.iinc 3 1, 3) := by decide +kernel
theorem dX8_tables_45 : decode cX8_tables 45 = .ok (.goto (-32), 3) := by decide +kernel
theorem dX8_tables_48 : decode cX8_tables 48 = .ok (.iload_n 2, 1) := by decide +kernel
theorem dX8_tables_49 : decode cX8_tables 49 = .ok (.ireturn, 1) := by decide +kernel
theorem dX8_broken_0 : decode cX8_broken 0 = .ok (.iload_n 1, 1) := by decide +kernel
theorem dX8_broken_1 : decode cX8_broken 1 = .ok (.invokestatic 106, 3) := by decide +kernel
theorem dX8_broken_4 : decode cX8_broken 4 = .ok (.ifCond .ne 5, 3) := by decide +kernel
theorem dX8_broken_7 : decode cX8_broken 7 = .ok (.iconst 0, 1) := by decide +kernel
theorem dX8_broken_8 : decode cX8_broken 8 = .ok (.ireturn, 1) := by decide +kernel
theorem dX8_broken_9 : decode cX8_broken 9 = .ok (.aload_n 0, 1) := by decide +kernel
theorem dX8_broken_10 : decode cX8_broken 10 = .ok (.invokevirtual 90, 3) := by decide +kernel
theorem dX8_broken_13 : decode cX8_broken 13 = .ok (.iconst 0, 1) := by decide +kernel
theorem dX8_broken_14 : decode cX8_broken 14 = .ok (.istore_n 2, 1) := by decide +kernel
theorem dX8_broken_15 : decode cX8_broken 15 = .ok (.iload_n 2, 1) := by decide +kernel
theorem dX8_broken_16 : decode cX8_broken 16 = .ok (.aload_n 0, 1) := by decide +kernel
theorem dX8_broken_17 : decode cX8_broken 17 = .ok (.getfield 8, 3) := by decide +kernel
theorem dX8_broken_20 : decode cX8_broken 20 = .ok (.iconst 2, 1) := by decide +kernel
theorem dX8_broken_21 : decode cX8_broken 21 = .ok (.iaload, 1) := by decide +kernel
theorem dX8_broken_22 : decode cX8_broken 22 = .ok (.if_icmp .ge 24, 3) := by decide +kernel
theorem dX8_broken_25 : decode cX8_broken 25 = .ok (.aload_n 0, 1) := by decide +kernel
theorem dX8_broken_26 : decode cX8_broken 26 = .ok (.iload_n 1, 1) := by decide +kernel
theorem dX8_broken_27 : decode cX8_broken 27 = .ok (.iload_n 2, 1) := by decide +kernel
theorem dX8_broken_28 : decode cX8_broken 28 = .ok (.invokevirtual 93, 3) := by decide +kernel
theorem dX8_broken_31 : decode cX8_broken 31 = .ok (.ifCond .eq 9, 3) := by decide +kernel
theorem dX8_broken_34 : decode cX8_broken 34 = .ok (.aload_n 0, 1) := by decide +kernel
theorem dX8_broken_35 : decode cX8_broken 35 = .ok (.iconst 0, 1) := by decide +kernel
theorem dX8_broken_36 : decode cX8_broken 36 = .ok (.iload_n 2, 1) := by decide +kernel
theorem dX8_broken_37 : decode cX8_broken 37 = .ok (.invokevirtual 100, 3) := by decide +kernel
theorem dX8_broken_40 : decode cX8_broken 40 = .ok (.iinc 2 1, 3) := by decide +kernel
theorem dX8_broken_43 : decode cX8_broken 43 = .ok (.goto (-28), 3) := by decide +kernel
theorem dX8_broken_46 : decode cX8_broken 46 = .ok (.aload_n 0, 1) := by decide +kernel
theorem dX8_broken_47 : decode cX8_broken 47 = .ok (.iconst 0, 1) := by decide +kernel
theorem dX8_broken_48 : decode cX8_broken 48 = .ok (.invokevirtual 103, 3) := by decide +kernel
theorem dX8_broken_51 : decode cX8_broken 51 = .ok (.ireturn, 1) := by decide +kernel
theorem dX8_tell_0 : decode cX8_tell 0 = .ok (.iload_n 2, 1) := by decide +kernel
theorem dX8_tell_1 : decode cX8_tell 1 = .ok (.ifCond .ne 25, 3) := by decide +kernel
theorem dX8_tell_4 : decode cX8_tell 4 = .ok (.aload_n 0, 1) := by decide +kernel
theorem dX8_tell_5 : decode cX8_tell 5 = .ok (.iload_n 1, 1) := by decide +kernel
theorem dX8_tell_6 : decode cX8_tell 6 = .ok (.invokevirtual 60, 3) := by decide +kernel
theorem dX8_tell_9 : decode cX8_tell 9 = .ok (.ifCond .eq 15, 3) := by decide +kernel
theorem dX8_tell_12 : decode cX8_tell 12 = .ok (.aload_n 0, 1) := by decide +kernel
theorem dX8_tell_13 : decode cX8_tell 13 = .ok (.getfield 8, 3) := by decide +kernel
theorem dX8_tell_16 : decode cX8_tell 16 = .ok (.bipush 10, 2) := by decide +kernel
theorem dX8_tell_18 : decode cX8_tell 18 = .ok (.iload_n 1, 1) := by decide +kernel
theorem dX8_tell_19 : decode cX8_tell 19 = .ok (.iadd, 1) := by decide +kernel
theorem dX8_tell_20 : decode cX8_tell 20 = .ok (.iaload, 1) := by decide +kernel
theorem dX8_tell_21 : decode cX8_tell 21 = .ok (.goto 4, 3) := by decide +kernel
theorem dX8_tell_24 : decode cX8_tell 24 = .ok (.iconst (-1), 1) := by decide +kernel
theorem dX8_tell_25 : decode cX8_tell 25 = .ok (.ireturn, 1) := by decide +kernel
theorem dX8_tell_26 : decode cX8_tell 26 = .ok (.aload_n 0, 1) := by decide +kernel
theorem dX8_tell_27 : decode cX8_tell 27 = .ok (.iload_n 1, 1) := by decide +kernel
theorem dX8_tell_28 : decode cX8_tell 28 = .ok (.invokevirtual 125, 3) := by decide +kernel
theorem dX8_tell_31 : decode cX8_tell 31 = .ok (.ifCond .ne 5, 3) := by decide +kernel
theorem dX8_tell_34 : decode cX8_tell 34 = .ok (.iconst (-1), 1) := by decide +kernel
theorem dX8_tell_35 : decode cX8_tell 35 = .ok (.ireturn, 1) := by decide +kernel
theorem dX8_tell_36 : decode cX8_tell 36 = .ok (.iload_n 2, 1) := by decide +kernel
theorem dX8_tell_37 : decode cX8_tell 37 = .ok (.tableswitch 98 1 6 #[39, 46, 53, 60, 67, 91], 39) := by decide +kernel
theorem dX8_tell_76 : decode cX8_tell 76 = .ok (.aload_n 0, 1) := by decide +kernel
theorem dX8_tell_77 : decode cX8_tell 77 = .ok (.iload_n 1, 1) := by decide +kernel
theorem dX8_tell_78 : decode cX8_tell 78 = .ok (.iconst 0, 1) := by decide +kernel
theorem dX8_tell_79 : decode cX8_tell 79 = .ok (.invokevirtual 44, 3) := by decide +kernel
theorem dX8_tell_82 : decode cX8_tell 82 = .ok (.ireturn, 1) := by decide +kernel
theorem dX8_tell_83 : decode cX8_tell 83 = .ok (.aload_n 0, 1) := by decide +kernel
theorem dX8_tell_84 : decode cX8_tell 84 = .ok (.iload_n 1, 1) := by decide +kernel
theorem dX8_tell_85 : decode cX8_tell 85 = .ok (.iconst 1, 1) := by decide +kernel
theorem dX8_tell_86 : decode cX8_tell 86 = .ok (.invokevirtual 44, 3) := by decide +kernel
theorem dX8_tell_89 : decode cX8_tell 89 = .ok (.ireturn, 1) := by decide +kernel
theorem dX8_tell_90 : decode cX8_tell 90 = .ok (.aload_n 0, 1) := by decide +kernel
theorem dX8_tell_91 : decode cX8_tell 91 = .ok (.iload_n 1, 1) := by decide +kernel
theorem dX8_tell_92 : decode cX8_tell 92 = .ok (.iconst 2, 1) := by decide +kernel
theorem dX8_tell_93 : decode cX8_tell 93 = .ok (.invokevirtual 44, 3) := by decide +kernel
theorem dX8_tell_96 : decode cX8_tell 96 = .ok (.ireturn, 1) := by decide +kernel
theorem dX8_tell_97 : decode cX8_tell 97 = .ok (.aload_n 0, 1) := by decide +kernel
theorem dX8_tell_98 : decode cX8_tell 98 = .ok (.iload_n 1, 1) := by decide +kernel
theorem dX8_tell_99 : decode cX8_tell 99 = .ok (.iconst 3, 1) := by decide +kernel
theorem dX8_tell_100 : decode cX8_tell 100 = .ok (.invokevirtual 44, 3) := by decide +kernel
theorem dX8_tell_103 : decode cX8_tell 103 = .ok (.ireturn, 1) := by decide +kernel
theorem dX8_tell_104 : decode cX8_tell 104 = .ok (.aload_n 0, 1) := by decide +kernel
theorem dX8_tell_105 : decode cX8_tell 105 = .ok (.getfield 8, 3) := by decide +kernel
theorem dX8_tell_108 : decode cX8_tell 108 = .ok (.bipush 10, 2) := by decide +kernel
theorem dX8_tell_110 : decode cX8_tell 110 = .ok (.aload_n 0, 1) := by decide +kernel
theorem dX8_tell_111 : decode cX8_tell 111 = .ok (.iload_n 1, 1) := by decide +kernel
theorem dX8_tell_112 : decode cX8_tell 112 = .ok (.iconst 0, 1) := by decide +kernel
theorem dX8_tell_113 : decode cX8_tell 113 = .ok (.invokevirtual 44, 3) := by decide +kernel
theorem dX8_tell_116 : decode cX8_tell 116 = .ok (.iadd, 1) := by decide +kernel
theorem dX8_tell_117 : decode cX8_tell 117 = .ok (.iaload, 1) := by decide +kernel
theorem dX8_tell_118 : decode cX8_tell 118 = .ok (.iload_n 1, 1) := by decide +kernel
theorem dX8_tell_119 : decode cX8_tell 119 = .ok (.if_icmp .ne 7, 3) := by decide +kernel
theorem dX8_tell_122 : decode cX8_tell 122 = .ok (.iconst 1, 1) := by decide +kernel
theorem dX8_tell_123 : decode cX8_tell 123 = .ok (.goto 4, 3) := by decide +kernel
theorem dX8_tell_126 : decode cX8_tell 126 = .ok (.iconst 0, 1) := by decide +kernel
theorem dX8_tell_127 : decode cX8_tell 127 = .ok (.ireturn, 1) := by decide +kernel
theorem dX8_tell_128 : decode cX8_tell 128 = .ok (.aload_n 0, 1) := by decide +kernel
theorem dX8_tell_129 : decode cX8_tell 129 = .ok (.iload_n 1, 1) := by decide +kernel
theorem dX8_tell_130 : decode cX8_tell 130 = .ok (.iconst 4, 1) := by decide +kernel
theorem dX8_tell_131 : decode cX8_tell 131 = .ok (.invokevirtual 44, 3) := by decide +kernel
theorem dX8_tell_134 : decode cX8_tell 134 = .ok (.ireturn, 1) := by decide +kernel
theorem dX8_tell_135 : decode cX8_tell 135 = .ok (.iconst (-1), 1) := by decide +kernel
theorem dX8_tell_136 : decode cX8_tell 136 = .ok (.ireturn, 1) := by decide +kernel
theorem dX8_asked_0 : decode cX8_asked 0 = .ok (.iload_n 1, 1) := by decide +kernel
theorem dX8_asked_1 : decode cX8_asked 1 = .ok (.iconst 0, 1) := by decide +kernel
theorem dX8_asked_2 : decode cX8_asked 2 = .ok (.aload_n 0, 1) := by decide +kernel
theorem dX8_asked_3 : decode cX8_asked 3 = .ok (.getfield 8, 3) := by decide +kernel
theorem dX8_asked_6 : decode cX8_asked 6 = .ok (.iconst 3, 1) := by decide +kernel
theorem dX8_asked_7 : decode cX8_asked 7 = .ok (.iaload, 1) := by decide +kernel
theorem dX8_asked_8 : decode cX8_asked 8 = .ok (.iconst 1, 1) := by decide +kernel
theorem dX8_asked_9 : decode cX8_asked 9 = .ok (.isub, 1) := by decide +kernel
theorem dX8_asked_10 : decode cX8_asked 10 = .ok (.invokestatic 40, 3) := by decide +kernel
theorem dX8_asked_13 : decode cX8_asked 13 = .ok (.ifCond .eq 28, 3) := by decide +kernel
theorem dX8_asked_16 : decode cX8_asked 16 = .ok (.iload_n 2, 1) := by decide +kernel
theorem dX8_asked_17 : decode cX8_asked 17 = .ok (.iconst 0, 1) := by decide +kernel
theorem dX8_asked_18 : decode cX8_asked 18 = .ok (.iconst 4, 1) := by decide +kernel
theorem dX8_asked_19 : decode cX8_asked 19 = .ok (.invokestatic 40, 3) := by decide +kernel
theorem dX8_asked_22 : decode cX8_asked 22 = .ok (.ifCond .eq 19, 3) := by decide +kernel
theorem dX8_asked_25 : decode cX8_asked 25 = .ok (.aload_n 0, 1) := by decide +kernel
theorem dX8_asked_26 : decode cX8_asked 26 = .ok (.getfield 8, 3) := by decide +kernel
theorem dX8_asked_29 : decode cX8_asked 29 = .ok (.bipush 100, 2) := by decide +kernel
theorem dX8_asked_31 : decode cX8_asked 31 = .ok (.iconst 5, 1) := by decide +kernel
theorem dX8_asked_32 : decode cX8_asked 32 = .ok (.iload_n 1, 1) := by decide +kernel
theorem dX8_asked_33 : decode cX8_asked 33 = .ok (.imul, 1) := by decide +kernel
theorem dX8_asked_34 : decode cX8_asked 34 = .ok (.iadd, 1) := by decide +kernel
theorem dX8_asked_35 : decode cX8_asked 35 = .ok (.iload_n 2, 1) := by decide +kernel
theorem dX8_asked_36 : decode cX8_asked 36 = .ok (.iadd, 1) := by decide +kernel
theorem dX8_asked_37 : decode cX8_asked 37 = .ok (.iaload, 1) := by decide +kernel
theorem dX8_asked_38 : decode cX8_asked 38 = .ok (.goto 4, 3) := by decide +kernel
theorem dX8_asked_41 : decode cX8_asked 41 = .ok (.iconst (-1), 1) := by decide +kernel
theorem dX8_asked_42 : decode cX8_asked 42 = .ok (.ireturn, 1) := by decide +kernel
theorem dX8_wish_0 : decode cX8_wish 0 = .ok (.aload_n 0, 1) := by decide +kernel
theorem dX8_wish_1 : decode cX8_wish 1 = .ok (.getfield 8, 3) := by decide +kernel
theorem dX8_wish_4 : decode cX8_wish 4 = .ok (.iconst 5, 1) := by decide +kernel
theorem dX8_wish_5 : decode cX8_wish 5 = .ok (.iaload, 1) := by decide +kernel
theorem dX8_wish_6 : decode cX8_wish 6 = .ok (.bipush 8, 2) := by decide +kernel
theorem dX8_wish_8 : decode cX8_wish 8 = .ok (.if_icmp .eq 11, 3) := by decide +kernel
theorem dX8_wish_11 : decode cX8_wish 11 = .ok (.iload_n 1, 1) := by decide +kernel
theorem dX8_wish_12 : decode cX8_wish 12 = .ok (.iload_n 3, 1) := by decide +kernel
theorem dX8_wish_13 : decode cX8_wish 13 = .ok (.invokestatic 109, 3) := by decide +kernel
theorem dX8_wish_16 : decode cX8_wish 16 = .ok (.ifCond .ne 5, 3) := by decide +kernel
theorem dX8_wish_19 : decode cX8_wish 19 = .ok (.iconst (-1), 1) := by decide +kernel
theorem dX8_wish_20 : decode cX8_wish 20 = .ok (.ireturn, 1) := by decide +kernel
theorem dX8_wish_21 : decode cX8_wish 21 = .ok (.sipush 1100, 3) := by decide +kernel
theorem dX8_wish_24 : decode cX8_wish 24 = .ok (.iconst 3, 1) := by decide +kernel
theorem dX8_wish_25 : decode cX8_wish 25 = .ok (.aload_n 0, 1) := by decide +kernel
theorem dX8_wish_26 : decode cX8_wish 26 = .ok (.getfield 8, 3) := by decide +kernel
theorem dX8_wish_29 : decode cX8_wish 29 = .ok (.iconst 5, 1) := by decide +kernel
theorem dX8_wish_30 : decode cX8_wish 30 = .ok (.iaload, 1) := by decide +kernel
theorem dX8_wish_31 : decode cX8_wish 31 = .ok (.imul, 1) := by decide +kernel
theorem dX8_wish_32 : decode cX8_wish 32 = .ok (.iadd, 1) := by decide +kernel
theorem dX8_wish_33 : decode cX8_wish 33 = .ok (.istore 4, 2) := by decide +kernel
theorem dX8_wish_35 : decode cX8_wish 35 = .ok (.aload_n 0, 1) := by decide +kernel
theorem dX8_wish_36 : decode cX8_wish 36 = .ok (.getfield 8, 3) := by decide +kernel
theorem dX8_wish_39 : decode cX8_wish 39 = .ok (.iload 4, 2) := by decide +kernel
theorem dX8_wish_41 : decode cX8_wish 41 = .ok (.iload_n 1, 1) := by decide +kernel
theorem dX8_wish_42 : decode cX8_wish 42 = .ok (.iastore, 1) := by decide +kernel
theorem dX8_wish_43 : decode cX8_wish 43 = .ok (.aload_n 0, 1) := by decide +kernel
theorem dX8_wish_44 : decode cX8_wish 44 = .ok (.getfield 8, 3) := by decide +kernel
theorem dX8_wish_47 : decode cX8_wish 47 = .ok (.iload 4, 2) := by decide +kernel
theorem dX8_wish_49 : decode cX8_wish 49 = .ok (.iconst 1, 1) := by decide +kernel
theorem dX8_wish_50 : decode cX8_wish 50 = .ok (.iadd, 1) := by decide +kernel
theorem dX8_wish_51 : decode cX8_wish 51 = .ok (.aload_n 0, 1) := by decide +kernel
theorem dX8_wish_52 : decode cX8_wish 52 = .ok (.iload_n 2, 1) := by decide +kernel
theorem dX8_wish_53 : decode cX8_wish 53 = .ok (.invokevirtual 122, 3) := by decide +kernel
theorem dX8_wish_56 : decode cX8_wish 56 = .ok (.iastore, 1) := by decide +kernel
theorem dX8_wish_57 : decode cX8_wish 57 = .ok (.aload_n 0, 1) := by decide +kernel
theorem dX8_wish_58 : decode cX8_wish 58 = .ok (.getfield 8, 3) := by decide +kernel
theorem dX8_wish_61 : decode cX8_wish 61 = .ok (.iload 4, 2) := by decide +kernel
theorem dX8_wish_63 : decode cX8_wish 63 = .ok (.iconst 2, 1) := by decide +kernel
theorem dX8_wish_64 : decode cX8_wish 64 = .ok (.iadd, 1) := by decide +kernel
theorem dX8_wish_65 : decode cX8_wish 65 = .ok (.iload_n 3, 1) := by decide +kernel
theorem dX8_wish_66 : decode cX8_wish 66 = .ok (.iastore, 1) := by decide +kernel
theorem dX8_wish_67 : decode cX8_wish 67 = .ok (.aload_n 0, 1) := by decide +kernel
theorem dX8_wish_68 : decode cX8_wish 68 = .ok (.getfield 8, 3) := by decide +kernel
theorem dX8_wish_71 : decode cX8_wish 71 = .ok (.iconst 5, 1) := by decide +kernel
theorem dX8_wish_72 : decode cX8_wish 72 = .ok (.dup2, 1) := by decide +kernel
theorem dX8_wish_73 : decode cX8_wish 73 = .ok (.iaload, 1) := by decide +kernel
theorem dX8_wish_74 : decode cX8_wish 74 = .ok (.iconst 1, 1) := by decide +kernel
theorem dX8_wish_75 : decode cX8_wish 75 = .ok (.iadd, 1) := by decide +kernel
theorem dX8_wish_76 : decode cX8_wish 76 = .ok (.iastore, 1) := by decide +kernel
theorem dX8_wish_77 : decode cX8_wish 77 = .ok (.aload_n 0, 1) := by decide +kernel
theorem dX8_wish_78 : decode cX8_wish 78 = .ok (.getfield 8, 3) := by decide +kernel
theorem dX8_wish_81 : decode cX8_wish 81 = .ok (.iconst 5, 1) := by decide +kernel
theorem dX8_wish_82 : decode cX8_wish 82 = .ok (.iaload, 1) := by decide +kernel
theorem dX8_wish_83 : decode cX8_wish 83 = .ok (.iconst 1, 1) := by decide +kernel
theorem dX8_wish_84 : decode cX8_wish 84 = .ok (.isub, 1) := by decide +kernel
theorem dX8_wish_85 : decode cX8_wish 85 = .ok (.ireturn, 1) := by decide +kernel
theorem dX8_clear_0 : decode cX8_clear 0 = .ok (.aload_n 0, 1) := by decide +kernel
theorem dX8_clear_1 : decode cX8_clear 1 = .ok (.getfield 8, 3) := by decide +kernel
theorem dX8_clear_4 : decode cX8_clear 4 = .ok (.iconst 5, 1) := by decide +kernel
theorem dX8_clear_5 : decode cX8_clear 5 = .ok (.iconst 0, 1) := by decide +kernel
theorem dX8_clear_6 : decode cX8_clear 6 = .ok (.iastore, 1) := by decide +kernel
theorem dX8_clear_7 : decode cX8_clear 7 = .ok (.return_, 1) := by decide +kernel
theorem dX8_reckons_0 : decode cX8_reckons 0 = .ok (.aload_n 0, 1) := by decide +kernel
theorem dX8_reckons_1 : decode cX8_reckons 1 = .ok (.iconst 0, 1) := by decide +kernel
theorem dX8_reckons_2 : decode cX8_reckons 2 = .ok (.putfield 128, 3) := by decide +kernel
theorem dX8_reckons_5 : decode cX8_reckons 5 = .ok (.iconst 0, 1) := by decide +kernel
theorem dX8_reckons_6 : decode cX8_reckons 6 = .ok (.istore_n 2, 1) := by decide +kernel
theorem dX8_reckons_7 : decode cX8_reckons 7 = .ok (.iload_n 2, 1) := by decide +kernel
theorem dX8_reckons_8 : decode cX8_reckons 8 = .ok (.aload_n 0, 1) := by decide +kernel
theorem dX8_reckons_9 : decode cX8_reckons 9 = .ok (.getfield 8, 3) := by decide +kernel
theorem dX8_reckons_12 : decode cX8_reckons 12 = .ok (.iconst 2, 1) := by decide +kernel
theorem dX8_reckons_13 : decode cX8_reckons 13 = .ok (.iaload, 1) := by decide +kernel
theorem dX8_reckons_14 : decode cX8_reckons 14 = .ok (.if_icmp .ge 127, 3) := by decide +kernel
theorem dX8_reckons_17 : decode cX8_reckons 17 = .ok (.aload_n 0, 1) := by decide +kernel
theorem dX8_reckons_18 : decode cX8_reckons 18 = .ok (.iload_n 1, 1) := by decide +kernel
theorem dX8_reckons_19 : decode cX8_reckons 19 = .ok (.iload_n 2, 1) := by decide +kernel
theorem dX8_reckons_20 : decode cX8_reckons 20 = .ok (.invokevirtual 93, 3) := by decide +kernel
theorem dX8_reckons_23 : decode cX8_reckons 23 = .ok (.ifCond .ne 6, 3) := by decide +kernel
theorem dX8_reckons_26 : decode cX8_reckons 26 = .ok (.goto 109, 3) := by decide +kernel
theorem dX8_reckons_29 : decode cX8_reckons 29 = .ok (.lconst 0, 1) := by decide +kernel
theorem dX8_reckons_30 : decode cX8_reckons 30 = .ok (.lstore_n 3, 1) := by decide +kernel
theorem dX8_reckons_31 : decode cX8_reckons 31 = .ok (.iconst 0, 1) := by decide +kernel
theorem dX8_reckons_32 : decode cX8_reckons 32 = .ok (.istore 5, 2) := by decide +kernel
theorem dX8_reckons_34 : decode cX8_reckons 34 = .ok (.iload 5, 2) := by decide +kernel
theorem dX8_reckons_36 : decode cX8_reckons 36 = .ok (.aload_n 0, 1) := by decide +kernel
theorem dX8_reckons_37 : decode cX8_reckons 37 = .ok (.getfield 8, 3) := by decide +kernel
theorem dX8_reckons_40 : decode cX8_reckons 40 = .ok (.iconst 5, 1) := by decide +kernel
theorem dX8_reckons_41 : decode cX8_reckons 41 = .ok (.iaload, 1) := by decide +kernel
theorem dX8_reckons_42 : decode cX8_reckons 42 = .ok (.if_icmp .ge 63, 3) := by decide +kernel
theorem dX8_reckons_45 : decode cX8_reckons 45 = .ok (.sipush 1100, 3) := by decide +kernel
theorem dX8_reckons_48 : decode cX8_reckons 48 = .ok (.iconst 3, 1) := by decide +kernel
theorem dX8_reckons_49 : decode cX8_reckons 49 = .ok (.iload 5, 2) := by decide +kernel
theorem dX8_reckons_51 : decode cX8_reckons 51 = .ok (.imul, 1) := by decide +kernel
theorem dX8_reckons_52 : decode cX8_reckons 52 = .ok (.iadd, 1) := by decide +kernel
theorem dX8_reckons_53 : decode cX8_reckons 53 = .ok (.istore 6, 2) := by decide +kernel
theorem dX8_reckons_55 : decode cX8_reckons 55 = .ok (.lload_n 3, 1) := by decide +kernel
theorem dX8_reckons_56 : decode cX8_reckons 56 = .ok (.aload_n 0, 1) := by decide +kernel
theorem dX8_reckons_57 : decode cX8_reckons 57 = .ok (.iload_n 2, 1) := by decide +kernel
theorem dX8_reckons_58 : decode cX8_reckons 58 = .ok (.aload_n 0, 1) := by decide +kernel
theorem dX8_reckons_59 : decode cX8_reckons 59 = .ok (.getfield 8, 3) := by decide +kernel
theorem dX8_reckons_62 : decode cX8_reckons 62 = .ok (.iload 6, 2) := by decide +kernel
theorem dX8_reckons_64 : decode cX8_reckons 64 = .ok (.iaload, 1) := by decide +kernel
theorem dX8_reckons_65 : decode cX8_reckons 65 = .ok (.aload_n 0, 1) := by decide +kernel
theorem dX8_reckons_66 : decode cX8_reckons 66 = .ok (.aload_n 0, 1) := by decide +kernel
theorem dX8_reckons_67 : decode cX8_reckons 67 = .ok (.getfield 8, 3) := by decide +kernel
theorem dX8_reckons_70 : decode cX8_reckons 70 = .ok (.iload 6, 2) := by decide +kernel
theorem dX8_reckons_72 : decode cX8_reckons 72 = .ok (.iconst 1, 1) := by decide +kernel
theorem dX8_reckons_73 : decode cX8_reckons 73 = .ok (.iadd, 1) := by decide +kernel
theorem dX8_reckons_74 : decode cX8_reckons 74 = .ok (.iaload, 1) := by decide +kernel
theorem dX8_reckons_75 : decode cX8_reckons 75 = .ok (.invokevirtual 112, 3) := by decide +kernel
theorem dX8_reckons_78 : decode cX8_reckons 78 = .ok (.aload_n 0, 1) := by decide +kernel
theorem dX8_reckons_79 : decode cX8_reckons 79 = .ok (.getfield 8, 3) := by decide +kernel
theorem dX8_reckons_82 : decode cX8_reckons 82 = .ok (.iload 6, 2) := by decide +kernel
theorem dX8_reckons_84 : decode cX8_reckons 84 = .ok (.iconst 2, 1) := by decide +kernel
theorem dX8_reckons_85 : decode cX8_reckons 85 = .ok (.iadd, 1) := by decide +kernel
theorem dX8_reckons_86 : decode cX8_reckons 86 = .ok (.iaload, 1) := by decide +kernel
theorem dX8_reckons_87 : decode cX8_reckons 87 = .ok (.invokevirtual 96, 3) := by decide +kernel
theorem dX8_reckons_90 : decode cX8_reckons 90 = .ok (.i2l, 1) := by decide +kernel
theorem dX8_reckons_91 : decode cX8_reckons 91 = .ok (.bipush 6, 2) := by decide +kernel
theorem dX8_reckons_93 : decode cX8_reckons 93 = .ok (.iload 5, 2) := by decide +kernel
theorem dX8_reckons_95 : decode cX8_reckons 95 = .ok (.imul, 1) := by decide +kernel
theorem dX8_reckons_96 : decode cX8_reckons 96 = .ok (.lshl, 1) := by decide +kernel
theorem dX8_reckons_97 : decode cX8_reckons 97 = .ok (.lor, 1) := by decide +kernel
theorem dX8_reckons_98 : decode cX8_reckons 98 = .ok (.lstore_n 3, 1) := by decide +kernel
theorem dX8_reckons_99 : decode cX8_reckons 99 = .ok (.iinc 5 1, 3) := by decide +kernel
theorem dX8_reckons_102 : decode cX8_reckons 102 = .ok (.goto (-68), 3) := by decide +kernel
theorem dX8_reckons_105 : decode cX8_reckons 105 = .ok (.aload_n 0, 1) := by decide +kernel
theorem dX8_reckons_106 : decode cX8_reckons 106 = .ok (.getfield 27, 3) := by decide +kernel
theorem dX8_reckons_109 : decode cX8_reckons 109 = .ok (.aload_n 0, 1) := by decide +kernel
theorem dX8_reckons_110 : decode cX8_reckons 110 = .ok (.getfield 128, 3) := by decide +kernel
theorem dX8_reckons_113 : decode cX8_reckons 113 = .ok (.iload_n 2, 1) := by decide +kernel
theorem dX8_reckons_114 : decode cX8_reckons 114 = .ok (.iastore, 1) := by decide +kernel
theorem dX8_reckons_115 : decode cX8_reckons 115 = .ok (.aload_n 0, 1) := by decide +kernel
theorem dX8_reckons_116 : decode cX8_reckons 116 = .ok (.getfield 30, 3) := by decide +kernel
theorem dX8_reckons_119 : decode cX8_reckons 119 = .ok (.aload_n 0, 1) := by decide +kernel
theorem dX8_reckons_120 : decode cX8_reckons 120 = .ok (.getfield 128, 3) := by decide +kernel
theorem dX8_reckons_123 : decode cX8_reckons 123 = .ok (.lload_n 3, 1) := by decide +kernel
theorem dX8_reckons_124 : decode cX8_reckons 124 = .ok (.lastore, 1) := by decide +kernel
theorem dX8_reckons_125 : decode cX8_reckons 125 = .ok (.aload_n 0, 1) := by decide +kernel
theorem dX8_reckons_126 : decode cX8_reckons 126 = .ok (.dup, 1) := by decide +kernel
theorem dX8_reckons_127 : decode cX8_reckons 127 = .ok (.getfield 128, 3) := by decide +kernel
theorem dX8_reckons_130 : decode cX8_reckons 130 = .ok (.iconst 1, 1) := by decide +kernel
theorem dX8_reckons_131 : decode cX8_reckons 131 = .ok (.iadd, 1) := by decide +kernel
theorem dX8_reckons_132 : decode cX8_reckons 132 = .ok (.putfield 128, 3) := by decide +kernel
theorem dX8_reckons_135 : decode cX8_reckons 135 = .ok (.iinc 2 1, 3) := by decide +kernel
theorem dX8_reckons_138 : decode cX8_reckons 138 = .ok (.goto (-131), 3) := by decide +kernel
theorem dX8_reckons_141 : decode cX8_reckons 141 = .ok (.return_, 1) := by decide +kernel
theorem dX8_sorts_0 : decode cX8_sorts 0 = .ok (.lconst 0, 1) := by decide +kernel
theorem dX8_sorts_1 : decode cX8_sorts 1 = .ok (.lstore_n 2, 1) := by decide +kernel
theorem dX8_sorts_2 : decode cX8_sorts 2 = .ok (.iconst 0, 1) := by decide +kernel
theorem dX8_sorts_3 : decode cX8_sorts 3 = .ok (.istore 4, 2) := by decide +kernel
theorem dX8_sorts_5 : decode cX8_sorts 5 = .ok (.iload 4, 2) := by decide +kernel
theorem dX8_sorts_7 : decode cX8_sorts 7 = .ok (.bipush 8, 2) := by decide +kernel
theorem dX8_sorts_9 : decode cX8_sorts 9 = .ok (.if_icmp .ge 31, 3) := by decide +kernel
theorem dX8_sorts_12 : decode cX8_sorts 12 = .ok (.iload_n 1, 1) := by decide +kernel
theorem dX8_sorts_13 : decode cX8_sorts 13 = .ok (.iload 4, 2) := by decide +kernel
theorem dX8_sorts_15 : decode cX8_sorts 15 = .ok (.ishr, 1) := by decide +kernel
theorem dX8_sorts_16 : decode cX8_sorts 16 = .ok (.iconst 1, 1) := by decide +kernel
theorem dX8_sorts_17 : decode cX8_sorts 17 = .ok (.iand, 1) := by decide +kernel
theorem dX8_sorts_18 : decode cX8_sorts 18 = .ok (.iconst 1, 1) := by decide +kernel
theorem dX8_sorts_19 : decode cX8_sorts 19 = .ok (.if_icmp .ne 15, 3) := by decide +kernel
theorem dX8_sorts_22 : decode cX8_sorts 22 = .ok (.lload_n 2, 1) := by decide +kernel
theorem dX8_sorts_23 : decode cX8_sorts 23 = .ok (.ldc2_w 131, 3) := by decide +kernel
theorem dX8_sorts_26 : decode cX8_sorts 26 = .ok (.bipush 6, 2) := by decide +kernel
theorem dX8_sorts_28 : decode cX8_sorts 28 = .ok (.iload 4, 2) := by decide +kernel
theorem dX8_sorts_30 : decode cX8_sorts 30 = .ok (.imul, 1) := by decide +kernel
theorem dX8_sorts_31 : decode cX8_sorts 31 = .ok (.lshl, 1) := by decide +kernel
theorem dX8_sorts_32 : decode cX8_sorts 32 = .ok (.lor, 1) := by decide +kernel
theorem dX8_sorts_33 : decode cX8_sorts 33 = .ok (.lstore_n 2, 1) := by decide +kernel
theorem dX8_sorts_34 : decode cX8_sorts 34 = .ok (.iinc 4 1, 3) := by decide +kernel
theorem dX8_sorts_37 : decode cX8_sorts 37 = .ok (.goto (-32), 3) := by decide +kernel
theorem dX8_sorts_40 : decode cX8_sorts 40 = .ok (.iconst 0, 1) := by decide +kernel
theorem dX8_sorts_41 : decode cX8_sorts 41 = .ok (.istore 4, 2) := by decide +kernel
theorem dX8_sorts_43 : decode cX8_sorts 43 = .ok (.iload 4, 2) := by decide +kernel
theorem dX8_sorts_45 : decode cX8_sorts 45 = .ok (.aload_n 0, 1) := by decide +kernel
theorem dX8_sorts_46 : decode cX8_sorts 46 = .ok (.getfield 128, 3) := by decide +kernel
theorem dX8_sorts_49 : decode cX8_sorts 49 = .ok (.if_icmp .ge 34, 3) := by decide +kernel
theorem dX8_sorts_52 : decode cX8_sorts 52 = .ok (.aload_n 0, 1) := by decide +kernel
theorem dX8_sorts_53 : decode cX8_sorts 53 = .ok (.getfield 34, 3) := by decide +kernel
theorem dX8_sorts_56 : decode cX8_sorts 56 = .ok (.iload 4, 2) := by decide +kernel
theorem dX8_sorts_58 : decode cX8_sorts 58 = .ok (.aload_n 0, 1) := by decide +kernel
theorem dX8_sorts_59 : decode cX8_sorts 59 = .ok (.getfield 30, 3) := by decide +kernel
theorem dX8_sorts_62 : decode cX8_sorts 62 = .ok (.iload 4, 2) := by decide +kernel
theorem dX8_sorts_64 : decode cX8_sorts 64 = .ok (.laload, 1) := by decide +kernel
theorem dX8_sorts_65 : decode cX8_sorts 65 = .ok (.lload_n 2, 1) := by decide +kernel
theorem dX8_sorts_66 : decode cX8_sorts 66 = .ok (.land, 1) := by decide +kernel
theorem dX8_sorts_67 : decode cX8_sorts 67 = .ok (.lastore, 1) := by decide +kernel
theorem dX8_sorts_68 : decode cX8_sorts 68 = .ok (.aload_n 0, 1) := by decide +kernel
theorem dX8_sorts_69 : decode cX8_sorts 69 = .ok (.getfield 37, 3) := by decide +kernel
theorem dX8_sorts_72 : decode cX8_sorts 72 = .ok (.iload 4, 2) := by decide +kernel
theorem dX8_sorts_74 : decode cX8_sorts 74 = .ok (.iload 4, 2) := by decide +kernel
theorem dX8_sorts_76 : decode cX8_sorts 76 = .ok (.iastore, 1) := by decide +kernel
theorem dX8_sorts_77 : decode cX8_sorts 77 = .ok (.iinc 4 1, 3) := by decide +kernel
theorem dX8_sorts_80 : decode cX8_sorts 80 = .ok (.goto (-37), 3) := by decide +kernel
theorem dX8_sorts_83 : decode cX8_sorts 83 = .ok (.sipush 2048, 3) := by decide +kernel
theorem dX8_sorts_86 : decode cX8_sorts 86 = .ok (.istore 4, 2) := by decide +kernel
theorem dX8_sorts_88 : decode cX8_sorts 88 = .ok (.iload 4, 2) := by decide +kernel
theorem dX8_sorts_90 : decode cX8_sorts 90 = .ok (.ifCond .le 113, 3) := by decide +kernel
theorem dX8_sorts_93 : decode cX8_sorts 93 = .ok (.iload 4, 2) := by decide +kernel
theorem dX8_sorts_95 : decode cX8_sorts 95 = .ok (.istore 5, 2) := by decide +kernel
theorem dX8_sorts_97 : decode cX8_sorts 97 = .ok (.iload 5, 2) := by decide +kernel
theorem dX8_sorts_99 : decode cX8_sorts 99 = .ok (.aload_n 0, 1) := by decide +kernel
theorem dX8_sorts_100 : decode cX8_sorts 100 = .ok (.getfield 128, 3) := by decide +kernel
theorem dX8_sorts_103 : decode cX8_sorts 103 = .ok (.if_icmp .ge 91, 3) := by decide +kernel
theorem dX8_sorts_106 : decode cX8_sorts 106 = .ok (.aload_n 0, 1) := by decide +kernel
theorem dX8_sorts_107 : decode cX8_sorts 107 = .ok (.getfield 37, 3) := by decide +kernel
theorem dX8_sorts_110 : decode cX8_sorts 110 = .ok (.iload 5, 2) := by decide +kernel
theorem dX8_sorts_112 : decode cX8_sorts 112 = .ok (.iaload, 1) := by decide +kernel
theorem dX8_sorts_113 : decode cX8_sorts 113 = .ok (.istore 6, 2) := by decide +kernel
theorem dX8_sorts_115 : decode cX8_sorts 115 = .ok (.iload 5, 2) := by decide +kernel
theorem dX8_sorts_117 : decode cX8_sorts 117 = .ok (.istore 7, 2) := by decide +kernel
theorem dX8_sorts_119 : decode cX8_sorts 119 = .ok (.iload 7, 2) := by decide +kernel
theorem dX8_sorts_121 : decode cX8_sorts 121 = .ok (.iload 4, 2) := by decide +kernel
theorem dX8_sorts_123 : decode cX8_sorts 123 = .ok (.if_icmp .lt 56, 3) := by decide +kernel
theorem dX8_sorts_126 : decode cX8_sorts 126 = .ok (.aload_n 0, 1) := by decide +kernel
theorem dX8_sorts_127 : decode cX8_sorts 127 = .ok (.getfield 34, 3) := by decide +kernel
theorem dX8_sorts_130 : decode cX8_sorts 130 = .ok (.aload_n 0, 1) := by decide +kernel
theorem dX8_sorts_131 : decode cX8_sorts 131 = .ok (.getfield 37, 3) := by decide +kernel
theorem dX8_sorts_134 : decode cX8_sorts 134 = .ok (.iload 7, 2) := by decide +kernel
theorem dX8_sorts_136 : decode cX8_sorts 136 = .ok (.iload 4, 2) := by decide +kernel
theorem dX8_sorts_138 : decode cX8_sorts 138 = .ok (.isub, 1) := by decide +kernel
theorem dX8_sorts_139 : decode cX8_sorts 139 = .ok (.iaload, 1) := by decide +kernel
theorem dX8_sorts_140 : decode cX8_sorts 140 = .ok (.laload, 1) := by decide +kernel
theorem dX8_sorts_141 : decode cX8_sorts 141 = .ok (.aload_n 0, 1) := by decide +kernel
theorem dX8_sorts_142 : decode cX8_sorts 142 = .ok (.getfield 34, 3) := by decide +kernel
theorem dX8_sorts_145 : decode cX8_sorts 145 = .ok (.iload 6, 2) := by decide +kernel
theorem dX8_sorts_147 : decode cX8_sorts 147 = .ok (.laload, 1) := by decide +kernel
theorem dX8_sorts_148 : decode cX8_sorts 148 = .ok (.lcmp, 1) := by decide +kernel
theorem dX8_sorts_149 : decode cX8_sorts 149 = .ok (.ifCond .le 30, 3) := by decide +kernel
theorem dX8_sorts_152 : decode cX8_sorts 152 = .ok (.aload_n 0, 1) := by decide +kernel
theorem dX8_sorts_153 : decode cX8_sorts 153 = .ok (.getfield 37, 3) := by decide +kernel
theorem dX8_sorts_156 : decode cX8_sorts 156 = .ok (.iload 7, 2) := by decide +kernel
theorem dX8_sorts_158 : decode cX8_sorts 158 = .ok (.aload_n 0, 1) := by decide +kernel
theorem dX8_sorts_159 : decode cX8_sorts 159 = .ok (.getfield 37, 3) := by decide +kernel
theorem dX8_sorts_162 : decode cX8_sorts 162 = .ok (.iload 7, 2) := by decide +kernel
theorem dX8_sorts_164 : decode cX8_sorts 164 = .ok (.iload 4, 2) := by decide +kernel
theorem dX8_sorts_166 : decode cX8_sorts 166 = .ok (.isub, 1) := by decide +kernel
theorem dX8_sorts_167 : decode cX8_sorts 167 = .ok (.iaload, 1) := by decide +kernel
theorem dX8_sorts_168 : decode cX8_sorts 168 = .ok (.iastore, 1) := by decide +kernel
theorem dX8_sorts_169 : decode cX8_sorts 169 = .ok (.iload 7, 2) := by decide +kernel
theorem dX8_sorts_171 : decode cX8_sorts 171 = .ok (.iload 4, 2) := by decide +kernel
theorem dX8_sorts_173 : decode cX8_sorts 173 = .ok (.isub, 1) := by decide +kernel
theorem dX8_sorts_174 : decode cX8_sorts 174 = .ok (.istore 7, 2) := by decide +kernel
theorem dX8_sorts_176 : decode cX8_sorts 176 = .ok (.goto (-57), 3) := by decide +kernel
theorem dX8_sorts_179 : decode cX8_sorts 179 = .ok (.aload_n 0, 1) := by decide +kernel
theorem dX8_sorts_180 : decode cX8_sorts 180 = .ok (.getfield 37, 3) := by decide +kernel
theorem dX8_sorts_183 : decode cX8_sorts 183 = .ok (.iload 7, 2) := by decide +kernel
theorem dX8_sorts_185 : decode cX8_sorts 185 = .ok (.iload 6, 2) := by decide +kernel
theorem dX8_sorts_187 : decode cX8_sorts 187 = .ok (.iastore, 1) := by decide +kernel
theorem dX8_sorts_188 : decode cX8_sorts 188 = .ok (.iinc 5 1, 3) := by decide +kernel
theorem dX8_sorts_191 : decode cX8_sorts 191 = .ok (.goto (-94), 3) := by decide +kernel
theorem dX8_sorts_194 : decode cX8_sorts 194 = .ok (.iload 4, 2) := by decide +kernel
theorem dX8_sorts_196 : decode cX8_sorts 196 = .ok (.iconst 2, 1) := by decide +kernel
theorem dX8_sorts_197 : decode cX8_sorts 197 = .ok (.idiv, 1) := by decide +kernel
theorem dX8_sorts_198 : decode cX8_sorts 198 = .ok (.istore 4, 2) := by decide +kernel
theorem dX8_sorts_200 : decode cX8_sorts 200 = .ok (.goto (-112), 3) := by decide +kernel
theorem dX8_sorts_203 : decode cX8_sorts 203 = .ok (.return_, 1) := by decide +kernel
theorem dX8_mayBe_0 : decode cX8_mayBe 0 = .ok (.iload_n 1, 1) := by decide +kernel
theorem dX8_mayBe_1 : decode cX8_mayBe 1 = .ok (.ifCond .ne 5, 3) := by decide +kernel
theorem dX8_mayBe_4 : decode cX8_mayBe 4 = .ok (.iconst 1, 1) := by decide +kernel
theorem dX8_mayBe_5 : decode cX8_mayBe 5 = .ok (.ireturn, 1) := by decide +kernel
theorem dX8_mayBe_6 : decode cX8_mayBe 6 = .ok (.aload_n 0, 1) := by decide +kernel
theorem dX8_mayBe_7 : decode cX8_mayBe 7 = .ok (.iload_n 1, 1) := by decide +kernel
theorem dX8_mayBe_8 : decode cX8_mayBe 8 = .ok (.invokevirtual 133, 3) := by decide +kernel
theorem dX8_mayBe_11 : decode cX8_mayBe 11 = .ok (.iconst 0, 1) := by decide +kernel
theorem dX8_mayBe_12 : decode cX8_mayBe 12 = .ok (.istore_n 2, 1) := by decide +kernel
theorem dX8_mayBe_13 : decode cX8_mayBe 13 = .ok (.iload_n 2, 1) := by decide +kernel
theorem dX8_mayBe_14 : decode cX8_mayBe 14 = .ok (.aload_n 0, 1) := by decide +kernel
theorem dX8_mayBe_15 : decode cX8_mayBe 15 = .ok (.getfield 128, 3) := by decide +kernel
theorem dX8_mayBe_18 : decode cX8_mayBe 18 = .ok (.if_icmp .ge 75, 3) := by decide +kernel
theorem dX8_mayBe_21 : decode cX8_mayBe 21 = .ok (.iload_n 2, 1) := by decide +kernel
theorem dX8_mayBe_22 : decode cX8_mayBe 22 = .ok (.ifCond .eq 31, 3) := by decide +kernel
theorem dX8_mayBe_25 : decode cX8_mayBe 25 = .ok (.aload_n 0, 1) := by decide +kernel
theorem dX8_mayBe_26 : decode cX8_mayBe 26 = .ok (.getfield 34, 3) := by decide +kernel
theorem dX8_mayBe_29 : decode cX8_mayBe 29 = .ok (.aload_n 0, 1) := by decide +kernel
theorem dX8_mayBe_30 : decode cX8_mayBe 30 = .ok (.getfield 37, 3) := by decide +kernel
theorem dX8_mayBe_33 : decode cX8_mayBe 33 = .ok (.iload_n 2, 1) := by decide +kernel
theorem dX8_mayBe_34 : decode cX8_mayBe 34 = .ok (.iaload, 1) := by decide +kernel
theorem dX8_mayBe_35 : decode cX8_mayBe 35 = .ok (.laload, 1) := by decide +kernel
theorem dX8_mayBe_36 : decode cX8_mayBe 36 = .ok (.aload_n 0, 1) := by decide +kernel
theorem dX8_mayBe_37 : decode cX8_mayBe 37 = .ok (.getfield 34, 3) := by decide +kernel
theorem dX8_mayBe_40 : decode cX8_mayBe 40 = .ok (.aload_n 0, 1) := by decide +kernel
theorem dX8_mayBe_41 : decode cX8_mayBe 41 = .ok (.getfield 37, 3) := by decide +kernel
theorem dX8_mayBe_44 : decode cX8_mayBe 44 = .ok (.iload_n 2, 1) := by decide +kernel
theorem dX8_mayBe_45 : decode cX8_mayBe 45 = .ok (.iconst 1, 1) := by decide +kernel
theorem dX8_mayBe_46 : decode cX8_mayBe 46 = .ok (.isub, 1) := by decide +kernel
theorem dX8_mayBe_47 : decode cX8_mayBe 47 = .ok (.iaload, 1) := by decide +kernel
theorem dX8_mayBe_48 : decode cX8_mayBe 48 = .ok (.laload, 1) := by decide +kernel
theorem dX8_mayBe_49 : decode cX8_mayBe 49 = .ok (.lcmp, 1) := by decide +kernel
theorem dX8_mayBe_50 : decode cX8_mayBe 50 = .ok (.ifCond .eq 21, 3) := by decide +kernel
theorem dX8_mayBe_53 : decode cX8_mayBe 53 = .ok (.iload_n 2, 1) := by decide +kernel
theorem dX8_mayBe_54 : decode cX8_mayBe 54 = .ok (.ifCond .le 13, 3) := by decide +kernel
theorem dX8_mayBe_57 : decode cX8_mayBe 57 = .ok (.aload_n 0, 1) := by decide +kernel
theorem dX8_mayBe_58 : decode cX8_mayBe 58 = .ok (.iconst 0, 1) := by decide +kernel
theorem dX8_mayBe_59 : decode cX8_mayBe 59 = .ok (.invokevirtual 103, 3) := by decide +kernel
theorem dX8_mayBe_62 : decode cX8_mayBe 62 = .ok (.ifCond .eq 5, 3) := by decide +kernel
theorem dX8_mayBe_65 : decode cX8_mayBe 65 = .ok (.iconst 0, 1) := by decide +kernel
theorem dX8_mayBe_66 : decode cX8_mayBe 66 = .ok (.ireturn, 1) := by decide +kernel
theorem dX8_mayBe_67 : decode cX8_mayBe 67 = .ok (.aload_n 0, 1) := by decide +kernel
theorem dX8_mayBe_68 : decode cX8_mayBe 68 = .ok (.invokevirtual 90, 3) := by decide +kernel
theorem dX8_mayBe_71 : decode cX8_mayBe 71 = .ok (.aload_n 0, 1) := by decide +kernel
theorem dX8_mayBe_72 : decode cX8_mayBe 72 = .ok (.iconst 0, 1) := by decide +kernel
theorem dX8_mayBe_73 : decode cX8_mayBe 73 = .ok (.aload_n 0, 1) := by decide +kernel
theorem dX8_mayBe_74 : decode cX8_mayBe 74 = .ok (.getfield 27, 3) := by decide +kernel
theorem dX8_mayBe_77 : decode cX8_mayBe 77 = .ok (.aload_n 0, 1) := by decide +kernel
theorem dX8_mayBe_78 : decode cX8_mayBe 78 = .ok (.getfield 37, 3) := by decide +kernel
theorem dX8_mayBe_81 : decode cX8_mayBe 81 = .ok (.iload_n 2, 1) := by decide +kernel
theorem dX8_mayBe_82 : decode cX8_mayBe 82 = .ok (.iaload, 1) := by decide +kernel
theorem dX8_mayBe_83 : decode cX8_mayBe 83 = .ok (.iaload, 1) := by decide +kernel
theorem dX8_mayBe_84 : decode cX8_mayBe 84 = .ok (.invokevirtual 100, 3) := by decide +kernel
theorem dX8_mayBe_87 : decode cX8_mayBe 87 = .ok (.iinc 2 1, 3) := by decide +kernel
theorem dX8_mayBe_90 : decode cX8_mayBe 90 = .ok (.goto (-77), 3) := by decide +kernel
theorem dX8_mayBe_93 : decode cX8_mayBe 93 = .ok (.aload_n 0, 1) := by decide +kernel
theorem dX8_mayBe_94 : decode cX8_mayBe 94 = .ok (.iconst 0, 1) := by decide +kernel
theorem dX8_mayBe_95 : decode cX8_mayBe 95 = .ok (.invokevirtual 103, 3) := by decide +kernel
theorem dX8_mayBe_98 : decode cX8_mayBe 98 = .ok (.ifCond .ne 7, 3) := by decide +kernel
theorem dX8_mayBe_101 : decode cX8_mayBe 101 = .ok (.iconst 1, 1) := by decide +kernel
theorem dX8_mayBe_102 : decode cX8_mayBe 102 = .ok (.goto 4, 3) := by decide +kernel
theorem dX8_mayBe_105 : decode cX8_mayBe 105 = .ok (.iconst 0, 1) := by decide +kernel
theorem dX8_mayBe_106 : decode cX8_mayBe 106 = .ok (.ireturn, 1) := by decide +kernel
theorem dX8_together_0 : decode cX8_together 0 = .ok (.iload_n 1, 1) := by decide +kernel
theorem dX8_together_1 : decode cX8_together 1 = .ok (.invokestatic 106, 3) := by decide +kernel
theorem dX8_together_4 : decode cX8_together 4 = .ok (.ifCond .eq 19, 3) := by decide +kernel
theorem dX8_together_7 : decode cX8_together 7 = .ok (.iload_n 2, 1) := by decide +kernel
theorem dX8_together_8 : decode cX8_together 8 = .ok (.ifCond .lt 15, 3) := by decide +kernel
theorem dX8_together_11 : decode cX8_together 11 = .ok (.iload_n 2, 1) := by decide +kernel
theorem dX8_together_12 : decode cX8_together 12 = .ok (.iconst 1, 1) := by decide +kernel
theorem dX8_together_13 : decode cX8_together 13 = .ok (.aload_n 0, 1) := by decide +kernel
theorem dX8_together_14 : decode cX8_together 14 = .ok (.getfield 8, 3) := by decide +kernel
theorem dX8_together_17 : decode cX8_together 17 = .ok (.iconst 5, 1) := by decide +kernel
theorem dX8_together_18 : decode cX8_together 18 = .ok (.iaload, 1) := by decide +kernel
theorem dX8_together_19 : decode cX8_together 19 = .ok (.ishl, 1) := by decide +kernel
theorem dX8_together_20 : decode cX8_together 20 = .ok (.if_icmp .lt 5, 3) := by decide +kernel
theorem dX8_together_23 : decode cX8_together 23 = .ok (.iconst 0, 1) := by decide +kernel
theorem dX8_together_24 : decode cX8_together 24 = .ok (.ireturn, 1) := by decide +kernel
theorem dX8_together_25 : decode cX8_together 25 = .ok (.aload_n 0, 1) := by decide +kernel
theorem dX8_together_26 : decode cX8_together 26 = .ok (.iload_n 1, 1) := by decide +kernel
theorem dX8_together_27 : decode cX8_together 27 = .ok (.invokevirtual 137, 3) := by decide +kernel
theorem dX8_together_30 : decode cX8_together 30 = .ok (.aload_n 0, 1) := by decide +kernel
theorem dX8_together_31 : decode cX8_together 31 = .ok (.iload_n 2, 1) := by decide +kernel
theorem dX8_together_32 : decode cX8_together 32 = .ok (.invokevirtual 140, 3) := by decide +kernel
theorem dX8_together_35 : decode cX8_together 35 = .ok (.ireturn, 1) := by decide +kernel
theorem dX8_bitsOf_0 : decode cX8_bitsOf 0 = .ok (.iconst 0, 1) := by decide +kernel
theorem dX8_bitsOf_1 : decode cX8_bitsOf 1 = .ok (.istore_n 1, 1) := by decide +kernel
theorem dX8_bitsOf_2 : decode cX8_bitsOf 2 = .ok (.iconst 0, 1) := by decide +kernel
theorem dX8_bitsOf_3 : decode cX8_bitsOf 3 = .ok (.istore_n 2, 1) := by decide +kernel
theorem dX8_bitsOf_4 : decode cX8_bitsOf 4 = .ok (.iload_n 2, 1) := by decide +kernel
theorem dX8_bitsOf_5 : decode cX8_bitsOf 5 = .ok (.bipush 8, 2) := by decide +kernel
theorem dX8_bitsOf_7 : decode cX8_bitsOf 7 = .ok (.if_icmp .ge 17, 3) := by decide +kernel
theorem dX8_bitsOf_10 : decode cX8_bitsOf 10 = .ok (.iload_n 1, 1) := by decide +kernel
theorem dX8_bitsOf_11 : decode cX8_bitsOf 11 = .ok (.iload_n 0, 1) := by decide +kernel
theorem dX8_bitsOf_12 : decode cX8_bitsOf 12 = .ok (.iload_n 2, 1) := by decide +kernel
theorem dX8_bitsOf_13 : decode cX8_bitsOf 13 = .ok (.ishr, 1) := by decide +kernel
theorem dX8_bitsOf_14 : decode cX8_bitsOf 14 = .ok (.iconst 1, 1) := by decide +kernel
theorem dX8_bitsOf_15 : decode cX8_bitsOf 15 = .ok (.iand, 1) := by decide +kernel
theorem dX8_bitsOf_16 : decode cX8_bitsOf 16 = .ok (.iadd, 1) := by decide +kernel
theorem dX8_bitsOf_17 : decode cX8_bitsOf 17 = .ok (.istore_n 1, 1) := by decide +kernel
theorem dX8_bitsOf_18 : decode cX8_bitsOf 18 = .ok (.iinc 2 1, 3) := by decide +kernel
theorem dX8_bitsOf_21 : decode cX8_bitsOf 21 = .ok (.goto (-17), 3) := by decide +kernel
theorem dX8_bitsOf_24 : decode cX8_bitsOf 24 = .ok (.iload_n 1, 1) := by decide +kernel
theorem dX8_bitsOf_25 : decode cX8_bitsOf 25 = .ok (.ireturn, 1) := by decide +kernel
theorem dX8_most_0 : decode cX8_most 0 = .ok (.iload_n 1, 1) := by decide +kernel
theorem dX8_most_1 : decode cX8_most 1 = .ok (.invokestatic 106, 3) := by decide +kernel
theorem dX8_most_4 : decode cX8_most 4 = .ok (.ifCond .ne 5, 3) := by decide +kernel
theorem dX8_most_7 : decode cX8_most 7 = .ok (.iconst (-1), 1) := by decide +kernel
theorem dX8_most_8 : decode cX8_most 8 = .ok (.ireturn, 1) := by decide +kernel
theorem dX8_most_9 : decode cX8_most 9 = .ok (.aload_n 0, 1) := by decide +kernel
theorem dX8_most_10 : decode cX8_most 10 = .ok (.iload_n 1, 1) := by decide +kernel
theorem dX8_most_11 : decode cX8_most 11 = .ok (.invokevirtual 137, 3) := by decide +kernel
theorem dX8_most_14 : decode cX8_most 14 = .ok (.iconst 0, 1) := by decide +kernel
theorem dX8_most_15 : decode cX8_most 15 = .ok (.istore_n 2, 1) := by decide +kernel
theorem dX8_most_16 : decode cX8_most 16 = .ok (.iconst 1, 1) := by decide +kernel
theorem dX8_most_17 : decode cX8_most 17 = .ok (.istore_n 3, 1) := by decide +kernel
theorem dX8_most_18 : decode cX8_most 18 = .ok (.iload_n 3, 1) := by decide +kernel
theorem dX8_most_19 : decode cX8_most 19 = .ok (.iconst 1, 1) := by decide +kernel
theorem dX8_most_20 : decode cX8_most 20 = .ok (.aload_n 0, 1) := by decide +kernel
theorem dX8_most_21 : decode cX8_most 21 = .ok (.getfield 8, 3) := by decide +kernel
theorem dX8_most_24 : decode cX8_most 24 = .ok (.iconst 5, 1) := by decide +kernel
theorem dX8_most_25 : decode cX8_most 25 = .ok (.iaload, 1) := by decide +kernel
theorem dX8_most_26 : decode cX8_most 26 = .ok (.ishl, 1) := by decide +kernel
theorem dX8_most_27 : decode cX8_most 27 = .ok (.if_icmp .ge 30, 3) := by decide +kernel
theorem dX8_most_30 : decode cX8_most 30 = .ok (.iload_n 3, 1) := by decide +kernel
theorem dX8_most_31 : decode cX8_most 31 = .ok (.invokestatic 143, 3) := by decide +kernel
theorem dX8_most_34 : decode cX8_most 34 = .ok (.iload_n 2, 1) := by decide +kernel
theorem dX8_most_35 : decode cX8_most 35 = .ok (.invokestatic 143, 3) := by decide +kernel
theorem dX8_most_38 : decode cX8_most 38 = .ok (.if_icmp .le 13, 3) := by decide +kernel
theorem dX8_most_41 : decode cX8_most 41 = .ok (.aload_n 0, 1) := by decide +kernel
theorem dX8_most_42 : decode cX8_most 42 = .ok (.iload_n 3, 1) := by decide +kernel
theorem dX8_most_43 : decode cX8_most 43 = .ok (.invokevirtual 140, 3) := by decide +kernel
theorem dX8_most_46 : decode cX8_most 46 = .ok (.ifCond .eq 5, 3) := by decide +kernel
theorem dX8_most_49 : decode cX8_most 49 = .ok (.iload_n 3, 1) := by decide +kernel
theorem dX8_most_50 : decode cX8_most 50 = .ok (.istore_n 2, 1) := by decide +kernel
theorem dX8_most_51 : decode cX8_most 51 = .ok (.iinc 3 1, 3) := by decide +kernel
theorem dX8_most_54 : decode cX8_most 54 = .ok (.goto (-36), 3) := by decide +kernel
theorem dX8_most_57 : decode cX8_most 57 = .ok (.iload_n 2, 1) := by decide +kernel
theorem dX8_most_58 : decode cX8_most 58 = .ok (.ireturn, 1) := by decide +kernel
theorem dX8_count_0 : decode cX8_count 0 = .ok (.iconst 0, 1) := by decide +kernel
theorem dX8_count_1 : decode cX8_count 1 = .ok (.istore_n 2, 1) := by decide +kernel
theorem dX8_count_2 : decode cX8_count 2 = .ok (.iconst 0, 1) := by decide +kernel
theorem dX8_count_3 : decode cX8_count 3 = .ok (.istore_n 3, 1) := by decide +kernel
theorem dX8_count_4 : decode cX8_count 4 = .ok (.iload_n 3, 1) := by decide +kernel
theorem dX8_count_5 : decode cX8_count 5 = .ok (.iconst 4, 1) := by decide +kernel
theorem dX8_count_6 : decode cX8_count 6 = .ok (.if_icmp .ge 30, 3) := by decide +kernel
theorem dX8_count_9 : decode cX8_count 9 = .ok (.iload_n 2, 1) := by decide +kernel
theorem dX8_count_10 : decode cX8_count 10 = .ok (.aload_n 0, 1) := by decide +kernel
theorem dX8_count_11 : decode cX8_count 11 = .ok (.getfield 8, 3) := by decide +kernel
theorem dX8_count_14 : decode cX8_count 14 = .ok (.bipush 6, 2) := by decide +kernel
theorem dX8_count_16 : decode cX8_count 16 = .ok (.iload_n 3, 1) := by decide +kernel
theorem dX8_count_17 : decode cX8_count 17 = .ok (.iadd, 1) := by decide +kernel
theorem dX8_count_18 : decode cX8_count 18 = .ok (.iaload, 1) := by decide +kernel
theorem dX8_count_19 : decode cX8_count 19 = .ok (.iload_n 3, 1) := by decide +kernel
theorem dX8_count_20 : decode cX8_count 20 = .ok (.if_icmp .ne 7, 3) := by decide +kernel
theorem dX8_count_23 : decode cX8_count 23 = .ok (.iconst 1, 1) := by decide +kernel
theorem dX8_count_24 : decode cX8_count 24 = .ok (.goto 4, 3) := by decide +kernel
theorem dX8_count_27 : decode cX8_count 27 = .ok (.iconst 0, 1) := by decide +kernel
theorem dX8_count_28 : decode cX8_count 28 = .ok (.iadd, 1) := by decide +kernel
theorem dX8_count_29 : decode cX8_count 29 = .ok (.istore_n 2, 1) := by decide +kernel
theorem dX8_count_30 : decode cX8_count 30 = .ok (.iinc 3 1, 3) := by decide +kernel
theorem dX8_count_33 : decode cX8_count 33 = .ok (.goto (-29), 3) := by decide +kernel
theorem dX8_count_36 : decode cX8_count 36 = .ok (.iload_n 1, 1) := by decide +kernel
theorem dX8_count_37 : decode cX8_count 37 = .ok (.tableswitch 87 0 6 #[43, 50, 57, 64, 71, 78, 85], 43) := by decide +kernel
theorem dX8_count_80 : decode cX8_count 80 = .ok (.aload_n 0, 1) := by decide +kernel
theorem dX8_count_81 : decode cX8_count 81 = .ok (.getfield 8, 3) := by decide +kernel
theorem dX8_count_84 : decode cX8_count 84 = .ok (.iconst 0, 1) := by decide +kernel
theorem dX8_count_85 : decode cX8_count 85 = .ok (.iaload, 1) := by decide +kernel
theorem dX8_count_86 : decode cX8_count 86 = .ok (.ireturn, 1) := by decide +kernel
theorem dX8_count_87 : decode cX8_count 87 = .ok (.aload_n 0, 1) := by decide +kernel
theorem dX8_count_88 : decode cX8_count 88 = .ok (.getfield 8, 3) := by decide +kernel
theorem dX8_count_91 : decode cX8_count 91 = .ok (.iconst 1, 1) := by decide +kernel
theorem dX8_count_92 : decode cX8_count 92 = .ok (.iaload, 1) := by decide +kernel
theorem dX8_count_93 : decode cX8_count 93 = .ok (.ireturn, 1) := by decide +kernel
theorem dX8_count_94 : decode cX8_count 94 = .ok (.aload_n 0, 1) := by decide +kernel
theorem dX8_count_95 : decode cX8_count 95 = .ok (.getfield 8, 3) := by decide +kernel
theorem dX8_count_98 : decode cX8_count 98 = .ok (.iconst 2, 1) := by decide +kernel
theorem dX8_count_99 : decode cX8_count 99 = .ok (.iaload, 1) := by decide +kernel
theorem dX8_count_100 : decode cX8_count 100 = .ok (.ireturn, 1) := by decide +kernel
theorem dX8_count_101 : decode cX8_count 101 = .ok (.aload_n 0, 1) := by decide +kernel
theorem dX8_count_102 : decode cX8_count 102 = .ok (.getfield 8, 3) := by decide +kernel
theorem dX8_count_105 : decode cX8_count 105 = .ok (.iconst 3, 1) := by decide +kernel
theorem dX8_count_106 : decode cX8_count 106 = .ok (.iaload, 1) := by decide +kernel
theorem dX8_count_107 : decode cX8_count 107 = .ok (.ireturn, 1) := by decide +kernel
theorem dX8_count_108 : decode cX8_count 108 = .ok (.aload_n 0, 1) := by decide +kernel
theorem dX8_count_109 : decode cX8_count 109 = .ok (.getfield 8, 3) := by decide +kernel
theorem dX8_count_112 : decode cX8_count 112 = .ok (.iconst 4, 1) := by decide +kernel
theorem dX8_count_113 : decode cX8_count 113 = .ok (.iaload, 1) := by decide +kernel
theorem dX8_count_114 : decode cX8_count 114 = .ok (.ireturn, 1) := by decide +kernel
theorem dX8_count_115 : decode cX8_count 115 = .ok (.aload_n 0, 1) := by decide +kernel
theorem dX8_count_116 : decode cX8_count 116 = .ok (.getfield 8, 3) := by decide +kernel
theorem dX8_count_119 : decode cX8_count 119 = .ok (.iconst 5, 1) := by decide +kernel
theorem dX8_count_120 : decode cX8_count 120 = .ok (.iaload, 1) := by decide +kernel
theorem dX8_count_121 : decode cX8_count 121 = .ok (.ireturn, 1) := by decide +kernel
theorem dX8_count_122 : decode cX8_count 122 = .ok (.iload_n 2, 1) := by decide +kernel
theorem dX8_count_123 : decode cX8_count 123 = .ok (.ireturn, 1) := by decide +kernel
theorem dX8_count_124 : decode cX8_count 124 = .ok (.iconst (-1), 1) := by decide +kernel
theorem dX8_count_125 : decode cX8_count 125 = .ok (.ireturn, 1) := by decide +kernel
theorem dX8_image_0 : decode cX8_image 0 = .ok (.iload_n 1, 1) := by decide +kernel
theorem dX8_image_1 : decode cX8_image 1 = .ok (.iconst 0, 1) := by decide +kernel
theorem dX8_image_2 : decode cX8_image 2 = .ok (.iconst 2, 1) := by decide +kernel
theorem dX8_image_3 : decode cX8_image 3 = .ok (.invokestatic 40, 3) := by decide +kernel
theorem dX8_image_6 : decode cX8_image 6 = .ok (.ifCond .ne 5, 3) := by decide +kernel
theorem dX8_image_9 : decode cX8_image 9 = .ok (.iconst 0, 1) := by decide +kernel
theorem dX8_image_10 : decode cX8_image 10 = .ok (.ireturn, 1) := by decide +kernel
theorem dX8_image_11 : decode cX8_image 11 = .ok (.aload_n 0, 1) := by decide +kernel
theorem dX8_image_12 : decode cX8_image 12 = .ok (.getfield 14, 3) := by decide +kernel
theorem dX8_image_15 : decode cX8_image 15 = .ok (.iload_n 1, 1) := by decide +kernel
theorem dX8_image_16 : decode cX8_image 16 = .ok (.iconst 1, 1) := by decide +kernel
theorem dX8_image_17 : decode cX8_image 17 = .ok (.bastore, 1) := by decide +kernel
theorem dX8_image_18 : decode cX8_image 18 = .ok (.iconst 0, 1) := by decide +kernel
theorem dX8_image_19 : decode cX8_image 19 = .ok (.istore_n 2, 1) := by decide +kernel
theorem dX8_image_20 : decode cX8_image 20 = .ok (.iload_n 2, 1) := by decide +kernel
theorem dX8_image_21 : decode cX8_image 21 = .ok (.sipush 17514, 3) := by decide +kernel
theorem dX8_image_24 : decode cX8_image 24 = .ok (.if_icmp .ge 29, 3) := by decide +kernel
theorem dX8_image_27 : decode cX8_image 27 = .ok (.aload_n 0, 1) := by decide +kernel
theorem dX8_image_28 : decode cX8_image 28 = .ok (.getfield 8, 3) := by decide +kernel
theorem dX8_image_31 : decode cX8_image 31 = .ok (.sipush 17514, 3) := by decide +kernel
theorem dX8_image_34 : decode cX8_image 34 = .ok (.iload_n 1, 1) := by decide +kernel
theorem dX8_image_35 : decode cX8_image 35 = .ok (.iconst 1, 1) := by decide +kernel
theorem dX8_image_36 : decode cX8_image 36 = .ok (.iadd, 1) := by decide +kernel
theorem dX8_image_37 : decode cX8_image 37 = .ok (.imul, 1) := by decide +kernel
theorem dX8_image_38 : decode cX8_image 38 = .ok (.iload_n 2, 1) := by decide +kernel
theorem dX8_image_39 : decode cX8_image 39 = .ok (.iadd, 1) := by decide +kernel
theorem dX8_image_40 : decode cX8_image 40 = .ok (.aload_n 0, 1) := by decide +kernel
theorem dX8_image_41 : decode cX8_image 41 = .ok (.getfield 8, 3) := by decide +kernel
theorem dX8_image_44 : decode cX8_image 44 = .ok (.iload_n 2, 1) := by decide +kernel
theorem dX8_image_45 : decode cX8_image 45 = .ok (.iaload, 1) := by decide +kernel
theorem dX8_image_46 : decode cX8_image 46 = .ok (.iastore, 1) := by decide +kernel
theorem dX8_image_47 : decode cX8_image 47 = .ok (.iinc 2 1, 3) := by decide +kernel
theorem dX8_image_50 : decode cX8_image 50 = .ok (.goto (-30), 3) := by decide +kernel
theorem dX8_image_53 : decode cX8_image 53 = .ok (.iconst 1, 1) := by decide +kernel
theorem dX8_image_54 : decode cX8_image 54 = .ok (.ireturn, 1) := by decide +kernel
theorem dX8_again_0 : decode cX8_again 0 = .ok (.iload_n 1, 1) := by decide +kernel
theorem dX8_again_1 : decode cX8_again 1 = .ok (.iconst 0, 1) := by decide +kernel
theorem dX8_again_2 : decode cX8_again 2 = .ok (.iconst 2, 1) := by decide +kernel
theorem dX8_again_3 : decode cX8_again 3 = .ok (.invokestatic 40, 3) := by decide +kernel
theorem dX8_again_6 : decode cX8_again 6 = .ok (.ifCond .eq 12, 3) := by decide +kernel
theorem dX8_again_9 : decode cX8_again 9 = .ok (.aload_n 0, 1) := by decide +kernel
theorem dX8_again_10 : decode cX8_again 10 = .ok (.getfield 14, 3) := by decide +kernel
theorem dX8_again_13 : decode cX8_again 13 = .ok (.iload_n 1, 1) := by decide +kernel
theorem dX8_again_14 : decode cX8_again 14 = .ok (.baload, 1) := by decide +kernel
theorem dX8_again_15 : decode cX8_again 15 = .ok (.ifCond .ne 5, 3) := by decide +kernel
theorem dX8_again_18 : decode cX8_again 18 = .ok (.iconst 0, 1) := by decide +kernel
theorem dX8_again_19 : decode cX8_again 19 = .ok (.ireturn, 1) := by decide +kernel
theorem dX8_again_20 : decode cX8_again 20 = .ok (.iconst 0, 1) := by decide +kernel
theorem dX8_again_21 : decode cX8_again 21 = .ok (.istore_n 2, 1) := by decide +kernel
theorem dX8_again_22 : decode cX8_again 22 = .ok (.iload_n 2, 1) := by decide +kernel
theorem dX8_again_23 : decode cX8_again 23 = .ok (.sipush 17514, 3) := by decide +kernel
theorem dX8_again_26 : decode cX8_again 26 = .ok (.if_icmp .ge 29, 3) := by decide +kernel
theorem dX8_again_29 : decode cX8_again 29 = .ok (.aload_n 0, 1) := by decide +kernel
theorem dX8_again_30 : decode cX8_again 30 = .ok (.getfield 8, 3) := by decide +kernel
theorem dX8_again_33 : decode cX8_again 33 = .ok (.iload_n 2, 1) := by decide +kernel
theorem dX8_again_34 : decode cX8_again 34 = .ok (.aload_n 0, 1) := by decide +kernel
theorem dX8_again_35 : decode cX8_again 35 = .ok (.getfield 8, 3) := by decide +kernel
theorem dX8_again_38 : decode cX8_again 38 = .ok (.sipush 17514, 3) := by decide +kernel
theorem dX8_again_41 : decode cX8_again 41 = .ok (.iload_n 1, 1) := by decide +kernel
theorem dX8_again_42 : decode cX8_again 42 = .ok (.iconst 1, 1) := by decide +kernel
theorem dX8_again_43 : decode cX8_again 43 = .ok (.iadd, 1) := by decide +kernel
theorem dX8_again_44 : decode cX8_again 44 = .ok (.imul, 1) := by decide +kernel
theorem dX8_again_45 : decode cX8_again 45 = .ok (.iload_n 2, 1) := by decide +kernel
theorem dX8_again_46 : decode cX8_again 46 = .ok (.iadd, 1) := by decide +kernel
theorem dX8_again_47 : decode cX8_again 47 = .ok (.iaload, 1) := by decide +kernel
theorem dX8_again_48 : decode cX8_again 48 = .ok (.iastore, 1) := by decide +kernel
theorem dX8_again_49 : decode cX8_again 49 = .ok (.iinc 2 1, 3) := by decide +kernel
theorem dX8_again_52 : decode cX8_again 52 = .ok (.goto (-30), 3) := by decide +kernel
theorem dX8_again_55 : decode cX8_again 55 = .ok (.iconst 1, 1) := by decide +kernel
theorem dX8_again_56 : decode cX8_again 56 = .ok (.ireturn, 1) := by decide +kernel
end
section
theorem dX0_init_0 : decode cX0_init 0 = .ok (.aload_n 0, 1) := by decide +kernel
theorem dX0_init_1 : decode cX0_init 1 = .ok (.invokespecial 3, 3) := by decide +kernel
theorem dX0_init_4 : decode cX0_init 4 = .ok (.aload_n 0, 1) := by decide +kernel
theorem dX0_init_5 : decode cX0_init 5 = .ok (.iconst 5, 1) := by decide +kernel
theorem dX0_init_6 : decode cX0_init 6 = .ok (.sipush 200, 3) := by decide +kernel
theorem dX0_init_9 : decode cX0_init 9 = .ok (.multianewarray 9 2, 4) := by decide +kernel
theorem dX0_init_13 : decode cX0_init 13 = .ok (.putfield 11, 3) := by decide +kernel
theorem dX0_init_16 : decode cX0_init 16 = .ok (.aload_n 0, 1) := by decide +kernel
theorem dX0_init_17 : decode cX0_init 17 = .ok (.iconst 0, 1) := by decide +kernel
theorem dX0_init_18 : decode cX0_init 18 = .ok (.putfield 16, 3) := by decide +kernel
theorem dX0_init_21 : decode cX0_init 21 = .ok (.aload_n 0, 1) := by decide +kernel
theorem dX0_init_22 : decode cX0_init 22 = .ok (.iconst 0, 1) := by decide +kernel
theorem dX0_init_23 : decode cX0_init 23 = .ok (.putfield 20, 3) := by decide +kernel
theorem dX0_init_26 : decode cX0_init 26 = .ok (.return_, 1) := by decide +kernel
theorem dX0_add_0 : decode cX0_add 0 = .ok (.aload_n 0, 1) := by decide +kernel
theorem dX0_add_1 : decode cX0_add 1 = .ok (.getfield 11, 3) := by decide +kernel
theorem dX0_add_4 : decode cX0_add 4 = .ok (.iconst 0, 1) := by decide +kernel
theorem dX0_add_5 : decode cX0_add 5 = .ok (.aaload, 1) := by decide +kernel
theorem dX0_add_6 : decode cX0_add 6 = .ok (.aload_n 0, 1) := by decide +kernel
theorem dX0_add_7 : decode cX0_add 7 = .ok (.getfield 16, 3) := by decide +kernel
theorem dX0_add_10 : decode cX0_add 10 = .ok (.iload_n 1, 1) := by decide +kernel
theorem dX0_add_11 : decode cX0_add 11 = .ok (.iastore, 1) := by decide +kernel
theorem dX0_add_12 : decode cX0_add 12 = .ok (.aload_n 0, 1) := by decide +kernel
theorem dX0_add_13 : decode cX0_add 13 = .ok (.getfield 11, 3) := by decide +kernel
theorem dX0_add_16 : decode cX0_add 16 = .ok (.iconst 1, 1) := by decide +kernel
theorem dX0_add_17 : decode cX0_add 17 = .ok (.aaload, 1) := by decide +kernel
theorem dX0_add_18 : decode cX0_add 18 = .ok (.aload_n 0, 1) := by decide +kernel
theorem dX0_add_19 : decode cX0_add 19 = .ok (.getfield 16, 3) := by decide +kernel
theorem dX0_add_22 : decode cX0_add 22 = .ok (.iload_n 2, 1) := by decide +kernel
theorem dX0_add_23 : decode cX0_add 23 = .ok (.iastore, 1) := by decide +kernel
theorem dX0_add_24 : decode cX0_add 24 = .ok (.aload_n 0, 1) := by decide +kernel
theorem dX0_add_25 : decode cX0_add 25 = .ok (.getfield 11, 3) := by decide +kernel
theorem dX0_add_28 : decode cX0_add 28 = .ok (.iconst 2, 1) := by decide +kernel
theorem dX0_add_29 : decode cX0_add 29 = .ok (.aaload, 1) := by decide +kernel
theorem dX0_add_30 : decode cX0_add 30 = .ok (.aload_n 0, 1) := by decide +kernel
theorem dX0_add_31 : decode cX0_add 31 = .ok (.getfield 16, 3) := by decide +kernel
theorem dX0_add_34 : decode cX0_add 34 = .ok (.iload_n 3, 1) := by decide +kernel
theorem dX0_add_35 : decode cX0_add 35 = .ok (.iastore, 1) := by decide +kernel
theorem dX0_add_36 : decode cX0_add 36 = .ok (.aload_n 0, 1) := by decide +kernel
theorem dX0_add_37 : decode cX0_add 37 = .ok (.getfield 11, 3) := by decide +kernel
theorem dX0_add_40 : decode cX0_add 40 = .ok (.iconst 3, 1) := by decide +kernel
theorem dX0_add_41 : decode cX0_add 41 = .ok (.aaload, 1) := by decide +kernel
theorem dX0_add_42 : decode cX0_add 42 = .ok (.aload_n 0, 1) := by decide +kernel
theorem dX0_add_43 : decode cX0_add 43 = .ok (.getfield 16, 3) := by decide +kernel
theorem dX0_add_46 : decode cX0_add 46 = .ok (.iload 4, 2) := by decide +kernel
theorem dX0_add_48 : decode cX0_add 48 = .ok (.iastore, 1) := by decide +kernel
theorem dX0_add_49 : decode cX0_add 49 = .ok (.aload_n 0, 1) := by decide +kernel
theorem dX0_add_50 : decode cX0_add 50 = .ok (.getfield 11, 3) := by decide +kernel
theorem dX0_add_53 : decode cX0_add 53 = .ok (.iconst 4, 1) := by decide +kernel
theorem dX0_add_54 : decode cX0_add 54 = .ok (.aaload, 1) := by decide +kernel
theorem dX0_add_55 : decode cX0_add 55 = .ok (.aload_n 0, 1) := by decide +kernel
theorem dX0_add_56 : decode cX0_add 56 = .ok (.getfield 16, 3) := by decide +kernel
theorem dX0_add_59 : decode cX0_add 59 = .ok (.iload 5, 2) := by decide +kernel
theorem dX0_add_61 : decode cX0_add 61 = .ok (.iastore, 1) := by decide +kernel
theorem dX0_add_62 : decode cX0_add 62 = .ok (.aload_n 0, 1) := by decide +kernel
theorem dX0_add_63 : decode cX0_add 63 = .ok (.dup, 1) := by decide +kernel
theorem dX0_add_64 : decode cX0_add 64 = .ok (.getfield 16, 3) := by decide +kernel
theorem dX0_add_67 : decode cX0_add 67 = .ok (.iconst 1, 1) := by decide +kernel
theorem dX0_add_68 : decode cX0_add 68 = .ok (.iadd, 1) := by decide +kernel
theorem dX0_add_69 : decode cX0_add 69 = .ok (.putfield 16, 3) := by decide +kernel
theorem dX0_add_72 : decode cX0_add 72 = .ok (.iload 5, 2) := by decide +kernel
theorem dX0_add_74 : decode cX0_add 74 = .ok (.bipush (-2), 2) := by decide +kernel
theorem dX0_add_76 : decode cX0_add 76 = .ok (.if_icmp .ne 13, 3) := by decide +kernel
theorem dX0_add_79 : decode cX0_add 79 = .ok (.aload_n 0, 1) := by decide +kernel
theorem dX0_add_80 : decode cX0_add 80 = .ok (.dup, 1) := by decide +kernel
theorem dX0_add_81 : decode cX0_add 81 = .ok (.getfield 20, 3) := by decide +kernel
theorem dX0_add_84 : decode cX0_add 84 = .ok (.iconst 1, 1) := by decide +kernel
theorem dX0_add_85 : decode cX0_add 85 = .ok (.iadd, 1) := by decide +kernel
theorem dX0_add_86 : decode cX0_add 86 = .ok (.putfield 20, 3) := by decide +kernel
theorem dX0_add_89 : decode cX0_add 89 = .ok (.return_, 1) := by decide +kernel
theorem dX0_copyFrom_0 : decode cX0_copyFrom 0 = .ok (.iconst 0, 1) := by decide +kernel
theorem dX0_copyFrom_1 : decode cX0_copyFrom 1 = .ok (.istore_n 2, 1) := by decide +kernel
theorem dX0_copyFrom_2 : decode cX0_copyFrom 2 = .ok (.iload_n 2, 1) := by decide +kernel
theorem dX0_copyFrom_3 : decode cX0_copyFrom 3 = .ok (.iconst 5, 1) := by decide +kernel
theorem dX0_copyFrom_4 : decode cX0_copyFrom 4 = .ok (.if_icmp .ge 29, 3) := by decide +kernel
theorem dX0_copyFrom_7 : decode cX0_copyFrom 7 = .ok (.aload_n 1, 1) := by decide +kernel
theorem dX0_copyFrom_8 : decode cX0_copyFrom 8 = .ok (.getfield 11, 3) := by decide +kernel
theorem dX0_copyFrom_11 : decode cX0_copyFrom 11 = .ok (.iload_n 2, 1) := by decide +kernel
theorem dX0_copyFrom_12 : decode cX0_copyFrom 12 = .ok (.aaload, 1) := by decide +kernel
theorem dX0_copyFrom_13 : decode cX0_copyFrom 13 = .ok (.iconst 0, 1) := by decide +kernel
theorem dX0_copyFrom_14 : decode cX0_copyFrom 14 = .ok (.aload_n 0, 1) := by decide +kernel
theorem dX0_copyFrom_15 : decode cX0_copyFrom 15 = .ok (.getfield 11, 3) := by decide +kernel
theorem dX0_copyFrom_18 : decode cX0_copyFrom 18 = .ok (.iload_n 2, 1) := by decide +kernel
theorem dX0_copyFrom_19 : decode cX0_copyFrom 19 = .ok (.aaload, 1) := by decide +kernel
theorem dX0_copyFrom_20 : decode cX0_copyFrom 20 = .ok (.iconst 0, 1) := by decide +kernel
theorem dX0_copyFrom_21 : decode cX0_copyFrom 21 = .ok (.sipush 200, 3) := by decide +kernel
theorem dX0_copyFrom_24 : decode cX0_copyFrom 24 = .ok (.invokestatic 23, 3) := by decide +kernel
theorem dX0_copyFrom_27 : decode cX0_copyFrom 27 = .ok (.iinc 2 1, 3) := by decide +kernel
theorem dX0_copyFrom_30 : decode cX0_copyFrom 30 = .ok (.goto (-28), 3) := by decide +kernel
theorem dX0_copyFrom_33 : decode cX0_copyFrom 33 = .ok (.aload_n 0, 1) := by decide +kernel
theorem dX0_copyFrom_34 : decode cX0_copyFrom 34 = .ok (.aload_n 1, 1) := by decide +kernel
theorem dX0_copyFrom_35 : decode cX0_copyFrom 35 = .ok (.getfield 16, 3) := by decide +kernel
theorem dX0_copyFrom_38 : decode cX0_copyFrom 38 = .ok (.putfield 16, 3) := by decide +kernel
theorem dX0_copyFrom_41 : decode cX0_copyFrom 41 = .ok (.aload_n 0, 1) := by decide +kernel
theorem dX0_copyFrom_42 : decode cX0_copyFrom 42 = .ok (.aload_n 1, 1) := by decide +kernel
theorem dX0_copyFrom_43 : decode cX0_copyFrom 43 = .ok (.getfield 20, 3) := by decide +kernel
theorem dX0_copyFrom_46 : decode cX0_copyFrom 46 = .ok (.putfield 20, 3) := by decide +kernel
theorem dX0_copyFrom_49 : decode cX0_copyFrom 49 = .ok (.return_, 1) := by decide +kernel
theorem dX1_init_0 : decode cX1_init 0 = .ok (.aload_n 0, 1) := by decide +kernel
theorem dX1_init_1 : decode cX1_init 1 = .ok (.invokespecial 3, 3) := by decide +kernel
theorem dX1_init_4 : decode cX1_init 4 = .ok (.aload_n 0, 1) := by decide +kernel
theorem dX1_init_5 : decode cX1_init 5 = .ok (.iconst 4, 1) := by decide +kernel
theorem dX1_init_6 : decode cX1_init 6 = .ok (.newarray .int, 2) := by decide +kernel
theorem dX1_init_8 : decode cX1_init 8 = .ok (.putfield 9, 3) := by decide +kernel
theorem dX1_init_11 : decode cX1_init 11 = .ok (.aload_n 0, 1) := by decide +kernel
theorem dX1_init_12 : decode cX1_init 12 = .ok (.iconst 4, 1) := by decide +kernel
theorem dX1_init_13 : decode cX1_init 13 = .ok (.bipush 64, 2) := by decide +kernel
theorem dX1_init_15 : decode cX1_init 15 = .ok (.multianewarray 15 2, 4) := by decide +kernel
theorem dX1_init_19 : decode cX1_init 19 = .ok (.putfield 17, 3) := by decide +kernel
theorem dX1_init_22 : decode cX1_init 22 = .ok (.iconst 0, 1) := by decide +kernel
theorem dX1_init_23 : decode cX1_init 23 = .ok (.istore_n 1, 1) := by decide +kernel
theorem dX1_init_24 : decode cX1_init 24 = .ok (.iload_n 1, 1) := by decide +kernel
theorem dX1_init_25 : decode cX1_init 25 = .ok (.iconst 4, 1) := by decide +kernel
theorem dX1_init_26 : decode cX1_init 26 = .ok (.if_icmp .ge 25, 3) := by decide +kernel
theorem dX1_init_29 : decode cX1_init 29 = .ok (.aload_n 0, 1) := by decide +kernel
theorem dX1_init_30 : decode cX1_init 30 = .ok (.getfield 9, 3) := by decide +kernel
theorem dX1_init_33 : decode cX1_init 33 = .ok (.iload_n 1, 1) := by decide +kernel
theorem dX1_init_34 : decode cX1_init 34 = .ok (.iload_n 1, 1) := by decide +kernel
theorem dX1_init_35 : decode cX1_init 35 = .ok (.iastore, 1) := by decide +kernel
theorem dX1_init_36 : decode cX1_init 36 = .ok (.aload_n 0, 1) := by decide +kernel
theorem dX1_init_37 : decode cX1_init 37 = .ok (.getfield 17, 3) := by decide +kernel
theorem dX1_init_40 : decode cX1_init 40 = .ok (.iload_n 1, 1) := by decide +kernel
theorem dX1_init_41 : decode cX1_init 41 = .ok (.aaload, 1) := by decide +kernel
theorem dX1_init_42 : decode cX1_init 42 = .ok (.iconst 0, 1) := by decide +kernel
theorem dX1_init_43 : decode cX1_init 43 = .ok (.lconst 1, 1) := by decide +kernel
theorem dX1_init_44 : decode cX1_init 44 = .ok (.lastore, 1) := by decide +kernel
theorem dX1_init_45 : decode cX1_init 45 = .ok (.iinc 1 1, 3) := by decide +kernel
theorem dX1_init_48 : decode cX1_init 48 = .ok (.goto (-24), 3) := by decide +kernel
theorem dX1_init_51 : decode cX1_init 51 = .ok (.return_, 1) := by decide +kernel
theorem dX1_holds_0 : decode cX1_holds 0 = .ok (.aload_n 0, 1) := by decide +kernel
theorem dX1_holds_1 : decode cX1_holds 1 = .ok (.iload_n 1, 1) := by decide +kernel
theorem dX1_holds_2 : decode cX1_holds 2 = .ok (.bipush 64, 2) := by decide +kernel
theorem dX1_holds_4 : decode cX1_holds 4 = .ok (.idiv, 1) := by decide +kernel
theorem dX1_holds_5 : decode cX1_holds 5 = .ok (.laload, 1) := by decide +kernel
theorem dX1_holds_6 : decode cX1_holds 6 = .ok (.iload_n 1, 1) := by decide +kernel
theorem dX1_holds_7 : decode cX1_holds 7 = .ok (.bipush 64, 2) := by decide +kernel
theorem dX1_holds_9 : decode cX1_holds 9 = .ok (.irem, 1) := by decide +kernel
theorem dX1_holds_10 : decode cX1_holds 10 = .ok (.lushr, 1) := by decide +kernel
theorem dX1_holds_11 : decode cX1_holds 11 = .ok (.lconst 1, 1) := by decide +kernel
theorem dX1_holds_12 : decode cX1_holds 12 = .ok (.land, 1) := by decide +kernel
theorem dX1_holds_13 : decode cX1_holds 13 = .ok (.lconst 0, 1) := by decide +kernel
theorem dX1_holds_14 : decode cX1_holds 14 = .ok (.lcmp, 1) := by decide +kernel
theorem dX1_holds_15 : decode cX1_holds 15 = .ok (.ifCond .eq 7, 3) := by decide +kernel
theorem dX1_holds_18 : decode cX1_holds 18 = .ok (.iconst 1, 1) := by decide +kernel
theorem dX1_holds_19 : decode cX1_holds 19 = .ok (.goto 4, 3) := by decide +kernel
theorem dX1_holds_22 : decode cX1_holds 22 = .ok (.iconst 0, 1) := by decide +kernel
theorem dX1_holds_23 : decode cX1_holds 23 = .ok (.ireturn, 1) := by decide +kernel
theorem dX1_leftOf_0 : decode cX1_leftOf 0 = .ok (.aload_n 0, 1) := by decide +kernel
theorem dX1_leftOf_1 : decode cX1_leftOf 1 = .ok (.getfield 17, 3) := by decide +kernel
theorem dX1_leftOf_4 : decode cX1_leftOf 4 = .ok (.aload_n 0, 1) := by decide +kernel
theorem dX1_leftOf_5 : decode cX1_leftOf 5 = .ok (.getfield 9, 3) := by decide +kernel
theorem dX1_leftOf_8 : decode cX1_leftOf 8 = .ok (.iload_n 1, 1) := by decide +kernel
theorem dX1_leftOf_9 : decode cX1_leftOf 9 = .ok (.iaload, 1) := by decide +kernel
theorem dX1_leftOf_10 : decode cX1_leftOf 10 = .ok (.aaload, 1) := by decide +kernel
theorem dX1_leftOf_11 : decode cX1_leftOf 11 = .ok (.areturn, 1) := by decide +kernel
theorem dX1_tablesLeft_0 : decode cX1_tablesLeft 0 = .ok (.aload_n 0, 1) := by decide +kernel
theorem dX1_tablesLeft_1 : decode cX1_tablesLeft 1 = .ok (.iload_n 1, 1) := by decide +kernel
theorem dX1_tablesLeft_2 : decode cX1_tablesLeft 2 = .ok (.invokevirtual 20, 3) := by decide +kernel
theorem dX1_tablesLeft_5 : decode cX1_tablesLeft 5 = .ok (.astore_n 2, 1) := by decide +kernel
theorem dX1_tablesLeft_6 : decode cX1_tablesLeft 6 = .ok (.iconst 0, 1) := by decide +kernel
theorem dX1_tablesLeft_7 : decode cX1_tablesLeft 7 = .ok (.istore_n 3, 1) := by decide +kernel
theorem dX1_tablesLeft_8 : decode cX1_tablesLeft 8 = .ok (.iconst 0, 1) := by decide +kernel
theorem dX1_tablesLeft_9 : decode cX1_tablesLeft 9 = .ok (.istore 4, 2) := by decide +kernel
theorem dX1_tablesLeft_11 : decode cX1_tablesLeft 11 = .ok (.iload 4, 2) := by decide +kernel
theorem dX1_tablesLeft_13 : decode cX1_tablesLeft 13 = .ok (.bipush 64, 2) := by decide +kernel
theorem dX1_tablesLeft_15 : decode cX1_tablesLeft 15 = .ok (.if_icmp .ge 19, 3) := by decide +kernel
theorem dX1_tablesLeft_18 : decode cX1_tablesLeft 18 = .ok (.iload_n 3, 1) := by decide +kernel
theorem dX1_tablesLeft_19 : decode cX1_tablesLeft 19 = .ok (.aload_n 2, 1) := by decide +kernel
theorem dX1_tablesLeft_20 : decode cX1_tablesLeft 20 = .ok (.iload 4, 2) := by decide +kernel
theorem dX1_tablesLeft_22 : decode cX1_tablesLeft 22 = .ok (.laload, 1) := by decide +kernel
theorem dX1_tablesLeft_23 : decode cX1_tablesLeft 23 = .ok (.invokestatic 24, 3) := by decide +kernel
theorem dX1_tablesLeft_26 : decode cX1_tablesLeft 26 = .ok (.iadd, 1) := by decide +kernel
theorem dX1_tablesLeft_27 : decode cX1_tablesLeft 27 = .ok (.istore_n 3, 1) := by decide +kernel
theorem dX1_tablesLeft_28 : decode cX1_tablesLeft 28 = .ok (.iinc 4 1, 3) := by decide +kernel
theorem dX1_tablesLeft_31 : decode cX1_tablesLeft 31 = .ok (.goto (-20), 3) := by decide +kernel
theorem dX1_tablesLeft_34 : decode cX1_tablesLeft 34 = .ok (.iload_n 3, 1) := by decide +kernel
theorem dX1_tablesLeft_35 : decode cX1_tablesLeft 35 = .ok (.ireturn, 1) := by decide +kernel
theorem dX1_circles_0 : decode cX1_circles 0 = .ok (.iconst 0, 1) := by decide +kernel
theorem dX1_circles_1 : decode cX1_circles 1 = .ok (.istore_n 1, 1) := by decide +kernel
theorem dX1_circles_2 : decode cX1_circles 2 = .ok (.iconst 0, 1) := by decide +kernel
theorem dX1_circles_3 : decode cX1_circles 3 = .ok (.istore_n 2, 1) := by decide +kernel
theorem dX1_circles_4 : decode cX1_circles 4 = .ok (.iload_n 2, 1) := by decide +kernel
theorem dX1_circles_5 : decode cX1_circles 5 = .ok (.iconst 4, 1) := by decide +kernel
theorem dX1_circles_6 : decode cX1_circles 6 = .ok (.if_icmp .ge 22, 3) := by decide +kernel
theorem dX1_circles_9 : decode cX1_circles 9 = .ok (.aload_n 0, 1) := by decide +kernel
theorem dX1_circles_10 : decode cX1_circles 10 = .ok (.getfield 9, 3) := by decide +kernel
theorem dX1_circles_13 : decode cX1_circles 13 = .ok (.iload_n 2, 1) := by decide +kernel
theorem dX1_circles_14 : decode cX1_circles 14 = .ok (.iaload, 1) := by decide +kernel
theorem dX1_circles_15 : decode cX1_circles 15 = .ok (.iload_n 2, 1) := by decide +kernel
theorem dX1_circles_16 : decode cX1_circles 16 = .ok (.if_icmp .ne 6, 3) := by decide +kernel
theorem dX1_circles_19 : decode cX1_circles 19 = .ok (.iinc 1 1, 3) := by decide +kernel
theorem dX1_circles_22 : decode cX1_circles 22 = .ok (.iinc 2 1, 3) := by decide +kernel
theorem dX1_circles_25 : decode cX1_circles 25 = .ok (.goto (-21), 3) := by decide +kernel
theorem dX1_circles_28 : decode cX1_circles 28 = .ok (.iload_n 1, 1) := by decide +kernel
theorem dX1_circles_29 : decode cX1_circles 29 = .ok (.ireturn, 1) := by decide +kernel
theorem dX1_widen_0 : decode cX1_widen 0 = .ok (.iconst 0, 1) := by decide +kernel
theorem dX1_widen_1 : decode cX1_widen 1 = .ok (.istore_n 3, 1) := by decide +kernel
theorem dX1_widen_2 : decode cX1_widen 2 = .ok (.iload_n 3, 1) := by decide +kernel
theorem dX1_widen_3 : decode cX1_widen 3 = .ok (.iconst 4, 1) := by decide +kernel
theorem dX1_widen_4 : decode cX1_widen 4 = .ok (.if_icmp .ge 30, 3) := by decide +kernel
theorem dX1_widen_7 : decode cX1_widen 7 = .ok (.aload_n 0, 1) := by decide +kernel
theorem dX1_widen_8 : decode cX1_widen 8 = .ok (.getfield 9, 3) := by decide +kernel
theorem dX1_widen_11 : decode cX1_widen 11 = .ok (.iload_n 3, 1) := by decide +kernel
theorem dX1_widen_12 : decode cX1_widen 12 = .ok (.iaload, 1) := by decide +kernel
theorem dX1_widen_13 : decode cX1_widen 13 = .ok (.iload_n 3, 1) := by decide +kernel
theorem dX1_widen_14 : decode cX1_widen 14 = .ok (.if_icmp .ne 14, 3) := by decide +kernel
theorem dX1_widen_17 : decode cX1_widen 17 = .ok (.aload_n 0, 1) := by decide +kernel
theorem dX1_widen_18 : decode cX1_widen 18 = .ok (.getfield 17, 3) := by decide +kernel
theorem dX1_widen_21 : decode cX1_widen 21 = .ok (.iload_n 3, 1) := by decide +kernel
theorem dX1_widen_22 : decode cX1_widen 22 = .ok (.aaload, 1) := by decide +kernel
theorem dX1_widen_23 : decode cX1_widen 23 = .ok (.iload_n 1, 1) := by decide +kernel
theorem dX1_widen_24 : decode cX1_widen 24 = .ok (.iload_n 2, 1) := by decide +kernel
theorem dX1_widen_25 : decode cX1_widen 25 = .ok (.invokestatic 30, 3) := by decide +kernel
theorem dX1_widen_28 : decode cX1_widen 28 = .ok (.iinc 3 1, 3) := by decide +kernel
theorem dX1_widen_31 : decode cX1_widen 31 = .ok (.goto (-29), 3) := by decide +kernel
theorem dX1_widen_34 : decode cX1_widen 34 = .ok (.return_, 1) := by decide +kernel
theorem dX1_repeat_0 : decode cX1_repeat 0 = .ok (.iconst 0, 1) := by decide +kernel
theorem dX1_repeat_1 : decode cX1_repeat 1 = .ok (.istore_n 3, 1) := by decide +kernel
theorem dX1_repeat_2 : decode cX1_repeat 2 = .ok (.iload_n 3, 1) := by decide +kernel
theorem dX1_repeat_3 : decode cX1_repeat 3 = .ok (.iload_n 1, 1) := by decide +kernel
theorem dX1_repeat_4 : decode cX1_repeat 4 = .ok (.if_icmp .ge 57, 3) := by decide +kernel
theorem dX1_repeat_7 : decode cX1_repeat 7 = .ok (.aload_n 0, 1) := by decide +kernel
theorem dX1_repeat_8 : decode cX1_repeat 8 = .ok (.iload_n 3, 1) := by decide +kernel
theorem dX1_repeat_9 : decode cX1_repeat 9 = .ok (.invokestatic 34, 3) := by decide +kernel
theorem dX1_repeat_12 : decode cX1_repeat 12 = .ok (.ifCond .eq 43, 3) := by decide +kernel
theorem dX1_repeat_15 : decode cX1_repeat 15 = .ok (.iconst 1, 1) := by decide +kernel
theorem dX1_repeat_16 : decode cX1_repeat 16 = .ok (.istore 4, 2) := by decide +kernel
theorem dX1_repeat_18 : decode cX1_repeat 18 = .ok (.iload 4, 2) := by decide +kernel
theorem dX1_repeat_20 : decode cX1_repeat 20 = .ok (.iload_n 2, 1) := by decide +kernel
theorem dX1_repeat_21 : decode cX1_repeat 21 = .ok (.if_icmp .ge 34, 3) := by decide +kernel
theorem dX1_repeat_24 : decode cX1_repeat 24 = .ok (.iload 4, 2) := by decide +kernel
theorem dX1_repeat_26 : decode cX1_repeat 26 = .ok (.iload_n 1, 1) := by decide +kernel
theorem dX1_repeat_27 : decode cX1_repeat 27 = .ok (.imul, 1) := by decide +kernel
theorem dX1_repeat_28 : decode cX1_repeat 28 = .ok (.iload_n 3, 1) := by decide +kernel
theorem dX1_repeat_29 : decode cX1_repeat 29 = .ok (.iadd, 1) := by decide +kernel
theorem dX1_repeat_30 : decode cX1_repeat 30 = .ok (.istore 5, 2) := by decide +kernel
theorem dX1_repeat_32 : decode cX1_repeat 32 = .ok (.aload_n 0, 1) := by decide +kernel
theorem dX1_repeat_33 : decode cX1_repeat 33 = .ok (.iload 5, 2) := by decide +kernel
theorem dX1_repeat_35 : decode cX1_repeat 35 = .ok (.bipush 64, 2) := by decide +kernel
theorem dX1_repeat_37 : decode cX1_repeat 37 = .ok (.idiv, 1) := by decide +kernel
theorem dX1_repeat_38 : decode cX1_repeat 38 = .ok (.dup2, 1) := by decide +kernel
theorem dX1_repeat_39 : decode cX1_repeat 39 = .ok (.laload, 1) := by decide +kernel
theorem dX1_repeat_40 : decode cX1_repeat 40 = .ok (.lconst 1, 1) := by decide +kernel
theorem dX1_repeat_41 : decode cX1_repeat 41 = .ok (.iload 5, 2) := by decide +kernel
theorem dX1_repeat_43 : decode cX1_repeat 43 = .ok (.bipush 64, 2) := by decide +kernel
theorem dX1_repeat_45 : decode cX1_repeat 45 = .ok (.irem, 1) := by decide +kernel
theorem dX1_repeat_46 : decode cX1_repeat 46 = .ok (.lshl, 1) := by decide +kernel
theorem dX1_repeat_47 : decode cX1_repeat 47 = .ok (.lor, 1) := by decide +kernel
theorem dX1_repeat_48 : decode cX1_repeat 48 = .ok (.lastore, 1) := by decide +kernel
theorem dX1_repeat_49 : decode cX1_repeat 49 = .ok (.iinc 4 1, 3) := by decide +kernel
theorem dX1_repeat_52 : decode cX1_repeat 52 = .ok (.goto (-34), 3) := by decide +kernel
theorem dX1_repeat_55 : decode cX1_repeat 55 = .ok (.iinc 3 1, 3) := by decide +kernel
theorem dX1_repeat_58 : decode cX1_repeat 58 = .ok (.goto (-56), 3) := by decide +kernel
theorem dX1_repeat_61 : decode cX1_repeat 61 = .ok (.return_, 1) := by decide +kernel
theorem dX1_keepOnly_0 : decode cX1_keepOnly 0 = .ok (.aload_n 0, 1) := by decide +kernel
theorem dX1_keepOnly_1 : decode cX1_keepOnly 1 = .ok (.iload_n 1, 1) := by decide +kernel
theorem dX1_keepOnly_2 : decode cX1_keepOnly 2 = .ok (.invokevirtual 20, 3) := by decide +kernel
theorem dX1_keepOnly_5 : decode cX1_keepOnly 5 = .ok (.astore 5, 2) := by decide +kernel
theorem dX1_keepOnly_7 : decode cX1_keepOnly 7 = .ok (.iconst 0, 1) := by decide +kernel
theorem dX1_keepOnly_8 : decode cX1_keepOnly 8 = .ok (.istore 6, 2) := by decide +kernel
theorem dX1_keepOnly_10 : decode cX1_keepOnly 10 = .ok (.iload 6, 2) := by decide +kernel
theorem dX1_keepOnly_12 : decode cX1_keepOnly 12 = .ok (.iload_n 2, 1) := by decide +kernel
theorem dX1_keepOnly_13 : decode cX1_keepOnly 13 = .ok (.if_icmp .ge 40, 3) := by decide +kernel
theorem dX1_keepOnly_16 : decode cX1_keepOnly 16 = .ok (.aload_n 3, 1) := by decide +kernel
theorem dX1_keepOnly_17 : decode cX1_keepOnly 17 = .ok (.iload 6, 2) := by decide +kernel
theorem dX1_keepOnly_19 : decode cX1_keepOnly 19 = .ok (.iaload, 1) := by decide +kernel
theorem dX1_keepOnly_20 : decode cX1_keepOnly 20 = .ok (.iload 4, 2) := by decide +kernel
theorem dX1_keepOnly_22 : decode cX1_keepOnly 22 = .ok (.if_icmp .eq 25, 3) := by decide +kernel
theorem dX1_keepOnly_25 : decode cX1_keepOnly 25 = .ok (.aload 5, 2) := by decide +kernel
theorem dX1_keepOnly_27 : decode cX1_keepOnly 27 = .ok (.iload 6, 2) := by decide +kernel
theorem dX1_keepOnly_29 : decode cX1_keepOnly 29 = .ok (.bipush 64, 2) := by decide +kernel
theorem dX1_keepOnly_31 : decode cX1_keepOnly 31 = .ok (.idiv, 1) := by decide +kernel
theorem dX1_keepOnly_32 : decode cX1_keepOnly 32 = .ok (.dup2, 1) := by decide +kernel
theorem dX1_keepOnly_33 : decode cX1_keepOnly 33 = .ok (.laload, 1) := by decide +kernel
theorem dX1_keepOnly_34 : decode cX1_keepOnly 34 = .ok (.lconst 1, 1) := by decide +kernel
theorem dX1_keepOnly_35 : decode cX1_keepOnly 35 = .ok (.iload 6, 2) := by decide +kernel
theorem dX1_keepOnly_37 : decode cX1_keepOnly 37 = .ok (.bipush 64, 2) := by decide +kernel
theorem dX1_keepOnly_39 : decode cX1_keepOnly 39 = .ok (.irem, 1) := by decide +kernel
theorem dX1_keepOnly_40 : decode cX1_keepOnly 40 = .ok (.lshl, 1) := by decide +kernel
theorem dX1_keepOnly_41 : decode cX1_keepOnly 41 = .ok (.ldc2_w 38, 3) := by decide +kernel
theorem dX1_keepOnly_44 : decode cX1_keepOnly 44 = .ok (.lxor, 1) := by decide +kernel
theorem dX1_keepOnly_45 : decode cX1_keepOnly 45 = .ok (.land, 1) := by decide +kernel
theorem dX1_keepOnly_46 : decode cX1_keepOnly 46 = .ok (.lastore, 1) := by decide +kernel
theorem dX1_keepOnly_47 : decode cX1_keepOnly 47 = .ok (.iinc 6 1, 3) := by decide +kernel
theorem dX1_keepOnly_50 : decode cX1_keepOnly 50 = .ok (.goto (-40), 3) := by decide +kernel
theorem dX1_keepOnly_53 : decode cX1_keepOnly 53 = .ok (.return_, 1) := by decide +kernel
theorem dX1_unite_0 : decode cX1_unite 0 = .ok (.aload_n 0, 1) := by decide +kernel
theorem dX1_unite_1 : decode cX1_unite 1 = .ok (.getfield 9, 3) := by decide +kernel
theorem dX1_unite_4 : decode cX1_unite 4 = .ok (.iload_n 1, 1) := by decide +kernel
theorem dX1_unite_5 : decode cX1_unite 5 = .ok (.iaload, 1) := by decide +kernel
theorem dX1_unite_6 : decode cX1_unite 6 = .ok (.istore_n 3, 1) := by decide +kernel
theorem dX1_unite_7 : decode cX1_unite 7 = .ok (.aload_n 0, 1) := by decide +kernel
theorem dX1_unite_8 : decode cX1_unite 8 = .ok (.getfield 9, 3) := by decide +kernel
theorem dX1_unite_11 : decode cX1_unite 11 = .ok (.iload_n 2, 1) := by decide +kernel
theorem dX1_unite_12 : decode cX1_unite 12 = .ok (.iaload, 1) := by decide +kernel
theorem dX1_unite_13 : decode cX1_unite 13 = .ok (.istore 4, 2) := by decide +kernel
theorem dX1_unite_15 : decode cX1_unite 15 = .ok (.iload_n 3, 1) := by decide +kernel
theorem dX1_unite_16 : decode cX1_unite 16 = .ok (.iload 4, 2) := by decide +kernel
theorem dX1_unite_18 : decode cX1_unite 18 = .ok (.if_icmp .ne 5, 3) := by decide +kernel
theorem dX1_unite_21 : decode cX1_unite 21 = .ok (.iconst 0, 1) := by decide +kernel
theorem dX1_unite_22 : decode cX1_unite 22 = .ok (.ireturn, 1) := by decide +kernel
theorem dX1_unite_23 : decode cX1_unite 23 = .ok (.iconst 0, 1) := by decide +kernel
theorem dX1_unite_24 : decode cX1_unite 24 = .ok (.istore 5, 2) := by decide +kernel
theorem dX1_unite_26 : decode cX1_unite 26 = .ok (.iload 5, 2) := by decide +kernel
theorem dX1_unite_28 : decode cX1_unite 28 = .ok (.bipush 64, 2) := by decide +kernel
theorem dX1_unite_30 : decode cX1_unite 30 = .ok (.if_icmp .ge 31, 3) := by decide +kernel
theorem dX1_unite_33 : decode cX1_unite 33 = .ok (.aload_n 0, 1) := by decide +kernel
theorem dX1_unite_34 : decode cX1_unite 34 = .ok (.getfield 17, 3) := by decide +kernel
theorem dX1_unite_37 : decode cX1_unite 37 = .ok (.iload_n 3, 1) := by decide +kernel
theorem dX1_unite_38 : decode cX1_unite 38 = .ok (.aaload, 1) := by decide +kernel
theorem dX1_unite_39 : decode cX1_unite 39 = .ok (.iload 5, 2) := by decide +kernel
theorem dX1_unite_41 : decode cX1_unite 41 = .ok (.dup2, 1) := by decide +kernel
theorem dX1_unite_42 : decode cX1_unite 42 = .ok (.laload, 1) := by decide +kernel
theorem dX1_unite_43 : decode cX1_unite 43 = .ok (.aload_n 0, 1) := by decide +kernel
theorem dX1_unite_44 : decode cX1_unite 44 = .ok (.getfield 17, 3) := by decide +kernel
theorem dX1_unite_47 : decode cX1_unite 47 = .ok (.iload 4, 2) := by decide +kernel
theorem dX1_unite_49 : decode cX1_unite 49 = .ok (.aaload, 1) := by decide +kernel
theorem dX1_unite_50 : decode cX1_unite 50 = .ok (.iload 5, 2) := by decide +kernel
theorem dX1_unite_52 : decode cX1_unite 52 = .ok (.laload, 1) := by decide +kernel
theorem dX1_unite_53 : decode cX1_unite 53 = .ok (.land, 1) := by decide +kernel
theorem dX1_unite_54 : decode cX1_unite 54 = .ok (.lastore, 1) := by decide +kernel
theorem dX1_unite_55 : decode cX1_unite 55 = .ok (.iinc 5 1, 3) := by decide +kernel
theorem dX1_unite_58 : decode cX1_unite 58 = .ok (.goto (-32), 3) := by decide +kernel
theorem dX1_unite_61 : decode cX1_unite 61 = .ok (.iconst 0, 1) := by decide +kernel
theorem dX1_unite_62 : decode cX1_unite 62 = .ok (.istore 5, 2) := by decide +kernel
theorem dX1_unite_64 : decode cX1_unite 64 = .ok (.iload 5, 2) := by decide +kernel
theorem dX1_unite_66 : decode cX1_unite 66 = .ok (.iconst 4, 1) := by decide +kernel
theorem dX1_unite_67 : decode cX1_unite 67 = .ok (.if_icmp .ge 29, 3) := by decide +kernel
theorem dX1_unite_70 : decode cX1_unite 70 = .ok (.aload_n 0, 1) := by decide +kernel
theorem dX1_unite_71 : decode cX1_unite 71 = .ok (.getfield 9, 3) := by decide +kernel
theorem dX1_unite_74 : decode cX1_unite 74 = .ok (.iload 5, 2) := by decide +kernel
theorem dX1_unite_76 : decode cX1_unite 76 = .ok (.iaload, 1) := by decide +kernel
theorem dX1_unite_77 : decode cX1_unite 77 = .ok (.iload 4, 2) := by decide +kernel
theorem dX1_unite_79 : decode cX1_unite 79 = .ok (.if_icmp .ne 11, 3) := by decide +kernel
theorem dX1_unite_82 : decode cX1_unite 82 = .ok (.aload_n 0, 1) := by decide +kernel
theorem dX1_unite_83 : decode cX1_unite 83 = .ok (.getfield 9, 3) := by decide +kernel
theorem dX1_unite_86 : decode cX1_unite 86 = .ok (.iload 5, 2) := by decide +kernel
theorem dX1_unite_88 : decode cX1_unite 88 = .ok (.iload_n 3, 1) := by decide +kernel
theorem dX1_unite_89 : decode cX1_unite 89 = .ok (.iastore, 1) := by decide +kernel
theorem dX1_unite_90 : decode cX1_unite 90 = .ok (.iinc 5 1, 3) := by decide +kernel
theorem dX1_unite_93 : decode cX1_unite 93 = .ok (.goto (-29), 3) := by decide +kernel
theorem dX1_unite_96 : decode cX1_unite 96 = .ok (.iconst 1, 1) := by decide +kernel
theorem dX1_unite_97 : decode cX1_unite 97 = .ok (.ireturn, 1) := by decide +kernel
theorem dX1_copyFrom_0 : decode cX1_copyFrom 0 = .ok (.aload_n 1, 1) := by decide +kernel
theorem dX1_copyFrom_1 : decode cX1_copyFrom 1 = .ok (.getfield 9, 3) := by decide +kernel
theorem dX1_copyFrom_4 : decode cX1_copyFrom 4 = .ok (.iconst 0, 1) := by decide +kernel
theorem dX1_copyFrom_5 : decode cX1_copyFrom 5 = .ok (.aload_n 0, 1) := by decide +kernel
theorem dX1_copyFrom_6 : decode cX1_copyFrom 6 = .ok (.getfield 9, 3) := by decide +kernel
theorem dX1_copyFrom_9 : decode cX1_copyFrom 9 = .ok (.iconst 0, 1) := by decide +kernel
theorem dX1_copyFrom_10 : decode cX1_copyFrom 10 = .ok (.iconst 4, 1) := by decide +kernel
theorem dX1_copyFrom_11 : decode cX1_copyFrom 11 = .ok (.invokestatic 40, 3) := by decide +kernel
theorem dX1_copyFrom_14 : decode cX1_copyFrom 14 = .ok (.iconst 0, 1) := by decide +kernel
theorem dX1_copyFrom_15 : decode cX1_copyFrom 15 = .ok (.istore_n 2, 1) := by decide +kernel
theorem dX1_copyFrom_16 : decode cX1_copyFrom 16 = .ok (.iload_n 2, 1) := by decide +kernel
theorem dX1_copyFrom_17 : decode cX1_copyFrom 17 = .ok (.iconst 4, 1) := by decide +kernel
theorem dX1_copyFrom_18 : decode cX1_copyFrom 18 = .ok (.if_icmp .ge 28, 3) := by decide +kernel
theorem dX1_copyFrom_21 : decode cX1_copyFrom 21 = .ok (.aload_n 1, 1) := by decide +kernel
theorem dX1_copyFrom_22 : decode cX1_copyFrom 22 = .ok (.getfield 17, 3) := by decide +kernel
theorem dX1_copyFrom_25 : decode cX1_copyFrom 25 = .ok (.iload_n 2, 1) := by decide +kernel
theorem dX1_copyFrom_26 : decode cX1_copyFrom 26 = .ok (.aaload, 1) := by decide +kernel
theorem dX1_copyFrom_27 : decode cX1_copyFrom 27 = .ok (.iconst 0, 1) := by decide +kernel
theorem dX1_copyFrom_28 : decode cX1_copyFrom 28 = .ok (.aload_n 0, 1) := by decide +kernel
theorem dX1_copyFrom_29 : decode cX1_copyFrom 29 = .ok (.getfield 17, 3) := by decide +kernel
theorem dX1_copyFrom_32 : decode cX1_copyFrom 32 = .ok (.iload_n 2, 1) := by decide +kernel
theorem dX1_copyFrom_33 : decode cX1_copyFrom 33 = .ok (.aaload, 1) := by decide +kernel
theorem dX1_copyFrom_34 : decode cX1_copyFrom 34 = .ok (.iconst 0, 1) := by decide +kernel
theorem dX1_copyFrom_35 : decode cX1_copyFrom 35 = .ok (.bipush 64, 2) := by decide +kernel
theorem dX1_copyFrom_37 : decode cX1_copyFrom 37 = .ok (.invokestatic 40, 3) := by decide +kernel
theorem dX1_copyFrom_40 : decode cX1_copyFrom 40 = .ok (.iinc 2 1, 3) := by decide +kernel
theorem dX1_copyFrom_43 : decode cX1_copyFrom 43 = .ok (.goto (-27), 3) := by decide +kernel
theorem dX1_copyFrom_46 : decode cX1_copyFrom 46 = .ok (.return_, 1) := by decide +kernel
theorem dX2_init_0 : decode cX2_init 0 = .ok (.aload_n 0, 1) := by decide +kernel
theorem dX2_init_1 : decode cX2_init 1 = .ok (.invokespecial 3, 3) := by decide +kernel
theorem dX2_init_4 : decode cX2_init 4 = .ok (.aload_n 0, 1) := by decide +kernel
theorem dX2_init_5 : decode cX2_init 5 = .ok (.bipush 8, 2) := by decide +kernel
theorem dX2_init_7 : decode cX2_init 7 = .ok (.newarray .int, 2) := by decide +kernel
theorem dX2_init_9 : decode cX2_init 9 = .ok (.putfield 9, 3) := by decide +kernel
theorem dX2_init_12 : decode cX2_init 12 = .ok (.aload_n 0, 1) := by decide +kernel
theorem dX2_init_13 : decode cX2_init 13 = .ok (.bipush 10, 2) := by decide +kernel
theorem dX2_init_15 : decode cX2_init 15 = .ok (.newarray .int, 2) := by decide +kernel
theorem dX2_init_17 : decode cX2_init 17 = .ok (.putfield 15, 3) := by decide +kernel
theorem dX2_init_20 : decode cX2_init 20 = .ok (.aload_n 0, 1) := by decide +kernel
theorem dX2_init_21 : decode cX2_init 21 = .ok (.bipush 10, 2) := by decide +kernel
theorem dX2_init_23 : decode cX2_init 23 = .ok (.newarray .int, 2) := by decide +kernel
theorem dX2_init_25 : decode cX2_init 25 = .ok (.putfield 18, 3) := by decide +kernel
theorem dX2_init_28 : decode cX2_init 28 = .ok (.aload_n 0, 1) := by decide +kernel
theorem dX2_init_29 : decode cX2_init 29 = .ok (.bipush 10, 2) := by decide +kernel
theorem dX2_init_31 : decode cX2_init 31 = .ok (.newarray .int, 2) := by decide +kernel
theorem dX2_init_33 : decode cX2_init 33 = .ok (.putfield 21, 3) := by decide +kernel
theorem dX2_init_36 : decode cX2_init 36 = .ok (.aload_n 0, 1) := by decide +kernel
theorem dX2_init_37 : decode cX2_init 37 = .ok (.bipush 10, 2) := by decide +kernel
theorem dX2_init_39 : decode cX2_init 39 = .ok (.newarray .int, 2) := by decide +kernel
theorem dX2_init_41 : decode cX2_init 41 = .ok (.putfield 24, 3) := by decide +kernel
theorem dX2_init_44 : decode cX2_init 44 = .ok (.aload_n 0, 1) := by decide +kernel
theorem dX2_init_45 : decode cX2_init 45 = .ok (.bipush 10, 2) := by decide +kernel
theorem dX2_init_47 : decode cX2_init 47 = .ok (.newarray .int, 2) := by decide +kernel
theorem dX2_init_49 : decode cX2_init 49 = .ok (.putfield 27, 3) := by decide +kernel
theorem dX2_init_52 : decode cX2_init 52 = .ok (.aload_n 0, 1) := by decide +kernel
theorem dX2_init_53 : decode cX2_init 53 = .ok (.bipush 10, 2) := by decide +kernel
theorem dX2_init_55 : decode cX2_init 55 = .ok (.newarray .int, 2) := by decide +kernel
theorem dX2_init_57 : decode cX2_init 57 = .ok (.putfield 30, 3) := by decide +kernel
theorem dX2_init_60 : decode cX2_init 60 = .ok (.aload_n 0, 1) := by decide +kernel
theorem dX2_init_61 : decode cX2_init 61 = .ok (.iconst 0, 1) := by decide +kernel
theorem dX2_init_62 : decode cX2_init 62 = .ok (.putfield 33, 3) := by decide +kernel
theorem dX2_init_65 : decode cX2_init 65 = .ok (.aload_n 0, 1) := by decide +kernel
theorem dX2_init_66 : decode cX2_init 66 = .ok (.iconst 0, 1) := by decide +kernel
theorem dX2_init_67 : decode cX2_init 67 = .ok (.putfield 37, 3) := by decide +kernel
theorem dX2_init_70 : decode cX2_init 70 = .ok (.aload_n 0, 1) := by decide +kernel
theorem dX2_init_71 : decode cX2_init 71 = .ok (.iconst 1, 1) := by decide +kernel
theorem dX2_init_72 : decode cX2_init 72 = .ok (.putfield 40, 3) := by decide +kernel
theorem dX2_init_75 : decode cX2_init 75 = .ok (.aload_n 0, 1) := by decide +kernel
theorem dX2_init_76 : decode cX2_init 76 = .ok (.iconst 0, 1) := by decide +kernel
theorem dX2_init_77 : decode cX2_init 77 = .ok (.putfield 43, 3) := by decide +kernel
theorem dX2_init_80 : decode cX2_init 80 = .ok (.aload_n 0, 1) := by decide +kernel
theorem dX2_init_81 : decode cX2_init 81 = .ok (.iconst 1, 1) := by decide +kernel
theorem dX2_init_82 : decode cX2_init 82 = .ok (.putfield 46, 3) := by decide +kernel
theorem dX2_init_85 : decode cX2_init 85 = .ok (.return_, 1) := by decide +kernel
theorem dX2_hasRoomFor_0 : decode cX2_hasRoomFor 0 = .ok (.aload_n 0, 1) := by decide +kernel
theorem dX2_hasRoomFor_1 : decode cX2_hasRoomFor 1 = .ok (.getfield 37, 3) := by decide +kernel
theorem dX2_hasRoomFor_4 : decode cX2_hasRoomFor 4 = .ok (.bipush 10, 2) := by decide +kernel
theorem dX2_hasRoomFor_6 : decode cX2_hasRoomFor 6 = .ok (.if_icmp .ge 44, 3) := by decide +kernel
theorem dX2_hasRoomFor_9 : decode cX2_hasRoomFor 9 = .ok (.iload_n 1, 1) := by decide +kernel
theorem dX2_hasRoomFor_10 : decode cX2_hasRoomFor 10 = .ok (.iload_n 2, 1) := by decide +kernel
theorem dX2_hasRoomFor_11 : decode cX2_hasRoomFor 11 = .ok (.if_icmp .lt 39, 3) := by decide +kernel
theorem dX2_hasRoomFor_14 : decode cX2_hasRoomFor 14 = .ok (.iload_n 1, 1) := by decide +kernel
theorem dX2_hasRoomFor_15 : decode cX2_hasRoomFor 15 = .ok (.iload_n 3, 1) := by decide +kernel
theorem dX2_hasRoomFor_16 : decode cX2_hasRoomFor 16 = .ok (.if_icmp .gt 34, 3) := by decide +kernel
theorem dX2_hasRoomFor_19 : decode cX2_hasRoomFor 19 = .ok (.aload_n 0, 1) := by decide +kernel
theorem dX2_hasRoomFor_20 : decode cX2_hasRoomFor 20 = .ok (.getfield 40, 3) := by decide +kernel
theorem dX2_hasRoomFor_23 : decode cX2_hasRoomFor 23 = .ok (.iload_n 3, 1) := by decide +kernel
theorem dX2_hasRoomFor_24 : decode cX2_hasRoomFor 24 = .ok (.iload_n 2, 1) := by decide +kernel
theorem dX2_hasRoomFor_25 : decode cX2_hasRoomFor 25 = .ok (.isub, 1) := by decide +kernel
theorem dX2_hasRoomFor_26 : decode cX2_hasRoomFor 26 = .ok (.iconst 1, 1) := by decide +kernel
theorem dX2_hasRoomFor_27 : decode cX2_hasRoomFor 27 = .ok (.iadd, 1) := by decide +kernel
theorem dX2_hasRoomFor_28 : decode cX2_hasRoomFor 28 = .ok (.imul, 1) := by decide +kernel
theorem dX2_hasRoomFor_29 : decode cX2_hasRoomFor 29 = .ok (.sipush 4096, 3) := by decide +kernel
theorem dX2_hasRoomFor_32 : decode cX2_hasRoomFor 32 = .ok (.if_icmp .gt 18, 3) := by decide +kernel
theorem dX2_hasRoomFor_35 : decode cX2_hasRoomFor 35 = .ok (.aload_n 0, 1) := by decide +kernel
theorem dX2_hasRoomFor_36 : decode cX2_hasRoomFor 36 = .ok (.getfield 43, 3) := by decide +kernel
theorem dX2_hasRoomFor_39 : decode cX2_hasRoomFor 39 = .ok (.iload_n 3, 1) := by decide +kernel
theorem dX2_hasRoomFor_40 : decode cX2_hasRoomFor 40 = .ok (.iadd, 1) := by decide +kernel
theorem dX2_hasRoomFor_41 : decode cX2_hasRoomFor 41 = .ok (.bipush 60, 2) := by decide +kernel
theorem dX2_hasRoomFor_43 : decode cX2_hasRoomFor 43 = .ok (.if_icmp .gt 7, 3) := by decide +kernel
theorem dX2_hasRoomFor_46 : decode cX2_hasRoomFor 46 = .ok (.iconst 1, 1) := by decide +kernel
theorem dX2_hasRoomFor_47 : decode cX2_hasRoomFor 47 = .ok (.goto 4, 3) := by decide +kernel
theorem dX2_hasRoomFor_50 : decode cX2_hasRoomFor 50 = .ok (.iconst 0, 1) := by decide +kernel
theorem dX2_hasRoomFor_51 : decode cX2_hasRoomFor 51 = .ok (.ireturn, 1) := by decide +kernel
theorem dX2_add_0 : decode cX2_add 0 = .ok (.aload_n 0, 1) := by decide +kernel
theorem dX2_add_1 : decode cX2_add 1 = .ok (.getfield 15, 3) := by decide +kernel
theorem dX2_add_4 : decode cX2_add 4 = .ok (.aload_n 0, 1) := by decide +kernel
theorem dX2_add_5 : decode cX2_add 5 = .ok (.getfield 37, 3) := by decide +kernel
theorem dX2_add_8 : decode cX2_add 8 = .ok (.iload_n 1, 1) := by decide +kernel
theorem dX2_add_9 : decode cX2_add 9 = .ok (.iastore, 1) := by decide +kernel
theorem dX2_add_10 : decode cX2_add 10 = .ok (.aload_n 0, 1) := by decide +kernel
theorem dX2_add_11 : decode cX2_add 11 = .ok (.getfield 18, 3) := by decide +kernel
theorem dX2_add_14 : decode cX2_add 14 = .ok (.aload_n 0, 1) := by decide +kernel
theorem dX2_add_15 : decode cX2_add 15 = .ok (.getfield 37, 3) := by decide +kernel
theorem dX2_add_18 : decode cX2_add 18 = .ok (.iload_n 3, 1) := by decide +kernel
theorem dX2_add_19 : decode cX2_add 19 = .ok (.iastore, 1) := by decide +kernel
theorem dX2_add_20 : decode cX2_add 20 = .ok (.aload_n 0, 1) := by decide +kernel
theorem dX2_add_21 : decode cX2_add 21 = .ok (.getfield 21, 3) := by decide +kernel
theorem dX2_add_24 : decode cX2_add 24 = .ok (.aload_n 0, 1) := by decide +kernel
theorem dX2_add_25 : decode cX2_add 25 = .ok (.getfield 37, 3) := by decide +kernel
theorem dX2_add_28 : decode cX2_add 28 = .ok (.iload 4, 2) := by decide +kernel
theorem dX2_add_30 : decode cX2_add 30 = .ok (.iastore, 1) := by decide +kernel
theorem dX2_add_31 : decode cX2_add 31 = .ok (.aload_n 0, 1) := by decide +kernel
theorem dX2_add_32 : decode cX2_add 32 = .ok (.getfield 24, 3) := by decide +kernel
theorem dX2_add_35 : decode cX2_add 35 = .ok (.aload_n 0, 1) := by decide +kernel
theorem dX2_add_36 : decode cX2_add 36 = .ok (.getfield 37, 3) := by decide +kernel
theorem dX2_add_39 : decode cX2_add 39 = .ok (.iload 5, 2) := by decide +kernel
theorem dX2_add_41 : decode cX2_add 41 = .ok (.iastore, 1) := by decide +kernel
theorem dX2_add_42 : decode cX2_add 42 = .ok (.aload_n 0, 1) := by decide +kernel
theorem dX2_add_43 : decode cX2_add 43 = .ok (.getfield 27, 3) := by decide +kernel
theorem dX2_add_46 : decode cX2_add 46 = .ok (.aload_n 0, 1) := by decide +kernel
theorem dX2_add_47 : decode cX2_add 47 = .ok (.getfield 37, 3) := by decide +kernel
theorem dX2_add_50 : decode cX2_add 50 = .ok (.iload_n 2, 1) := by decide +kernel
theorem dX2_add_51 : decode cX2_add 51 = .ok (.iastore, 1) := by decide +kernel
theorem dX2_add_52 : decode cX2_add 52 = .ok (.aload_n 0, 1) := by decide +kernel
theorem dX2_add_53 : decode cX2_add 53 = .ok (.getfield 30, 3) := by decide +kernel
theorem dX2_add_56 : decode cX2_add 56 = .ok (.aload_n 0, 1) := by decide +kernel
theorem dX2_add_57 : decode cX2_add 57 = .ok (.getfield 37, 3) := by decide +kernel
theorem dX2_add_60 : decode cX2_add 60 = .ok (.aload_n 0, 1) := by decide +kernel
theorem dX2_add_61 : decode cX2_add 61 = .ok (.getfield 46, 3) := by decide +kernel
theorem dX2_add_64 : decode cX2_add 64 = .ok (.iastore, 1) := by decide +kernel
theorem dX2_add_65 : decode cX2_add 65 = .ok (.aload_n 0, 1) := by decide +kernel
theorem dX2_add_66 : decode cX2_add 66 = .ok (.getfield 9, 3) := by decide +kernel
theorem dX2_add_69 : decode cX2_add 69 = .ok (.iload_n 1, 1) := by decide +kernel
theorem dX2_add_70 : decode cX2_add 70 = .ok (.aload_n 0, 1) := by decide +kernel
theorem dX2_add_71 : decode cX2_add 71 = .ok (.getfield 37, 3) := by decide +kernel
theorem dX2_add_74 : decode cX2_add 74 = .ok (.iastore, 1) := by decide +kernel
theorem dX2_add_75 : decode cX2_add 75 = .ok (.aload_n 0, 1) := by decide +kernel
theorem dX2_add_76 : decode cX2_add 76 = .ok (.dup, 1) := by decide +kernel
theorem dX2_add_77 : decode cX2_add 77 = .ok (.getfield 46, 3) := by decide +kernel
theorem dX2_add_80 : decode cX2_add 80 = .ok (.aload_n 0, 1) := by decide +kernel
theorem dX2_add_81 : decode cX2_add 81 = .ok (.aload_n 0, 1) := by decide +kernel
theorem dX2_add_82 : decode cX2_add 82 = .ok (.getfield 37, 3) := by decide +kernel
theorem dX2_add_85 : decode cX2_add 85 = .ok (.invokevirtual 49, 3) := by decide +kernel
theorem dX2_add_88 : decode cX2_add 88 = .ok (.iadd, 1) := by decide +kernel
theorem dX2_add_89 : decode cX2_add 89 = .ok (.putfield 46, 3) := by decide +kernel
theorem dX2_add_92 : decode cX2_add 92 = .ok (.aload_n 0, 1) := by decide +kernel
theorem dX2_add_93 : decode cX2_add 93 = .ok (.dup, 1) := by decide +kernel
theorem dX2_add_94 : decode cX2_add 94 = .ok (.getfield 40, 3) := by decide +kernel
theorem dX2_add_97 : decode cX2_add 97 = .ok (.aload_n 0, 1) := by decide +kernel
theorem dX2_add_98 : decode cX2_add 98 = .ok (.aload_n 0, 1) := by decide +kernel
theorem dX2_add_99 : decode cX2_add 99 = .ok (.getfield 37, 3) := by decide +kernel
theorem dX2_add_102 : decode cX2_add 102 = .ok (.invokevirtual 49, 3) := by decide +kernel
theorem dX2_add_105 : decode cX2_add 105 = .ok (.imul, 1) := by decide +kernel
theorem dX2_add_106 : decode cX2_add 106 = .ok (.putfield 40, 3) := by decide +kernel
theorem dX2_add_109 : decode cX2_add 109 = .ok (.aload_n 0, 1) := by decide +kernel
theorem dX2_add_110 : decode cX2_add 110 = .ok (.dup, 1) := by decide +kernel
theorem dX2_add_111 : decode cX2_add 111 = .ok (.getfield 43, 3) := by decide +kernel
theorem dX2_add_114 : decode cX2_add 114 = .ok (.iload 4, 2) := by decide +kernel
theorem dX2_add_116 : decode cX2_add 116 = .ok (.iadd, 1) := by decide +kernel
theorem dX2_add_117 : decode cX2_add 117 = .ok (.putfield 43, 3) := by decide +kernel
theorem dX2_add_120 : decode cX2_add 120 = .ok (.aload_n 0, 1) := by decide +kernel
theorem dX2_add_121 : decode cX2_add 121 = .ok (.dup, 1) := by decide +kernel
theorem dX2_add_122 : decode cX2_add 122 = .ok (.getfield 37, 3) := by decide +kernel
theorem dX2_add_125 : decode cX2_add 125 = .ok (.iconst 1, 1) := by decide +kernel
theorem dX2_add_126 : decode cX2_add 126 = .ok (.iadd, 1) := by decide +kernel
theorem dX2_add_127 : decode cX2_add 127 = .ok (.putfield 37, 3) := by decide +kernel
theorem dX2_add_130 : decode cX2_add 130 = .ok (.return_, 1) := by decide +kernel
theorem dX2_valueCount_0 : decode cX2_valueCount 0 = .ok (.aload_n 0, 1) := by decide +kernel
theorem dX2_valueCount_1 : decode cX2_valueCount 1 = .ok (.getfield 21, 3) := by decide +kernel
theorem dX2_valueCount_4 : decode cX2_valueCount 4 = .ok (.iload_n 1, 1) := by decide +kernel
theorem dX2_valueCount_5 : decode cX2_valueCount 5 = .ok (.iaload, 1) := by decide +kernel
theorem dX2_valueCount_6 : decode cX2_valueCount 6 = .ok (.aload_n 0, 1) := by decide +kernel
theorem dX2_valueCount_7 : decode cX2_valueCount 7 = .ok (.getfield 18, 3) := by decide +kernel
theorem dX2_valueCount_10 : decode cX2_valueCount 10 = .ok (.iload_n 1, 1) := by decide +kernel
theorem dX2_valueCount_11 : decode cX2_valueCount 11 = .ok (.iaload, 1) := by decide +kernel
theorem dX2_valueCount_12 : decode cX2_valueCount 12 = .ok (.isub, 1) := by decide +kernel
theorem dX2_valueCount_13 : decode cX2_valueCount 13 = .ok (.iconst 1, 1) := by decide +kernel
theorem dX2_valueCount_14 : decode cX2_valueCount 14 = .ok (.iadd, 1) := by decide +kernel
theorem dX2_valueCount_15 : decode cX2_valueCount 15 = .ok (.ireturn, 1) := by decide +kernel
theorem dX2_isCurrent_0 : decode cX2_isCurrent 0 = .ok (.aload_n 0, 1) := by decide +kernel
theorem dX2_isCurrent_1 : decode cX2_isCurrent 1 = .ok (.getfield 9, 3) := by decide +kernel
theorem dX2_isCurrent_4 : decode cX2_isCurrent 4 = .ok (.aload_n 0, 1) := by decide +kernel
theorem dX2_isCurrent_5 : decode cX2_isCurrent 5 = .ok (.getfield 15, 3) := by decide +kernel
theorem dX2_isCurrent_8 : decode cX2_isCurrent 8 = .ok (.iload_n 1, 1) := by decide +kernel
theorem dX2_isCurrent_9 : decode cX2_isCurrent 9 = .ok (.iaload, 1) := by decide +kernel
theorem dX2_isCurrent_10 : decode cX2_isCurrent 10 = .ok (.iaload, 1) := by decide +kernel
theorem dX2_isCurrent_11 : decode cX2_isCurrent 11 = .ok (.iload_n 1, 1) := by decide +kernel
theorem dX2_isCurrent_12 : decode cX2_isCurrent 12 = .ok (.if_icmp .ne 7, 3) := by decide +kernel
theorem dX2_isCurrent_15 : decode cX2_isCurrent 15 = .ok (.iconst 1, 1) := by decide +kernel
theorem dX2_isCurrent_16 : decode cX2_isCurrent 16 = .ok (.goto 4, 3) := by decide +kernel
theorem dX2_isCurrent_19 : decode cX2_isCurrent 19 = .ok (.iconst 0, 1) := by decide +kernel
theorem dX2_isCurrent_20 : decode cX2_isCurrent 20 = .ok (.ireturn, 1) := by decide +kernel
theorem dX2_isAskedOf_0 : decode cX2_isAskedOf 0 = .ok (.aload_n 0, 1) := by decide +kernel
theorem dX2_isAskedOf_1 : decode cX2_isAskedOf 1 = .ok (.iload_n 1, 1) := by decide +kernel
theorem dX2_isAskedOf_2 : decode cX2_isAskedOf 2 = .ok (.invokevirtual 53, 3) := by decide +kernel
theorem dX2_isAskedOf_5 : decode cX2_isAskedOf 5 = .ok (.ifCond .eq 20, 3) := by decide +kernel
theorem dX2_isAskedOf_8 : decode cX2_isAskedOf 8 = .ok (.iload_n 2, 1) := by decide +kernel
theorem dX2_isAskedOf_9 : decode cX2_isAskedOf 9 = .ok (.aload_n 0, 1) := by decide +kernel
theorem dX2_isAskedOf_10 : decode cX2_isAskedOf 10 = .ok (.getfield 15, 3) := by decide +kernel
theorem dX2_isAskedOf_13 : decode cX2_isAskedOf 13 = .ok (.iload_n 1, 1) := by decide +kernel
theorem dX2_isAskedOf_14 : decode cX2_isAskedOf 14 = .ok (.iaload, 1) := by decide +kernel
theorem dX2_isAskedOf_15 : decode cX2_isAskedOf 15 = .ok (.invokestatic 57, 3) := by decide +kernel
theorem dX2_isAskedOf_18 : decode cX2_isAskedOf 18 = .ok (.ifCond .eq 7, 3) := by decide +kernel
theorem dX2_isAskedOf_21 : decode cX2_isAskedOf 21 = .ok (.iconst 1, 1) := by decide +kernel
theorem dX2_isAskedOf_22 : decode cX2_isAskedOf 22 = .ok (.goto 4, 3) := by decide +kernel
theorem dX2_isAskedOf_25 : decode cX2_isAskedOf 25 = .ok (.iconst 0, 1) := by decide +kernel
theorem dX2_isAskedOf_26 : decode cX2_isAskedOf 26 = .ok (.ireturn, 1) := by decide +kernel
theorem dX2_onlyPeople_0 : decode cX2_onlyPeople 0 = .ok (.iload_n 1, 1) := by decide +kernel
theorem dX2_onlyPeople_1 : decode cX2_onlyPeople 1 = .ok (.iconst 1, 1) := by decide +kernel
theorem dX2_onlyPeople_2 : decode cX2_onlyPeople 2 = .ok (.aload_n 0, 1) := by decide +kernel
theorem dX2_onlyPeople_3 : decode cX2_onlyPeople 3 = .ok (.getfield 33, 3) := by decide +kernel
theorem dX2_onlyPeople_6 : decode cX2_onlyPeople 6 = .ok (.ishl, 1) := by decide +kernel
theorem dX2_onlyPeople_7 : decode cX2_onlyPeople 7 = .ok (.iconst 1, 1) := by decide +kernel
theorem dX2_onlyPeople_8 : decode cX2_onlyPeople 8 = .ok (.isub, 1) := by decide +kernel
theorem dX2_onlyPeople_9 : decode cX2_onlyPeople 9 = .ok (.iand, 1) := by decide +kernel
theorem dX2_onlyPeople_10 : decode cX2_onlyPeople 10 = .ok (.ireturn, 1) := by decide +kernel
theorem dX2_hiddenTable_0 : decode cX2_hiddenTable 0 = .ok (.iconst 0, 1) := by decide +kernel
theorem dX2_hiddenTable_1 : decode cX2_hiddenTable 1 = .ok (.istore_n 1, 1) := by decide +kernel
theorem dX2_hiddenTable_2 : decode cX2_hiddenTable 2 = .ok (.iconst 1, 1) := by decide +kernel
theorem dX2_hiddenTable_3 : decode cX2_hiddenTable 3 = .ok (.istore_n 2, 1) := by decide +kernel
theorem dX2_hiddenTable_4 : decode cX2_hiddenTable 4 = .ok (.iconst 0, 1) := by decide +kernel
theorem dX2_hiddenTable_5 : decode cX2_hiddenTable 5 = .ok (.istore_n 3, 1) := by decide +kernel
theorem dX2_hiddenTable_6 : decode cX2_hiddenTable 6 = .ok (.iload_n 3, 1) := by decide +kernel
theorem dX2_hiddenTable_7 : decode cX2_hiddenTable 7 = .ok (.aload_n 0, 1) := by decide +kernel
theorem dX2_hiddenTable_8 : decode cX2_hiddenTable 8 = .ok (.getfield 37, 3) := by decide +kernel
theorem dX2_hiddenTable_11 : decode cX2_hiddenTable 11 = .ok (.if_icmp .ge 35, 3) := by decide +kernel
theorem dX2_hiddenTable_14 : decode cX2_hiddenTable 14 = .ok (.iload_n 1, 1) := by decide +kernel
theorem dX2_hiddenTable_15 : decode cX2_hiddenTable 15 = .ok (.aload_n 0, 1) := by decide +kernel
theorem dX2_hiddenTable_16 : decode cX2_hiddenTable 16 = .ok (.getfield 27, 3) := by decide +kernel
theorem dX2_hiddenTable_19 : decode cX2_hiddenTable 19 = .ok (.iload_n 3, 1) := by decide +kernel
theorem dX2_hiddenTable_20 : decode cX2_hiddenTable 20 = .ok (.iaload, 1) := by decide +kernel
theorem dX2_hiddenTable_21 : decode cX2_hiddenTable 21 = .ok (.aload_n 0, 1) := by decide +kernel
theorem dX2_hiddenTable_22 : decode cX2_hiddenTable 22 = .ok (.getfield 18, 3) := by decide +kernel
theorem dX2_hiddenTable_25 : decode cX2_hiddenTable 25 = .ok (.iload_n 3, 1) := by decide +kernel
theorem dX2_hiddenTable_26 : decode cX2_hiddenTable 26 = .ok (.iaload, 1) := by decide +kernel
theorem dX2_hiddenTable_27 : decode cX2_hiddenTable 27 = .ok (.isub, 1) := by decide +kernel
theorem dX2_hiddenTable_28 : decode cX2_hiddenTable 28 = .ok (.iload_n 2, 1) := by decide +kernel
theorem dX2_hiddenTable_29 : decode cX2_hiddenTable 29 = .ok (.imul, 1) := by decide +kernel
theorem dX2_hiddenTable_30 : decode cX2_hiddenTable 30 = .ok (.iadd, 1) := by decide +kernel
theorem dX2_hiddenTable_31 : decode cX2_hiddenTable 31 = .ok (.istore_n 1, 1) := by decide +kernel
theorem dX2_hiddenTable_32 : decode cX2_hiddenTable 32 = .ok (.iload_n 2, 1) := by decide +kernel
theorem dX2_hiddenTable_33 : decode cX2_hiddenTable 33 = .ok (.aload_n 0, 1) := by decide +kernel
theorem dX2_hiddenTable_34 : decode cX2_hiddenTable 34 = .ok (.iload_n 3, 1) := by decide +kernel
theorem dX2_hiddenTable_35 : decode cX2_hiddenTable 35 = .ok (.invokevirtual 49, 3) := by decide +kernel
theorem dX2_hiddenTable_38 : decode cX2_hiddenTable 38 = .ok (.imul, 1) := by decide +kernel
theorem dX2_hiddenTable_39 : decode cX2_hiddenTable 39 = .ok (.istore_n 2, 1) := by decide +kernel
theorem dX2_hiddenTable_40 : decode cX2_hiddenTable 40 = .ok (.iinc 3 1, 3) := by decide +kernel
theorem dX2_hiddenTable_43 : decode cX2_hiddenTable 43 = .ok (.goto (-37), 3) := by decide +kernel
theorem dX2_hiddenTable_46 : decode cX2_hiddenTable 46 = .ok (.iload_n 1, 1) := by decide +kernel
theorem dX2_hiddenTable_47 : decode cX2_hiddenTable 47 = .ok (.ireturn, 1) := by decide +kernel
theorem dX2_valuesIn_0 : decode cX2_valuesIn 0 = .ok (.lload_n 2, 1) := by decide +kernel
theorem dX2_valuesIn_1 : decode cX2_valuesIn 1 = .ok (.aload_n 0, 1) := by decide +kernel
theorem dX2_valuesIn_2 : decode cX2_valuesIn 2 = .ok (.getfield 30, 3) := by decide +kernel
theorem dX2_valuesIn_5 : decode cX2_valuesIn 5 = .ok (.iload_n 1, 1) := by decide +kernel
theorem dX2_valuesIn_6 : decode cX2_valuesIn 6 = .ok (.iaload, 1) := by decide +kernel
theorem dX2_valuesIn_7 : decode cX2_valuesIn 7 = .ok (.lushr, 1) := by decide +kernel
theorem dX2_valuesIn_8 : decode cX2_valuesIn 8 = .ok (.l2i, 1) := by decide +kernel
theorem dX2_valuesIn_9 : decode cX2_valuesIn 9 = .ok (.iconst 1, 1) := by decide +kernel
theorem dX2_valuesIn_10 : decode cX2_valuesIn 10 = .ok (.aload_n 0, 1) := by decide +kernel
theorem dX2_valuesIn_11 : decode cX2_valuesIn 11 = .ok (.iload_n 1, 1) := by decide +kernel
theorem dX2_valuesIn_12 : decode cX2_valuesIn 12 = .ok (.invokevirtual 49, 3) := by decide +kernel
theorem dX2_valuesIn_15 : decode cX2_valuesIn 15 = .ok (.ishl, 1) := by decide +kernel
theorem dX2_valuesIn_16 : decode cX2_valuesIn 16 = .ok (.iconst 1, 1) := by decide +kernel
theorem dX2_valuesIn_17 : decode cX2_valuesIn 17 = .ok (.isub, 1) := by decide +kernel
theorem dX2_valuesIn_18 : decode cX2_valuesIn 18 = .ok (.iand, 1) := by decide +kernel
theorem dX2_valuesIn_19 : decode cX2_valuesIn 19 = .ok (.ireturn, 1) := by decide +kernel
theorem dX2_areSafe_0 : decode cX2_areSafe 0 = .ok (.iconst 0, 1) := by decide +kernel
theorem dX2_areSafe_1 : decode cX2_areSafe 1 = .ok (.istore_n 3, 1) := by decide +kernel
theorem dX2_areSafe_2 : decode cX2_areSafe 2 = .ok (.iload_n 3, 1) := by decide +kernel
theorem dX2_areSafe_3 : decode cX2_areSafe 3 = .ok (.aload_n 0, 1) := by decide +kernel
theorem dX2_areSafe_4 : decode cX2_areSafe 4 = .ok (.getfield 37, 3) := by decide +kernel
theorem dX2_areSafe_7 : decode cX2_areSafe 7 = .ok (.if_icmp .ge 45, 3) := by decide +kernel
theorem dX2_areSafe_10 : decode cX2_areSafe 10 = .ok (.aload_n 0, 1) := by decide +kernel
theorem dX2_areSafe_11 : decode cX2_areSafe 11 = .ok (.iload_n 3, 1) := by decide +kernel
theorem dX2_areSafe_12 : decode cX2_areSafe 12 = .ok (.lload_n 1, 1) := by decide +kernel
theorem dX2_areSafe_13 : decode cX2_areSafe 13 = .ok (.invokevirtual 61, 3) := by decide +kernel
theorem dX2_areSafe_16 : decode cX2_areSafe 16 = .ok (.i2l, 1) := by decide +kernel
theorem dX2_areSafe_17 : decode cX2_areSafe 17 = .ok (.lstore 4, 2) := by decide +kernel
theorem dX2_areSafe_19 : decode cX2_areSafe 19 = .ok (.lload 4, 2) := by decide +kernel
theorem dX2_areSafe_21 : decode cX2_areSafe 21 = .ok (.lload 4, 2) := by decide +kernel
theorem dX2_areSafe_23 : decode cX2_areSafe 23 = .ok (.lneg, 1) := by decide +kernel
theorem dX2_areSafe_24 : decode cX2_areSafe 24 = .ok (.land, 1) := by decide +kernel
theorem dX2_areSafe_25 : decode cX2_areSafe 25 = .ok (.lstore 6, 2) := by decide +kernel
theorem dX2_areSafe_27 : decode cX2_areSafe 27 = .ok (.lload 4, 2) := by decide +kernel
theorem dX2_areSafe_29 : decode cX2_areSafe 29 = .ok (.lload 6, 2) := by decide +kernel
theorem dX2_areSafe_31 : decode cX2_areSafe 31 = .ok (.aload_n 0, 1) := by decide +kernel
theorem dX2_areSafe_32 : decode cX2_areSafe 32 = .ok (.getfield 24, 3) := by decide +kernel
theorem dX2_areSafe_35 : decode cX2_areSafe 35 = .ok (.iload_n 3, 1) := by decide +kernel
theorem dX2_areSafe_36 : decode cX2_areSafe 36 = .ok (.iaload, 1) := by decide +kernel
theorem dX2_areSafe_37 : decode cX2_areSafe 37 = .ok (.iconst 1, 1) := by decide +kernel
theorem dX2_areSafe_38 : decode cX2_areSafe 38 = .ok (.isub, 1) := by decide +kernel
theorem dX2_areSafe_39 : decode cX2_areSafe 39 = .ok (.lshl, 1) := by decide +kernel
theorem dX2_areSafe_40 : decode cX2_areSafe 40 = .ok (.lcmp, 1) := by decide +kernel
theorem dX2_areSafe_41 : decode cX2_areSafe 41 = .ok (.ifCond .ge 5, 3) := by decide +kernel
theorem dX2_areSafe_44 : decode cX2_areSafe 44 = .ok (.iconst 0, 1) := by decide +kernel
theorem dX2_areSafe_45 : decode cX2_areSafe 45 = .ok (.ireturn, 1) := by decide +kernel
theorem dX2_areSafe_46 : decode cX2_areSafe 46 = .ok (.iinc 3 1, 3) := by decide +kernel
theorem dX2_areSafe_49 : decode cX2_areSafe 49 = .ok (.goto (-47), 3) := by decide +kernel
theorem dX2_areSafe_52 : decode cX2_areSafe 52 = .ok (.iconst 1, 1) := by decide +kernel
theorem dX2_areSafe_53 : decode cX2_areSafe 53 = .ok (.ireturn, 1) := by decide +kernel
theorem dX2_copyFrom_0 : decode cX2_copyFrom 0 = .ok (.aload_n 1, 1) := by decide +kernel
theorem dX2_copyFrom_1 : decode cX2_copyFrom 1 = .ok (.getfield 9, 3) := by decide +kernel
theorem dX2_copyFrom_4 : decode cX2_copyFrom 4 = .ok (.iconst 0, 1) := by decide +kernel
theorem dX2_copyFrom_5 : decode cX2_copyFrom 5 = .ok (.aload_n 0, 1) := by decide +kernel
theorem dX2_copyFrom_6 : decode cX2_copyFrom 6 = .ok (.getfield 9, 3) := by decide +kernel
theorem dX2_copyFrom_9 : decode cX2_copyFrom 9 = .ok (.iconst 0, 1) := by decide +kernel
theorem dX2_copyFrom_10 : decode cX2_copyFrom 10 = .ok (.bipush 8, 2) := by decide +kernel
theorem dX2_copyFrom_12 : decode cX2_copyFrom 12 = .ok (.invokestatic 65, 3) := by decide +kernel
theorem dX2_copyFrom_15 : decode cX2_copyFrom 15 = .ok (.aload_n 1, 1) := by decide +kernel
theorem dX2_copyFrom_16 : decode cX2_copyFrom 16 = .ok (.getfield 15, 3) := by decide +kernel
theorem dX2_copyFrom_19 : decode cX2_copyFrom 19 = .ok (.iconst 0, 1) := by decide +kernel
theorem dX2_copyFrom_20 : decode cX2_copyFrom 20 = .ok (.aload_n 0, 1) := by decide +kernel
theorem dX2_copyFrom_21 : decode cX2_copyFrom 21 = .ok (.getfield 15, 3) := by decide +kernel
theorem dX2_copyFrom_24 : decode cX2_copyFrom 24 = .ok (.iconst 0, 1) := by decide +kernel
theorem dX2_copyFrom_25 : decode cX2_copyFrom 25 = .ok (.bipush 10, 2) := by decide +kernel
theorem dX2_copyFrom_27 : decode cX2_copyFrom 27 = .ok (.invokestatic 65, 3) := by decide +kernel
theorem dX2_copyFrom_30 : decode cX2_copyFrom 30 = .ok (.aload_n 1, 1) := by decide +kernel
theorem dX2_copyFrom_31 : decode cX2_copyFrom 31 = .ok (.getfield 18, 3) := by decide +kernel
theorem dX2_copyFrom_34 : decode cX2_copyFrom 34 = .ok (.iconst 0, 1) := by decide +kernel
theorem dX2_copyFrom_35 : decode cX2_copyFrom 35 = .ok (.aload_n 0, 1) := by decide +kernel
theorem dX2_copyFrom_36 : decode cX2_copyFrom 36 = .ok (.getfield 18, 3) := by decide +kernel
theorem dX2_copyFrom_39 : decode cX2_copyFrom 39 = .ok (.iconst 0, 1) := by decide +kernel
theorem dX2_copyFrom_40 : decode cX2_copyFrom 40 = .ok (.bipush 10, 2) := by decide +kernel
theorem dX2_copyFrom_42 : decode cX2_copyFrom 42 = .ok (.invokestatic 65, 3) := by decide +kernel
theorem dX2_copyFrom_45 : decode cX2_copyFrom 45 = .ok (.aload_n 1, 1) := by decide +kernel
theorem dX2_copyFrom_46 : decode cX2_copyFrom 46 = .ok (.getfield 21, 3) := by decide +kernel
theorem dX2_copyFrom_49 : decode cX2_copyFrom 49 = .ok (.iconst 0, 1) := by decide +kernel
theorem dX2_copyFrom_50 : decode cX2_copyFrom 50 = .ok (.aload_n 0, 1) := by decide +kernel
theorem dX2_copyFrom_51 : decode cX2_copyFrom 51 = .ok (.getfield 21, 3) := by decide +kernel
theorem dX2_copyFrom_54 : decode cX2_copyFrom 54 = .ok (.iconst 0, 1) := by decide +kernel
theorem dX2_copyFrom_55 : decode cX2_copyFrom 55 = .ok (.bipush 10, 2) := by decide +kernel
theorem dX2_copyFrom_57 : decode cX2_copyFrom 57 = .ok (.invokestatic 65, 3) := by decide +kernel
theorem dX2_copyFrom_60 : decode cX2_copyFrom 60 = .ok (.aload_n 1, 1) := by decide +kernel
theorem dX2_copyFrom_61 : decode cX2_copyFrom 61 = .ok (.getfield 24, 3) := by decide +kernel
theorem dX2_copyFrom_64 : decode cX2_copyFrom 64 = .ok (.iconst 0, 1) := by decide +kernel
theorem dX2_copyFrom_65 : decode cX2_copyFrom 65 = .ok (.aload_n 0, 1) := by decide +kernel
theorem dX2_copyFrom_66 : decode cX2_copyFrom 66 = .ok (.getfield 24, 3) := by decide +kernel
theorem dX2_copyFrom_69 : decode cX2_copyFrom 69 = .ok (.iconst 0, 1) := by decide +kernel
theorem dX2_copyFrom_70 : decode cX2_copyFrom 70 = .ok (.bipush 10, 2) := by decide +kernel
theorem dX2_copyFrom_72 : decode cX2_copyFrom 72 = .ok (.invokestatic 65, 3) := by decide +kernel
theorem dX2_copyFrom_75 : decode cX2_copyFrom 75 = .ok (.aload_n 1, 1) := by decide +kernel
theorem dX2_copyFrom_76 : decode cX2_copyFrom 76 = .ok (.getfield 27, 3) := by decide +kernel
theorem dX2_copyFrom_79 : decode cX2_copyFrom 79 = .ok (.iconst 0, 1) := by decide +kernel
theorem dX2_copyFrom_80 : decode cX2_copyFrom 80 = .ok (.aload_n 0, 1) := by decide +kernel
theorem dX2_copyFrom_81 : decode cX2_copyFrom 81 = .ok (.getfield 27, 3) := by decide +kernel
theorem dX2_copyFrom_84 : decode cX2_copyFrom 84 = .ok (.iconst 0, 1) := by decide +kernel
theorem dX2_copyFrom_85 : decode cX2_copyFrom 85 = .ok (.bipush 10, 2) := by decide +kernel
theorem dX2_copyFrom_87 : decode cX2_copyFrom 87 = .ok (.invokestatic 65, 3) := by decide +kernel
theorem dX2_copyFrom_90 : decode cX2_copyFrom 90 = .ok (.aload_n 1, 1) := by decide +kernel
theorem dX2_copyFrom_91 : decode cX2_copyFrom 91 = .ok (.getfield 30, 3) := by decide +kernel
theorem dX2_copyFrom_94 : decode cX2_copyFrom 94 = .ok (.iconst 0, 1) := by decide +kernel
theorem dX2_copyFrom_95 : decode cX2_copyFrom 95 = .ok (.aload_n 0, 1) := by decide +kernel
theorem dX2_copyFrom_96 : decode cX2_copyFrom 96 = .ok (.getfield 30, 3) := by decide +kernel
theorem dX2_copyFrom_99 : decode cX2_copyFrom 99 = .ok (.iconst 0, 1) := by decide +kernel
theorem dX2_copyFrom_100 : decode cX2_copyFrom 100 = .ok (.bipush 10, 2) := by decide +kernel
theorem dX2_copyFrom_102 : decode cX2_copyFrom 102 = .ok (.invokestatic 65, 3) := by decide +kernel
theorem dX2_copyFrom_105 : decode cX2_copyFrom 105 = .ok (.aload_n 0, 1) := by decide +kernel
theorem dX2_copyFrom_106 : decode cX2_copyFrom 106 = .ok (.aload_n 1, 1) := by decide +kernel
theorem dX2_copyFrom_107 : decode cX2_copyFrom 107 = .ok (.getfield 33, 3) := by decide +kernel
theorem dX2_copyFrom_110 : decode cX2_copyFrom 110 = .ok (.putfield 33, 3) := by decide +kernel
theorem dX2_copyFrom_113 : decode cX2_copyFrom 113 = .ok (.aload_n 0, 1) := by decide +kernel
theorem dX2_copyFrom_114 : decode cX2_copyFrom 114 = .ok (.aload_n 1, 1) := by decide +kernel
theorem dX2_copyFrom_115 : decode cX2_copyFrom 115 = .ok (.getfield 37, 3) := by decide +kernel
theorem dX2_copyFrom_118 : decode cX2_copyFrom 118 = .ok (.putfield 37, 3) := by decide +kernel
theorem dX2_copyFrom_121 : decode cX2_copyFrom 121 = .ok (.aload_n 0, 1) := by decide +kernel
theorem dX2_copyFrom_122 : decode cX2_copyFrom 122 = .ok (.aload_n 1, 1) := by decide +kernel
theorem dX2_copyFrom_123 : decode cX2_copyFrom 123 = .ok (.getfield 40, 3) := by decide +kernel
theorem dX2_copyFrom_126 : decode cX2_copyFrom 126 = .ok (.putfield 40, 3) := by decide +kernel
theorem dX2_copyFrom_129 : decode cX2_copyFrom 129 = .ok (.aload_n 0, 1) := by decide +kernel
theorem dX2_copyFrom_130 : decode cX2_copyFrom 130 = .ok (.aload_n 1, 1) := by decide +kernel
theorem dX2_copyFrom_131 : decode cX2_copyFrom 131 = .ok (.getfield 43, 3) := by decide +kernel
theorem dX2_copyFrom_134 : decode cX2_copyFrom 134 = .ok (.putfield 43, 3) := by decide +kernel
theorem dX2_copyFrom_137 : decode cX2_copyFrom 137 = .ok (.aload_n 0, 1) := by decide +kernel
theorem dX2_copyFrom_138 : decode cX2_copyFrom 138 = .ok (.aload_n 1, 1) := by decide +kernel
theorem dX2_copyFrom_139 : decode cX2_copyFrom 139 = .ok (.getfield 46, 3) := by decide +kernel
theorem dX2_copyFrom_142 : decode cX2_copyFrom 142 = .ok (.putfield 46, 3) := by decide +kernel
theorem dX2_copyFrom_145 : decode cX2_copyFrom 145 = .ok (.return_, 1) := by decide +kernel
theorem dX3_init_0 : decode cX3_init 0 = .ok (.aload_n 0, 1) := by decide +kernel
theorem dX3_init_1 : decode cX3_init 1 = .ok (.invokespecial 3, 3) := by decide +kernel
theorem dX3_init_4 : decode cX3_init 4 = .ok (.aload_n 0, 1) := by decide +kernel
theorem dX3_init_5 : decode cX3_init 5 = .ok (.sipush 4096, 3) := by decide +kernel
theorem dX3_init_8 : decode cX3_init 8 = .ok (.newarray .long, 2) := by decide +kernel
theorem dX3_init_10 : decode cX3_init 10 = .ok (.putfield 9, 3) := by decide +kernel
theorem dX3_init_13 : decode cX3_init 13 = .ok (.aload_n 0, 1) := by decide +kernel
theorem dX3_init_14 : decode cX3_init 14 = .ok (.sipush 4096, 3) := by decide +kernel
theorem dX3_init_17 : decode cX3_init 17 = .ok (.newarray .int, 2) := by decide +kernel
theorem dX3_init_19 : decode cX3_init 19 = .ok (.putfield 15, 3) := by decide +kernel
theorem dX3_init_22 : decode cX3_init 22 = .ok (.aload_n 0, 1) := by decide +kernel
theorem dX3_init_23 : decode cX3_init 23 = .ok (.bipush 64, 2) := by decide +kernel
theorem dX3_init_25 : decode cX3_init 25 = .ok (.newarray .long, 2) := by decide +kernel
theorem dX3_init_27 : decode cX3_init 27 = .ok (.putfield 19, 3) := by decide +kernel
theorem dX3_init_30 : decode cX3_init 30 = .ok (.return_, 1) := by decide +kernel
theorem dX3_markTables_0 : decode cX3_markTables 0 = .ok (.aload_n 0, 1) := by decide +kernel
theorem dX3_markTables_1 : decode cX3_markTables 1 = .ok (.getfield 9, 3) := by decide +kernel
theorem dX3_markTables_4 : decode cX3_markTables 4 = .ok (.iconst 0, 1) := by decide +kernel
theorem dX3_markTables_5 : decode cX3_markTables 5 = .ok (.lconst 1, 1) := by decide +kernel
theorem dX3_markTables_6 : decode cX3_markTables 6 = .ok (.lastore, 1) := by decide +kernel
theorem dX3_markTables_7 : decode cX3_markTables 7 = .ok (.iconst 1, 1) := by decide +kernel
theorem dX3_markTables_8 : decode cX3_markTables 8 = .ok (.istore_n 2, 1) := by decide +kernel
theorem dX3_markTables_9 : decode cX3_markTables 9 = .ok (.iconst 0, 1) := by decide +kernel
theorem dX3_markTables_10 : decode cX3_markTables 10 = .ok (.istore_n 3, 1) := by decide +kernel
theorem dX3_markTables_11 : decode cX3_markTables 11 = .ok (.iload_n 3, 1) := by decide +kernel
theorem dX3_markTables_12 : decode cX3_markTables 12 = .ok (.aload_n 1, 1) := by decide +kernel
theorem dX3_markTables_13 : decode cX3_markTables 13 = .ok (.getfield 22, 3) := by decide +kernel
theorem dX3_markTables_16 : decode cX3_markTables 16 = .ok (.if_icmp .ge 88, 3) := by decide +kernel
theorem dX3_markTables_19 : decode cX3_markTables 19 = .ok (.aload_n 1, 1) := by decide +kernel
theorem dX3_markTables_20 : decode cX3_markTables 20 = .ok (.iload_n 3, 1) := by decide +kernel
theorem dX3_markTables_21 : decode cX3_markTables 21 = .ok (.invokevirtual 28, 3) := by decide +kernel
theorem dX3_markTables_24 : decode cX3_markTables 24 = .ok (.istore 4, 2) := by decide +kernel
theorem dX3_markTables_26 : decode cX3_markTables 26 = .ok (.iload 4, 2) := by decide +kernel
theorem dX3_markTables_28 : decode cX3_markTables 28 = .ok (.iconst 1, 1) := by decide +kernel
theorem dX3_markTables_29 : decode cX3_markTables 29 = .ok (.isub, 1) := by decide +kernel
theorem dX3_markTables_30 : decode cX3_markTables 30 = .ok (.istore 5, 2) := by decide +kernel
theorem dX3_markTables_32 : decode cX3_markTables 32 = .ok (.iload 5, 2) := by decide +kernel
theorem dX3_markTables_34 : decode cX3_markTables 34 = .ok (.ifCond .lt 59, 3) := by decide +kernel
theorem dX3_markTables_37 : decode cX3_markTables 37 = .ok (.lconst 1, 1) := by decide +kernel
theorem dX3_markTables_38 : decode cX3_markTables 38 = .ok (.aload_n 1, 1) := by decide +kernel
theorem dX3_markTables_39 : decode cX3_markTables 39 = .ok (.getfield 32, 3) := by decide +kernel
theorem dX3_markTables_42 : decode cX3_markTables 42 = .ok (.iload_n 3, 1) := by decide +kernel
theorem dX3_markTables_43 : decode cX3_markTables 43 = .ok (.iaload, 1) := by decide +kernel
theorem dX3_markTables_44 : decode cX3_markTables 44 = .ok (.iload 5, 2) := by decide +kernel
theorem dX3_markTables_46 : decode cX3_markTables 46 = .ok (.iadd, 1) := by decide +kernel
theorem dX3_markTables_47 : decode cX3_markTables 47 = .ok (.lshl, 1) := by decide +kernel
theorem dX3_markTables_48 : decode cX3_markTables 48 = .ok (.lstore 6, 2) := by decide +kernel
theorem dX3_markTables_50 : decode cX3_markTables 50 = .ok (.iconst 0, 1) := by decide +kernel
theorem dX3_markTables_51 : decode cX3_markTables 51 = .ok (.istore 8, 2) := by decide +kernel
theorem dX3_markTables_53 : decode cX3_markTables 53 = .ok (.iload 8, 2) := by decide +kernel
theorem dX3_markTables_55 : decode cX3_markTables 55 = .ok (.iload_n 2, 1) := by decide +kernel
theorem dX3_markTables_56 : decode cX3_markTables 56 = .ok (.if_icmp .ge 31, 3) := by decide +kernel
theorem dX3_markTables_59 : decode cX3_markTables 59 = .ok (.aload_n 0, 1) := by decide +kernel
theorem dX3_markTables_60 : decode cX3_markTables 60 = .ok (.getfield 9, 3) := by decide +kernel
theorem dX3_markTables_63 : decode cX3_markTables 63 = .ok (.iload 5, 2) := by decide +kernel
theorem dX3_markTables_65 : decode cX3_markTables 65 = .ok (.iload_n 2, 1) := by decide +kernel
theorem dX3_markTables_66 : decode cX3_markTables 66 = .ok (.imul, 1) := by decide +kernel
theorem dX3_markTables_67 : decode cX3_markTables 67 = .ok (.iload 8, 2) := by decide +kernel
theorem dX3_markTables_69 : decode cX3_markTables 69 = .ok (.iadd, 1) := by decide +kernel
theorem dX3_markTables_70 : decode cX3_markTables 70 = .ok (.aload_n 0, 1) := by decide +kernel
theorem dX3_markTables_71 : decode cX3_markTables 71 = .ok (.getfield 9, 3) := by decide +kernel
theorem dX3_markTables_74 : decode cX3_markTables 74 = .ok (.iload 8, 2) := by decide +kernel
theorem dX3_markTables_76 : decode cX3_markTables 76 = .ok (.laload, 1) := by decide +kernel
theorem dX3_markTables_77 : decode cX3_markTables 77 = .ok (.lload 6, 2) := by decide +kernel
theorem dX3_markTables_79 : decode cX3_markTables 79 = .ok (.lor, 1) := by decide +kernel
theorem dX3_markTables_80 : decode cX3_markTables 80 = .ok (.lastore, 1) := by decide +kernel
theorem dX3_markTables_81 : decode cX3_markTables 81 = .ok (.iinc 8 1, 3) := by decide +kernel
theorem dX3_markTables_84 : decode cX3_markTables 84 = .ok (.goto (-31), 3) := by decide +kernel
theorem dX3_markTables_87 : decode cX3_markTables 87 = .ok (.iinc 5 (-1), 3) := by decide +kernel
theorem dX3_markTables_90 : decode cX3_markTables 90 = .ok (.goto (-58), 3) := by decide +kernel
theorem dX3_markTables_93 : decode cX3_markTables 93 = .ok (.iload_n 2, 1) := by decide +kernel
theorem dX3_markTables_94 : decode cX3_markTables 94 = .ok (.iload 4, 2) := by decide +kernel
theorem dX3_markTables_96 : decode cX3_markTables 96 = .ok (.imul, 1) := by decide +kernel
theorem dX3_markTables_97 : decode cX3_markTables 97 = .ok (.istore_n 2, 1) := by decide +kernel
theorem dX3_markTables_98 : decode cX3_markTables 98 = .ok (.iinc 3 1, 3) := by decide +kernel
theorem dX3_markTables_101 : decode cX3_markTables 101 = .ok (.goto (-90), 3) := by decide +kernel
theorem dX3_markTables_104 : decode cX3_markTables 104 = .ok (.return_, 1) := by decide +kernel
theorem dX3_answerTables_0 : decode cX3_answerTables 0 = .ok (.aload_n 0, 1) := by decide +kernel
theorem dX3_answerTables_1 : decode cX3_answerTables 1 = .ok (.getfield 15, 3) := by decide +kernel
theorem dX3_answerTables_4 : decode cX3_answerTables 4 = .ok (.iconst 0, 1) := by decide +kernel
theorem dX3_answerTables_5 : decode cX3_answerTables 5 = .ok (.iload_n 2, 1) := by decide +kernel
theorem dX3_answerTables_6 : decode cX3_answerTables 6 = .ok (.iconst 3, 1) := by decide +kernel
theorem dX3_answerTables_7 : decode cX3_answerTables 7 = .ok (.if_icmp .ne 12, 3) := by decide +kernel
theorem dX3_answerTables_10 : decode cX3_answerTables 10 = .ok (.iload_n 3, 1) := by decide +kernel
theorem dX3_answerTables_11 : decode cX3_answerTables 11 = .ok (.ifCond .eq 8, 3) := by decide +kernel
theorem dX3_answerTables_14 : decode cX3_answerTables 14 = .ok (.bipush 21, 2) := by decide +kernel
theorem dX3_answerTables_16 : decode cX3_answerTables 16 = .ok (.goto 4, 3) := by decide +kernel
theorem dX3_answerTables_19 : decode cX3_answerTables 19 = .ok (.iconst 0, 1) := by decide +kernel
theorem dX3_answerTables_20 : decode cX3_answerTables 20 = .ok (.iastore, 1) := by decide +kernel
theorem dX3_answerTables_21 : decode cX3_answerTables 21 = .ok (.iconst 1, 1) := by decide +kernel
theorem dX3_answerTables_22 : decode cX3_answerTables 22 = .ok (.istore 5, 2) := by decide +kernel
theorem dX3_answerTables_24 : decode cX3_answerTables 24 = .ok (.iconst 0, 1) := by decide +kernel
theorem dX3_answerTables_25 : decode cX3_answerTables 25 = .ok (.istore 6, 2) := by decide +kernel
theorem dX3_answerTables_27 : decode cX3_answerTables 27 = .ok (.iload 6, 2) := by decide +kernel
theorem dX3_answerTables_29 : decode cX3_answerTables 29 = .ok (.aload_n 1, 1) := by decide +kernel
theorem dX3_answerTables_30 : decode cX3_answerTables 30 = .ok (.getfield 22, 3) := by decide +kernel
theorem dX3_answerTables_33 : decode cX3_answerTables 33 = .ok (.if_icmp .ge 120, 3) := by decide +kernel
theorem dX3_answerTables_36 : decode cX3_answerTables 36 = .ok (.aload_n 1, 1) := by decide +kernel
theorem dX3_answerTables_37 : decode cX3_answerTables 37 = .ok (.iload 6, 2) := by decide +kernel
theorem dX3_answerTables_39 : decode cX3_answerTables 39 = .ok (.invokevirtual 28, 3) := by decide +kernel
theorem dX3_answerTables_42 : decode cX3_answerTables 42 = .ok (.istore 7, 2) := by decide +kernel
theorem dX3_answerTables_44 : decode cX3_answerTables 44 = .ok (.aload_n 1, 1) := by decide +kernel
theorem dX3_answerTables_45 : decode cX3_answerTables 45 = .ok (.iload 6, 2) := by decide +kernel
theorem dX3_answerTables_47 : decode cX3_answerTables 47 = .ok (.iload_n 3, 1) := by decide +kernel
theorem dX3_answerTables_48 : decode cX3_answerTables 48 = .ok (.invokevirtual 35, 3) := by decide +kernel
theorem dX3_answerTables_51 : decode cX3_answerTables 51 = .ok (.istore 8, 2) := by decide +kernel
theorem dX3_answerTables_53 : decode cX3_answerTables 53 = .ok (.iload 7, 2) := by decide +kernel
theorem dX3_answerTables_55 : decode cX3_answerTables 55 = .ok (.iconst 1, 1) := by decide +kernel
theorem dX3_answerTables_56 : decode cX3_answerTables 56 = .ok (.isub, 1) := by decide +kernel
theorem dX3_answerTables_57 : decode cX3_answerTables 57 = .ok (.istore 9, 2) := by decide +kernel
theorem dX3_answerTables_59 : decode cX3_answerTables 59 = .ok (.iload 9, 2) := by decide +kernel
theorem dX3_answerTables_61 : decode cX3_answerTables 61 = .ok (.ifCond .lt 79, 3) := by decide +kernel
theorem dX3_answerTables_64 : decode cX3_answerTables 64 = .ok (.aload_n 1, 1) := by decide +kernel
theorem dX3_answerTables_65 : decode cX3_answerTables 65 = .ok (.getfield 39, 3) := by decide +kernel
theorem dX3_answerTables_68 : decode cX3_answerTables 68 = .ok (.iload 6, 2) := by decide +kernel
theorem dX3_answerTables_70 : decode cX3_answerTables 70 = .ok (.iaload, 1) := by decide +kernel
theorem dX3_answerTables_71 : decode cX3_answerTables 71 = .ok (.iload 9, 2) := by decide +kernel
theorem dX3_answerTables_73 : decode cX3_answerTables 73 = .ok (.iadd, 1) := by decide +kernel
theorem dX3_answerTables_74 : decode cX3_answerTables 74 = .ok (.istore 10, 2) := by decide +kernel
theorem dX3_answerTables_76 : decode cX3_answerTables 76 = .ok (.iconst 0, 1) := by decide +kernel
theorem dX3_answerTables_77 : decode cX3_answerTables 77 = .ok (.istore 11, 2) := by decide +kernel
theorem dX3_answerTables_79 : decode cX3_answerTables 79 = .ok (.iload 11, 2) := by decide +kernel
theorem dX3_answerTables_81 : decode cX3_answerTables 81 = .ok (.iload 5, 2) := by decide +kernel
theorem dX3_answerTables_83 : decode cX3_answerTables 83 = .ok (.if_icmp .ge 51, 3) := by decide +kernel
theorem dX3_answerTables_86 : decode cX3_answerTables 86 = .ok (.aload_n 0, 1) := by decide +kernel
theorem dX3_answerTables_87 : decode cX3_answerTables 87 = .ok (.getfield 15, 3) := by decide +kernel
theorem dX3_answerTables_90 : decode cX3_answerTables 90 = .ok (.iload 11, 2) := by decide +kernel
theorem dX3_answerTables_92 : decode cX3_answerTables 92 = .ok (.iaload, 1) := by decide +kernel
theorem dX3_answerTables_93 : decode cX3_answerTables 93 = .ok (.istore 12, 2) := by decide +kernel
theorem dX3_answerTables_95 : decode cX3_answerTables 95 = .ok (.aload_n 0, 1) := by decide +kernel
theorem dX3_answerTables_96 : decode cX3_answerTables 96 = .ok (.getfield 15, 3) := by decide +kernel
theorem dX3_answerTables_99 : decode cX3_answerTables 99 = .ok (.iload 9, 2) := by decide +kernel
theorem dX3_answerTables_101 : decode cX3_answerTables 101 = .ok (.iload 5, 2) := by decide +kernel
theorem dX3_answerTables_103 : decode cX3_answerTables 103 = .ok (.imul, 1) := by decide +kernel
theorem dX3_answerTables_104 : decode cX3_answerTables 104 = .ok (.iload 11, 2) := by decide +kernel
theorem dX3_answerTables_106 : decode cX3_answerTables 106 = .ok (.iadd, 1) := by decide +kernel
theorem dX3_answerTables_107 : decode cX3_answerTables 107 = .ok (.iload 8, 2) := by decide +kernel
theorem dX3_answerTables_109 : decode cX3_answerTables 109 = .ok (.ifCond .eq 16, 3) := by decide +kernel
theorem dX3_answerTables_112 : decode cX3_answerTables 112 = .ok (.iload 12, 2) := by decide +kernel
theorem dX3_answerTables_114 : decode cX3_answerTables 114 = .ok (.iload 10, 2) := by decide +kernel
theorem dX3_answerTables_116 : decode cX3_answerTables 116 = .ok (.iload_n 2, 1) := by decide +kernel
theorem dX3_answerTables_117 : decode cX3_answerTables 117 = .ok (.iload 4, 2) := by decide +kernel
theorem dX3_answerTables_119 : decode cX3_answerTables 119 = .ok (.invokestatic 42, 3) := by decide +kernel
theorem dX3_answerTables_122 : decode cX3_answerTables 122 = .ok (.goto 5, 3) := by decide +kernel
theorem dX3_answerTables_125 : decode cX3_answerTables 125 = .ok (.iload 12, 2) := by decide +kernel
theorem dX3_answerTables_127 : decode cX3_answerTables 127 = .ok (.iastore, 1) := by decide +kernel
theorem dX3_answerTables_128 : decode cX3_answerTables 128 = .ok (.iinc 11 1, 3) := by decide +kernel
theorem dX3_answerTables_131 : decode cX3_answerTables 131 = .ok (.goto (-52), 3) := by decide +kernel
theorem dX3_answerTables_134 : decode cX3_answerTables 134 = .ok (.iinc 9 (-1), 3) := by decide +kernel
theorem dX3_answerTables_137 : decode cX3_answerTables 137 = .ok (.goto (-78), 3) := by decide +kernel
theorem dX3_answerTables_140 : decode cX3_answerTables 140 = .ok (.iload 5, 2) := by decide +kernel
theorem dX3_answerTables_142 : decode cX3_answerTables 142 = .ok (.iload 7, 2) := by decide +kernel
theorem dX3_answerTables_144 : decode cX3_answerTables 144 = .ok (.imul, 1) := by decide +kernel
theorem dX3_answerTables_145 : decode cX3_answerTables 145 = .ok (.istore 5, 2) := by decide +kernel
theorem dX3_answerTables_147 : decode cX3_answerTables 147 = .ok (.iinc 6 1, 3) := by decide +kernel
theorem dX3_answerTables_150 : decode cX3_answerTables 150 = .ok (.goto (-123), 3) := by decide +kernel
theorem dX3_answerTables_153 : decode cX3_answerTables 153 = .ok (.iload_n 2, 1) := by decide +kernel
theorem dX3_answerTables_154 : decode cX3_answerTables 154 = .ok (.ifCond .ne 17, 3) := by decide +kernel
theorem dX3_answerTables_157 : decode cX3_answerTables 157 = .ok (.iload 4, 2) := by decide +kernel
theorem dX3_answerTables_159 : decode cX3_answerTables 159 = .ok (.iconst 1, 1) := by decide +kernel
theorem dX3_answerTables_160 : decode cX3_answerTables 160 = .ok (.if_icmp .le 11, 3) := by decide +kernel
theorem dX3_answerTables_163 : decode cX3_answerTables 163 = .ok (.aload_n 0, 1) := by decide +kernel
theorem dX3_answerTables_164 : decode cX3_answerTables 164 = .ok (.iload 5, 2) := by decide +kernel
theorem dX3_answerTables_166 : decode cX3_answerTables 166 = .ok (.iload 4, 2) := by decide +kernel
theorem dX3_answerTables_168 : decode cX3_answerTables 168 = .ok (.invokevirtual 46, 3) := by decide +kernel
theorem dX3_answerTables_171 : decode cX3_answerTables 171 = .ok (.return_, 1) := by decide +kernel
theorem dX3_withValue_0 : decode cX3_withValue 0 = .ok (.iload_n 2, 1) := by decide +kernel
theorem dX3_withValue_1 : decode cX3_withValue 1 = .ok (.tableswitch 50 0 2 #[27, 31, 44], 27) := by decide +kernel
theorem dX3_withValue_28 : decode cX3_withValue 28 = .ok (.iload_n 0, 1) := by decide +kernel
theorem dX3_withValue_29 : decode cX3_withValue 29 = .ok (.iload_n 1, 1) := by decide +kernel
theorem dX3_withValue_30 : decode cX3_withValue 30 = .ok (.iadd, 1) := by decide +kernel
theorem dX3_withValue_31 : decode cX3_withValue 31 = .ok (.ireturn, 1) := by decide +kernel
theorem dX3_withValue_32 : decode cX3_withValue 32 = .ok (.iload_n 1, 1) := by decide +kernel
theorem dX3_withValue_33 : decode cX3_withValue 33 = .ok (.iload_n 3, 1) := by decide +kernel
theorem dX3_withValue_34 : decode cX3_withValue 34 = .ok (.if_icmp .lt 9, 3) := by decide +kernel
theorem dX3_withValue_37 : decode cX3_withValue 37 = .ok (.iload_n 0, 1) := by decide +kernel
theorem dX3_withValue_38 : decode cX3_withValue 38 = .ok (.iconst 1, 1) := by decide +kernel
theorem dX3_withValue_39 : decode cX3_withValue 39 = .ok (.iadd, 1) := by decide +kernel
theorem dX3_withValue_40 : decode cX3_withValue 40 = .ok (.goto 4, 3) := by decide +kernel
theorem dX3_withValue_43 : decode cX3_withValue 43 = .ok (.iload_n 0, 1) := by decide +kernel
theorem dX3_withValue_44 : decode cX3_withValue 44 = .ok (.ireturn, 1) := by decide +kernel
theorem dX3_withValue_45 : decode cX3_withValue 45 = .ok (.iload_n 0, 1) := by decide +kernel
theorem dX3_withValue_46 : decode cX3_withValue 46 = .ok (.iload_n 1, 1) := by decide +kernel
theorem dX3_withValue_47 : decode cX3_withValue 47 = .ok (.invokestatic 50, 3) := by decide +kernel
theorem dX3_withValue_50 : decode cX3_withValue 50 = .ok (.ireturn, 1) := by decide +kernel
theorem dX3_withValue_51 : decode cX3_withValue 51 = .ok (.iload_n 0, 1) := by decide +kernel
theorem dX3_withValue_52 : decode cX3_withValue 52 = .ok (.iload_n 1, 1) := by decide +kernel
theorem dX3_withValue_53 : decode cX3_withValue 53 = .ok (.invokestatic 56, 3) := by decide +kernel
theorem dX3_withValue_56 : decode cX3_withValue 56 = .ok (.ireturn, 1) := by decide +kernel
theorem dX3_cutAnswers_0 : decode cX3_cutAnswers 0 = .ok (.iload_n 2, 1) := by decide +kernel
theorem dX3_cutAnswers_1 : decode cX3_cutAnswers 1 = .ok (.iconst 1, 1) := by decide +kernel
theorem dX3_cutAnswers_2 : decode cX3_cutAnswers 2 = .ok (.if_icmp .ge 4, 3) := by decide +kernel
theorem dX3_cutAnswers_5 : decode cX3_cutAnswers 5 = .ok (.return_, 1) := by decide +kernel
theorem dX3_cutAnswers_6 : decode cX3_cutAnswers 6 = .ok (.iconst 0, 1) := by decide +kernel
theorem dX3_cutAnswers_7 : decode cX3_cutAnswers 7 = .ok (.istore_n 3, 1) := by decide +kernel
theorem dX3_cutAnswers_8 : decode cX3_cutAnswers 8 = .ok (.iload_n 3, 1) := by decide +kernel
theorem dX3_cutAnswers_9 : decode cX3_cutAnswers 9 = .ok (.iload_n 1, 1) := by decide +kernel
theorem dX3_cutAnswers_10 : decode cX3_cutAnswers 10 = .ok (.if_icmp .ge 26, 3) := by decide +kernel
theorem dX3_cutAnswers_13 : decode cX3_cutAnswers 13 = .ok (.aload_n 0, 1) := by decide +kernel
theorem dX3_cutAnswers_14 : decode cX3_cutAnswers 14 = .ok (.getfield 15, 3) := by decide +kernel
theorem dX3_cutAnswers_17 : decode cX3_cutAnswers 17 = .ok (.iload_n 3, 1) := by decide +kernel
theorem dX3_cutAnswers_18 : decode cX3_cutAnswers 18 = .ok (.dup2, 1) := by decide +kernel
theorem dX3_cutAnswers_19 : decode cX3_cutAnswers 19 = .ok (.iaload, 1) := by decide +kernel
theorem dX3_cutAnswers_20 : decode cX3_cutAnswers 20 = .ok (.aload_n 0, 1) := by decide +kernel
theorem dX3_cutAnswers_21 : decode cX3_cutAnswers 21 = .ok (.getfield 15, 3) := by decide +kernel
theorem dX3_cutAnswers_24 : decode cX3_cutAnswers 24 = .ok (.iload_n 3, 1) := by decide +kernel
theorem dX3_cutAnswers_25 : decode cX3_cutAnswers 25 = .ok (.iaload, 1) := by decide +kernel
theorem dX3_cutAnswers_26 : decode cX3_cutAnswers 26 = .ok (.iload_n 2, 1) := by decide +kernel
theorem dX3_cutAnswers_27 : decode cX3_cutAnswers 27 = .ok (.irem, 1) := by decide +kernel
theorem dX3_cutAnswers_28 : decode cX3_cutAnswers 28 = .ok (.isub, 1) := by decide +kernel
theorem dX3_cutAnswers_29 : decode cX3_cutAnswers 29 = .ok (.iastore, 1) := by decide +kernel
theorem dX3_cutAnswers_30 : decode cX3_cutAnswers 30 = .ok (.iinc 3 1, 3) := by decide +kernel
theorem dX3_cutAnswers_33 : decode cX3_cutAnswers 33 = .ok (.goto (-25), 3) := by decide +kernel
theorem dX3_cutAnswers_36 : decode cX3_cutAnswers 36 = .ok (.return_, 1) := by decide +kernel
theorem dX3_seenIn_0 : decode cX3_seenIn 0 = .ok (.lconst 0, 1) := by decide +kernel
theorem dX3_seenIn_1 : decode cX3_seenIn 1 = .ok (.lstore_n 3, 1) := by decide +kernel
theorem dX3_seenIn_2 : decode cX3_seenIn 2 = .ok (.iconst 0, 1) := by decide +kernel
theorem dX3_seenIn_3 : decode cX3_seenIn 3 = .ok (.istore 5, 2) := by decide +kernel
theorem dX3_seenIn_5 : decode cX3_seenIn 5 = .ok (.iload 5, 2) := by decide +kernel
theorem dX3_seenIn_7 : decode cX3_seenIn 7 = .ok (.iload_n 2, 1) := by decide +kernel
theorem dX3_seenIn_8 : decode cX3_seenIn 8 = .ok (.if_icmp .ge 28, 3) := by decide +kernel
theorem dX3_seenIn_11 : decode cX3_seenIn 11 = .ok (.aload_n 1, 1) := by decide +kernel
theorem dX3_seenIn_12 : decode cX3_seenIn 12 = .ok (.iload 5, 2) := by decide +kernel
theorem dX3_seenIn_14 : decode cX3_seenIn 14 = .ok (.invokestatic 59, 3) := by decide +kernel
theorem dX3_seenIn_17 : decode cX3_seenIn 17 = .ok (.ifCond .eq 13, 3) := by decide +kernel
theorem dX3_seenIn_20 : decode cX3_seenIn 20 = .ok (.lload_n 3, 1) := by decide +kernel
theorem dX3_seenIn_21 : decode cX3_seenIn 21 = .ok (.aload_n 0, 1) := by decide +kernel
theorem dX3_seenIn_22 : decode cX3_seenIn 22 = .ok (.getfield 9, 3) := by decide +kernel
theorem dX3_seenIn_25 : decode cX3_seenIn 25 = .ok (.iload 5, 2) := by decide +kernel
theorem dX3_seenIn_27 : decode cX3_seenIn 27 = .ok (.laload, 1) := by decide +kernel
theorem dX3_seenIn_28 : decode cX3_seenIn 28 = .ok (.lor, 1) := by decide +kernel
theorem dX3_seenIn_29 : decode cX3_seenIn 29 = .ok (.lstore_n 3, 1) := by decide +kernel
theorem dX3_seenIn_30 : decode cX3_seenIn 30 = .ok (.iinc 5 1, 3) := by decide +kernel
theorem dX3_seenIn_33 : decode cX3_seenIn 33 = .ok (.goto (-28), 3) := by decide +kernel
theorem dX3_seenIn_36 : decode cX3_seenIn 36 = .ok (.lload_n 3, 1) := by decide +kernel
theorem dX3_seenIn_37 : decode cX3_seenIn 37 = .ok (.lreturn, 1) := by decide +kernel
theorem dX3_gatherCells_0 : decode cX3_gatherCells 0 = .ok (.aload_n 0, 1) := by decide +kernel
theorem dX3_gatherCells_1 : decode cX3_gatherCells 1 = .ok (.getfield 19, 3) := by decide +kernel
theorem dX3_gatherCells_4 : decode cX3_gatherCells 4 = .ok (.lconst 0, 1) := by decide +kernel
theorem dX3_gatherCells_5 : decode cX3_gatherCells 5 = .ok (.invokestatic 65, 3) := by decide +kernel
theorem dX3_gatherCells_8 : decode cX3_gatherCells 8 = .ok (.iconst 0, 1) := by decide +kernel
theorem dX3_gatherCells_9 : decode cX3_gatherCells 9 = .ok (.istore_n 3, 1) := by decide +kernel
theorem dX3_gatherCells_10 : decode cX3_gatherCells 10 = .ok (.iload_n 3, 1) := by decide +kernel
theorem dX3_gatherCells_11 : decode cX3_gatherCells 11 = .ok (.iload_n 2, 1) := by decide +kernel
theorem dX3_gatherCells_12 : decode cX3_gatherCells 12 = .ok (.if_icmp .ge 37, 3) := by decide +kernel
theorem dX3_gatherCells_15 : decode cX3_gatherCells 15 = .ok (.aload_n 1, 1) := by decide +kernel
theorem dX3_gatherCells_16 : decode cX3_gatherCells 16 = .ok (.iload_n 3, 1) := by decide +kernel
theorem dX3_gatherCells_17 : decode cX3_gatherCells 17 = .ok (.invokestatic 59, 3) := by decide +kernel
theorem dX3_gatherCells_20 : decode cX3_gatherCells 20 = .ok (.ifCond .eq 23, 3) := by decide +kernel
theorem dX3_gatherCells_23 : decode cX3_gatherCells 23 = .ok (.aload_n 0, 1) := by decide +kernel
theorem dX3_gatherCells_24 : decode cX3_gatherCells 24 = .ok (.getfield 19, 3) := by decide +kernel
theorem dX3_gatherCells_27 : decode cX3_gatherCells 27 = .ok (.aload_n 0, 1) := by decide +kernel
theorem dX3_gatherCells_28 : decode cX3_gatherCells 28 = .ok (.getfield 15, 3) := by decide +kernel
theorem dX3_gatherCells_31 : decode cX3_gatherCells 31 = .ok (.iload_n 3, 1) := by decide +kernel
theorem dX3_gatherCells_32 : decode cX3_gatherCells 32 = .ok (.iaload, 1) := by decide +kernel
theorem dX3_gatherCells_33 : decode cX3_gatherCells 33 = .ok (.dup2, 1) := by decide +kernel
theorem dX3_gatherCells_34 : decode cX3_gatherCells 34 = .ok (.laload, 1) := by decide +kernel
theorem dX3_gatherCells_35 : decode cX3_gatherCells 35 = .ok (.aload_n 0, 1) := by decide +kernel
theorem dX3_gatherCells_36 : decode cX3_gatherCells 36 = .ok (.getfield 9, 3) := by decide +kernel
theorem dX3_gatherCells_39 : decode cX3_gatherCells 39 = .ok (.iload_n 3, 1) := by decide +kernel
theorem dX3_gatherCells_40 : decode cX3_gatherCells 40 = .ok (.laload, 1) := by decide +kernel
theorem dX3_gatherCells_41 : decode cX3_gatherCells 41 = .ok (.lor, 1) := by decide +kernel
theorem dX3_gatherCells_42 : decode cX3_gatherCells 42 = .ok (.lastore, 1) := by decide +kernel
theorem dX3_gatherCells_43 : decode cX3_gatherCells 43 = .ok (.iinc 3 1, 3) := by decide +kernel
theorem dX3_gatherCells_46 : decode cX3_gatherCells 46 = .ok (.goto (-36), 3) := by decide +kernel
theorem dX3_gatherCells_49 : decode cX3_gatherCells 49 = .ok (.return_, 1) := by decide +kernel
theorem dX3_cellsUsed_0 : decode cX3_cellsUsed 0 = .ok (.iconst 0, 1) := by decide +kernel
theorem dX3_cellsUsed_1 : decode cX3_cellsUsed 1 = .ok (.istore_n 1, 1) := by decide +kernel
theorem dX3_cellsUsed_2 : decode cX3_cellsUsed 2 = .ok (.iconst 0, 1) := by decide +kernel
theorem dX3_cellsUsed_3 : decode cX3_cellsUsed 3 = .ok (.istore_n 2, 1) := by decide +kernel
theorem dX3_cellsUsed_4 : decode cX3_cellsUsed 4 = .ok (.iload_n 2, 1) := by decide +kernel
theorem dX3_cellsUsed_5 : decode cX3_cellsUsed 5 = .ok (.bipush 64, 2) := by decide +kernel
theorem dX3_cellsUsed_7 : decode cX3_cellsUsed 7 = .ok (.if_icmp .ge 23, 3) := by decide +kernel
theorem dX3_cellsUsed_10 : decode cX3_cellsUsed 10 = .ok (.aload_n 0, 1) := by decide +kernel
theorem dX3_cellsUsed_11 : decode cX3_cellsUsed 11 = .ok (.getfield 19, 3) := by decide +kernel
theorem dX3_cellsUsed_14 : decode cX3_cellsUsed 14 = .ok (.iload_n 2, 1) := by decide +kernel
theorem dX3_cellsUsed_15 : decode cX3_cellsUsed 15 = .ok (.laload, 1) := by decide +kernel
theorem dX3_cellsUsed_16 : decode cX3_cellsUsed 16 = .ok (.lconst 0, 1) := by decide +kernel
theorem dX3_cellsUsed_17 : decode cX3_cellsUsed 17 = .ok (.lcmp, 1) := by decide +kernel
theorem dX3_cellsUsed_18 : decode cX3_cellsUsed 18 = .ok (.ifCond .eq 6, 3) := by decide +kernel
theorem dX3_cellsUsed_21 : decode cX3_cellsUsed 21 = .ok (.iinc 1 1, 3) := by decide +kernel
theorem dX3_cellsUsed_24 : decode cX3_cellsUsed 24 = .ok (.iinc 2 1, 3) := by decide +kernel
theorem dX3_cellsUsed_27 : decode cX3_cellsUsed 27 = .ok (.goto (-23), 3) := by decide +kernel
theorem dX3_cellsUsed_30 : decode cX3_cellsUsed 30 = .ok (.iload_n 1, 1) := by decide +kernel
theorem dX3_cellsUsed_31 : decode cX3_cellsUsed 31 = .ok (.ireturn, 1) := by decide +kernel
theorem dX3_areCellsSafe_0 : decode cX3_areCellsSafe 0 = .ok (.iconst 0, 1) := by decide +kernel
theorem dX3_areCellsSafe_1 : decode cX3_areCellsSafe 1 = .ok (.istore_n 2, 1) := by decide +kernel
theorem dX3_areCellsSafe_2 : decode cX3_areCellsSafe 2 = .ok (.iload_n 2, 1) := by decide +kernel
theorem dX3_areCellsSafe_3 : decode cX3_areCellsSafe 3 = .ok (.bipush 64, 2) := by decide +kernel
theorem dX3_areCellsSafe_5 : decode cX3_areCellsSafe 5 = .ok (.if_icmp .ge 35, 3) := by decide +kernel
theorem dX3_areCellsSafe_8 : decode cX3_areCellsSafe 8 = .ok (.aload_n 0, 1) := by decide +kernel
theorem dX3_areCellsSafe_9 : decode cX3_areCellsSafe 9 = .ok (.getfield 19, 3) := by decide +kernel
theorem dX3_areCellsSafe_12 : decode cX3_areCellsSafe 12 = .ok (.iload_n 2, 1) := by decide +kernel
theorem dX3_areCellsSafe_13 : decode cX3_areCellsSafe 13 = .ok (.laload, 1) := by decide +kernel
theorem dX3_areCellsSafe_14 : decode cX3_areCellsSafe 14 = .ok (.lconst 0, 1) := by decide +kernel
theorem dX3_areCellsSafe_15 : decode cX3_areCellsSafe 15 = .ok (.lcmp, 1) := by decide +kernel
theorem dX3_areCellsSafe_16 : decode cX3_areCellsSafe 16 = .ok (.ifCond .eq 18, 3) := by decide +kernel
theorem dX3_areCellsSafe_19 : decode cX3_areCellsSafe 19 = .ok (.aload_n 1, 1) := by decide +kernel
theorem dX3_areCellsSafe_20 : decode cX3_areCellsSafe 20 = .ok (.aload_n 0, 1) := by decide +kernel
theorem dX3_areCellsSafe_21 : decode cX3_areCellsSafe 21 = .ok (.getfield 19, 3) := by decide +kernel
theorem dX3_areCellsSafe_24 : decode cX3_areCellsSafe 24 = .ok (.iload_n 2, 1) := by decide +kernel
theorem dX3_areCellsSafe_25 : decode cX3_areCellsSafe 25 = .ok (.laload, 1) := by decide +kernel
theorem dX3_areCellsSafe_26 : decode cX3_areCellsSafe 26 = .ok (.invokevirtual 71, 3) := by decide +kernel
theorem dX3_areCellsSafe_29 : decode cX3_areCellsSafe 29 = .ok (.ifCond .ne 5, 3) := by decide +kernel
theorem dX3_areCellsSafe_32 : decode cX3_areCellsSafe 32 = .ok (.iconst 0, 1) := by decide +kernel
theorem dX3_areCellsSafe_33 : decode cX3_areCellsSafe 33 = .ok (.ireturn, 1) := by decide +kernel
theorem dX3_areCellsSafe_34 : decode cX3_areCellsSafe 34 = .ok (.iinc 2 1, 3) := by decide +kernel
theorem dX3_areCellsSafe_37 : decode cX3_areCellsSafe 37 = .ok (.goto (-35), 3) := by decide +kernel
theorem dX3_areCellsSafe_40 : decode cX3_areCellsSafe 40 = .ok (.iconst 1, 1) := by decide +kernel
theorem dX3_areCellsSafe_41 : decode cX3_areCellsSafe 41 = .ok (.ireturn, 1) := by decide +kernel
theorem dX4_init_0 : decode cX4_init 0 = .ok (.aload_n 0, 1) := by decide +kernel
theorem dX4_init_1 : decode cX4_init 1 = .ok (.invokespecial 3, 3) := by decide +kernel
theorem dX4_init_4 : decode cX4_init 4 = .ok (.aload_n 0, 1) := by decide +kernel
theorem dX4_init_5 : decode cX4_init 5 = .ok (.sipush 4096, 3) := by decide +kernel
theorem dX4_init_8 : decode cX4_init 8 = .ok (.newarray .long, 2) := by decide +kernel
theorem dX4_init_10 : decode cX4_init 10 = .ok (.putfield 9, 3) := by decide +kernel
theorem dX4_init_13 : decode cX4_init 13 = .ok (.aload_n 0, 1) := by decide +kernel
theorem dX4_init_14 : decode cX4_init 14 = .ok (.sipush 4096, 3) := by decide +kernel
theorem dX4_init_17 : decode cX4_init 17 = .ok (.newarray .int, 2) := by decide +kernel
theorem dX4_init_19 : decode cX4_init 19 = .ok (.putfield 15, 3) := by decide +kernel
theorem dX4_init_22 : decode cX4_init 22 = .ok (.aload_n 0, 1) := by decide +kernel
theorem dX4_init_23 : decode cX4_init 23 = .ok (.sipush 4096, 3) := by decide +kernel
theorem dX4_init_26 : decode cX4_init 26 = .ok (.newarray .int, 2) := by decide +kernel
theorem dX4_init_28 : decode cX4_init 28 = .ok (.putfield 19, 3) := by decide +kernel
theorem dX4_init_31 : decode cX4_init 31 = .ok (.aload_n 0, 1) := by decide +kernel
theorem dX4_init_32 : decode cX4_init 32 = .ok (.bipush 65, 2) := by decide +kernel
theorem dX4_init_34 : decode cX4_init 34 = .ok (.newarray .int, 2) := by decide +kernel
theorem dX4_init_36 : decode cX4_init 36 = .ok (.putfield 22, 3) := by decide +kernel
theorem dX4_init_39 : decode cX4_init 39 = .ok (.aload_n 0, 1) := by decide +kernel
theorem dX4_init_40 : decode cX4_init 40 = .ok (.aconst_null, 1) := by decide +kernel
theorem dX4_init_41 : decode cX4_init 41 = .ok (.putfield 25, 3) := by decide +kernel
theorem dX4_init_44 : decode cX4_init 44 = .ok (.aload_n 0, 1) := by decide +kernel
theorem dX4_init_45 : decode cX4_init 45 = .ok (.aconst_null, 1) := by decide +kernel
theorem dX4_init_46 : decode cX4_init 46 = .ok (.putfield 29, 3) := by decide +kernel
theorem dX4_init_49 : decode cX4_init 49 = .ok (.aload_n 0, 1) := by decide +kernel
theorem dX4_init_50 : decode cX4_init 50 = .ok (.iconst 0, 1) := by decide +kernel
theorem dX4_init_51 : decode cX4_init 51 = .ok (.putfield 32, 3) := by decide +kernel
theorem dX4_init_54 : decode cX4_init 54 = .ok (.return_, 1) := by decide +kernel
theorem dX4_begin_0 : decode cX4_begin 0 = .ok (.aload_n 0, 1) := by decide +kernel
theorem dX4_begin_1 : decode cX4_begin 1 = .ok (.aload_n 1, 1) := by decide +kernel
theorem dX4_begin_2 : decode cX4_begin 2 = .ok (.putfield 25, 3) := by decide +kernel
theorem dX4_begin_5 : decode cX4_begin 5 = .ok (.aload_n 0, 1) := by decide +kernel
theorem dX4_begin_6 : decode cX4_begin 6 = .ok (.aload_n 2, 1) := by decide +kernel
theorem dX4_begin_7 : decode cX4_begin 7 = .ok (.putfield 29, 3) := by decide +kernel
theorem dX4_begin_10 : decode cX4_begin 10 = .ok (.aload_n 0, 1) := by decide +kernel
theorem dX4_begin_11 : decode cX4_begin 11 = .ok (.iconst 0, 1) := by decide +kernel
theorem dX4_begin_12 : decode cX4_begin 12 = .ok (.putfield 32, 3) := by decide +kernel
theorem dX4_begin_15 : decode cX4_begin 15 = .ok (.iconst 0, 1) := by decide +kernel
theorem dX4_begin_16 : decode cX4_begin 16 = .ok (.istore 4, 2) := by decide +kernel
theorem dX4_begin_18 : decode cX4_begin 18 = .ok (.iload 4, 2) := by decide +kernel
theorem dX4_begin_20 : decode cX4_begin 20 = .ok (.aload_n 1, 1) := by decide +kernel
theorem dX4_begin_21 : decode cX4_begin 21 = .ok (.getfield 36, 3) := by decide +kernel
theorem dX4_begin_24 : decode cX4_begin 24 = .ok (.if_icmp .ge 47, 3) := by decide +kernel
theorem dX4_begin_27 : decode cX4_begin 27 = .ok (.aload_n 3, 1) := by decide +kernel
theorem dX4_begin_28 : decode cX4_begin 28 = .ok (.iload 4, 2) := by decide +kernel
theorem dX4_begin_30 : decode cX4_begin 30 = .ok (.invokestatic 41, 3) := by decide +kernel
theorem dX4_begin_33 : decode cX4_begin 33 = .ok (.ifCond .eq 32, 3) := by decide +kernel
theorem dX4_begin_36 : decode cX4_begin 36 = .ok (.aload_n 0, 1) := by decide +kernel
theorem dX4_begin_37 : decode cX4_begin 37 = .ok (.getfield 9, 3) := by decide +kernel
theorem dX4_begin_40 : decode cX4_begin 40 = .ok (.iload 4, 2) := by decide +kernel
theorem dX4_begin_42 : decode cX4_begin 42 = .ok (.lconst 0, 1) := by decide +kernel
theorem dX4_begin_43 : decode cX4_begin 43 = .ok (.lastore, 1) := by decide +kernel
theorem dX4_begin_44 : decode cX4_begin 44 = .ok (.aload_n 0, 1) := by decide +kernel
theorem dX4_begin_45 : decode cX4_begin 45 = .ok (.getfield 15, 3) := by decide +kernel
theorem dX4_begin_48 : decode cX4_begin 48 = .ok (.aload_n 0, 1) := by decide +kernel
theorem dX4_begin_49 : decode cX4_begin 49 = .ok (.getfield 32, 3) := by decide +kernel
theorem dX4_begin_52 : decode cX4_begin 52 = .ok (.iload 4, 2) := by decide +kernel
theorem dX4_begin_54 : decode cX4_begin 54 = .ok (.iastore, 1) := by decide +kernel
theorem dX4_begin_55 : decode cX4_begin 55 = .ok (.aload_n 0, 1) := by decide +kernel
theorem dX4_begin_56 : decode cX4_begin 56 = .ok (.dup, 1) := by decide +kernel
theorem dX4_begin_57 : decode cX4_begin 57 = .ok (.getfield 32, 3) := by decide +kernel
theorem dX4_begin_60 : decode cX4_begin 60 = .ok (.iconst 1, 1) := by decide +kernel
theorem dX4_begin_61 : decode cX4_begin 61 = .ok (.iadd, 1) := by decide +kernel
theorem dX4_begin_62 : decode cX4_begin 62 = .ok (.putfield 32, 3) := by decide +kernel
theorem dX4_begin_65 : decode cX4_begin 65 = .ok (.iinc 4 1, 3) := by decide +kernel
theorem dX4_begin_68 : decode cX4_begin 68 = .ok (.goto (-50), 3) := by decide +kernel
theorem dX4_begin_71 : decode cX4_begin 71 = .ok (.return_, 1) := by decide +kernel
theorem dX4_addAnswers_0 : decode cX4_addAnswers 0 = .ok (.iconst 0, 1) := by decide +kernel
theorem dX4_addAnswers_1 : decode cX4_addAnswers 1 = .ok (.istore_n 3, 1) := by decide +kernel
theorem dX4_addAnswers_2 : decode cX4_addAnswers 2 = .ok (.iload_n 3, 1) := by decide +kernel
theorem dX4_addAnswers_3 : decode cX4_addAnswers 3 = .ok (.aload_n 0, 1) := by decide +kernel
theorem dX4_addAnswers_4 : decode cX4_addAnswers 4 = .ok (.getfield 32, 3) := by decide +kernel
theorem dX4_addAnswers_7 : decode cX4_addAnswers 7 = .ok (.if_icmp .ge 37, 3) := by decide +kernel
theorem dX4_addAnswers_10 : decode cX4_addAnswers 10 = .ok (.aload_n 0, 1) := by decide +kernel
theorem dX4_addAnswers_11 : decode cX4_addAnswers 11 = .ok (.getfield 15, 3) := by decide +kernel
theorem dX4_addAnswers_14 : decode cX4_addAnswers 14 = .ok (.iload_n 3, 1) := by decide +kernel
theorem dX4_addAnswers_15 : decode cX4_addAnswers 15 = .ok (.iaload, 1) := by decide +kernel
theorem dX4_addAnswers_16 : decode cX4_addAnswers 16 = .ok (.istore 4, 2) := by decide +kernel
theorem dX4_addAnswers_18 : decode cX4_addAnswers 18 = .ok (.aload_n 0, 1) := by decide +kernel
theorem dX4_addAnswers_19 : decode cX4_addAnswers 19 = .ok (.getfield 9, 3) := by decide +kernel
theorem dX4_addAnswers_22 : decode cX4_addAnswers 22 = .ok (.iload 4, 2) := by decide +kernel
theorem dX4_addAnswers_24 : decode cX4_addAnswers 24 = .ok (.dup2, 1) := by decide +kernel
theorem dX4_addAnswers_25 : decode cX4_addAnswers 25 = .ok (.laload, 1) := by decide +kernel
theorem dX4_addAnswers_26 : decode cX4_addAnswers 26 = .ok (.aload_n 2, 1) := by decide +kernel
theorem dX4_addAnswers_27 : decode cX4_addAnswers 27 = .ok (.iload 4, 2) := by decide +kernel
theorem dX4_addAnswers_29 : decode cX4_addAnswers 29 = .ok (.iaload, 1) := by decide +kernel
theorem dX4_addAnswers_30 : decode cX4_addAnswers 30 = .ok (.i2l, 1) := by decide +kernel
theorem dX4_addAnswers_31 : decode cX4_addAnswers 31 = .ok (.iload_n 1, 1) := by decide +kernel
theorem dX4_addAnswers_32 : decode cX4_addAnswers 32 = .ok (.bipush 6, 2) := by decide +kernel
theorem dX4_addAnswers_34 : decode cX4_addAnswers 34 = .ok (.imul, 1) := by decide +kernel
theorem dX4_addAnswers_35 : decode cX4_addAnswers 35 = .ok (.lshl, 1) := by decide +kernel
theorem dX4_addAnswers_36 : decode cX4_addAnswers 36 = .ok (.lor, 1) := by decide +kernel
theorem dX4_addAnswers_37 : decode cX4_addAnswers 37 = .ok (.lastore, 1) := by decide +kernel
theorem dX4_addAnswers_38 : decode cX4_addAnswers 38 = .ok (.iinc 3 1, 3) := by decide +kernel
theorem dX4_addAnswers_41 : decode cX4_addAnswers 41 = .ok (.goto (-39), 3) := by decide +kernel
theorem dX4_addAnswers_44 : decode cX4_addAnswers 44 = .ok (.return_, 1) := by decide +kernel
theorem dX4_answerTo_0 : decode cX4_answerTo 0 = .ok (.aload_n 0, 1) := by decide +kernel
theorem dX4_answerTo_1 : decode cX4_answerTo 1 = .ok (.getfield 9, 3) := by decide +kernel
theorem dX4_answerTo_4 : decode cX4_answerTo 4 = .ok (.iload_n 2, 1) := by decide +kernel
theorem dX4_answerTo_5 : decode cX4_answerTo 5 = .ok (.laload, 1) := by decide +kernel
theorem dX4_answerTo_6 : decode cX4_answerTo 6 = .ok (.iload_n 1, 1) := by decide +kernel
theorem dX4_answerTo_7 : decode cX4_answerTo 7 = .ok (.bipush 6, 2) := by decide +kernel
theorem dX4_answerTo_9 : decode cX4_answerTo 9 = .ok (.imul, 1) := by decide +kernel
theorem dX4_answerTo_10 : decode cX4_answerTo 10 = .ok (.lushr, 1) := by decide +kernel
theorem dX4_answerTo_11 : decode cX4_answerTo 11 = .ok (.l2i, 1) := by decide +kernel
theorem dX4_answerTo_12 : decode cX4_answerTo 12 = .ok (.bipush 63, 2) := by decide +kernel
theorem dX4_answerTo_14 : decode cX4_answerTo 14 = .ok (.iand, 1) := by decide +kernel
theorem dX4_answerTo_15 : decode cX4_answerTo 15 = .ok (.ireturn, 1) := by decide +kernel
theorem dX4_isGranted_0 : decode cX4_isGranted 0 = .ok (.iconst 0, 1) := by decide +kernel
theorem dX4_isGranted_1 : decode cX4_isGranted 1 = .ok (.istore_n 2, 1) := by decide +kernel
theorem dX4_isGranted_2 : decode cX4_isGranted 2 = .ok (.iload_n 2, 1) := by decide +kernel
theorem dX4_isGranted_3 : decode cX4_isGranted 3 = .ok (.bipush 8, 2) := by decide +kernel
theorem dX4_isGranted_5 : decode cX4_isGranted 5 = .ok (.if_icmp .ge 22, 3) := by decide +kernel
theorem dX4_isGranted_8 : decode cX4_isGranted 8 = .ok (.iload_n 1, 1) := by decide +kernel
theorem dX4_isGranted_9 : decode cX4_isGranted 9 = .ok (.iload_n 2, 1) := by decide +kernel
theorem dX4_isGranted_10 : decode cX4_isGranted 10 = .ok (.invokestatic 47, 3) := by decide +kernel
theorem dX4_isGranted_13 : decode cX4_isGranted 13 = .ok (.ifCond .eq 8, 3) := by decide +kernel
theorem dX4_isGranted_16 : decode cX4_isGranted 16 = .ok (.aload_n 0, 1) := by decide +kernel
theorem dX4_isGranted_17 : decode cX4_isGranted 17 = .ok (.iload_n 2, 1) := by decide +kernel
theorem dX4_isGranted_18 : decode cX4_isGranted 18 = .ok (.invokevirtual 51, 3) := by decide +kernel
theorem dX4_isGranted_21 : decode cX4_isGranted 21 = .ok (.iinc 2 1, 3) := by decide +kernel
theorem dX4_isGranted_24 : decode cX4_isGranted 24 = .ok (.goto (-22), 3) := by decide +kernel
theorem dX4_isGranted_27 : decode cX4_isGranted 27 = .ok (.aload_n 0, 1) := by decide +kernel
theorem dX4_isGranted_28 : decode cX4_isGranted 28 = .ok (.iload_n 1, 1) := by decide +kernel
theorem dX4_isGranted_29 : decode cX4_isGranted 29 = .ok (.invokestatic 55, 3) := by decide +kernel
theorem dX4_isGranted_32 : decode cX4_isGranted 32 = .ok (.invokevirtual 59, 3) := by decide +kernel
theorem dX4_isGranted_35 : decode cX4_isGranted 35 = .ok (.ireturn, 1) := by decide +kernel
theorem dX4_sortBy_0 : decode cX4_sortBy 0 = .ok (.aload_n 0, 1) := by decide +kernel
theorem dX4_sortBy_1 : decode cX4_sortBy 1 = .ok (.getfield 22, 3) := by decide +kernel
theorem dX4_sortBy_4 : decode cX4_sortBy 4 = .ok (.iconst 0, 1) := by decide +kernel
theorem dX4_sortBy_5 : decode cX4_sortBy 5 = .ok (.invokestatic 63, 3) := by decide +kernel
theorem dX4_sortBy_8 : decode cX4_sortBy 8 = .ok (.iconst 0, 1) := by decide +kernel
theorem dX4_sortBy_9 : decode cX4_sortBy 9 = .ok (.istore_n 2, 1) := by decide +kernel
theorem dX4_sortBy_10 : decode cX4_sortBy 10 = .ok (.iload_n 2, 1) := by decide +kernel
theorem dX4_sortBy_11 : decode cX4_sortBy 11 = .ok (.aload_n 0, 1) := by decide +kernel
theorem dX4_sortBy_12 : decode cX4_sortBy 12 = .ok (.getfield 32, 3) := by decide +kernel
theorem dX4_sortBy_15 : decode cX4_sortBy 15 = .ok (.if_icmp .ge 31, 3) := by decide +kernel
theorem dX4_sortBy_18 : decode cX4_sortBy 18 = .ok (.aload_n 0, 1) := by decide +kernel
theorem dX4_sortBy_19 : decode cX4_sortBy 19 = .ok (.getfield 22, 3) := by decide +kernel
theorem dX4_sortBy_22 : decode cX4_sortBy 22 = .ok (.aload_n 0, 1) := by decide +kernel
theorem dX4_sortBy_23 : decode cX4_sortBy 23 = .ok (.iload_n 1, 1) := by decide +kernel
theorem dX4_sortBy_24 : decode cX4_sortBy 24 = .ok (.aload_n 0, 1) := by decide +kernel
theorem dX4_sortBy_25 : decode cX4_sortBy 25 = .ok (.getfield 15, 3) := by decide +kernel
theorem dX4_sortBy_28 : decode cX4_sortBy 28 = .ok (.iload_n 2, 1) := by decide +kernel
theorem dX4_sortBy_29 : decode cX4_sortBy 29 = .ok (.iaload, 1) := by decide +kernel
theorem dX4_sortBy_30 : decode cX4_sortBy 30 = .ok (.invokevirtual 69, 3) := by decide +kernel
theorem dX4_sortBy_33 : decode cX4_sortBy 33 = .ok (.iconst 1, 1) := by decide +kernel
theorem dX4_sortBy_34 : decode cX4_sortBy 34 = .ok (.iadd, 1) := by decide +kernel
theorem dX4_sortBy_35 : decode cX4_sortBy 35 = .ok (.dup2, 1) := by decide +kernel
theorem dX4_sortBy_36 : decode cX4_sortBy 36 = .ok (.iaload, 1) := by decide +kernel
theorem dX4_sortBy_37 : decode cX4_sortBy 37 = .ok (.iconst 1, 1) := by decide +kernel
theorem dX4_sortBy_38 : decode cX4_sortBy 38 = .ok (.iadd, 1) := by decide +kernel
theorem dX4_sortBy_39 : decode cX4_sortBy 39 = .ok (.iastore, 1) := by decide +kernel
theorem dX4_sortBy_40 : decode cX4_sortBy 40 = .ok (.iinc 2 1, 3) := by decide +kernel
theorem dX4_sortBy_43 : decode cX4_sortBy 43 = .ok (.goto (-33), 3) := by decide +kernel
theorem dX4_sortBy_46 : decode cX4_sortBy 46 = .ok (.iconst 1, 1) := by decide +kernel
theorem dX4_sortBy_47 : decode cX4_sortBy 47 = .ok (.istore_n 2, 1) := by decide +kernel
theorem dX4_sortBy_48 : decode cX4_sortBy 48 = .ok (.iload_n 2, 1) := by decide +kernel
theorem dX4_sortBy_49 : decode cX4_sortBy 49 = .ok (.bipush 64, 2) := by decide +kernel
theorem dX4_sortBy_51 : decode cX4_sortBy 51 = .ok (.if_icmp .gt 26, 3) := by decide +kernel
theorem dX4_sortBy_54 : decode cX4_sortBy 54 = .ok (.aload_n 0, 1) := by decide +kernel
theorem dX4_sortBy_55 : decode cX4_sortBy 55 = .ok (.getfield 22, 3) := by decide +kernel
theorem dX4_sortBy_58 : decode cX4_sortBy 58 = .ok (.iload_n 2, 1) := by decide +kernel
theorem dX4_sortBy_59 : decode cX4_sortBy 59 = .ok (.dup2, 1) := by decide +kernel
theorem dX4_sortBy_60 : decode cX4_sortBy 60 = .ok (.iaload, 1) := by decide +kernel
theorem dX4_sortBy_61 : decode cX4_sortBy 61 = .ok (.aload_n 0, 1) := by decide +kernel
theorem dX4_sortBy_62 : decode cX4_sortBy 62 = .ok (.getfield 22, 3) := by decide +kernel
theorem dX4_sortBy_65 : decode cX4_sortBy 65 = .ok (.iload_n 2, 1) := by decide +kernel
theorem dX4_sortBy_66 : decode cX4_sortBy 66 = .ok (.iconst 1, 1) := by decide +kernel
theorem dX4_sortBy_67 : decode cX4_sortBy 67 = .ok (.isub, 1) := by decide +kernel
theorem dX4_sortBy_68 : decode cX4_sortBy 68 = .ok (.iaload, 1) := by decide +kernel
theorem dX4_sortBy_69 : decode cX4_sortBy 69 = .ok (.iadd, 1) := by decide +kernel
theorem dX4_sortBy_70 : decode cX4_sortBy 70 = .ok (.iastore, 1) := by decide +kernel
theorem dX4_sortBy_71 : decode cX4_sortBy 71 = .ok (.iinc 2 1, 3) := by decide +kernel
theorem dX4_sortBy_74 : decode cX4_sortBy 74 = .ok (.goto (-26), 3) := by decide +kernel
theorem dX4_sortBy_77 : decode cX4_sortBy 77 = .ok (.iconst 0, 1) := by decide +kernel
theorem dX4_sortBy_78 : decode cX4_sortBy 78 = .ok (.istore_n 2, 1) := by decide +kernel
theorem dX4_sortBy_79 : decode cX4_sortBy 79 = .ok (.iload_n 2, 1) := by decide +kernel
theorem dX4_sortBy_80 : decode cX4_sortBy 80 = .ok (.aload_n 0, 1) := by decide +kernel
theorem dX4_sortBy_81 : decode cX4_sortBy 81 = .ok (.getfield 32, 3) := by decide +kernel
theorem dX4_sortBy_84 : decode cX4_sortBy 84 = .ok (.if_icmp .ge 48, 3) := by decide +kernel
theorem dX4_sortBy_87 : decode cX4_sortBy 87 = .ok (.aload_n 0, 1) := by decide +kernel
theorem dX4_sortBy_88 : decode cX4_sortBy 88 = .ok (.iload_n 1, 1) := by decide +kernel
theorem dX4_sortBy_89 : decode cX4_sortBy 89 = .ok (.aload_n 0, 1) := by decide +kernel
theorem dX4_sortBy_90 : decode cX4_sortBy 90 = .ok (.getfield 15, 3) := by decide +kernel
theorem dX4_sortBy_93 : decode cX4_sortBy 93 = .ok (.iload_n 2, 1) := by decide +kernel
theorem dX4_sortBy_94 : decode cX4_sortBy 94 = .ok (.iaload, 1) := by decide +kernel
theorem dX4_sortBy_95 : decode cX4_sortBy 95 = .ok (.invokevirtual 69, 3) := by decide +kernel
theorem dX4_sortBy_98 : decode cX4_sortBy 98 = .ok (.istore_n 3, 1) := by decide +kernel
theorem dX4_sortBy_99 : decode cX4_sortBy 99 = .ok (.aload_n 0, 1) := by decide +kernel
theorem dX4_sortBy_100 : decode cX4_sortBy 100 = .ok (.getfield 19, 3) := by decide +kernel
theorem dX4_sortBy_103 : decode cX4_sortBy 103 = .ok (.aload_n 0, 1) := by decide +kernel
theorem dX4_sortBy_104 : decode cX4_sortBy 104 = .ok (.getfield 22, 3) := by decide +kernel
theorem dX4_sortBy_107 : decode cX4_sortBy 107 = .ok (.iload_n 3, 1) := by decide +kernel
theorem dX4_sortBy_108 : decode cX4_sortBy 108 = .ok (.iaload, 1) := by decide +kernel
theorem dX4_sortBy_109 : decode cX4_sortBy 109 = .ok (.aload_n 0, 1) := by decide +kernel
theorem dX4_sortBy_110 : decode cX4_sortBy 110 = .ok (.getfield 15, 3) := by decide +kernel
theorem dX4_sortBy_113 : decode cX4_sortBy 113 = .ok (.iload_n 2, 1) := by decide +kernel
theorem dX4_sortBy_114 : decode cX4_sortBy 114 = .ok (.iaload, 1) := by decide +kernel
theorem dX4_sortBy_115 : decode cX4_sortBy 115 = .ok (.iastore, 1) := by decide +kernel
theorem dX4_sortBy_116 : decode cX4_sortBy 116 = .ok (.aload_n 0, 1) := by decide +kernel
theorem dX4_sortBy_117 : decode cX4_sortBy 117 = .ok (.getfield 22, 3) := by decide +kernel
theorem dX4_sortBy_120 : decode cX4_sortBy 120 = .ok (.iload_n 3, 1) := by decide +kernel
theorem dX4_sortBy_121 : decode cX4_sortBy 121 = .ok (.dup2, 1) := by decide +kernel
theorem dX4_sortBy_122 : decode cX4_sortBy 122 = .ok (.iaload, 1) := by decide +kernel
theorem dX4_sortBy_123 : decode cX4_sortBy 123 = .ok (.iconst 1, 1) := by decide +kernel
theorem dX4_sortBy_124 : decode cX4_sortBy 124 = .ok (.iadd, 1) := by decide +kernel
theorem dX4_sortBy_125 : decode cX4_sortBy 125 = .ok (.iastore, 1) := by decide +kernel
theorem dX4_sortBy_126 : decode cX4_sortBy 126 = .ok (.iinc 2 1, 3) := by decide +kernel
theorem dX4_sortBy_129 : decode cX4_sortBy 129 = .ok (.goto (-50), 3) := by decide +kernel
theorem dX4_sortBy_132 : decode cX4_sortBy 132 = .ok (.aload_n 0, 1) := by decide +kernel
theorem dX4_sortBy_133 : decode cX4_sortBy 133 = .ok (.getfield 19, 3) := by decide +kernel
theorem dX4_sortBy_136 : decode cX4_sortBy 136 = .ok (.astore_n 2, 1) := by decide +kernel
theorem dX4_sortBy_137 : decode cX4_sortBy 137 = .ok (.aload_n 0, 1) := by decide +kernel
theorem dX4_sortBy_138 : decode cX4_sortBy 138 = .ok (.aload_n 0, 1) := by decide +kernel
theorem dX4_sortBy_139 : decode cX4_sortBy 139 = .ok (.getfield 15, 3) := by decide +kernel
theorem dX4_sortBy_142 : decode cX4_sortBy 142 = .ok (.putfield 19, 3) := by decide +kernel
theorem dX4_sortBy_145 : decode cX4_sortBy 145 = .ok (.aload_n 0, 1) := by decide +kernel
theorem dX4_sortBy_146 : decode cX4_sortBy 146 = .ok (.aload_n 2, 1) := by decide +kernel
theorem dX4_sortBy_147 : decode cX4_sortBy 147 = .ok (.putfield 15, 3) := by decide +kernel
theorem dX4_sortBy_150 : decode cX4_sortBy 150 = .ok (.return_, 1) := by decide +kernel
theorem dX4_areCellsSafe_0 : decode cX4_areCellsSafe 0 = .ok (.aload_n 0, 1) := by decide +kernel
theorem dX4_areCellsSafe_1 : decode cX4_areCellsSafe 1 = .ok (.getfield 25, 3) := by decide +kernel
theorem dX4_areCellsSafe_4 : decode cX4_areCellsSafe 4 = .ok (.ifnull 10, 3) := by decide +kernel
theorem dX4_areCellsSafe_7 : decode cX4_areCellsSafe 7 = .ok (.aload_n 0, 1) := by decide +kernel
theorem dX4_areCellsSafe_8 : decode cX4_areCellsSafe 8 = .ok (.getfield 29, 3) := by decide +kernel
theorem dX4_areCellsSafe_11 : decode cX4_areCellsSafe 11 = .ok (.ifnonnull 5, 3) := by decide +kernel
theorem dX4_areCellsSafe_14 : decode cX4_areCellsSafe 14 = .ok (.iconst 0, 1) := by decide +kernel
theorem dX4_areCellsSafe_15 : decode cX4_areCellsSafe 15 = .ok (.ireturn, 1) := by decide +kernel
theorem dX4_areCellsSafe_16 : decode cX4_areCellsSafe 16 = .ok (.lconst 0, 1) := by decide +kernel
theorem dX4_areCellsSafe_17 : decode cX4_areCellsSafe 17 = .ok (.lstore_n 3, 1) := by decide +kernel
theorem dX4_areCellsSafe_18 : decode cX4_areCellsSafe 18 = .ok (.iconst 0, 1) := by decide +kernel
theorem dX4_areCellsSafe_19 : decode cX4_areCellsSafe 19 = .ok (.istore 5, 2) := by decide +kernel
theorem dX4_areCellsSafe_21 : decode cX4_areCellsSafe 21 = .ok (.iload 5, 2) := by decide +kernel
theorem dX4_areCellsSafe_23 : decode cX4_areCellsSafe 23 = .ok (.aload_n 0, 1) := by decide +kernel
theorem dX4_areCellsSafe_24 : decode cX4_areCellsSafe 24 = .ok (.getfield 32, 3) := by decide +kernel
theorem dX4_areCellsSafe_27 : decode cX4_areCellsSafe 27 = .ok (.if_icmp .ge 100, 3) := by decide +kernel
theorem dX4_areCellsSafe_30 : decode cX4_areCellsSafe 30 = .ok (.aload_n 0, 1) := by decide +kernel
theorem dX4_areCellsSafe_31 : decode cX4_areCellsSafe 31 = .ok (.getfield 15, 3) := by decide +kernel
theorem dX4_areCellsSafe_34 : decode cX4_areCellsSafe 34 = .ok (.iload 5, 2) := by decide +kernel
theorem dX4_areCellsSafe_36 : decode cX4_areCellsSafe 36 = .ok (.iaload, 1) := by decide +kernel
theorem dX4_areCellsSafe_37 : decode cX4_areCellsSafe 37 = .ok (.istore 6, 2) := by decide +kernel
theorem dX4_areCellsSafe_39 : decode cX4_areCellsSafe 39 = .ok (.lload_n 3, 1) := by decide +kernel
theorem dX4_areCellsSafe_40 : decode cX4_areCellsSafe 40 = .ok (.aload_n 0, 1) := by decide +kernel
theorem dX4_areCellsSafe_41 : decode cX4_areCellsSafe 41 = .ok (.getfield 29, 3) := by decide +kernel
theorem dX4_areCellsSafe_44 : decode cX4_areCellsSafe 44 = .ok (.iload 6, 2) := by decide +kernel
theorem dX4_areCellsSafe_46 : decode cX4_areCellsSafe 46 = .ok (.laload, 1) := by decide +kernel
theorem dX4_areCellsSafe_47 : decode cX4_areCellsSafe 47 = .ok (.lor, 1) := by decide +kernel
theorem dX4_areCellsSafe_48 : decode cX4_areCellsSafe 48 = .ok (.lstore_n 3, 1) := by decide +kernel
theorem dX4_areCellsSafe_49 : decode cX4_areCellsSafe 49 = .ok (.iload 5, 2) := by decide +kernel
theorem dX4_areCellsSafe_51 : decode cX4_areCellsSafe 51 = .ok (.iconst 1, 1) := by decide +kernel
theorem dX4_areCellsSafe_52 : decode cX4_areCellsSafe 52 = .ok (.iadd, 1) := by decide +kernel
theorem dX4_areCellsSafe_53 : decode cX4_areCellsSafe 53 = .ok (.aload_n 0, 1) := by decide +kernel
theorem dX4_areCellsSafe_54 : decode cX4_areCellsSafe 54 = .ok (.getfield 32, 3) := by decide +kernel
theorem dX4_areCellsSafe_57 : decode cX4_areCellsSafe 57 = .ok (.if_icmp .eq 32, 3) := by decide +kernel
theorem dX4_areCellsSafe_60 : decode cX4_areCellsSafe 60 = .ok (.aload_n 0, 1) := by decide +kernel
theorem dX4_areCellsSafe_61 : decode cX4_areCellsSafe 61 = .ok (.getfield 9, 3) := by decide +kernel
theorem dX4_areCellsSafe_64 : decode cX4_areCellsSafe 64 = .ok (.iload 6, 2) := by decide +kernel
theorem dX4_areCellsSafe_66 : decode cX4_areCellsSafe 66 = .ok (.laload, 1) := by decide +kernel
theorem dX4_areCellsSafe_67 : decode cX4_areCellsSafe 67 = .ok (.aload_n 0, 1) := by decide +kernel
theorem dX4_areCellsSafe_68 : decode cX4_areCellsSafe 68 = .ok (.getfield 9, 3) := by decide +kernel
theorem dX4_areCellsSafe_71 : decode cX4_areCellsSafe 71 = .ok (.aload_n 0, 1) := by decide +kernel
theorem dX4_areCellsSafe_72 : decode cX4_areCellsSafe 72 = .ok (.getfield 15, 3) := by decide +kernel
theorem dX4_areCellsSafe_75 : decode cX4_areCellsSafe 75 = .ok (.iload 5, 2) := by decide +kernel
theorem dX4_areCellsSafe_77 : decode cX4_areCellsSafe 77 = .ok (.iconst 1, 1) := by decide +kernel
theorem dX4_areCellsSafe_78 : decode cX4_areCellsSafe 78 = .ok (.iadd, 1) := by decide +kernel
theorem dX4_areCellsSafe_79 : decode cX4_areCellsSafe 79 = .ok (.iaload, 1) := by decide +kernel
theorem dX4_areCellsSafe_80 : decode cX4_areCellsSafe 80 = .ok (.laload, 1) := by decide +kernel
theorem dX4_areCellsSafe_81 : decode cX4_areCellsSafe 81 = .ok (.lxor, 1) := by decide +kernel
theorem dX4_areCellsSafe_82 : decode cX4_areCellsSafe 82 = .ok (.lload_n 1, 1) := by decide +kernel
theorem dX4_areCellsSafe_83 : decode cX4_areCellsSafe 83 = .ok (.land, 1) := by decide +kernel
theorem dX4_areCellsSafe_84 : decode cX4_areCellsSafe 84 = .ok (.lconst 0, 1) := by decide +kernel
theorem dX4_areCellsSafe_85 : decode cX4_areCellsSafe 85 = .ok (.lcmp, 1) := by decide +kernel
theorem dX4_areCellsSafe_86 : decode cX4_areCellsSafe 86 = .ok (.ifCond .eq 7, 3) := by decide +kernel
theorem dX4_areCellsSafe_89 : decode cX4_areCellsSafe 89 = .ok (.iconst 1, 1) := by decide +kernel
theorem dX4_areCellsSafe_90 : decode cX4_areCellsSafe 90 = .ok (.goto 4, 3) := by decide +kernel
theorem dX4_areCellsSafe_93 : decode cX4_areCellsSafe 93 = .ok (.iconst 0, 1) := by decide +kernel
theorem dX4_areCellsSafe_94 : decode cX4_areCellsSafe 94 = .ok (.istore 7, 2) := by decide +kernel
theorem dX4_areCellsSafe_96 : decode cX4_areCellsSafe 96 = .ok (.iload 7, 2) := by decide +kernel
theorem dX4_areCellsSafe_98 : decode cX4_areCellsSafe 98 = .ok (.ifCond .eq 16, 3) := by decide +kernel
theorem dX4_areCellsSafe_101 : decode cX4_areCellsSafe 101 = .ok (.aload_n 0, 1) := by decide +kernel
theorem dX4_areCellsSafe_102 : decode cX4_areCellsSafe 102 = .ok (.getfield 25, 3) := by decide +kernel
theorem dX4_areCellsSafe_105 : decode cX4_areCellsSafe 105 = .ok (.lload_n 3, 1) := by decide +kernel
theorem dX4_areCellsSafe_106 : decode cX4_areCellsSafe 106 = .ok (.invokevirtual 73, 3) := by decide +kernel
theorem dX4_areCellsSafe_109 : decode cX4_areCellsSafe 109 = .ok (.ifCond .ne 5, 3) := by decide +kernel
theorem dX4_areCellsSafe_112 : decode cX4_areCellsSafe 112 = .ok (.iconst 0, 1) := by decide +kernel
theorem dX4_areCellsSafe_113 : decode cX4_areCellsSafe 113 = .ok (.ireturn, 1) := by decide +kernel
theorem dX4_areCellsSafe_114 : decode cX4_areCellsSafe 114 = .ok (.iload 7, 2) := by decide +kernel
theorem dX4_areCellsSafe_116 : decode cX4_areCellsSafe 116 = .ok (.ifCond .eq 5, 3) := by decide +kernel
theorem dX4_areCellsSafe_119 : decode cX4_areCellsSafe 119 = .ok (.lconst 0, 1) := by decide +kernel
theorem dX4_areCellsSafe_120 : decode cX4_areCellsSafe 120 = .ok (.lstore_n 3, 1) := by decide +kernel
theorem dX4_areCellsSafe_121 : decode cX4_areCellsSafe 121 = .ok (.iinc 5 1, 3) := by decide +kernel
theorem dX4_areCellsSafe_124 : decode cX4_areCellsSafe 124 = .ok (.goto (-103), 3) := by decide +kernel
theorem dX4_areCellsSafe_127 : decode cX4_areCellsSafe 127 = .ok (.iconst 1, 1) := by decide +kernel
theorem dX4_areCellsSafe_128 : decode cX4_areCellsSafe 128 = .ok (.ireturn, 1) := by decide +kernel
theorem dX4_answerBitsOf_0 : decode cX4_answerBitsOf 0 = .ok (.lconst 0, 1) := by decide +kernel
theorem dX4_answerBitsOf_1 : decode cX4_answerBitsOf 1 = .ok (.lstore_n 1, 1) := by decide +kernel
theorem dX4_answerBitsOf_2 : decode cX4_answerBitsOf 2 = .ok (.iconst 0, 1) := by decide +kernel
theorem dX4_answerBitsOf_3 : decode cX4_answerBitsOf 3 = .ok (.istore_n 3, 1) := by decide +kernel
theorem dX4_answerBitsOf_4 : decode cX4_answerBitsOf 4 = .ok (.iload_n 3, 1) := by decide +kernel
theorem dX4_answerBitsOf_5 : decode cX4_answerBitsOf 5 = .ok (.bipush 8, 2) := by decide +kernel
theorem dX4_answerBitsOf_7 : decode cX4_answerBitsOf 7 = .ok (.if_icmp .ge 28, 3) := by decide +kernel
theorem dX4_answerBitsOf_10 : decode cX4_answerBitsOf 10 = .ok (.iload_n 0, 1) := by decide +kernel
theorem dX4_answerBitsOf_11 : decode cX4_answerBitsOf 11 = .ok (.iload_n 3, 1) := by decide +kernel
theorem dX4_answerBitsOf_12 : decode cX4_answerBitsOf 12 = .ok (.invokestatic 47, 3) := by decide +kernel
theorem dX4_answerBitsOf_15 : decode cX4_answerBitsOf 15 = .ok (.ifCond .eq 14, 3) := by decide +kernel
theorem dX4_answerBitsOf_18 : decode cX4_answerBitsOf 18 = .ok (.lload_n 1, 1) := by decide +kernel
theorem dX4_answerBitsOf_19 : decode cX4_answerBitsOf 19 = .ok (.ldc2_w 76, 3) := by decide +kernel
theorem dX4_answerBitsOf_22 : decode cX4_answerBitsOf 22 = .ok (.iload_n 3, 1) := by decide +kernel
theorem dX4_answerBitsOf_23 : decode cX4_answerBitsOf 23 = .ok (.bipush 6, 2) := by decide +kernel
theorem dX4_answerBitsOf_25 : decode cX4_answerBitsOf 25 = .ok (.imul, 1) := by decide +kernel
theorem dX4_answerBitsOf_26 : decode cX4_answerBitsOf 26 = .ok (.lshl, 1) := by decide +kernel
theorem dX4_answerBitsOf_27 : decode cX4_answerBitsOf 27 = .ok (.lor, 1) := by decide +kernel
theorem dX4_answerBitsOf_28 : decode cX4_answerBitsOf 28 = .ok (.lstore_n 1, 1) := by decide +kernel
theorem dX4_answerBitsOf_29 : decode cX4_answerBitsOf 29 = .ok (.iinc 3 1, 3) := by decide +kernel
theorem dX4_answerBitsOf_32 : decode cX4_answerBitsOf 32 = .ok (.goto (-28), 3) := by decide +kernel
theorem dX4_answerBitsOf_35 : decode cX4_answerBitsOf 35 = .ok (.lload_n 1, 1) := by decide +kernel
theorem dX4_answerBitsOf_36 : decode cX4_answerBitsOf 36 = .ok (.lreturn, 1) := by decide +kernel
theorem dX5_init_0 : decode cX5_init 0 = .ok (.aload_n 0, 1) := by decide +kernel
theorem dX5_init_1 : decode cX5_init 1 = .ok (.invokespecial 1, 3) := by decide +kernel
theorem dX5_init_4 : decode cX5_init 4 = .ok (.aload_n 0, 1) := by decide +kernel
theorem dX5_init_5 : decode cX5_init 5 = .ok (.new 7, 3) := by decide +kernel
theorem dX5_init_8 : decode cX5_init 8 = .ok (.dup, 1) := by decide +kernel
theorem dX5_init_9 : decode cX5_init 9 = .ok (.invokespecial 9, 3) := by decide +kernel
theorem dX5_init_12 : decode cX5_init 12 = .ok (.putfield 10, 3) := by decide +kernel
theorem dX5_init_15 : decode cX5_init 15 = .ok (.aload_n 0, 1) := by decide +kernel
theorem dX5_init_16 : decode cX5_init 16 = .ok (.new 16, 3) := by decide +kernel
theorem dX5_init_19 : decode cX5_init 19 = .ok (.dup, 1) := by decide +kernel
theorem dX5_init_20 : decode cX5_init 20 = .ok (.invokespecial 18, 3) := by decide +kernel
theorem dX5_init_23 : decode cX5_init 23 = .ok (.putfield 19, 3) := by decide +kernel
theorem dX5_init_26 : decode cX5_init 26 = .ok (.aload_n 0, 1) := by decide +kernel
theorem dX5_init_27 : decode cX5_init 27 = .ok (.new 23, 3) := by decide +kernel
theorem dX5_init_30 : decode cX5_init 30 = .ok (.dup, 1) := by decide +kernel
theorem dX5_init_31 : decode cX5_init 31 = .ok (.invokespecial 25, 3) := by decide +kernel
theorem dX5_init_34 : decode cX5_init 34 = .ok (.putfield 26, 3) := by decide +kernel
theorem dX5_init_37 : decode cX5_init 37 = .ok (.aload_n 0, 1) := by decide +kernel
theorem dX5_init_38 : decode cX5_init 38 = .ok (.new 30, 3) := by decide +kernel
theorem dX5_init_41 : decode cX5_init 41 = .ok (.dup, 1) := by decide +kernel
theorem dX5_init_42 : decode cX5_init 42 = .ok (.invokespecial 32, 3) := by decide +kernel
theorem dX5_init_45 : decode cX5_init 45 = .ok (.putfield 33, 3) := by decide +kernel
theorem dX5_init_48 : decode cX5_init 48 = .ok (.return_, 1) := by decide +kernel
theorem dX5_addNumber_0 : decode cX5_addNumber 0 = .ok (.aload_n 0, 1) := by decide +kernel
theorem dX5_addNumber_1 : decode cX5_addNumber 1 = .ok (.getfield 19, 3) := by decide +kernel
theorem dX5_addNumber_4 : decode cX5_addNumber 4 = .ok (.aload_n 0, 1) := by decide +kernel
theorem dX5_addNumber_5 : decode cX5_addNumber 5 = .ok (.getfield 10, 3) := by decide +kernel
theorem dX5_addNumber_8 : decode cX5_addNumber 8 = .ok (.getfield 37, 3) := by decide +kernel
theorem dX5_addNumber_11 : decode cX5_addNumber 11 = .ok (.iload 4, 2) := by decide +kernel
theorem dX5_addNumber_13 : decode cX5_addNumber 13 = .ok (.iload_n 3, 1) := by decide +kernel
theorem dX5_addNumber_14 : decode cX5_addNumber 14 = .ok (.isub, 1) := by decide +kernel
theorem dX5_addNumber_15 : decode cX5_addNumber 15 = .ok (.iconst 1, 1) := by decide +kernel
theorem dX5_addNumber_16 : decode cX5_addNumber 16 = .ok (.iadd, 1) := by decide +kernel
theorem dX5_addNumber_17 : decode cX5_addNumber 17 = .ok (.invokevirtual 41, 3) := by decide +kernel
theorem dX5_addNumber_20 : decode cX5_addNumber 20 = .ok (.aload_n 0, 1) := by decide +kernel
theorem dX5_addNumber_21 : decode cX5_addNumber 21 = .ok (.getfield 10, 3) := by decide +kernel
theorem dX5_addNumber_24 : decode cX5_addNumber 24 = .ok (.iload_n 1, 1) := by decide +kernel
theorem dX5_addNumber_25 : decode cX5_addNumber 25 = .ok (.iload_n 2, 1) := by decide +kernel
theorem dX5_addNumber_26 : decode cX5_addNumber 26 = .ok (.iload_n 3, 1) := by decide +kernel
theorem dX5_addNumber_27 : decode cX5_addNumber 27 = .ok (.iload 4, 2) := by decide +kernel
theorem dX5_addNumber_29 : decode cX5_addNumber 29 = .ok (.iload 5, 2) := by decide +kernel
theorem dX5_addNumber_31 : decode cX5_addNumber 31 = .ok (.invokevirtual 45, 3) := by decide +kernel
theorem dX5_addNumber_34 : decode cX5_addNumber 34 = .ok (.return_, 1) := by decide +kernel
theorem dX5_copyFrom_0 : decode cX5_copyFrom 0 = .ok (.aload_n 0, 1) := by decide +kernel
theorem dX5_copyFrom_1 : decode cX5_copyFrom 1 = .ok (.getfield 10, 3) := by decide +kernel
theorem dX5_copyFrom_4 : decode cX5_copyFrom 4 = .ok (.aload_n 1, 1) := by decide +kernel
theorem dX5_copyFrom_5 : decode cX5_copyFrom 5 = .ok (.getfield 10, 3) := by decide +kernel
theorem dX5_copyFrom_8 : decode cX5_copyFrom 8 = .ok (.invokevirtual 49, 3) := by decide +kernel
theorem dX5_copyFrom_11 : decode cX5_copyFrom 11 = .ok (.aload_n 0, 1) := by decide +kernel
theorem dX5_copyFrom_12 : decode cX5_copyFrom 12 = .ok (.getfield 19, 3) := by decide +kernel
theorem dX5_copyFrom_15 : decode cX5_copyFrom 15 = .ok (.aload_n 1, 1) := by decide +kernel
theorem dX5_copyFrom_16 : decode cX5_copyFrom 16 = .ok (.getfield 19, 3) := by decide +kernel
theorem dX5_copyFrom_19 : decode cX5_copyFrom 19 = .ok (.invokevirtual 53, 3) := by decide +kernel
theorem dX5_copyFrom_22 : decode cX5_copyFrom 22 = .ok (.aload_n 0, 1) := by decide +kernel
theorem dX5_copyFrom_23 : decode cX5_copyFrom 23 = .ok (.getfield 26, 3) := by decide +kernel
theorem dX5_copyFrom_26 : decode cX5_copyFrom 26 = .ok (.aload_n 1, 1) := by decide +kernel
theorem dX5_copyFrom_27 : decode cX5_copyFrom 27 = .ok (.getfield 26, 3) := by decide +kernel
theorem dX5_copyFrom_30 : decode cX5_copyFrom 30 = .ok (.invokevirtual 56, 3) := by decide +kernel
theorem dX5_copyFrom_33 : decode cX5_copyFrom 33 = .ok (.aload_n 0, 1) := by decide +kernel
theorem dX5_copyFrom_34 : decode cX5_copyFrom 34 = .ok (.getfield 33, 3) := by decide +kernel
theorem dX5_copyFrom_37 : decode cX5_copyFrom 37 = .ok (.aload_n 1, 1) := by decide +kernel
theorem dX5_copyFrom_38 : decode cX5_copyFrom 38 = .ok (.getfield 33, 3) := by decide +kernel
theorem dX5_copyFrom_41 : decode cX5_copyFrom 41 = .ok (.invokevirtual 59, 3) := by decide +kernel
theorem dX5_copyFrom_44 : decode cX5_copyFrom 44 = .ok (.return_, 1) := by decide +kernel
theorem dX6_init_0 : decode cX6_init 0 = .ok (.aload_n 0, 1) := by decide +kernel
theorem dX6_init_1 : decode cX6_init 1 = .ok (.invokespecial 3, 3) := by decide +kernel
theorem dX6_init_4 : decode cX6_init 4 = .ok (.aload_n 0, 1) := by decide +kernel
theorem dX6_init_5 : decode cX6_init 5 = .ok (.bipush 8, 2) := by decide +kernel
theorem dX6_init_7 : decode cX6_init 7 = .ok (.newarray .int, 2) := by decide +kernel
theorem dX6_init_9 : decode cX6_init 9 = .ok (.putfield 9, 3) := by decide +kernel
theorem dX6_init_12 : decode cX6_init 12 = .ok (.aload_n 0, 1) := by decide +kernel
theorem dX6_init_13 : decode cX6_init 13 = .ok (.bipush 8, 2) := by decide +kernel
theorem dX6_init_15 : decode cX6_init 15 = .ok (.newarray .int, 2) := by decide +kernel
theorem dX6_init_17 : decode cX6_init 17 = .ok (.putfield 15, 3) := by decide +kernel
theorem dX6_init_20 : decode cX6_init 20 = .ok (.aload_n 0, 1) := by decide +kernel
theorem dX6_init_21 : decode cX6_init 21 = .ok (.bipush 8, 2) := by decide +kernel
theorem dX6_init_23 : decode cX6_init 23 = .ok (.newarray .int, 2) := by decide +kernel
theorem dX6_init_25 : decode cX6_init 25 = .ok (.putfield 18, 3) := by decide +kernel
theorem dX6_init_28 : decode cX6_init 28 = .ok (.aload_n 0, 1) := by decide +kernel
theorem dX6_init_29 : decode cX6_init 29 = .ok (.iconst 0, 1) := by decide +kernel
theorem dX6_init_30 : decode cX6_init 30 = .ok (.putfield 21, 3) := by decide +kernel
theorem dX6_init_33 : decode cX6_init 33 = .ok (.return_, 1) := by decide +kernel
theorem dX6_add_0 : decode cX6_add 0 = .ok (.aload_n 0, 1) := by decide +kernel
theorem dX6_add_1 : decode cX6_add 1 = .ok (.getfield 9, 3) := by decide +kernel
theorem dX6_add_4 : decode cX6_add 4 = .ok (.aload_n 0, 1) := by decide +kernel
theorem dX6_add_5 : decode cX6_add 5 = .ok (.getfield 21, 3) := by decide +kernel
theorem dX6_add_8 : decode cX6_add 8 = .ok (.iload_n 1, 1) := by decide +kernel
theorem dX6_add_9 : decode cX6_add 9 = .ok (.iastore, 1) := by decide +kernel
theorem dX6_add_10 : decode cX6_add 10 = .ok (.aload_n 0, 1) := by decide +kernel
theorem dX6_add_11 : decode cX6_add 11 = .ok (.getfield 15, 3) := by decide +kernel
theorem dX6_add_14 : decode cX6_add 14 = .ok (.aload_n 0, 1) := by decide +kernel
theorem dX6_add_15 : decode cX6_add 15 = .ok (.getfield 21, 3) := by decide +kernel
theorem dX6_add_18 : decode cX6_add 18 = .ok (.iload_n 2, 1) := by decide +kernel
theorem dX6_add_19 : decode cX6_add 19 = .ok (.iastore, 1) := by decide +kernel
theorem dX6_add_20 : decode cX6_add 20 = .ok (.aload_n 0, 1) := by decide +kernel
theorem dX6_add_21 : decode cX6_add 21 = .ok (.getfield 18, 3) := by decide +kernel
theorem dX6_add_24 : decode cX6_add 24 = .ok (.aload_n 0, 1) := by decide +kernel
theorem dX6_add_25 : decode cX6_add 25 = .ok (.getfield 21, 3) := by decide +kernel
theorem dX6_add_28 : decode cX6_add 28 = .ok (.iload_n 3, 1) := by decide +kernel
theorem dX6_add_29 : decode cX6_add 29 = .ok (.iastore, 1) := by decide +kernel
theorem dX6_add_30 : decode cX6_add 30 = .ok (.aload_n 0, 1) := by decide +kernel
theorem dX6_add_31 : decode cX6_add 31 = .ok (.dup, 1) := by decide +kernel
theorem dX6_add_32 : decode cX6_add 32 = .ok (.getfield 21, 3) := by decide +kernel
theorem dX6_add_35 : decode cX6_add 35 = .ok (.iconst 1, 1) := by decide +kernel
theorem dX6_add_36 : decode cX6_add 36 = .ok (.iadd, 1) := by decide +kernel
theorem dX6_add_37 : decode cX6_add 37 = .ok (.putfield 21, 3) := by decide +kernel
theorem dX6_add_40 : decode cX6_add 40 = .ok (.aload_n 0, 1) := by decide +kernel
theorem dX6_add_41 : decode cX6_add 41 = .ok (.getfield 21, 3) := by decide +kernel
theorem dX6_add_44 : decode cX6_add 44 = .ok (.iconst 1, 1) := by decide +kernel
theorem dX6_add_45 : decode cX6_add 45 = .ok (.isub, 1) := by decide +kernel
theorem dX6_add_46 : decode cX6_add 46 = .ok (.ireturn, 1) := by decide +kernel
theorem dX6_copyFrom_0 : decode cX6_copyFrom 0 = .ok (.aload_n 1, 1) := by decide +kernel
theorem dX6_copyFrom_1 : decode cX6_copyFrom 1 = .ok (.getfield 9, 3) := by decide +kernel
theorem dX6_copyFrom_4 : decode cX6_copyFrom 4 = .ok (.iconst 0, 1) := by decide +kernel
theorem dX6_copyFrom_5 : decode cX6_copyFrom 5 = .ok (.aload_n 0, 1) := by decide +kernel
theorem dX6_copyFrom_6 : decode cX6_copyFrom 6 = .ok (.getfield 9, 3) := by decide +kernel
theorem dX6_copyFrom_9 : decode cX6_copyFrom 9 = .ok (.iconst 0, 1) := by decide +kernel
theorem dX6_copyFrom_10 : decode cX6_copyFrom 10 = .ok (.bipush 8, 2) := by decide +kernel
theorem dX6_copyFrom_12 : decode cX6_copyFrom 12 = .ok (.invokestatic 25, 3) := by decide +kernel
theorem dX6_copyFrom_15 : decode cX6_copyFrom 15 = .ok (.aload_n 1, 1) := by decide +kernel
theorem dX6_copyFrom_16 : decode cX6_copyFrom 16 = .ok (.getfield 15, 3) := by decide +kernel
theorem dX6_copyFrom_19 : decode cX6_copyFrom 19 = .ok (.iconst 0, 1) := by decide +kernel
theorem dX6_copyFrom_20 : decode cX6_copyFrom 20 = .ok (.aload_n 0, 1) := by decide +kernel
theorem dX6_copyFrom_21 : decode cX6_copyFrom 21 = .ok (.getfield 15, 3) := by decide +kernel
theorem dX6_copyFrom_24 : decode cX6_copyFrom 24 = .ok (.iconst 0, 1) := by decide +kernel
theorem dX6_copyFrom_25 : decode cX6_copyFrom 25 = .ok (.bipush 8, 2) := by decide +kernel
theorem dX6_copyFrom_27 : decode cX6_copyFrom 27 = .ok (.invokestatic 25, 3) := by decide +kernel
theorem dX6_copyFrom_30 : decode cX6_copyFrom 30 = .ok (.aload_n 1, 1) := by decide +kernel
theorem dX6_copyFrom_31 : decode cX6_copyFrom 31 = .ok (.getfield 18, 3) := by decide +kernel
theorem dX6_copyFrom_34 : decode cX6_copyFrom 34 = .ok (.iconst 0, 1) := by decide +kernel
theorem dX6_copyFrom_35 : decode cX6_copyFrom 35 = .ok (.aload_n 0, 1) := by decide +kernel
theorem dX6_copyFrom_36 : decode cX6_copyFrom 36 = .ok (.getfield 18, 3) := by decide +kernel
theorem dX6_copyFrom_39 : decode cX6_copyFrom 39 = .ok (.iconst 0, 1) := by decide +kernel
theorem dX6_copyFrom_40 : decode cX6_copyFrom 40 = .ok (.bipush 8, 2) := by decide +kernel
theorem dX6_copyFrom_42 : decode cX6_copyFrom 42 = .ok (.invokestatic 25, 3) := by decide +kernel
theorem dX6_copyFrom_45 : decode cX6_copyFrom 45 = .ok (.aload_n 0, 1) := by decide +kernel
theorem dX6_copyFrom_46 : decode cX6_copyFrom 46 = .ok (.aload_n 1, 1) := by decide +kernel
theorem dX6_copyFrom_47 : decode cX6_copyFrom 47 = .ok (.getfield 21, 3) := by decide +kernel
theorem dX6_copyFrom_50 : decode cX6_copyFrom 50 = .ok (.putfield 21, 3) := by decide +kernel
theorem dX6_copyFrom_53 : decode cX6_copyFrom 53 = .ok (.return_, 1) := by decide +kernel
theorem dX7_init_0 : decode cX7_init 0 = .ok (.aload_n 0, 1) := by decide +kernel
theorem dX7_init_1 : decode cX7_init 1 = .ok (.invokespecial 3, 3) := by decide +kernel
theorem dX7_init_4 : decode cX7_init 4 = .ok (.aload_n 0, 1) := by decide +kernel
theorem dX7_init_5 : decode cX7_init 5 = .ok (.new 9, 3) := by decide +kernel
theorem dX7_init_8 : decode cX7_init 8 = .ok (.dup, 1) := by decide +kernel
theorem dX7_init_9 : decode cX7_init 9 = .ok (.invokespecial 11, 3) := by decide +kernel
theorem dX7_init_12 : decode cX7_init 12 = .ok (.putfield 12, 3) := by decide +kernel
theorem dX7_init_15 : decode cX7_init 15 = .ok (.aload_n 0, 1) := by decide +kernel
theorem dX7_init_16 : decode cX7_init 16 = .ok (.iconst 3, 1) := by decide +kernel
theorem dX7_init_17 : decode cX7_init 17 = .ok (.anewarray 9, 3) := by decide +kernel
theorem dX7_init_20 : decode cX7_init 20 = .ok (.putfield 16, 3) := by decide +kernel
theorem dX7_init_23 : decode cX7_init 23 = .ok (.aload_n 0, 1) := by decide +kernel
theorem dX7_init_24 : decode cX7_init 24 = .ok (.iconst 3, 1) := by decide +kernel
theorem dX7_init_25 : decode cX7_init 25 = .ok (.newarray .boolean, 2) := by decide +kernel
theorem dX7_init_27 : decode cX7_init 27 = .ok (.putfield 20, 3) := by decide +kernel
theorem dX7_init_30 : decode cX7_init 30 = .ok (.aload_n 0, 1) := by decide +kernel
theorem dX7_init_31 : decode cX7_init 31 = .ok (.new 24, 3) := by decide +kernel
theorem dX7_init_34 : decode cX7_init 34 = .ok (.dup, 1) := by decide +kernel
theorem dX7_init_35 : decode cX7_init 35 = .ok (.invokespecial 26, 3) := by decide +kernel
theorem dX7_init_38 : decode cX7_init 38 = .ok (.putfield 27, 3) := by decide +kernel
theorem dX7_init_41 : decode cX7_init 41 = .ok (.aload_n 0, 1) := by decide +kernel
theorem dX7_init_42 : decode cX7_init 42 = .ok (.new 31, 3) := by decide +kernel
theorem dX7_init_45 : decode cX7_init 45 = .ok (.dup, 1) := by decide +kernel
theorem dX7_init_46 : decode cX7_init 46 = .ok (.invokespecial 33, 3) := by decide +kernel
theorem dX7_init_49 : decode cX7_init 49 = .ok (.putfield 34, 3) := by decide +kernel
theorem dX7_init_52 : decode cX7_init 52 = .ok (.iconst 0, 1) := by decide +kernel
theorem dX7_init_53 : decode cX7_init 53 = .ok (.istore_n 1, 1) := by decide +kernel
theorem dX7_init_54 : decode cX7_init 54 = .ok (.iload_n 1, 1) := by decide +kernel
theorem dX7_init_55 : decode cX7_init 55 = .ok (.iconst 3, 1) := by decide +kernel
theorem dX7_init_56 : decode cX7_init 56 = .ok (.if_icmp .ge 22, 3) := by decide +kernel
theorem dX7_init_59 : decode cX7_init 59 = .ok (.aload_n 0, 1) := by decide +kernel
theorem dX7_init_60 : decode cX7_init 60 = .ok (.getfield 16, 3) := by decide +kernel
theorem dX7_init_63 : decode cX7_init 63 = .ok (.iload_n 1, 1) := by decide +kernel
theorem dX7_init_64 : decode cX7_init 64 = .ok (.new 9, 3) := by decide +kernel
theorem dX7_init_67 : decode cX7_init 67 = .ok (.dup, 1) := by decide +kernel
theorem dX7_init_68 : decode cX7_init 68 = .ok (.invokespecial 11, 3) := by decide +kernel
theorem dX7_init_71 : decode cX7_init 71 = .ok (.aastore, 1) := by decide +kernel
theorem dX7_init_72 : decode cX7_init 72 = .ok (.iinc 1 1, 3) := by decide +kernel
theorem dX7_init_75 : decode cX7_init 75 = .ok (.goto (-21), 3) := by decide +kernel
theorem dX7_init_78 : decode cX7_init 78 = .ok (.return_, 1) := by decide +kernel
theorem dX7_person_0 : decode cX7_person 0 = .ok (.aload_n 0, 1) := by decide +kernel
theorem dX7_person_1 : decode cX7_person 1 = .ok (.getfield 12, 3) := by decide +kernel
theorem dX7_person_4 : decode cX7_person 4 = .ok (.getfield 38, 3) := by decide +kernel
theorem dX7_person_7 : decode cX7_person 7 = .ok (.astore 5, 2) := by decide +kernel
theorem dX7_person_9 : decode cX7_person 9 = .ok (.aload 5, 2) := by decide +kernel
theorem dX7_person_11 : decode cX7_person 11 = .ok (.getfield 42, 3) := by decide +kernel
theorem dX7_person_14 : decode cX7_person 14 = .ok (.bipush 8, 2) := by decide +kernel
theorem dX7_person_16 : decode cX7_person 16 = .ok (.if_icmp .ge 18, 3) := by decide +kernel
theorem dX7_person_19 : decode cX7_person 19 = .ok (.iload_n 2, 1) := by decide +kernel
theorem dX7_person_20 : decode cX7_person 20 = .ok (.ifCond .lt 14, 3) := by decide +kernel
theorem dX7_person_23 : decode cX7_person 23 = .ok (.iload_n 2, 1) := by decide +kernel
theorem dX7_person_24 : decode cX7_person 24 = .ok (.iload_n 3, 1) := by decide +kernel
theorem dX7_person_25 : decode cX7_person 25 = .ok (.if_icmp .gt 9, 3) := by decide +kernel
theorem dX7_person_28 : decode cX7_person 28 = .ok (.iload_n 3, 1) := by decide +kernel
theorem dX7_person_29 : decode cX7_person 29 = .ok (.bipush 20, 2) := by decide +kernel
theorem dX7_person_31 : decode cX7_person 31 = .ok (.if_icmp .le 5, 3) := by decide +kernel
theorem dX7_person_34 : decode cX7_person 34 = .ok (.iconst (-1), 1) := by decide +kernel
theorem dX7_person_35 : decode cX7_person 35 = .ok (.ireturn, 1) := by decide +kernel
theorem dX7_person_36 : decode cX7_person 36 = .ok (.iload 4, 2) := by decide +kernel
theorem dX7_person_38 : decode cX7_person 38 = .ok (.iconst 1, 1) := by decide +kernel
theorem dX7_person_39 : decode cX7_person 39 = .ok (.if_icmp .lt 24, 3) := by decide +kernel
theorem dX7_person_42 : decode cX7_person 42 = .ok (.iload 4, 2) := by decide +kernel
theorem dX7_person_44 : decode cX7_person 44 = .ok (.iload_n 3, 1) := by decide +kernel
theorem dX7_person_45 : decode cX7_person 45 = .ok (.iload_n 2, 1) := by decide +kernel
theorem dX7_person_46 : decode cX7_person 46 = .ok (.isub, 1) := by decide +kernel
theorem dX7_person_47 : decode cX7_person 47 = .ok (.iconst 1, 1) := by decide +kernel
theorem dX7_person_48 : decode cX7_person 48 = .ok (.iadd, 1) := by decide +kernel
theorem dX7_person_49 : decode cX7_person 49 = .ok (.if_icmp .gt 14, 3) := by decide +kernel
theorem dX7_person_52 : decode cX7_person 52 = .ok (.aload 5, 2) := by decide +kernel
theorem dX7_person_54 : decode cX7_person 54 = .ok (.iload_n 1, 1) := by decide +kernel
theorem dX7_person_55 : decode cX7_person 55 = .ok (.iload_n 2, 1) := by decide +kernel
theorem dX7_person_56 : decode cX7_person 56 = .ok (.iload_n 3, 1) := by decide +kernel
theorem dX7_person_57 : decode cX7_person 57 = .ok (.invokevirtual 48, 3) := by decide +kernel
theorem dX7_person_60 : decode cX7_person 60 = .ok (.ifCond .ne 5, 3) := by decide +kernel
theorem dX7_person_63 : decode cX7_person 63 = .ok (.iconst (-1), 1) := by decide +kernel
theorem dX7_person_64 : decode cX7_person 64 = .ok (.ireturn, 1) := by decide +kernel
theorem dX7_person_65 : decode cX7_person 65 = .ok (.aload 5, 2) := by decide +kernel
theorem dX7_person_67 : decode cX7_person 67 = .ok (.getfield 42, 3) := by decide +kernel
theorem dX7_person_70 : decode cX7_person 70 = .ok (.istore 6, 2) := by decide +kernel
theorem dX7_person_72 : decode cX7_person 72 = .ok (.aload 5, 2) := by decide +kernel
theorem dX7_person_74 : decode cX7_person 74 = .ok (.dup, 1) := by decide +kernel
theorem dX7_person_75 : decode cX7_person 75 = .ok (.getfield 42, 3) := by decide +kernel
theorem dX7_person_78 : decode cX7_person 78 = .ok (.iconst 1, 1) := by decide +kernel
theorem dX7_person_79 : decode cX7_person 79 = .ok (.iadd, 1) := by decide +kernel
theorem dX7_person_80 : decode cX7_person 80 = .ok (.putfield 42, 3) := by decide +kernel
theorem dX7_person_83 : decode cX7_person 83 = .ok (.aload_n 0, 1) := by decide +kernel
theorem dX7_person_84 : decode cX7_person 84 = .ok (.getfield 12, 3) := by decide +kernel
theorem dX7_person_87 : decode cX7_person 87 = .ok (.iload 6, 2) := by decide +kernel
theorem dX7_person_89 : decode cX7_person 89 = .ok (.iload_n 1, 1) := by decide +kernel
theorem dX7_person_90 : decode cX7_person 90 = .ok (.iload_n 2, 1) := by decide +kernel
theorem dX7_person_91 : decode cX7_person 91 = .ok (.iload_n 3, 1) := by decide +kernel
theorem dX7_person_92 : decode cX7_person 92 = .ok (.iload 4, 2) := by decide +kernel
theorem dX7_person_94 : decode cX7_person 94 = .ok (.invokevirtual 52, 3) := by decide +kernel
theorem dX7_person_97 : decode cX7_person 97 = .ok (.iload 6, 2) := by decide +kernel
theorem dX7_person_99 : decode cX7_person 99 = .ok (.ireturn, 1) := by decide +kernel
theorem dX7_change_0 : decode cX7_change 0 = .ok (.aload_n 0, 1) := by decide +kernel
theorem dX7_change_1 : decode cX7_change 1 = .ok (.getfield 12, 3) := by decide +kernel
theorem dX7_change_4 : decode cX7_change 4 = .ok (.getfield 38, 3) := by decide +kernel
theorem dX7_change_7 : decode cX7_change 7 = .ok (.astore_n 3, 1) := by decide +kernel
theorem dX7_change_8 : decode cX7_change 8 = .ok (.iload_n 1, 1) := by decide +kernel
theorem dX7_change_9 : decode cX7_change 9 = .ok (.ifCond .lt 11, 3) := by decide +kernel
theorem dX7_change_12 : decode cX7_change 12 = .ok (.iload_n 1, 1) := by decide +kernel
theorem dX7_change_13 : decode cX7_change 13 = .ok (.aload_n 3, 1) := by decide +kernel
theorem dX7_change_14 : decode cX7_change 14 = .ok (.getfield 42, 3) := by decide +kernel
theorem dX7_change_17 : decode cX7_change 17 = .ok (.if_icmp .lt 5, 3) := by decide +kernel
theorem dX7_change_20 : decode cX7_change 20 = .ok (.iconst (-1), 1) := by decide +kernel
theorem dX7_change_21 : decode cX7_change 21 = .ok (.ireturn, 1) := by decide +kernel
theorem dX7_change_22 : decode cX7_change 22 = .ok (.aload_n 3, 1) := by decide +kernel
theorem dX7_change_23 : decode cX7_change 23 = .ok (.getfield 56, 3) := by decide +kernel
theorem dX7_change_26 : decode cX7_change 26 = .ok (.iload_n 1, 1) := by decide +kernel
theorem dX7_change_27 : decode cX7_change 27 = .ok (.iaload, 1) := by decide +kernel
theorem dX7_change_28 : decode cX7_change 28 = .ok (.istore 4, 2) := by decide +kernel
theorem dX7_change_30 : decode cX7_change 30 = .ok (.aload_n 3, 1) := by decide +kernel
theorem dX7_change_31 : decode cX7_change 31 = .ok (.getfield 60, 3) := by decide +kernel
theorem dX7_change_34 : decode cX7_change 34 = .ok (.iload 4, 2) := by decide +kernel
theorem dX7_change_36 : decode cX7_change 36 = .ok (.iaload, 1) := by decide +kernel
theorem dX7_change_37 : decode cX7_change 37 = .ok (.istore 5, 2) := by decide +kernel
theorem dX7_change_39 : decode cX7_change 39 = .ok (.aload_n 3, 1) := by decide +kernel
theorem dX7_change_40 : decode cX7_change 40 = .ok (.getfield 63, 3) := by decide +kernel
theorem dX7_change_43 : decode cX7_change 43 = .ok (.iload 4, 2) := by decide +kernel
theorem dX7_change_45 : decode cX7_change 45 = .ok (.iaload, 1) := by decide +kernel
theorem dX7_change_46 : decode cX7_change 46 = .ok (.istore 6, 2) := by decide +kernel
theorem dX7_change_48 : decode cX7_change 48 = .ok (.aload_n 3, 1) := by decide +kernel
theorem dX7_change_49 : decode cX7_change 49 = .ok (.iload_n 2, 1) := by decide +kernel
theorem dX7_change_50 : decode cX7_change 50 = .ok (.iload 5, 2) := by decide +kernel
theorem dX7_change_52 : decode cX7_change 52 = .ok (.iload 6, 2) := by decide +kernel
theorem dX7_change_54 : decode cX7_change 54 = .ok (.invokevirtual 48, 3) := by decide +kernel
theorem dX7_change_57 : decode cX7_change 57 = .ok (.ifCond .ne 5, 3) := by decide +kernel
theorem dX7_change_60 : decode cX7_change 60 = .ok (.iconst (-1), 1) := by decide +kernel
theorem dX7_change_61 : decode cX7_change 61 = .ok (.ireturn, 1) := by decide +kernel
theorem dX7_change_62 : decode cX7_change 62 = .ok (.aload_n 0, 1) := by decide +kernel
theorem dX7_change_63 : decode cX7_change 63 = .ok (.getfield 12, 3) := by decide +kernel
theorem dX7_change_66 : decode cX7_change 66 = .ok (.iload_n 1, 1) := by decide +kernel
theorem dX7_change_67 : decode cX7_change 67 = .ok (.iload_n 2, 1) := by decide +kernel
theorem dX7_change_68 : decode cX7_change 68 = .ok (.iload 5, 2) := by decide +kernel
theorem dX7_change_70 : decode cX7_change 70 = .ok (.iload 6, 2) := by decide +kernel
theorem dX7_change_72 : decode cX7_change 72 = .ok (.aload_n 3, 1) := by decide +kernel
theorem dX7_change_73 : decode cX7_change 73 = .ok (.getfield 66, 3) := by decide +kernel
theorem dX7_change_76 : decode cX7_change 76 = .ok (.iload 4, 2) := by decide +kernel
theorem dX7_change_78 : decode cX7_change 78 = .ok (.iaload, 1) := by decide +kernel
theorem dX7_change_79 : decode cX7_change 79 = .ok (.invokevirtual 52, 3) := by decide +kernel
theorem dX7_change_82 : decode cX7_change 82 = .ok (.aload_n 3, 1) := by decide +kernel
theorem dX7_change_83 : decode cX7_change 83 = .ok (.getfield 56, 3) := by decide +kernel
theorem dX7_change_86 : decode cX7_change 86 = .ok (.iload_n 1, 1) := by decide +kernel
theorem dX7_change_87 : decode cX7_change 87 = .ok (.iaload, 1) := by decide +kernel
theorem dX7_change_88 : decode cX7_change 88 = .ok (.ireturn, 1) := by decide +kernel
theorem dX7_ask_0 : decode cX7_ask 0 = .ok (.iload_n 1, 1) := by decide +kernel
theorem dX7_ask_1 : decode cX7_ask 1 = .ok (.invokestatic 69, 3) := by decide +kernel
theorem dX7_ask_4 : decode cX7_ask 4 = .ok (.ifCond .eq 28, 3) := by decide +kernel
theorem dX7_ask_7 : decode cX7_ask 7 = .ok (.iload_n 2, 1) := by decide +kernel
theorem dX7_ask_8 : decode cX7_ask 8 = .ok (.iload 4, 2) := by decide +kernel
theorem dX7_ask_10 : decode cX7_ask 10 = .ok (.invokestatic 73, 3) := by decide +kernel
theorem dX7_ask_13 : decode cX7_ask 13 = .ok (.ifCond .eq 19, 3) := by decide +kernel
theorem dX7_ask_16 : decode cX7_ask 16 = .ok (.aload_n 0, 1) := by decide +kernel
theorem dX7_ask_17 : decode cX7_ask 17 = .ok (.getfield 12, 3) := by decide +kernel
theorem dX7_ask_20 : decode cX7_ask 20 = .ok (.getfield 77, 3) := by decide +kernel
theorem dX7_ask_23 : decode cX7_ask 23 = .ok (.getfield 81, 3) := by decide +kernel
theorem dX7_ask_26 : decode cX7_ask 26 = .ok (.sipush 200, 3) := by decide +kernel
theorem dX7_ask_29 : decode cX7_ask 29 = .ok (.if_icmp .lt 5, 3) := by decide +kernel
theorem dX7_ask_32 : decode cX7_ask 32 = .ok (.iconst (-1), 1) := by decide +kernel
theorem dX7_ask_33 : decode cX7_ask 33 = .ok (.ireturn, 1) := by decide +kernel
theorem dX7_ask_34 : decode cX7_ask 34 = .ok (.aload_n 0, 1) := by decide +kernel
theorem dX7_ask_35 : decode cX7_ask 35 = .ok (.getfield 12, 3) := by decide +kernel
theorem dX7_ask_38 : decode cX7_ask 38 = .ok (.getfield 38, 3) := by decide +kernel
theorem dX7_ask_41 : decode cX7_ask 41 = .ok (.iload_n 3, 1) := by decide +kernel
theorem dX7_ask_42 : decode cX7_ask 42 = .ok (.invokevirtual 86, 3) := by decide +kernel
theorem dX7_ask_45 : decode cX7_ask 45 = .ok (.istore 5, 2) := by decide +kernel
theorem dX7_ask_47 : decode cX7_ask 47 = .ok (.bipush (-2), 2) := by decide +kernel
theorem dX7_ask_49 : decode cX7_ask 49 = .ok (.istore 6, 2) := by decide +kernel
theorem dX7_ask_51 : decode cX7_ask 51 = .ok (.aload_n 0, 1) := by decide +kernel
theorem dX7_ask_52 : decode cX7_ask 52 = .ok (.iload_n 1, 1) := by decide +kernel
theorem dX7_ask_53 : decode cX7_ask 53 = .ok (.iload_n 2, 1) := by decide +kernel
theorem dX7_ask_54 : decode cX7_ask 54 = .ok (.iload 5, 2) := by decide +kernel
theorem dX7_ask_56 : decode cX7_ask 56 = .ok (.iload 4, 2) := by decide +kernel
theorem dX7_ask_58 : decode cX7_ask 58 = .ok (.invokevirtual 90, 3) := by decide +kernel
theorem dX7_ask_61 : decode cX7_ask 61 = .ok (.ifCond .eq 53, 3) := by decide +kernel
theorem dX7_ask_64 : decode cX7_ask 64 = .ok (.aload_n 0, 1) := by decide +kernel
theorem dX7_ask_65 : decode cX7_ask 65 = .ok (.getfield 27, 3) := by decide +kernel
theorem dX7_ask_68 : decode cX7_ask 68 = .ok (.getfield 94, 3) := by decide +kernel
theorem dX7_ask_71 : decode cX7_ask 71 = .ok (.aload_n 0, 1) := by decide +kernel
theorem dX7_ask_72 : decode cX7_ask 72 = .ok (.getfield 12, 3) := by decide +kernel
theorem dX7_ask_75 : decode cX7_ask 75 = .ok (.getfield 38, 3) := by decide +kernel
theorem dX7_ask_78 : decode cX7_ask 78 = .ok (.invokevirtual 97, 3) := by decide +kernel
theorem dX7_ask_81 : decode cX7_ask 81 = .ok (.iaload, 1) := by decide +kernel
theorem dX7_ask_82 : decode cX7_ask 82 = .ok (.istore 6, 2) := by decide +kernel
theorem dX7_ask_84 : decode cX7_ask 84 = .ok (.aload_n 0, 1) := by decide +kernel
theorem dX7_ask_85 : decode cX7_ask 85 = .ok (.getfield 12, 3) := by decide +kernel
theorem dX7_ask_88 : decode cX7_ask 88 = .ok (.getfield 101, 3) := by decide +kernel
theorem dX7_ask_91 : decode cX7_ask 91 = .ok (.iload_n 1, 1) := by decide +kernel
theorem dX7_ask_92 : decode cX7_ask 92 = .ok (.aload_n 0, 1) := by decide +kernel
theorem dX7_ask_93 : decode cX7_ask 93 = .ok (.getfield 12, 3) := by decide +kernel
theorem dX7_ask_96 : decode cX7_ask 96 = .ok (.getfield 38, 3) := by decide +kernel
theorem dX7_ask_99 : decode cX7_ask 99 = .ok (.getfield 105, 3) := by decide +kernel
theorem dX7_ask_102 : decode cX7_ask 102 = .ok (.aload_n 0, 1) := by decide +kernel
theorem dX7_ask_103 : decode cX7_ask 103 = .ok (.getfield 27, 3) := by decide +kernel
theorem dX7_ask_106 : decode cX7_ask 106 = .ok (.getfield 94, 3) := by decide +kernel
theorem dX7_ask_109 : decode cX7_ask 109 = .ok (.iload 6, 2) := by decide +kernel
theorem dX7_ask_111 : decode cX7_ask 111 = .ok (.invokevirtual 108, 3) := by decide +kernel
theorem dX7_ask_114 : decode cX7_ask 114 = .ok (.aload_n 0, 1) := by decide +kernel
theorem dX7_ask_115 : decode cX7_ask 115 = .ok (.getfield 12, 3) := by decide +kernel
theorem dX7_ask_118 : decode cX7_ask 118 = .ok (.getfield 77, 3) := by decide +kernel
theorem dX7_ask_121 : decode cX7_ask 121 = .ok (.iload_n 1, 1) := by decide +kernel
theorem dX7_ask_122 : decode cX7_ask 122 = .ok (.iload_n 2, 1) := by decide +kernel
theorem dX7_ask_123 : decode cX7_ask 123 = .ok (.iload 5, 2) := by decide +kernel
theorem dX7_ask_125 : decode cX7_ask 125 = .ok (.iload 4, 2) := by decide +kernel
theorem dX7_ask_127 : decode cX7_ask 127 = .ok (.iload 6, 2) := by decide +kernel
theorem dX7_ask_129 : decode cX7_ask 129 = .ok (.invokevirtual 114, 3) := by decide +kernel
theorem dX7_ask_132 : decode cX7_ask 132 = .ok (.iload 6, 2) := by decide +kernel
theorem dX7_ask_134 : decode cX7_ask 134 = .ok (.ireturn, 1) := by decide +kernel
theorem dX7_would_0 : decode cX7_would 0 = .ok (.iload_n 1, 1) := by decide +kernel
theorem dX7_would_1 : decode cX7_would 1 = .ok (.invokestatic 69, 3) := by decide +kernel
theorem dX7_would_4 : decode cX7_would 4 = .ok (.ifCond .eq 12, 3) := by decide +kernel
theorem dX7_would_7 : decode cX7_would 7 = .ok (.iload_n 2, 1) := by decide +kernel
theorem dX7_would_8 : decode cX7_would 8 = .ok (.iload 4, 2) := by decide +kernel
theorem dX7_would_10 : decode cX7_would 10 = .ok (.invokestatic 73, 3) := by decide +kernel
theorem dX7_would_13 : decode cX7_would 13 = .ok (.ifCond .ne 5, 3) := by decide +kernel
theorem dX7_would_16 : decode cX7_would 16 = .ok (.iconst (-1), 1) := by decide +kernel
theorem dX7_would_17 : decode cX7_would 17 = .ok (.ireturn, 1) := by decide +kernel
theorem dX7_would_18 : decode cX7_would 18 = .ok (.aload_n 0, 1) := by decide +kernel
theorem dX7_would_19 : decode cX7_would 19 = .ok (.iload_n 1, 1) := by decide +kernel
theorem dX7_would_20 : decode cX7_would 20 = .ok (.iload_n 2, 1) := by decide +kernel
theorem dX7_would_21 : decode cX7_would 21 = .ok (.aload_n 0, 1) := by decide +kernel
theorem dX7_would_22 : decode cX7_would 22 = .ok (.getfield 12, 3) := by decide +kernel
theorem dX7_would_25 : decode cX7_would 25 = .ok (.getfield 38, 3) := by decide +kernel
theorem dX7_would_28 : decode cX7_would 28 = .ok (.iload_n 3, 1) := by decide +kernel
theorem dX7_would_29 : decode cX7_would 29 = .ok (.invokevirtual 86, 3) := by decide +kernel
theorem dX7_would_32 : decode cX7_would 32 = .ok (.iload 4, 2) := by decide +kernel
theorem dX7_would_34 : decode cX7_would 34 = .ok (.invokevirtual 90, 3) := by decide +kernel
theorem dX7_would_37 : decode cX7_would 37 = .ok (.ireturn, 1) := by decide +kernel
theorem dX7_join_0 : decode cX7_join 0 = .ok (.iload_n 1, 1) := by decide +kernel
theorem dX7_join_1 : decode cX7_join 1 = .ok (.invokestatic 69, 3) := by decide +kernel
theorem dX7_join_4 : decode cX7_join 4 = .ok (.ifCond .eq 10, 3) := by decide +kernel
theorem dX7_join_7 : decode cX7_join 7 = .ok (.iload_n 2, 1) := by decide +kernel
theorem dX7_join_8 : decode cX7_join 8 = .ok (.invokestatic 69, 3) := by decide +kernel
theorem dX7_join_11 : decode cX7_join 11 = .ok (.ifCond .ne 5, 3) := by decide +kernel
theorem dX7_join_14 : decode cX7_join 14 = .ok (.iconst 0, 1) := by decide +kernel
theorem dX7_join_15 : decode cX7_join 15 = .ok (.ireturn, 1) := by decide +kernel
theorem dX7_join_16 : decode cX7_join 16 = .ok (.aload_n 0, 1) := by decide +kernel
theorem dX7_join_17 : decode cX7_join 17 = .ok (.getfield 12, 3) := by decide +kernel
theorem dX7_join_20 : decode cX7_join 20 = .ok (.getfield 101, 3) := by decide +kernel
theorem dX7_join_23 : decode cX7_join 23 = .ok (.iload_n 1, 1) := by decide +kernel
theorem dX7_join_24 : decode cX7_join 24 = .ok (.iload_n 2, 1) := by decide +kernel
theorem dX7_join_25 : decode cX7_join 25 = .ok (.invokevirtual 117, 3) := by decide +kernel
theorem dX7_join_28 : decode cX7_join 28 = .ok (.ireturn, 1) := by decide +kernel
theorem dX7_knows_0 : decode cX7_knows 0 = .ok (.iload_n 1, 1) := by decide +kernel
theorem dX7_knows_1 : decode cX7_knows 1 = .ok (.invokestatic 69, 3) := by decide +kernel
theorem dX7_knows_4 : decode cX7_knows 4 = .ok (.ifCond .eq 21, 3) := by decide +kernel
theorem dX7_knows_7 : decode cX7_knows 7 = .ok (.iload_n 2, 1) := by decide +kernel
theorem dX7_knows_8 : decode cX7_knows 8 = .ok (.ifCond .lt 17, 3) := by decide +kernel
theorem dX7_knows_11 : decode cX7_knows 11 = .ok (.iload_n 2, 1) := by decide +kernel
theorem dX7_knows_12 : decode cX7_knows 12 = .ok (.aload_n 0, 1) := by decide +kernel
theorem dX7_knows_13 : decode cX7_knows 13 = .ok (.getfield 12, 3) := by decide +kernel
theorem dX7_knows_16 : decode cX7_knows 16 = .ok (.getfield 38, 3) := by decide +kernel
theorem dX7_knows_19 : decode cX7_knows 19 = .ok (.getfield 120, 3) := by decide +kernel
theorem dX7_knows_22 : decode cX7_knows 22 = .ok (.if_icmp .lt 5, 3) := by decide +kernel
theorem dX7_knows_25 : decode cX7_knows 25 = .ok (.iconst (-1), 1) := by decide +kernel
theorem dX7_knows_26 : decode cX7_knows 26 = .ok (.ireturn, 1) := by decide +kernel
theorem dX7_knows_27 : decode cX7_knows 27 = .ok (.aload_n 0, 1) := by decide +kernel
theorem dX7_knows_28 : decode cX7_knows 28 = .ok (.getfield 12, 3) := by decide +kernel
theorem dX7_knows_31 : decode cX7_knows 31 = .ok (.getfield 38, 3) := by decide +kernel
theorem dX7_knows_34 : decode cX7_knows 34 = .ok (.iload_n 2, 1) := by decide +kernel
theorem dX7_knows_35 : decode cX7_knows 35 = .ok (.aload_n 0, 1) := by decide +kernel
theorem dX7_knows_36 : decode cX7_knows 36 = .ok (.iload_n 1, 1) := by decide +kernel
theorem dX7_knows_37 : decode cX7_knows 37 = .ok (.invokevirtual 121, 3) := by decide +kernel
theorem dX7_knows_40 : decode cX7_knows 40 = .ok (.invokevirtual 125, 3) := by decide +kernel
theorem dX7_knows_43 : decode cX7_knows 43 = .ok (.istore 4, 2) := by decide +kernel
theorem dX7_knows_45 : decode cX7_knows 45 = .ok (.aload_n 0, 1) := by decide +kernel
theorem dX7_knows_46 : decode cX7_knows 46 = .ok (.getfield 12, 3) := by decide +kernel
theorem dX7_knows_49 : decode cX7_knows 49 = .ok (.getfield 38, 3) := by decide +kernel
theorem dX7_knows_52 : decode cX7_knows 52 = .ok (.getfield 60, 3) := by decide +kernel
theorem dX7_knows_55 : decode cX7_knows 55 = .ok (.iload_n 2, 1) := by decide +kernel
theorem dX7_knows_56 : decode cX7_knows 56 = .ok (.iaload, 1) := by decide +kernel
theorem dX7_knows_57 : decode cX7_knows 57 = .ok (.istore 5, 2) := by decide +kernel
theorem dX7_knows_59 : decode cX7_knows 59 = .ok (.iload_n 3, 1) := by decide +kernel
theorem dX7_knows_60 : decode cX7_knows 60 = .ok (.tableswitch 70 0 3 #[32, 41, 50, 56], 32) := by decide +kernel
theorem dX7_knows_92 : decode cX7_knows 92 = .ok (.iload 5, 2) := by decide +kernel
theorem dX7_knows_94 : decode cX7_knows 94 = .ok (.iload 4, 2) := by decide +kernel
theorem dX7_knows_96 : decode cX7_knows 96 = .ok (.invokestatic 129, 3) := by decide +kernel
theorem dX7_knows_99 : decode cX7_knows 99 = .ok (.iadd, 1) := by decide +kernel
theorem dX7_knows_100 : decode cX7_knows 100 = .ok (.ireturn, 1) := by decide +kernel
theorem dX7_knows_101 : decode cX7_knows 101 = .ok (.iload 5, 2) := by decide +kernel
theorem dX7_knows_103 : decode cX7_knows 103 = .ok (.iload 4, 2) := by decide +kernel
theorem dX7_knows_105 : decode cX7_knows 105 = .ok (.invokestatic 132, 3) := by decide +kernel
theorem dX7_knows_108 : decode cX7_knows 108 = .ok (.iadd, 1) := by decide +kernel
theorem dX7_knows_109 : decode cX7_knows 109 = .ok (.ireturn, 1) := by decide +kernel
theorem dX7_knows_110 : decode cX7_knows 110 = .ok (.iload 4, 2) := by decide +kernel
theorem dX7_knows_112 : decode cX7_knows 112 = .ok (.invokestatic 135, 3) := by decide +kernel
theorem dX7_knows_115 : decode cX7_knows 115 = .ok (.ireturn, 1) := by decide +kernel
theorem dX7_knows_116 : decode cX7_knows 116 = .ok (.iload 4, 2) := by decide +kernel
theorem dX7_knows_118 : decode cX7_knows 118 = .ok (.invokestatic 132, 3) := by decide +kernel
theorem dX7_knows_121 : decode cX7_knows 121 = .ok (.iload 4, 2) := by decide +kernel
theorem dX7_knows_123 : decode cX7_knows 123 = .ok (.invokestatic 129, 3) := by decide +kernel
theorem dX7_knows_126 : decode cX7_knows 126 = .ok (.isub, 1) := by decide +kernel
theorem dX7_knows_127 : decode cX7_knows 127 = .ok (.iconst 1, 1) := by decide +kernel
theorem dX7_knows_128 : decode cX7_knows 128 = .ok (.iadd, 1) := by decide +kernel
theorem dX7_knows_129 : decode cX7_knows 129 = .ok (.ireturn, 1) := by decide +kernel
theorem dX7_knows_130 : decode cX7_knows 130 = .ok (.iconst (-1), 1) := by decide +kernel
theorem dX7_knows_131 : decode cX7_knows 131 = .ok (.ireturn, 1) := by decide +kernel
theorem dX7_tables_0 : decode cX7_tables 0 = .ok (.iload_n 1, 1) := by decide +kernel
theorem dX7_tables_1 : decode cX7_tables 1 = .ok (.invokestatic 69, 3) := by decide +kernel
theorem dX7_tables_4 : decode cX7_tables 4 = .ok (.ifCond .eq 17, 3) := by decide +kernel
theorem dX7_tables_7 : decode cX7_tables 7 = .ok (.aload_n 0, 1) := by decide +kernel
theorem dX7_tables_8 : decode cX7_tables 8 = .ok (.getfield 12, 3) := by decide +kernel
theorem dX7_tables_11 : decode cX7_tables 11 = .ok (.getfield 101, 3) := by decide +kernel
theorem dX7_tables_14 : decode cX7_tables 14 = .ok (.iload_n 1, 1) := by decide +kernel
theorem dX7_tables_15 : decode cX7_tables 15 = .ok (.invokevirtual 140, 3) := by decide +kernel
theorem dX7_tables_18 : decode cX7_tables 18 = .ok (.goto 4, 3) := by decide +kernel
theorem dX7_tables_21 : decode cX7_tables 21 = .ok (.iconst (-1), 1) := by decide +kernel
theorem dX7_tables_22 : decode cX7_tables 22 = .ok (.ireturn, 1) := by decide +kernel
theorem dX7_broken_0 : decode cX7_broken 0 = .ok (.iload_n 1, 1) := by decide +kernel
theorem dX7_broken_1 : decode cX7_broken 1 = .ok (.invokestatic 69, 3) := by decide +kernel
theorem dX7_broken_4 : decode cX7_broken 4 = .ok (.ifCond .eq 25, 3) := by decide +kernel
theorem dX7_broken_7 : decode cX7_broken 7 = .ok (.aload_n 0, 1) := by decide +kernel
theorem dX7_broken_8 : decode cX7_broken 8 = .ok (.getfield 12, 3) := by decide +kernel
theorem dX7_broken_11 : decode cX7_broken 11 = .ok (.getfield 38, 3) := by decide +kernel
theorem dX7_broken_14 : decode cX7_broken 14 = .ok (.aload_n 0, 1) := by decide +kernel
theorem dX7_broken_15 : decode cX7_broken 15 = .ok (.iload_n 1, 1) := by decide +kernel
theorem dX7_broken_16 : decode cX7_broken 16 = .ok (.invokevirtual 121, 3) := by decide +kernel
theorem dX7_broken_19 : decode cX7_broken 19 = .ok (.invokevirtual 143, 3) := by decide +kernel
theorem dX7_broken_22 : decode cX7_broken 22 = .ok (.ifCond .ne 7, 3) := by decide +kernel
theorem dX7_broken_25 : decode cX7_broken 25 = .ok (.iconst 1, 1) := by decide +kernel
theorem dX7_broken_26 : decode cX7_broken 26 = .ok (.goto 4, 3) := by decide +kernel
theorem dX7_broken_29 : decode cX7_broken 29 = .ok (.iconst 0, 1) := by decide +kernel
theorem dX7_broken_30 : decode cX7_broken 30 = .ok (.ireturn, 1) := by decide +kernel
theorem dX7_tell_0 : decode cX7_tell 0 = .ok (.aload_n 0, 1) := by decide +kernel
theorem dX7_tell_1 : decode cX7_tell 1 = .ok (.getfield 12, 3) := by decide +kernel
theorem dX7_tell_4 : decode cX7_tell 4 = .ok (.getfield 38, 3) := by decide +kernel
theorem dX7_tell_7 : decode cX7_tell 7 = .ok (.astore_n 3, 1) := by decide +kernel
theorem dX7_tell_8 : decode cX7_tell 8 = .ok (.iload_n 2, 1) := by decide +kernel
theorem dX7_tell_9 : decode cX7_tell 9 = .ok (.ifCond .ne 10, 3) := by decide +kernel
theorem dX7_tell_12 : decode cX7_tell 12 = .ok (.aload_n 3, 1) := by decide +kernel
theorem dX7_tell_13 : decode cX7_tell 13 = .ok (.getfield 42, 3) := by decide +kernel
theorem dX7_tell_16 : decode cX7_tell 16 = .ok (.goto 7, 3) := by decide +kernel
theorem dX7_tell_19 : decode cX7_tell 19 = .ok (.aload_n 3, 1) := by decide +kernel
theorem dX7_tell_20 : decode cX7_tell 20 = .ok (.getfield 120, 3) := by decide +kernel
theorem dX7_tell_23 : decode cX7_tell 23 = .ok (.istore 4, 2) := by decide +kernel
theorem dX7_tell_25 : decode cX7_tell 25 = .ok (.iload_n 1, 1) := by decide +kernel
theorem dX7_tell_26 : decode cX7_tell 26 = .ok (.ifCond .lt 9, 3) := by decide +kernel
theorem dX7_tell_29 : decode cX7_tell 29 = .ok (.iload_n 1, 1) := by decide +kernel
theorem dX7_tell_30 : decode cX7_tell 30 = .ok (.iload 4, 2) := by decide +kernel
theorem dX7_tell_32 : decode cX7_tell 32 = .ok (.if_icmp .lt 5, 3) := by decide +kernel
theorem dX7_tell_35 : decode cX7_tell 35 = .ok (.iconst (-1), 1) := by decide +kernel
theorem dX7_tell_36 : decode cX7_tell 36 = .ok (.ireturn, 1) := by decide +kernel
theorem dX7_tell_37 : decode cX7_tell 37 = .ok (.iload_n 2, 1) := by decide +kernel
theorem dX7_tell_38 : decode cX7_tell 38 = .ok (.tableswitch 98 0 6 #[42, 49, 56, 63, 70, 77, 91], 42) := by decide +kernel
theorem dX7_tell_80 : decode cX7_tell 80 = .ok (.aload_n 3, 1) := by decide +kernel
theorem dX7_tell_81 : decode cX7_tell 81 = .ok (.getfield 56, 3) := by decide +kernel
theorem dX7_tell_84 : decode cX7_tell 84 = .ok (.iload_n 1, 1) := by decide +kernel
theorem dX7_tell_85 : decode cX7_tell 85 = .ok (.iaload, 1) := by decide +kernel
theorem dX7_tell_86 : decode cX7_tell 86 = .ok (.ireturn, 1) := by decide +kernel
theorem dX7_tell_87 : decode cX7_tell 87 = .ok (.aload_n 3, 1) := by decide +kernel
theorem dX7_tell_88 : decode cX7_tell 88 = .ok (.getfield 147, 3) := by decide +kernel
theorem dX7_tell_91 : decode cX7_tell 91 = .ok (.iload_n 1, 1) := by decide +kernel
theorem dX7_tell_92 : decode cX7_tell 92 = .ok (.iaload, 1) := by decide +kernel
theorem dX7_tell_93 : decode cX7_tell 93 = .ok (.ireturn, 1) := by decide +kernel
theorem dX7_tell_94 : decode cX7_tell 94 = .ok (.aload_n 3, 1) := by decide +kernel
theorem dX7_tell_95 : decode cX7_tell 95 = .ok (.getfield 60, 3) := by decide +kernel
theorem dX7_tell_98 : decode cX7_tell 98 = .ok (.iload_n 1, 1) := by decide +kernel
theorem dX7_tell_99 : decode cX7_tell 99 = .ok (.iaload, 1) := by decide +kernel
theorem dX7_tell_100 : decode cX7_tell 100 = .ok (.ireturn, 1) := by decide +kernel
theorem dX7_tell_101 : decode cX7_tell 101 = .ok (.aload_n 3, 1) := by decide +kernel
theorem dX7_tell_102 : decode cX7_tell 102 = .ok (.getfield 63, 3) := by decide +kernel
theorem dX7_tell_105 : decode cX7_tell 105 = .ok (.iload_n 1, 1) := by decide +kernel
theorem dX7_tell_106 : decode cX7_tell 106 = .ok (.iaload, 1) := by decide +kernel
theorem dX7_tell_107 : decode cX7_tell 107 = .ok (.ireturn, 1) := by decide +kernel
theorem dX7_tell_108 : decode cX7_tell 108 = .ok (.aload_n 3, 1) := by decide +kernel
theorem dX7_tell_109 : decode cX7_tell 109 = .ok (.getfield 66, 3) := by decide +kernel
theorem dX7_tell_112 : decode cX7_tell 112 = .ok (.iload_n 1, 1) := by decide +kernel
theorem dX7_tell_113 : decode cX7_tell 113 = .ok (.iaload, 1) := by decide +kernel
theorem dX7_tell_114 : decode cX7_tell 114 = .ok (.ireturn, 1) := by decide +kernel
theorem dX7_tell_115 : decode cX7_tell 115 = .ok (.aload_n 3, 1) := by decide +kernel
theorem dX7_tell_116 : decode cX7_tell 116 = .ok (.iload_n 1, 1) := by decide +kernel
theorem dX7_tell_117 : decode cX7_tell 117 = .ok (.invokevirtual 150, 3) := by decide +kernel
theorem dX7_tell_120 : decode cX7_tell 120 = .ok (.ifCond .eq 7, 3) := by decide +kernel
theorem dX7_tell_123 : decode cX7_tell 123 = .ok (.iconst 1, 1) := by decide +kernel
theorem dX7_tell_124 : decode cX7_tell 124 = .ok (.goto 4, 3) := by decide +kernel
theorem dX7_tell_127 : decode cX7_tell 127 = .ok (.iconst 0, 1) := by decide +kernel
theorem dX7_tell_128 : decode cX7_tell 128 = .ok (.ireturn, 1) := by decide +kernel
theorem dX7_tell_129 : decode cX7_tell 129 = .ok (.aload_n 3, 1) := by decide +kernel
theorem dX7_tell_130 : decode cX7_tell 130 = .ok (.getfield 153, 3) := by decide +kernel
theorem dX7_tell_133 : decode cX7_tell 133 = .ok (.iload_n 1, 1) := by decide +kernel
theorem dX7_tell_134 : decode cX7_tell 134 = .ok (.iaload, 1) := by decide +kernel
theorem dX7_tell_135 : decode cX7_tell 135 = .ok (.ireturn, 1) := by decide +kernel
theorem dX7_tell_136 : decode cX7_tell 136 = .ok (.iconst (-1), 1) := by decide +kernel
theorem dX7_tell_137 : decode cX7_tell 137 = .ok (.ireturn, 1) := by decide +kernel
theorem dX7_asked_0 : decode cX7_asked 0 = .ok (.iload_n 1, 1) := by decide +kernel
theorem dX7_asked_1 : decode cX7_asked 1 = .ok (.ifCond .lt 26, 3) := by decide +kernel
theorem dX7_asked_4 : decode cX7_asked 4 = .ok (.iload_n 1, 1) := by decide +kernel
theorem dX7_asked_5 : decode cX7_asked 5 = .ok (.aload_n 0, 1) := by decide +kernel
theorem dX7_asked_6 : decode cX7_asked 6 = .ok (.getfield 12, 3) := by decide +kernel
theorem dX7_asked_9 : decode cX7_asked 9 = .ok (.getfield 77, 3) := by decide +kernel
theorem dX7_asked_12 : decode cX7_asked 12 = .ok (.getfield 81, 3) := by decide +kernel
theorem dX7_asked_15 : decode cX7_asked 15 = .ok (.if_icmp .ge 12, 3) := by decide +kernel
theorem dX7_asked_18 : decode cX7_asked 18 = .ok (.iload_n 2, 1) := by decide +kernel
theorem dX7_asked_19 : decode cX7_asked 19 = .ok (.ifCond .lt 8, 3) := by decide +kernel
theorem dX7_asked_22 : decode cX7_asked 22 = .ok (.iload_n 2, 1) := by decide +kernel
theorem dX7_asked_23 : decode cX7_asked 23 = .ok (.iconst 5, 1) := by decide +kernel
theorem dX7_asked_24 : decode cX7_asked 24 = .ok (.if_icmp .lt 5, 3) := by decide +kernel
theorem dX7_asked_27 : decode cX7_asked 27 = .ok (.iconst (-1), 1) := by decide +kernel
theorem dX7_asked_28 : decode cX7_asked 28 = .ok (.ireturn, 1) := by decide +kernel
theorem dX7_asked_29 : decode cX7_asked 29 = .ok (.aload_n 0, 1) := by decide +kernel
theorem dX7_asked_30 : decode cX7_asked 30 = .ok (.getfield 12, 3) := by decide +kernel
theorem dX7_asked_33 : decode cX7_asked 33 = .ok (.getfield 77, 3) := by decide +kernel
theorem dX7_asked_36 : decode cX7_asked 36 = .ok (.getfield 156, 3) := by decide +kernel
theorem dX7_asked_39 : decode cX7_asked 39 = .ok (.iload_n 2, 1) := by decide +kernel
theorem dX7_asked_40 : decode cX7_asked 40 = .ok (.aaload, 1) := by decide +kernel
theorem dX7_asked_41 : decode cX7_asked 41 = .ok (.iload_n 1, 1) := by decide +kernel
theorem dX7_asked_42 : decode cX7_asked 42 = .ok (.iaload, 1) := by decide +kernel
theorem dX7_asked_43 : decode cX7_asked 43 = .ok (.ireturn, 1) := by decide +kernel
theorem dX7_wish_0 : decode cX7_wish 0 = .ok (.iload_n 1, 1) := by decide +kernel
theorem dX7_wish_1 : decode cX7_wish 1 = .ok (.iload_n 3, 1) := by decide +kernel
theorem dX7_wish_2 : decode cX7_wish 2 = .ok (.invokestatic 73, 3) := by decide +kernel
theorem dX7_wish_5 : decode cX7_wish 5 = .ok (.ifCond .eq 18, 3) := by decide +kernel
theorem dX7_wish_8 : decode cX7_wish 8 = .ok (.aload_n 0, 1) := by decide +kernel
theorem dX7_wish_9 : decode cX7_wish 9 = .ok (.getfield 12, 3) := by decide +kernel
theorem dX7_wish_12 : decode cX7_wish 12 = .ok (.getfield 160, 3) := by decide +kernel
theorem dX7_wish_15 : decode cX7_wish 15 = .ok (.getfield 164, 3) := by decide +kernel
theorem dX7_wish_18 : decode cX7_wish 18 = .ok (.bipush 8, 2) := by decide +kernel
theorem dX7_wish_20 : decode cX7_wish 20 = .ok (.if_icmp .lt 5, 3) := by decide +kernel
theorem dX7_wish_23 : decode cX7_wish 23 = .ok (.iconst (-1), 1) := by decide +kernel
theorem dX7_wish_24 : decode cX7_wish 24 = .ok (.ireturn, 1) := by decide +kernel
theorem dX7_wish_25 : decode cX7_wish 25 = .ok (.aload_n 0, 1) := by decide +kernel
theorem dX7_wish_26 : decode cX7_wish 26 = .ok (.getfield 12, 3) := by decide +kernel
theorem dX7_wish_29 : decode cX7_wish 29 = .ok (.getfield 160, 3) := by decide +kernel
theorem dX7_wish_32 : decode cX7_wish 32 = .ok (.iload_n 1, 1) := by decide +kernel
theorem dX7_wish_33 : decode cX7_wish 33 = .ok (.aload_n 0, 1) := by decide +kernel
theorem dX7_wish_34 : decode cX7_wish 34 = .ok (.getfield 12, 3) := by decide +kernel
theorem dX7_wish_37 : decode cX7_wish 37 = .ok (.getfield 38, 3) := by decide +kernel
theorem dX7_wish_40 : decode cX7_wish 40 = .ok (.iload_n 2, 1) := by decide +kernel
theorem dX7_wish_41 : decode cX7_wish 41 = .ok (.invokevirtual 86, 3) := by decide +kernel
theorem dX7_wish_44 : decode cX7_wish 44 = .ok (.iload_n 3, 1) := by decide +kernel
theorem dX7_wish_45 : decode cX7_wish 45 = .ok (.invokevirtual 167, 3) := by decide +kernel
theorem dX7_wish_48 : decode cX7_wish 48 = .ok (.ireturn, 1) := by decide +kernel
theorem dX7_clear_0 : decode cX7_clear 0 = .ok (.aload_n 0, 1) := by decide +kernel
theorem dX7_clear_1 : decode cX7_clear 1 = .ok (.getfield 12, 3) := by decide +kernel
theorem dX7_clear_4 : decode cX7_clear 4 = .ok (.getfield 160, 3) := by decide +kernel
theorem dX7_clear_7 : decode cX7_clear 7 = .ok (.iconst 0, 1) := by decide +kernel
theorem dX7_clear_8 : decode cX7_clear 8 = .ok (.putfield 164, 3) := by decide +kernel
theorem dX7_clear_11 : decode cX7_clear 11 = .ok (.return_, 1) := by decide +kernel
theorem dX7_most_0 : decode cX7_most 0 = .ok (.iload_n 1, 1) := by decide +kernel
theorem dX7_most_1 : decode cX7_most 1 = .ok (.invokestatic 69, 3) := by decide +kernel
theorem dX7_most_4 : decode cX7_most 4 = .ok (.ifCond .ne 5, 3) := by decide +kernel
theorem dX7_most_7 : decode cX7_most 7 = .ok (.iconst (-1), 1) := by decide +kernel
theorem dX7_most_8 : decode cX7_most 8 = .ok (.ireturn, 1) := by decide +kernel
theorem dX7_most_9 : decode cX7_most 9 = .ok (.aload_n 0, 1) := by decide +kernel
theorem dX7_most_10 : decode cX7_most 10 = .ok (.iload_n 1, 1) := by decide +kernel
theorem dX7_most_11 : decode cX7_most 11 = .ok (.invokevirtual 170, 3) := by decide +kernel
theorem dX7_most_14 : decode cX7_most 14 = .ok (.aload_n 0, 1) := by decide +kernel
theorem dX7_most_15 : decode cX7_most 15 = .ok (.getfield 34, 3) := by decide +kernel
theorem dX7_most_18 : decode cX7_most 18 = .ok (.iconst 0, 1) := by decide +kernel
theorem dX7_most_19 : decode cX7_most 19 = .ok (.iconst 0, 1) := by decide +kernel
theorem dX7_most_20 : decode cX7_most 20 = .ok (.aload_n 0, 1) := by decide +kernel
theorem dX7_most_21 : decode cX7_most 21 = .ok (.getfield 12, 3) := by decide +kernel
theorem dX7_most_24 : decode cX7_most 24 = .ok (.getfield 160, 3) := by decide +kernel
theorem dX7_most_27 : decode cX7_most 27 = .ok (.getfield 164, 3) := by decide +kernel
theorem dX7_most_30 : decode cX7_most 30 = .ok (.iconst 0, 1) := by decide +kernel
theorem dX7_most_31 : decode cX7_most 31 = .ok (.invokestatic 174, 3) := by decide +kernel
theorem dX7_most_34 : decode cX7_most 34 = .ok (.ireturn, 1) := by decide +kernel
theorem dX7_together_0 : decode cX7_together 0 = .ok (.iload_n 1, 1) := by decide +kernel
theorem dX7_together_1 : decode cX7_together 1 = .ok (.invokestatic 69, 3) := by decide +kernel
theorem dX7_together_4 : decode cX7_together 4 = .ok (.ifCond .eq 23, 3) := by decide +kernel
theorem dX7_together_7 : decode cX7_together 7 = .ok (.iload_n 2, 1) := by decide +kernel
theorem dX7_together_8 : decode cX7_together 8 = .ok (.ifCond .lt 19, 3) := by decide +kernel
theorem dX7_together_11 : decode cX7_together 11 = .ok (.iload_n 2, 1) := by decide +kernel
theorem dX7_together_12 : decode cX7_together 12 = .ok (.iconst 1, 1) := by decide +kernel
theorem dX7_together_13 : decode cX7_together 13 = .ok (.aload_n 0, 1) := by decide +kernel
theorem dX7_together_14 : decode cX7_together 14 = .ok (.getfield 12, 3) := by decide +kernel
theorem dX7_together_17 : decode cX7_together 17 = .ok (.getfield 160, 3) := by decide +kernel
theorem dX7_together_20 : decode cX7_together 20 = .ok (.getfield 164, 3) := by decide +kernel
theorem dX7_together_23 : decode cX7_together 23 = .ok (.ishl, 1) := by decide +kernel
theorem dX7_together_24 : decode cX7_together 24 = .ok (.if_icmp .lt 5, 3) := by decide +kernel
theorem dX7_together_27 : decode cX7_together 27 = .ok (.iconst 0, 1) := by decide +kernel
theorem dX7_together_28 : decode cX7_together 28 = .ok (.ireturn, 1) := by decide +kernel
theorem dX7_together_29 : decode cX7_together 29 = .ok (.iload_n 2, 1) := by decide +kernel
theorem dX7_together_30 : decode cX7_together 30 = .ok (.ifCond .ne 5, 3) := by decide +kernel
theorem dX7_together_33 : decode cX7_together 33 = .ok (.iconst 1, 1) := by decide +kernel
theorem dX7_together_34 : decode cX7_together 34 = .ok (.ireturn, 1) := by decide +kernel
theorem dX7_together_35 : decode cX7_together 35 = .ok (.aload_n 0, 1) := by decide +kernel
theorem dX7_together_36 : decode cX7_together 36 = .ok (.iload_n 1, 1) := by decide +kernel
theorem dX7_together_37 : decode cX7_together 37 = .ok (.invokevirtual 170, 3) := by decide +kernel
theorem dX7_together_40 : decode cX7_together 40 = .ok (.aload_n 0, 1) := by decide +kernel
theorem dX7_together_41 : decode cX7_together 41 = .ok (.getfield 34, 3) := by decide +kernel
theorem dX7_together_44 : decode cX7_together 44 = .ok (.iload_n 2, 1) := by decide +kernel
theorem dX7_together_45 : decode cX7_together 45 = .ok (.invokevirtual 178, 3) := by decide +kernel
theorem dX7_together_48 : decode cX7_together 48 = .ok (.ireturn, 1) := by decide +kernel
theorem dX7_count_0 : decode cX7_count 0 = .ok (.iload_n 1, 1) := by decide +kernel
theorem dX7_count_1 : decode cX7_count 1 = .ok (.tableswitch 120 0 6 #[43, 54, 65, 76, 87, 98, 109], 43) := by decide +kernel
theorem dX7_count_44 : decode cX7_count 44 = .ok (.aload_n 0, 1) := by decide +kernel
theorem dX7_count_45 : decode cX7_count 45 = .ok (.getfield 12, 3) := by decide +kernel
theorem dX7_count_48 : decode cX7_count 48 = .ok (.getfield 38, 3) := by decide +kernel
theorem dX7_count_51 : decode cX7_count 51 = .ok (.getfield 42, 3) := by decide +kernel
theorem dX7_count_54 : decode cX7_count 54 = .ok (.ireturn, 1) := by decide +kernel
theorem dX7_count_55 : decode cX7_count 55 = .ok (.aload_n 0, 1) := by decide +kernel
theorem dX7_count_56 : decode cX7_count 56 = .ok (.getfield 12, 3) := by decide +kernel
theorem dX7_count_59 : decode cX7_count 59 = .ok (.getfield 38, 3) := by decide +kernel
theorem dX7_count_62 : decode cX7_count 62 = .ok (.getfield 120, 3) := by decide +kernel
theorem dX7_count_65 : decode cX7_count 65 = .ok (.ireturn, 1) := by decide +kernel
theorem dX7_count_66 : decode cX7_count 66 = .ok (.aload_n 0, 1) := by decide +kernel
theorem dX7_count_67 : decode cX7_count 67 = .ok (.getfield 12, 3) := by decide +kernel
theorem dX7_count_70 : decode cX7_count 70 = .ok (.getfield 38, 3) := by decide +kernel
theorem dX7_count_73 : decode cX7_count 73 = .ok (.getfield 105, 3) := by decide +kernel
theorem dX7_count_76 : decode cX7_count 76 = .ok (.ireturn, 1) := by decide +kernel
theorem dX7_count_77 : decode cX7_count 77 = .ok (.aload_n 0, 1) := by decide +kernel
theorem dX7_count_78 : decode cX7_count 78 = .ok (.getfield 12, 3) := by decide +kernel
theorem dX7_count_81 : decode cX7_count 81 = .ok (.getfield 77, 3) := by decide +kernel
theorem dX7_count_84 : decode cX7_count 84 = .ok (.getfield 81, 3) := by decide +kernel
theorem dX7_count_87 : decode cX7_count 87 = .ok (.ireturn, 1) := by decide +kernel
theorem dX7_count_88 : decode cX7_count 88 = .ok (.aload_n 0, 1) := by decide +kernel
theorem dX7_count_89 : decode cX7_count 89 = .ok (.getfield 12, 3) := by decide +kernel
theorem dX7_count_92 : decode cX7_count 92 = .ok (.getfield 77, 3) := by decide +kernel
theorem dX7_count_95 : decode cX7_count 95 = .ok (.getfield 181, 3) := by decide +kernel
theorem dX7_count_98 : decode cX7_count 98 = .ok (.ireturn, 1) := by decide +kernel
theorem dX7_count_99 : decode cX7_count 99 = .ok (.aload_n 0, 1) := by decide +kernel
theorem dX7_count_100 : decode cX7_count 100 = .ok (.getfield 12, 3) := by decide +kernel
theorem dX7_count_103 : decode cX7_count 103 = .ok (.getfield 160, 3) := by decide +kernel
theorem dX7_count_106 : decode cX7_count 106 = .ok (.getfield 164, 3) := by decide +kernel
theorem dX7_count_109 : decode cX7_count 109 = .ok (.ireturn, 1) := by decide +kernel
theorem dX7_count_110 : decode cX7_count 110 = .ok (.aload_n 0, 1) := by decide +kernel
theorem dX7_count_111 : decode cX7_count 111 = .ok (.getfield 12, 3) := by decide +kernel
theorem dX7_count_114 : decode cX7_count 114 = .ok (.getfield 101, 3) := by decide +kernel
theorem dX7_count_117 : decode cX7_count 117 = .ok (.invokevirtual 184, 3) := by decide +kernel
theorem dX7_count_120 : decode cX7_count 120 = .ok (.ireturn, 1) := by decide +kernel
theorem dX7_count_121 : decode cX7_count 121 = .ok (.iconst (-1), 1) := by decide +kernel
theorem dX7_count_122 : decode cX7_count 122 = .ok (.ireturn, 1) := by decide +kernel
theorem dX7_image_0 : decode cX7_image 0 = .ok (.iload_n 1, 1) := by decide +kernel
theorem dX7_image_1 : decode cX7_image 1 = .ok (.ifCond .lt 8, 3) := by decide +kernel
theorem dX7_image_4 : decode cX7_image 4 = .ok (.iload_n 1, 1) := by decide +kernel
theorem dX7_image_5 : decode cX7_image 5 = .ok (.iconst 3, 1) := by decide +kernel
theorem dX7_image_6 : decode cX7_image 6 = .ok (.if_icmp .lt 5, 3) := by decide +kernel
theorem dX7_image_9 : decode cX7_image 9 = .ok (.iconst 0, 1) := by decide +kernel
theorem dX7_image_10 : decode cX7_image 10 = .ok (.ireturn, 1) := by decide +kernel
theorem dX7_image_11 : decode cX7_image 11 = .ok (.aload_n 0, 1) := by decide +kernel
theorem dX7_image_12 : decode cX7_image 12 = .ok (.getfield 16, 3) := by decide +kernel
theorem dX7_image_15 : decode cX7_image 15 = .ok (.iload_n 1, 1) := by decide +kernel
theorem dX7_image_16 : decode cX7_image 16 = .ok (.aaload, 1) := by decide +kernel
theorem dX7_image_17 : decode cX7_image 17 = .ok (.aload_n 0, 1) := by decide +kernel
theorem dX7_image_18 : decode cX7_image 18 = .ok (.getfield 12, 3) := by decide +kernel
theorem dX7_image_21 : decode cX7_image 21 = .ok (.invokevirtual 187, 3) := by decide +kernel
theorem dX7_image_24 : decode cX7_image 24 = .ok (.aload_n 0, 1) := by decide +kernel
theorem dX7_image_25 : decode cX7_image 25 = .ok (.getfield 20, 3) := by decide +kernel
theorem dX7_image_28 : decode cX7_image 28 = .ok (.iload_n 1, 1) := by decide +kernel
theorem dX7_image_29 : decode cX7_image 29 = .ok (.iconst 1, 1) := by decide +kernel
theorem dX7_image_30 : decode cX7_image 30 = .ok (.bastore, 1) := by decide +kernel
theorem dX7_image_31 : decode cX7_image 31 = .ok (.iconst 1, 1) := by decide +kernel
theorem dX7_image_32 : decode cX7_image 32 = .ok (.ireturn, 1) := by decide +kernel
theorem dX7_again_0 : decode cX7_again 0 = .ok (.iload_n 1, 1) := by decide +kernel
theorem dX7_again_1 : decode cX7_again 1 = .ok (.ifCond .lt 17, 3) := by decide +kernel
theorem dX7_again_4 : decode cX7_again 4 = .ok (.iload_n 1, 1) := by decide +kernel
theorem dX7_again_5 : decode cX7_again 5 = .ok (.iconst 3, 1) := by decide +kernel
theorem dX7_again_6 : decode cX7_again 6 = .ok (.if_icmp .ge 12, 3) := by decide +kernel
theorem dX7_again_9 : decode cX7_again 9 = .ok (.aload_n 0, 1) := by decide +kernel
theorem dX7_again_10 : decode cX7_again 10 = .ok (.getfield 20, 3) := by decide +kernel
theorem dX7_again_13 : decode cX7_again 13 = .ok (.iload_n 1, 1) := by decide +kernel
theorem dX7_again_14 : decode cX7_again 14 = .ok (.baload, 1) := by decide +kernel
theorem dX7_again_15 : decode cX7_again 15 = .ok (.ifCond .ne 5, 3) := by decide +kernel
theorem dX7_again_18 : decode cX7_again 18 = .ok (.iconst 0, 1) := by decide +kernel
theorem dX7_again_19 : decode cX7_again 19 = .ok (.ireturn, 1) := by decide +kernel
theorem dX7_again_20 : decode cX7_again 20 = .ok (.aload_n 0, 1) := by decide +kernel
theorem dX7_again_21 : decode cX7_again 21 = .ok (.getfield 12, 3) := by decide +kernel
theorem dX7_again_24 : decode cX7_again 24 = .ok (.aload_n 0, 1) := by decide +kernel
theorem dX7_again_25 : decode cX7_again 25 = .ok (.getfield 16, 3) := by decide +kernel
theorem dX7_again_28 : decode cX7_again 28 = .ok (.iload_n 1, 1) := by decide +kernel
theorem dX7_again_29 : decode cX7_again 29 = .ok (.aaload, 1) := by decide +kernel
theorem dX7_again_30 : decode cX7_again 30 = .ok (.invokevirtual 187, 3) := by decide +kernel
theorem dX7_again_33 : decode cX7_again 33 = .ok (.iconst 1, 1) := by decide +kernel
theorem dX7_again_34 : decode cX7_again 34 = .ok (.ireturn, 1) := by decide +kernel
theorem dX7_isAsker_0 : decode cX7_isAsker 0 = .ok (.iload_n 0, 1) := by decide +kernel
theorem dX7_isAsker_1 : decode cX7_isAsker 1 = .ok (.ifCond .lt 12, 3) := by decide +kernel
theorem dX7_isAsker_4 : decode cX7_isAsker 4 = .ok (.iload_n 0, 1) := by decide +kernel
theorem dX7_isAsker_5 : decode cX7_isAsker 5 = .ok (.iconst 4, 1) := by decide +kernel
theorem dX7_isAsker_6 : decode cX7_isAsker 6 = .ok (.if_icmp .ge 7, 3) := by decide +kernel
theorem dX7_isAsker_9 : decode cX7_isAsker 9 = .ok (.iconst 1, 1) := by decide +kernel
theorem dX7_isAsker_10 : decode cX7_isAsker 10 = .ok (.goto 4, 3) := by decide +kernel
theorem dX7_isAsker_13 : decode cX7_isAsker 13 = .ok (.iconst 0, 1) := by decide +kernel
theorem dX7_isAsker_14 : decode cX7_isAsker 14 = .ok (.ireturn, 1) := by decide +kernel
theorem dX7_isQuestion_0 : decode cX7_isQuestion 0 = .ok (.iload_n 0, 1) := by decide +kernel
theorem dX7_isQuestion_1 : decode cX7_isQuestion 1 = .ok (.tableswitch 66 0 3 #[31, 48, 64, 64], 31) := by decide +kernel
theorem dX7_isQuestion_32 : decode cX7_isQuestion 32 = .ok (.iload_n 1, 1) := by decide +kernel
theorem dX7_isQuestion_33 : decode cX7_isQuestion 33 = .ok (.iconst 1, 1) := by decide +kernel
theorem dX7_isQuestion_34 : decode cX7_isQuestion 34 = .ok (.if_icmp .lt 13, 3) := by decide +kernel
theorem dX7_isQuestion_37 : decode cX7_isQuestion 37 = .ok (.iload_n 1, 1) := by decide +kernel
theorem dX7_isQuestion_38 : decode cX7_isQuestion 38 = .ok (.bipush 20, 2) := by decide +kernel
theorem dX7_isQuestion_40 : decode cX7_isQuestion 40 = .ok (.if_icmp .gt 7, 3) := by decide +kernel
theorem dX7_isQuestion_43 : decode cX7_isQuestion 43 = .ok (.iconst 1, 1) := by decide +kernel
theorem dX7_isQuestion_44 : decode cX7_isQuestion 44 = .ok (.goto 4, 3) := by decide +kernel
theorem dX7_isQuestion_47 : decode cX7_isQuestion 47 = .ok (.iconst 0, 1) := by decide +kernel
theorem dX7_isQuestion_48 : decode cX7_isQuestion 48 = .ok (.ireturn, 1) := by decide +kernel
theorem dX7_isQuestion_49 : decode cX7_isQuestion 49 = .ok (.iload_n 1, 1) := by decide +kernel
theorem dX7_isQuestion_50 : decode cX7_isQuestion 50 = .ok (.ifCond .lt 13, 3) := by decide +kernel
theorem dX7_isQuestion_53 : decode cX7_isQuestion 53 = .ok (.iload_n 1, 1) := by decide +kernel
theorem dX7_isQuestion_54 : decode cX7_isQuestion 54 = .ok (.bipush 20, 2) := by decide +kernel
theorem dX7_isQuestion_56 : decode cX7_isQuestion 56 = .ok (.if_icmp .gt 7, 3) := by decide +kernel
theorem dX7_isQuestion_59 : decode cX7_isQuestion 59 = .ok (.iconst 1, 1) := by decide +kernel
theorem dX7_isQuestion_60 : decode cX7_isQuestion 60 = .ok (.goto 4, 3) := by decide +kernel
theorem dX7_isQuestion_63 : decode cX7_isQuestion 63 = .ok (.iconst 0, 1) := by decide +kernel
theorem dX7_isQuestion_64 : decode cX7_isQuestion 64 = .ok (.ireturn, 1) := by decide +kernel
theorem dX7_isQuestion_65 : decode cX7_isQuestion 65 = .ok (.iconst 1, 1) := by decide +kernel
theorem dX7_isQuestion_66 : decode cX7_isQuestion 66 = .ok (.ireturn, 1) := by decide +kernel
theorem dX7_isQuestion_67 : decode cX7_isQuestion 67 = .ok (.iconst 0, 1) := by decide +kernel
theorem dX7_isQuestion_68 : decode cX7_isQuestion 68 = .ok (.ireturn, 1) := by decide +kernel
theorem dX7_holdsBit_0 : decode cX7_holdsBit 0 = .ok (.iload_n 0, 1) := by decide +kernel
theorem dX7_holdsBit_1 : decode cX7_holdsBit 1 = .ok (.iload_n 1, 1) := by decide +kernel
theorem dX7_holdsBit_2 : decode cX7_holdsBit 2 = .ok (.ishr, 1) := by decide +kernel
theorem dX7_holdsBit_3 : decode cX7_holdsBit 3 = .ok (.iconst 1, 1) := by decide +kernel
theorem dX7_holdsBit_4 : decode cX7_holdsBit 4 = .ok (.iand, 1) := by decide +kernel
theorem dX7_holdsBit_5 : decode cX7_holdsBit 5 = .ok (.ifCond .eq 7, 3) := by decide +kernel
theorem dX7_holdsBit_8 : decode cX7_holdsBit 8 = .ok (.iconst 1, 1) := by decide +kernel
theorem dX7_holdsBit_9 : decode cX7_holdsBit 9 = .ok (.goto 4, 3) := by decide +kernel
theorem dX7_holdsBit_12 : decode cX7_holdsBit 12 = .ok (.iconst 0, 1) := by decide +kernel
theorem dX7_holdsBit_13 : decode cX7_holdsBit 13 = .ok (.ireturn, 1) := by decide +kernel
theorem dX7_lowestBit_0 : decode cX7_lowestBit 0 = .ok (.iconst 0, 1) := by decide +kernel
theorem dX7_lowestBit_1 : decode cX7_lowestBit 1 = .ok (.istore_n 1, 1) := by decide +kernel
theorem dX7_lowestBit_2 : decode cX7_lowestBit 2 = .ok (.iload_n 1, 1) := by decide +kernel
theorem dX7_lowestBit_3 : decode cX7_lowestBit 3 = .ok (.bipush 20, 2) := by decide +kernel
theorem dX7_lowestBit_5 : decode cX7_lowestBit 5 = .ok (.if_icmp .ge 17, 3) := by decide +kernel
theorem dX7_lowestBit_8 : decode cX7_lowestBit 8 = .ok (.iload_n 0, 1) := by decide +kernel
theorem dX7_lowestBit_9 : decode cX7_lowestBit 9 = .ok (.iload_n 1, 1) := by decide +kernel
theorem dX7_lowestBit_10 : decode cX7_lowestBit 10 = .ok (.invokestatic 191, 3) := by decide +kernel
theorem dX7_lowestBit_13 : decode cX7_lowestBit 13 = .ok (.ifCond .ne 9, 3) := by decide +kernel
theorem dX7_lowestBit_16 : decode cX7_lowestBit 16 = .ok (.iinc 1 1, 3) := by decide +kernel
theorem dX7_lowestBit_19 : decode cX7_lowestBit 19 = .ok (.goto (-17), 3) := by decide +kernel
theorem dX7_lowestBit_22 : decode cX7_lowestBit 22 = .ok (.iload_n 1, 1) := by decide +kernel
theorem dX7_lowestBit_23 : decode cX7_lowestBit 23 = .ok (.ireturn, 1) := by decide +kernel
theorem dX7_highestBit_0 : decode cX7_highestBit 0 = .ok (.bipush 20, 2) := by decide +kernel
theorem dX7_highestBit_2 : decode cX7_highestBit 2 = .ok (.istore_n 1, 1) := by decide +kernel
theorem dX7_highestBit_3 : decode cX7_highestBit 3 = .ok (.iload_n 1, 1) := by decide +kernel
theorem dX7_highestBit_4 : decode cX7_highestBit 4 = .ok (.ifCond .le 17, 3) := by decide +kernel
theorem dX7_highestBit_7 : decode cX7_highestBit 7 = .ok (.iload_n 0, 1) := by decide +kernel
theorem dX7_highestBit_8 : decode cX7_highestBit 8 = .ok (.iload_n 1, 1) := by decide +kernel
theorem dX7_highestBit_9 : decode cX7_highestBit 9 = .ok (.invokestatic 191, 3) := by decide +kernel
theorem dX7_highestBit_12 : decode cX7_highestBit 12 = .ok (.ifCond .ne 9, 3) := by decide +kernel
theorem dX7_highestBit_15 : decode cX7_highestBit 15 = .ok (.iinc 1 (-1), 3) := by decide +kernel
theorem dX7_highestBit_18 : decode cX7_highestBit 18 = .ok (.goto (-15), 3) := by decide +kernel
theorem dX7_highestBit_21 : decode cX7_highestBit 21 = .ok (.iload_n 1, 1) := by decide +kernel
theorem dX7_highestBit_22 : decode cX7_highestBit 22 = .ok (.ireturn, 1) := by decide +kernel
theorem dX7_judge_0 : decode cX7_judge 0 = .ok (.aload_n 0, 1) := by decide +kernel
theorem dX7_judge_1 : decode cX7_judge 1 = .ok (.getfield 27, 3) := by decide +kernel
theorem dX7_judge_4 : decode cX7_judge 4 = .ok (.aload_n 0, 1) := by decide +kernel
theorem dX7_judge_5 : decode cX7_judge 5 = .ok (.getfield 12, 3) := by decide +kernel
theorem dX7_judge_8 : decode cX7_judge 8 = .ok (.getfield 38, 3) := by decide +kernel
theorem dX7_judge_11 : decode cX7_judge 11 = .ok (.invokevirtual 194, 3) := by decide +kernel
theorem dX7_judge_14 : decode cX7_judge 14 = .ok (.aload_n 0, 1) := by decide +kernel
theorem dX7_judge_15 : decode cX7_judge 15 = .ok (.getfield 27, 3) := by decide +kernel
theorem dX7_judge_18 : decode cX7_judge 18 = .ok (.aload_n 0, 1) := by decide +kernel
theorem dX7_judge_19 : decode cX7_judge 19 = .ok (.getfield 12, 3) := by decide +kernel
theorem dX7_judge_22 : decode cX7_judge 22 = .ok (.getfield 38, 3) := by decide +kernel
theorem dX7_judge_25 : decode cX7_judge 25 = .ok (.iload_n 2, 1) := by decide +kernel
theorem dX7_judge_26 : decode cX7_judge 26 = .ok (.iload_n 3, 1) := by decide +kernel
theorem dX7_judge_27 : decode cX7_judge 27 = .ok (.iload 4, 2) := by decide +kernel
theorem dX7_judge_29 : decode cX7_judge 29 = .ok (.invokevirtual 198, 3) := by decide +kernel
theorem dX7_judge_32 : decode cX7_judge 32 = .ok (.aload_n 0, 1) := by decide +kernel
theorem dX7_judge_33 : decode cX7_judge 33 = .ok (.getfield 27, 3) := by decide +kernel
theorem dX7_judge_36 : decode cX7_judge 36 = .ok (.aload_n 0, 1) := by decide +kernel
theorem dX7_judge_37 : decode cX7_judge 37 = .ok (.getfield 12, 3) := by decide +kernel
theorem dX7_judge_40 : decode cX7_judge 40 = .ok (.getfield 101, 3) := by decide +kernel
theorem dX7_judge_43 : decode cX7_judge 43 = .ok (.iload_n 1, 1) := by decide +kernel
theorem dX7_judge_44 : decode cX7_judge 44 = .ok (.invokevirtual 202, 3) := by decide +kernel
theorem dX7_judge_47 : decode cX7_judge 47 = .ok (.aload_n 0, 1) := by decide +kernel
theorem dX7_judge_48 : decode cX7_judge 48 = .ok (.getfield 12, 3) := by decide +kernel
theorem dX7_judge_51 : decode cX7_judge 51 = .ok (.getfield 38, 3) := by decide +kernel
theorem dX7_judge_54 : decode cX7_judge 54 = .ok (.getfield 105, 3) := by decide +kernel
theorem dX7_judge_57 : decode cX7_judge 57 = .ok (.invokevirtual 206, 3) := by decide +kernel
theorem dX7_judge_60 : decode cX7_judge 60 = .ok (.aload_n 0, 1) := by decide +kernel
theorem dX7_judge_61 : decode cX7_judge 61 = .ok (.getfield 27, 3) := by decide +kernel
theorem dX7_judge_64 : decode cX7_judge 64 = .ok (.invokevirtual 210, 3) := by decide +kernel
theorem dX7_judge_67 : decode cX7_judge 67 = .ok (.iconst 1, 1) := by decide +kernel
theorem dX7_judge_68 : decode cX7_judge 68 = .ok (.if_icmp .ne 5, 3) := by decide +kernel
theorem dX7_judge_71 : decode cX7_judge 71 = .ok (.iconst 2, 1) := by decide +kernel
theorem dX7_judge_72 : decode cX7_judge 72 = .ok (.ireturn, 1) := by decide +kernel
theorem dX7_judge_73 : decode cX7_judge 73 = .ok (.aload_n 0, 1) := by decide +kernel
theorem dX7_judge_74 : decode cX7_judge 74 = .ok (.getfield 27, 3) := by decide +kernel
theorem dX7_judge_77 : decode cX7_judge 77 = .ok (.aload_n 0, 1) := by decide +kernel
theorem dX7_judge_78 : decode cX7_judge 78 = .ok (.getfield 12, 3) := by decide +kernel
theorem dX7_judge_81 : decode cX7_judge 81 = .ok (.getfield 38, 3) := by decide +kernel
theorem dX7_judge_84 : decode cX7_judge 84 = .ok (.invokevirtual 213, 3) := by decide +kernel
theorem dX7_judge_87 : decode cX7_judge 87 = .ok (.ifCond .eq 7, 3) := by decide +kernel
theorem dX7_judge_90 : decode cX7_judge 90 = .ok (.iconst 1, 1) := by decide +kernel
theorem dX7_judge_91 : decode cX7_judge 91 = .ok (.goto 4, 3) := by decide +kernel
theorem dX7_judge_94 : decode cX7_judge 94 = .ok (.iconst 0, 1) := by decide +kernel
theorem dX7_judge_95 : decode cX7_judge 95 = .ok (.ireturn, 1) := by decide +kernel
theorem dX7_seenBy_0 : decode cX7_seenBy 0 = .ok (.aload_n 0, 1) := by decide +kernel
theorem dX7_seenBy_1 : decode cX7_seenBy 1 = .ok (.getfield 27, 3) := by decide +kernel
theorem dX7_seenBy_4 : decode cX7_seenBy 4 = .ok (.aload_n 0, 1) := by decide +kernel
theorem dX7_seenBy_5 : decode cX7_seenBy 5 = .ok (.getfield 12, 3) := by decide +kernel
theorem dX7_seenBy_8 : decode cX7_seenBy 8 = .ok (.getfield 38, 3) := by decide +kernel
theorem dX7_seenBy_11 : decode cX7_seenBy 11 = .ok (.invokevirtual 194, 3) := by decide +kernel
theorem dX7_seenBy_14 : decode cX7_seenBy 14 = .ok (.aload_n 0, 1) := by decide +kernel
theorem dX7_seenBy_15 : decode cX7_seenBy 15 = .ok (.getfield 27, 3) := by decide +kernel
theorem dX7_seenBy_18 : decode cX7_seenBy 18 = .ok (.aload_n 0, 1) := by decide +kernel
theorem dX7_seenBy_19 : decode cX7_seenBy 19 = .ok (.getfield 12, 3) := by decide +kernel
theorem dX7_seenBy_22 : decode cX7_seenBy 22 = .ok (.getfield 101, 3) := by decide +kernel
theorem dX7_seenBy_25 : decode cX7_seenBy 25 = .ok (.iload_n 1, 1) := by decide +kernel
theorem dX7_seenBy_26 : decode cX7_seenBy 26 = .ok (.invokevirtual 202, 3) := by decide +kernel
theorem dX7_seenBy_29 : decode cX7_seenBy 29 = .ok (.aload_n 0, 1) := by decide +kernel
theorem dX7_seenBy_30 : decode cX7_seenBy 30 = .ok (.getfield 12, 3) := by decide +kernel
theorem dX7_seenBy_33 : decode cX7_seenBy 33 = .ok (.getfield 38, 3) := by decide +kernel
theorem dX7_seenBy_36 : decode cX7_seenBy 36 = .ok (.getfield 105, 3) := by decide +kernel
theorem dX7_seenBy_39 : decode cX7_seenBy 39 = .ok (.invokevirtual 217, 3) := by decide +kernel
theorem dX7_seenBy_42 : decode cX7_seenBy 42 = .ok (.lreturn, 1) := by decide +kernel
theorem dX7_answerWishes_0 : decode cX7_answerWishes 0 = .ok (.aload_n 0, 1) := by decide +kernel
theorem dX7_answerWishes_1 : decode cX7_answerWishes 1 = .ok (.getfield 12, 3) := by decide +kernel
theorem dX7_answerWishes_4 : decode cX7_answerWishes 4 = .ok (.getfield 160, 3) := by decide +kernel
theorem dX7_answerWishes_7 : decode cX7_answerWishes 7 = .ok (.astore_n 2, 1) := by decide +kernel
theorem dX7_answerWishes_8 : decode cX7_answerWishes 8 = .ok (.aload_n 0, 1) := by decide +kernel
theorem dX7_answerWishes_9 : decode cX7_answerWishes 9 = .ok (.getfield 27, 3) := by decide +kernel
theorem dX7_answerWishes_12 : decode cX7_answerWishes 12 = .ok (.aload_n 0, 1) := by decide +kernel
theorem dX7_answerWishes_13 : decode cX7_answerWishes 13 = .ok (.getfield 12, 3) := by decide +kernel
theorem dX7_answerWishes_16 : decode cX7_answerWishes 16 = .ok (.getfield 38, 3) := by decide +kernel
theorem dX7_answerWishes_19 : decode cX7_answerWishes 19 = .ok (.invokevirtual 194, 3) := by decide +kernel
theorem dX7_answerWishes_22 : decode cX7_answerWishes 22 = .ok (.aload_n 0, 1) := by decide +kernel
theorem dX7_answerWishes_23 : decode cX7_answerWishes 23 = .ok (.getfield 34, 3) := by decide +kernel
theorem dX7_answerWishes_26 : decode cX7_answerWishes 26 = .ok (.aload_n 0, 1) := by decide +kernel
theorem dX7_answerWishes_27 : decode cX7_answerWishes 27 = .ok (.getfield 12, 3) := by decide +kernel
theorem dX7_answerWishes_30 : decode cX7_answerWishes 30 = .ok (.getfield 38, 3) := by decide +kernel
theorem dX7_answerWishes_33 : decode cX7_answerWishes 33 = .ok (.aload_n 0, 1) := by decide +kernel
theorem dX7_answerWishes_34 : decode cX7_answerWishes 34 = .ok (.getfield 27, 3) := by decide +kernel
theorem dX7_answerWishes_37 : decode cX7_answerWishes 37 = .ok (.getfield 221, 3) := by decide +kernel
theorem dX7_answerWishes_40 : decode cX7_answerWishes 40 = .ok (.aload_n 0, 1) := by decide +kernel
theorem dX7_answerWishes_41 : decode cX7_answerWishes 41 = .ok (.getfield 12, 3) := by decide +kernel
theorem dX7_answerWishes_44 : decode cX7_answerWishes 44 = .ok (.getfield 101, 3) := by decide +kernel
theorem dX7_answerWishes_47 : decode cX7_answerWishes 47 = .ok (.iload_n 1, 1) := by decide +kernel
theorem dX7_answerWishes_48 : decode cX7_answerWishes 48 = .ok (.invokevirtual 202, 3) := by decide +kernel
theorem dX7_answerWishes_51 : decode cX7_answerWishes 51 = .ok (.invokevirtual 225, 3) := by decide +kernel
theorem dX7_answerWishes_54 : decode cX7_answerWishes 54 = .ok (.iconst 0, 1) := by decide +kernel
theorem dX7_answerWishes_55 : decode cX7_answerWishes 55 = .ok (.istore_n 3, 1) := by decide +kernel
theorem dX7_answerWishes_56 : decode cX7_answerWishes 56 = .ok (.iload_n 3, 1) := by decide +kernel
theorem dX7_answerWishes_57 : decode cX7_answerWishes 57 = .ok (.aload_n 2, 1) := by decide +kernel
theorem dX7_answerWishes_58 : decode cX7_answerWishes 58 = .ok (.getfield 164, 3) := by decide +kernel
theorem dX7_answerWishes_61 : decode cX7_answerWishes 61 = .ok (.if_icmp .ge 56, 3) := by decide +kernel
theorem dX7_answerWishes_64 : decode cX7_answerWishes 64 = .ok (.aload_n 0, 1) := by decide +kernel
theorem dX7_answerWishes_65 : decode cX7_answerWishes 65 = .ok (.getfield 27, 3) := by decide +kernel
theorem dX7_answerWishes_68 : decode cX7_answerWishes 68 = .ok (.aload_n 0, 1) := by decide +kernel
theorem dX7_answerWishes_69 : decode cX7_answerWishes 69 = .ok (.getfield 12, 3) := by decide +kernel
theorem dX7_answerWishes_72 : decode cX7_answerWishes 72 = .ok (.getfield 38, 3) := by decide +kernel
theorem dX7_answerWishes_75 : decode cX7_answerWishes 75 = .ok (.aload_n 2, 1) := by decide +kernel
theorem dX7_answerWishes_76 : decode cX7_answerWishes 76 = .ok (.getfield 229, 3) := by decide +kernel
theorem dX7_answerWishes_79 : decode cX7_answerWishes 79 = .ok (.iload_n 3, 1) := by decide +kernel
theorem dX7_answerWishes_80 : decode cX7_answerWishes 80 = .ok (.iaload, 1) := by decide +kernel
theorem dX7_answerWishes_81 : decode cX7_answerWishes 81 = .ok (.aload_n 2, 1) := by decide +kernel
theorem dX7_answerWishes_82 : decode cX7_answerWishes 82 = .ok (.getfield 232, 3) := by decide +kernel
theorem dX7_answerWishes_85 : decode cX7_answerWishes 85 = .ok (.iload_n 3, 1) := by decide +kernel
theorem dX7_answerWishes_86 : decode cX7_answerWishes 86 = .ok (.iaload, 1) := by decide +kernel
theorem dX7_answerWishes_87 : decode cX7_answerWishes 87 = .ok (.aload_n 2, 1) := by decide +kernel
theorem dX7_answerWishes_88 : decode cX7_answerWishes 88 = .ok (.getfield 235, 3) := by decide +kernel
theorem dX7_answerWishes_91 : decode cX7_answerWishes 91 = .ok (.iload_n 3, 1) := by decide +kernel
theorem dX7_answerWishes_92 : decode cX7_answerWishes 92 = .ok (.iaload, 1) := by decide +kernel
theorem dX7_answerWishes_93 : decode cX7_answerWishes 93 = .ok (.invokevirtual 198, 3) := by decide +kernel
theorem dX7_answerWishes_96 : decode cX7_answerWishes 96 = .ok (.aload_n 0, 1) := by decide +kernel
theorem dX7_answerWishes_97 : decode cX7_answerWishes 97 = .ok (.getfield 34, 3) := by decide +kernel
theorem dX7_answerWishes_100 : decode cX7_answerWishes 100 = .ok (.iload_n 3, 1) := by decide +kernel
theorem dX7_answerWishes_101 : decode cX7_answerWishes 101 = .ok (.aload_n 0, 1) := by decide +kernel
theorem dX7_answerWishes_102 : decode cX7_answerWishes 102 = .ok (.getfield 27, 3) := by decide +kernel
theorem dX7_answerWishes_105 : decode cX7_answerWishes 105 = .ok (.getfield 94, 3) := by decide +kernel
theorem dX7_answerWishes_108 : decode cX7_answerWishes 108 = .ok (.invokevirtual 238, 3) := by decide +kernel
theorem dX7_answerWishes_111 : decode cX7_answerWishes 111 = .ok (.iinc 3 1, 3) := by decide +kernel
theorem dX7_answerWishes_114 : decode cX7_answerWishes 114 = .ok (.goto (-58), 3) := by decide +kernel
theorem dX7_answerWishes_117 : decode cX7_answerWishes 117 = .ok (.return_, 1) := by decide +kernel
theorem dX7_largestGranted_0 : decode cX7_largestGranted 0 = .ok (.iload_n 1, 1) := by decide +kernel
theorem dX7_largestGranted_1 : decode cX7_largestGranted 1 = .ok (.bipush 8, 2) := by decide +kernel
theorem dX7_largestGranted_3 : decode cX7_largestGranted 3 = .ok (.if_icmp .lt 6, 3) := by decide +kernel
theorem dX7_largestGranted_6 : decode cX7_largestGranted 6 = .ok (.iload 4, 2) := by decide +kernel
theorem dX7_largestGranted_8 : decode cX7_largestGranted 8 = .ok (.ireturn, 1) := by decide +kernel
theorem dX7_largestGranted_9 : decode cX7_largestGranted 9 = .ok (.iload 4, 2) := by decide +kernel
theorem dX7_largestGranted_11 : decode cX7_largestGranted 11 = .ok (.istore 5, 2) := by decide +kernel
theorem dX7_largestGranted_13 : decode cX7_largestGranted 13 = .ok (.iload_n 3, 1) := by decide +kernel
theorem dX7_largestGranted_14 : decode cX7_largestGranted 14 = .ok (.iconst 1, 1) := by decide +kernel
theorem dX7_largestGranted_15 : decode cX7_largestGranted 15 = .ok (.isub, 1) := by decide +kernel
theorem dX7_largestGranted_16 : decode cX7_largestGranted 16 = .ok (.istore 6, 2) := by decide +kernel
theorem dX7_largestGranted_18 : decode cX7_largestGranted 18 = .ok (.iload 6, 2) := by decide +kernel
theorem dX7_largestGranted_20 : decode cX7_largestGranted 20 = .ok (.ifCond .lt 60, 3) := by decide +kernel
theorem dX7_largestGranted_23 : decode cX7_largestGranted 23 = .ok (.iload_n 1, 1) := by decide +kernel
theorem dX7_largestGranted_24 : decode cX7_largestGranted 24 = .ok (.iconst 1, 1) := by decide +kernel
theorem dX7_largestGranted_25 : decode cX7_largestGranted 25 = .ok (.iadd, 1) := by decide +kernel
theorem dX7_largestGranted_26 : decode cX7_largestGranted 26 = .ok (.iload 6, 2) := by decide +kernel
theorem dX7_largestGranted_28 : decode cX7_largestGranted 28 = .ok (.iadd, 1) := by decide +kernel
theorem dX7_largestGranted_29 : decode cX7_largestGranted 29 = .ok (.iload 5, 2) := by decide +kernel
theorem dX7_largestGranted_31 : decode cX7_largestGranted 31 = .ok (.invokestatic 135, 3) := by decide +kernel
theorem dX7_largestGranted_34 : decode cX7_largestGranted 34 = .ok (.if_icmp .lt 46, 3) := by decide +kernel
theorem dX7_largestGranted_37 : decode cX7_largestGranted 37 = .ok (.iload_n 2, 1) := by decide +kernel
theorem dX7_largestGranted_38 : decode cX7_largestGranted 38 = .ok (.iconst 1, 1) := by decide +kernel
theorem dX7_largestGranted_39 : decode cX7_largestGranted 39 = .ok (.iload 6, 2) := by decide +kernel
theorem dX7_largestGranted_41 : decode cX7_largestGranted 41 = .ok (.ishl, 1) := by decide +kernel
theorem dX7_largestGranted_42 : decode cX7_largestGranted 42 = .ok (.ior, 1) := by decide +kernel
theorem dX7_largestGranted_43 : decode cX7_largestGranted 43 = .ok (.istore 7, 2) := by decide +kernel
theorem dX7_largestGranted_45 : decode cX7_largestGranted 45 = .ok (.aload_n 0, 1) := by decide +kernel
theorem dX7_largestGranted_46 : decode cX7_largestGranted 46 = .ok (.iload 7, 2) := by decide +kernel
theorem dX7_largestGranted_48 : decode cX7_largestGranted 48 = .ok (.invokevirtual 178, 3) := by decide +kernel
theorem dX7_largestGranted_51 : decode cX7_largestGranted 51 = .ok (.ifCond .eq 23, 3) := by decide +kernel
theorem dX7_largestGranted_54 : decode cX7_largestGranted 54 = .ok (.aload_n 0, 1) := by decide +kernel
theorem dX7_largestGranted_55 : decode cX7_largestGranted 55 = .ok (.iload_n 1, 1) := by decide +kernel
theorem dX7_largestGranted_56 : decode cX7_largestGranted 56 = .ok (.iconst 1, 1) := by decide +kernel
theorem dX7_largestGranted_57 : decode cX7_largestGranted 57 = .ok (.iadd, 1) := by decide +kernel
theorem dX7_largestGranted_58 : decode cX7_largestGranted 58 = .ok (.iload 7, 2) := by decide +kernel
theorem dX7_largestGranted_60 : decode cX7_largestGranted 60 = .ok (.iload 6, 2) := by decide +kernel
theorem dX7_largestGranted_62 : decode cX7_largestGranted 62 = .ok (.iload 5, 2) := by decide +kernel
theorem dX7_largestGranted_64 : decode cX7_largestGranted 64 = .ok (.iload 7, 2) := by decide +kernel
theorem dX7_largestGranted_66 : decode cX7_largestGranted 66 = .ok (.invokestatic 242, 3) := by decide +kernel
theorem dX7_largestGranted_69 : decode cX7_largestGranted 69 = .ok (.invokestatic 174, 3) := by decide +kernel
theorem dX7_largestGranted_72 : decode cX7_largestGranted 72 = .ok (.istore 5, 2) := by decide +kernel
theorem dX7_largestGranted_74 : decode cX7_largestGranted 74 = .ok (.iinc 6 (-1), 3) := by decide +kernel
theorem dX7_largestGranted_77 : decode cX7_largestGranted 77 = .ok (.goto (-59), 3) := by decide +kernel
theorem dX7_largestGranted_80 : decode cX7_largestGranted 80 = .ok (.iload 5, 2) := by decide +kernel
theorem dX7_largestGranted_82 : decode cX7_largestGranted 82 = .ok (.ireturn, 1) := by decide +kernel
theorem dX7_betterOf_0 : decode cX7_betterOf 0 = .ok (.iload_n 1, 1) := by decide +kernel
theorem dX7_betterOf_1 : decode cX7_betterOf 1 = .ok (.invokestatic 135, 3) := by decide +kernel
theorem dX7_betterOf_4 : decode cX7_betterOf 4 = .ok (.iload_n 0, 1) := by decide +kernel
theorem dX7_betterOf_5 : decode cX7_betterOf 5 = .ok (.invokestatic 135, 3) := by decide +kernel
theorem dX7_betterOf_8 : decode cX7_betterOf 8 = .ok (.isub, 1) := by decide +kernel
theorem dX7_betterOf_9 : decode cX7_betterOf 9 = .ok (.istore_n 2, 1) := by decide +kernel
theorem dX7_betterOf_10 : decode cX7_betterOf 10 = .ok (.iload_n 2, 1) := by decide +kernel
theorem dX7_betterOf_11 : decode cX7_betterOf 11 = .ok (.ifCond .ne 9, 3) := by decide +kernel
theorem dX7_betterOf_14 : decode cX7_betterOf 14 = .ok (.iload_n 0, 1) := by decide +kernel
theorem dX7_betterOf_15 : decode cX7_betterOf 15 = .ok (.iload_n 1, 1) := by decide +kernel
theorem dX7_betterOf_16 : decode cX7_betterOf 16 = .ok (.invokestatic 246, 3) := by decide +kernel
theorem dX7_betterOf_19 : decode cX7_betterOf 19 = .ok (.ireturn, 1) := by decide +kernel
theorem dX7_betterOf_20 : decode cX7_betterOf 20 = .ok (.iload_n 2, 1) := by decide +kernel
theorem dX7_betterOf_21 : decode cX7_betterOf 21 = .ok (.ifCond .le 7, 3) := by decide +kernel
theorem dX7_betterOf_24 : decode cX7_betterOf 24 = .ok (.iload_n 1, 1) := by decide +kernel
theorem dX7_betterOf_25 : decode cX7_betterOf 25 = .ok (.goto 4, 3) := by decide +kernel
theorem dX7_betterOf_28 : decode cX7_betterOf 28 = .ok (.iload_n 0, 1) := by decide +kernel
theorem dX7_betterOf_29 : decode cX7_betterOf 29 = .ok (.ireturn, 1) := by decide +kernel
theorem dJ6_bitCount_0f7a4_0 : decode cJ6_bitCount_0f7a4 0 = .ok (.iload_n 0, 1) := by decide +kernel
theorem dJ6_bitCount_0f7a4_1 : decode cJ6_bitCount_0f7a4 1 = .ok (.iload_n 0, 1) := by decide +kernel
theorem dJ6_bitCount_0f7a4_2 : decode cJ6_bitCount_0f7a4 2 = .ok (.iconst 1, 1) := by decide +kernel
theorem dJ6_bitCount_0f7a4_3 : decode cJ6_bitCount_0f7a4 3 = .ok (.iushr, 1) := by decide +kernel
theorem dJ6_bitCount_0f7a4_4 : decode cJ6_bitCount_0f7a4 4 = .ok (.ldc_w 265, 3) := by decide +kernel
theorem dJ6_bitCount_0f7a4_7 : decode cJ6_bitCount_0f7a4 7 = .ok (.iand, 1) := by decide +kernel
theorem dJ6_bitCount_0f7a4_8 : decode cJ6_bitCount_0f7a4 8 = .ok (.isub, 1) := by decide +kernel
theorem dJ6_bitCount_0f7a4_9 : decode cJ6_bitCount_0f7a4 9 = .ok (.istore_n 0, 1) := by decide +kernel
theorem dJ6_bitCount_0f7a4_10 : decode cJ6_bitCount_0f7a4 10 = .ok (.iload_n 0, 1) := by decide +kernel
theorem dJ6_bitCount_0f7a4_11 : decode cJ6_bitCount_0f7a4 11 = .ok (.ldc_w 266, 3) := by decide +kernel
theorem dJ6_bitCount_0f7a4_14 : decode cJ6_bitCount_0f7a4 14 = .ok (.iand, 1) := by decide +kernel
theorem dJ6_bitCount_0f7a4_15 : decode cJ6_bitCount_0f7a4 15 = .ok (.iload_n 0, 1) := by decide +kernel
theorem dJ6_bitCount_0f7a4_16 : decode cJ6_bitCount_0f7a4 16 = .ok (.iconst 2, 1) := by decide +kernel
theorem dJ6_bitCount_0f7a4_17 : decode cJ6_bitCount_0f7a4 17 = .ok (.iushr, 1) := by decide +kernel
theorem dJ6_bitCount_0f7a4_18 : decode cJ6_bitCount_0f7a4 18 = .ok (.ldc_w 266, 3) := by decide +kernel
theorem dJ6_bitCount_0f7a4_21 : decode cJ6_bitCount_0f7a4 21 = .ok (.iand, 1) := by decide +kernel
theorem dJ6_bitCount_0f7a4_22 : decode cJ6_bitCount_0f7a4 22 = .ok (.iadd, 1) := by decide +kernel
theorem dJ6_bitCount_0f7a4_23 : decode cJ6_bitCount_0f7a4 23 = .ok (.istore_n 0, 1) := by decide +kernel
theorem dJ6_bitCount_0f7a4_24 : decode cJ6_bitCount_0f7a4 24 = .ok (.iload_n 0, 1) := by decide +kernel
theorem dJ6_bitCount_0f7a4_25 : decode cJ6_bitCount_0f7a4 25 = .ok (.iload_n 0, 1) := by decide +kernel
theorem dJ6_bitCount_0f7a4_26 : decode cJ6_bitCount_0f7a4 26 = .ok (.iconst 4, 1) := by decide +kernel
theorem dJ6_bitCount_0f7a4_27 : decode cJ6_bitCount_0f7a4 27 = .ok (.iushr, 1) := by decide +kernel
theorem dJ6_bitCount_0f7a4_28 : decode cJ6_bitCount_0f7a4 28 = .ok (.iadd, 1) := by decide +kernel
theorem dJ6_bitCount_0f7a4_29 : decode cJ6_bitCount_0f7a4 29 = .ok (.ldc_w 267, 3) := by decide +kernel
theorem dJ6_bitCount_0f7a4_32 : decode cJ6_bitCount_0f7a4 32 = .ok (.iand, 1) := by decide +kernel
theorem dJ6_bitCount_0f7a4_33 : decode cJ6_bitCount_0f7a4 33 = .ok (.istore_n 0, 1) := by decide +kernel
theorem dJ6_bitCount_0f7a4_34 : decode cJ6_bitCount_0f7a4 34 = .ok (.iload_n 0, 1) := by decide +kernel
theorem dJ6_bitCount_0f7a4_35 : decode cJ6_bitCount_0f7a4 35 = .ok (.iload_n 0, 1) := by decide +kernel
theorem dJ6_bitCount_0f7a4_36 : decode cJ6_bitCount_0f7a4 36 = .ok (.bipush 8, 2) := by decide +kernel
theorem dJ6_bitCount_0f7a4_38 : decode cJ6_bitCount_0f7a4 38 = .ok (.iushr, 1) := by decide +kernel
theorem dJ6_bitCount_0f7a4_39 : decode cJ6_bitCount_0f7a4 39 = .ok (.iadd, 1) := by decide +kernel
theorem dJ6_bitCount_0f7a4_40 : decode cJ6_bitCount_0f7a4 40 = .ok (.istore_n 0, 1) := by decide +kernel
theorem dJ6_bitCount_0f7a4_41 : decode cJ6_bitCount_0f7a4 41 = .ok (.iload_n 0, 1) := by decide +kernel
theorem dJ6_bitCount_0f7a4_42 : decode cJ6_bitCount_0f7a4 42 = .ok (.iload_n 0, 1) := by decide +kernel
theorem dJ6_bitCount_0f7a4_43 : decode cJ6_bitCount_0f7a4 43 = .ok (.bipush 16, 2) := by decide +kernel
theorem dJ6_bitCount_0f7a4_45 : decode cJ6_bitCount_0f7a4 45 = .ok (.iushr, 1) := by decide +kernel
theorem dJ6_bitCount_0f7a4_46 : decode cJ6_bitCount_0f7a4 46 = .ok (.iadd, 1) := by decide +kernel
theorem dJ6_bitCount_0f7a4_47 : decode cJ6_bitCount_0f7a4 47 = .ok (.istore_n 0, 1) := by decide +kernel
theorem dJ6_bitCount_0f7a4_48 : decode cJ6_bitCount_0f7a4 48 = .ok (.iload_n 0, 1) := by decide +kernel
theorem dJ6_bitCount_0f7a4_49 : decode cJ6_bitCount_0f7a4 49 = .ok (.bipush 63, 2) := by decide +kernel
theorem dJ6_bitCount_0f7a4_51 : decode cJ6_bitCount_0f7a4 51 = .ok (.iand, 1) := by decide +kernel
theorem dJ6_bitCount_0f7a4_52 : decode cJ6_bitCount_0f7a4 52 = .ok (.ireturn, 1) := by decide +kernel
theorem dJ13_bitCount_95d88_0 : decode cJ13_bitCount_95d88 0 = .ok (.lload_n 0, 1) := by decide +kernel
theorem dJ13_bitCount_95d88_1 : decode cJ13_bitCount_95d88 1 = .ok (.lload_n 0, 1) := by decide +kernel
theorem dJ13_bitCount_95d88_2 : decode cJ13_bitCount_95d88 2 = .ok (.iconst 1, 1) := by decide +kernel
theorem dJ13_bitCount_95d88_3 : decode cJ13_bitCount_95d88 3 = .ok (.lushr, 1) := by decide +kernel
theorem dJ13_bitCount_95d88_4 : decode cJ13_bitCount_95d88 4 = .ok (.ldc2_w 314, 3) := by decide +kernel
theorem dJ13_bitCount_95d88_7 : decode cJ13_bitCount_95d88 7 = .ok (.land, 1) := by decide +kernel
theorem dJ13_bitCount_95d88_8 : decode cJ13_bitCount_95d88 8 = .ok (.lsub, 1) := by decide +kernel
theorem dJ13_bitCount_95d88_9 : decode cJ13_bitCount_95d88 9 = .ok (.lstore_n 0, 1) := by decide +kernel
theorem dJ13_bitCount_95d88_10 : decode cJ13_bitCount_95d88 10 = .ok (.lload_n 0, 1) := by decide +kernel
theorem dJ13_bitCount_95d88_11 : decode cJ13_bitCount_95d88 11 = .ok (.ldc2_w 316, 3) := by decide +kernel
theorem dJ13_bitCount_95d88_14 : decode cJ13_bitCount_95d88 14 = .ok (.land, 1) := by decide +kernel
theorem dJ13_bitCount_95d88_15 : decode cJ13_bitCount_95d88 15 = .ok (.lload_n 0, 1) := by decide +kernel
theorem dJ13_bitCount_95d88_16 : decode cJ13_bitCount_95d88 16 = .ok (.iconst 2, 1) := by decide +kernel
theorem dJ13_bitCount_95d88_17 : decode cJ13_bitCount_95d88 17 = .ok (.lushr, 1) := by decide +kernel
theorem dJ13_bitCount_95d88_18 : decode cJ13_bitCount_95d88 18 = .ok (.ldc2_w 316, 3) := by decide +kernel
theorem dJ13_bitCount_95d88_21 : decode cJ13_bitCount_95d88 21 = .ok (.land, 1) := by decide +kernel
theorem dJ13_bitCount_95d88_22 : decode cJ13_bitCount_95d88 22 = .ok (.ladd, 1) := by decide +kernel
theorem dJ13_bitCount_95d88_23 : decode cJ13_bitCount_95d88 23 = .ok (.lstore_n 0, 1) := by decide +kernel
theorem dJ13_bitCount_95d88_24 : decode cJ13_bitCount_95d88 24 = .ok (.lload_n 0, 1) := by decide +kernel
theorem dJ13_bitCount_95d88_25 : decode cJ13_bitCount_95d88 25 = .ok (.lload_n 0, 1) := by decide +kernel
theorem dJ13_bitCount_95d88_26 : decode cJ13_bitCount_95d88 26 = .ok (.iconst 4, 1) := by decide +kernel
theorem dJ13_bitCount_95d88_27 : decode cJ13_bitCount_95d88 27 = .ok (.lushr, 1) := by decide +kernel
theorem dJ13_bitCount_95d88_28 : decode cJ13_bitCount_95d88 28 = .ok (.ladd, 1) := by decide +kernel
theorem dJ13_bitCount_95d88_29 : decode cJ13_bitCount_95d88 29 = .ok (.ldc2_w 318, 3) := by decide +kernel
theorem dJ13_bitCount_95d88_32 : decode cJ13_bitCount_95d88 32 = .ok (.land, 1) := by decide +kernel
theorem dJ13_bitCount_95d88_33 : decode cJ13_bitCount_95d88 33 = .ok (.lstore_n 0, 1) := by decide +kernel
theorem dJ13_bitCount_95d88_34 : decode cJ13_bitCount_95d88 34 = .ok (.lload_n 0, 1) := by decide +kernel
theorem dJ13_bitCount_95d88_35 : decode cJ13_bitCount_95d88 35 = .ok (.lload_n 0, 1) := by decide +kernel
theorem dJ13_bitCount_95d88_36 : decode cJ13_bitCount_95d88 36 = .ok (.bipush 8, 2) := by decide +kernel
theorem dJ13_bitCount_95d88_38 : decode cJ13_bitCount_95d88 38 = .ok (.lushr, 1) := by decide +kernel
theorem dJ13_bitCount_95d88_39 : decode cJ13_bitCount_95d88 39 = .ok (.ladd, 1) := by decide +kernel
theorem dJ13_bitCount_95d88_40 : decode cJ13_bitCount_95d88 40 = .ok (.lstore_n 0, 1) := by decide +kernel
theorem dJ13_bitCount_95d88_41 : decode cJ13_bitCount_95d88 41 = .ok (.lload_n 0, 1) := by decide +kernel
theorem dJ13_bitCount_95d88_42 : decode cJ13_bitCount_95d88 42 = .ok (.lload_n 0, 1) := by decide +kernel
theorem dJ13_bitCount_95d88_43 : decode cJ13_bitCount_95d88 43 = .ok (.bipush 16, 2) := by decide +kernel
theorem dJ13_bitCount_95d88_45 : decode cJ13_bitCount_95d88 45 = .ok (.lushr, 1) := by decide +kernel
theorem dJ13_bitCount_95d88_46 : decode cJ13_bitCount_95d88 46 = .ok (.ladd, 1) := by decide +kernel
theorem dJ13_bitCount_95d88_47 : decode cJ13_bitCount_95d88 47 = .ok (.lstore_n 0, 1) := by decide +kernel
theorem dJ13_bitCount_95d88_48 : decode cJ13_bitCount_95d88 48 = .ok (.lload_n 0, 1) := by decide +kernel
theorem dJ13_bitCount_95d88_49 : decode cJ13_bitCount_95d88 49 = .ok (.lload_n 0, 1) := by decide +kernel
theorem dJ13_bitCount_95d88_50 : decode cJ13_bitCount_95d88 50 = .ok (.bipush 32, 2) := by decide +kernel
theorem dJ13_bitCount_95d88_52 : decode cJ13_bitCount_95d88 52 = .ok (.lushr, 1) := by decide +kernel
theorem dJ13_bitCount_95d88_53 : decode cJ13_bitCount_95d88 53 = .ok (.ladd, 1) := by decide +kernel
theorem dJ13_bitCount_95d88_54 : decode cJ13_bitCount_95d88 54 = .ok (.lstore_n 0, 1) := by decide +kernel
theorem dJ13_bitCount_95d88_55 : decode cJ13_bitCount_95d88 55 = .ok (.lload_n 0, 1) := by decide +kernel
theorem dJ13_bitCount_95d88_56 : decode cJ13_bitCount_95d88 56 = .ok (.l2i, 1) := by decide +kernel
theorem dJ13_bitCount_95d88_57 : decode cJ13_bitCount_95d88 57 = .ok (.bipush 127, 2) := by decide +kernel
theorem dJ13_bitCount_95d88_59 : decode cJ13_bitCount_95d88 59 = .ok (.iand, 1) := by decide +kernel
theorem dJ13_bitCount_95d88_60 : decode cJ13_bitCount_95d88 60 = .ok (.ireturn, 1) := by decide +kernel
theorem dJ9_max_7cf53_0 : decode cJ9_max_7cf53 0 = .ok (.iload_n 0, 1) := by decide +kernel
theorem dJ9_max_7cf53_1 : decode cJ9_max_7cf53 1 = .ok (.iload_n 1, 1) := by decide +kernel
theorem dJ9_max_7cf53_2 : decode cJ9_max_7cf53 2 = .ok (.if_icmp .lt 7, 3) := by decide +kernel
theorem dJ9_max_7cf53_5 : decode cJ9_max_7cf53 5 = .ok (.iload_n 0, 1) := by decide +kernel
theorem dJ9_max_7cf53_6 : decode cJ9_max_7cf53 6 = .ok (.goto 4, 3) := by decide +kernel
theorem dJ9_max_7cf53_9 : decode cJ9_max_7cf53 9 = .ok (.iload_n 1, 1) := by decide +kernel
theorem dJ9_max_7cf53_10 : decode cJ9_max_7cf53 10 = .ok (.ireturn, 1) := by decide +kernel
theorem dJ9_min_7cf53_0 : decode cJ9_min_7cf53 0 = .ok (.iload_n 0, 1) := by decide +kernel
theorem dJ9_min_7cf53_1 : decode cJ9_min_7cf53 1 = .ok (.iload_n 1, 1) := by decide +kernel
theorem dJ9_min_7cf53_2 : decode cJ9_min_7cf53 2 = .ok (.if_icmp .gt 7, 3) := by decide +kernel
theorem dJ9_min_7cf53_5 : decode cJ9_min_7cf53 5 = .ok (.iload_n 0, 1) := by decide +kernel
theorem dJ9_min_7cf53_6 : decode cJ9_min_7cf53 6 = .ok (.goto 4, 3) := by decide +kernel
theorem dJ9_min_7cf53_9 : decode cJ9_min_7cf53 9 = .ok (.iload_n 1, 1) := by decide +kernel
theorem dJ9_min_7cf53_10 : decode cJ9_min_7cf53 10 = .ok (.ireturn, 1) := by decide +kernel
theorem dJ7_fill_d0a16_0 : decode cJ7_fill_d0a16 0 = .ok (.iconst 0, 1) := by decide +kernel
theorem dJ7_fill_d0a16_1 : decode cJ7_fill_d0a16 1 = .ok (.istore_n 3, 1) := by decide +kernel
theorem dJ7_fill_d0a16_2 : decode cJ7_fill_d0a16 2 = .ok (.aload_n 0, 1) := by decide +kernel
theorem dJ7_fill_d0a16_3 : decode cJ7_fill_d0a16 3 = .ok (.arraylength, 1) := by decide +kernel
theorem dJ7_fill_d0a16_4 : decode cJ7_fill_d0a16 4 = .ok (.istore 4, 2) := by decide +kernel
theorem dJ7_fill_d0a16_6 : decode cJ7_fill_d0a16 6 = .ok (.iload_n 3, 1) := by decide +kernel
theorem dJ7_fill_d0a16_7 : decode cJ7_fill_d0a16 7 = .ok (.iload 4, 2) := by decide +kernel
theorem dJ7_fill_d0a16_9 : decode cJ7_fill_d0a16 9 = .ok (.if_icmp .ge 13, 3) := by decide +kernel
theorem dJ7_fill_d0a16_12 : decode cJ7_fill_d0a16 12 = .ok (.aload_n 0, 1) := by decide +kernel
theorem dJ7_fill_d0a16_13 : decode cJ7_fill_d0a16 13 = .ok (.iload_n 3, 1) := by decide +kernel
theorem dJ7_fill_d0a16_14 : decode cJ7_fill_d0a16 14 = .ok (.lload_n 1, 1) := by decide +kernel
theorem dJ7_fill_d0a16_15 : decode cJ7_fill_d0a16 15 = .ok (.lastore, 1) := by decide +kernel
theorem dJ7_fill_d0a16_16 : decode cJ7_fill_d0a16 16 = .ok (.iinc 3 1, 3) := by decide +kernel
theorem dJ7_fill_d0a16_19 : decode cJ7_fill_d0a16 19 = .ok (.goto (-13), 3) := by decide +kernel
theorem dJ7_fill_d0a16_22 : decode cJ7_fill_d0a16 22 = .ok (.return_, 1) := by decide +kernel
theorem dJ7_fill_53178_0 : decode cJ7_fill_53178 0 = .ok (.iconst 0, 1) := by decide +kernel
theorem dJ7_fill_53178_1 : decode cJ7_fill_53178 1 = .ok (.istore_n 2, 1) := by decide +kernel
theorem dJ7_fill_53178_2 : decode cJ7_fill_53178 2 = .ok (.aload_n 0, 1) := by decide +kernel
theorem dJ7_fill_53178_3 : decode cJ7_fill_53178 3 = .ok (.arraylength, 1) := by decide +kernel
theorem dJ7_fill_53178_4 : decode cJ7_fill_53178 4 = .ok (.istore_n 3, 1) := by decide +kernel
theorem dJ7_fill_53178_5 : decode cJ7_fill_53178 5 = .ok (.iload_n 2, 1) := by decide +kernel
theorem dJ7_fill_53178_6 : decode cJ7_fill_53178 6 = .ok (.iload_n 3, 1) := by decide +kernel
theorem dJ7_fill_53178_7 : decode cJ7_fill_53178 7 = .ok (.if_icmp .ge 13, 3) := by decide +kernel
theorem dJ7_fill_53178_10 : decode cJ7_fill_53178 10 = .ok (.aload_n 0, 1) := by decide +kernel
theorem dJ7_fill_53178_11 : decode cJ7_fill_53178 11 = .ok (.iload_n 2, 1) := by decide +kernel
theorem dJ7_fill_53178_12 : decode cJ7_fill_53178 12 = .ok (.iload_n 1, 1) := by decide +kernel
theorem dJ7_fill_53178_13 : decode cJ7_fill_53178 13 = .ok (.iastore, 1) := by decide +kernel
theorem dJ7_fill_53178_14 : decode cJ7_fill_53178 14 = .ok (.iinc 2 1, 3) := by decide +kernel
theorem dJ7_fill_53178_17 : decode cJ7_fill_53178 17 = .ok (.goto (-12), 3) := by decide +kernel
theorem dJ7_fill_53178_20 : decode cJ7_fill_53178 20 = .ok (.return_, 1) := by decide +kernel
end
section
theorem dL_law_0 : decode cL_law 0 = .ok (.new 7, 3) := by decide +kernel
theorem dL_law_3 : decode cL_law 3 = .ok (.dup, 1) := by decide +kernel
theorem dL_law_4 : decode cL_law 4 = .ok (.invokespecial 9, 3) := by decide +kernel
theorem dL_law_7 : decode cL_law 7 = .ok (.astore_n 1, 1) := by decide +kernel
theorem dL_law_8 : decode cL_law 8 = .ok (.new 10, 3) := by decide +kernel
theorem dL_law_11 : decode cL_law 11 = .ok (.dup, 1) := by decide +kernel
theorem dL_law_12 : decode cL_law 12 = .ok (.invokespecial 12, 3) := by decide +kernel
theorem dL_law_15 : decode cL_law 15 = .ok (.astore_n 2, 1) := by decide +kernel
theorem dL_law_16 : decode cL_law 16 = .ok (.iconst 0, 1) := by decide +kernel
theorem dL_law_17 : decode cL_law 17 = .ok (.istore_n 3, 1) := by decide +kernel
theorem dL_law_18 : decode cL_law 18 = .ok (.iload_n 3, 1) := by decide +kernel
theorem dL_law_19 : decode cL_law 19 = .ok (.aload_n 0, 1) := by decide +kernel
theorem dL_law_20 : decode cL_law 20 = .ok (.arraylength, 1) := by decide +kernel
theorem dL_law_21 : decode cL_law 21 = .ok (.iconst 5, 1) := by decide +kernel
theorem dL_law_22 : decode cL_law 22 = .ok (.isub, 1) := by decide +kernel
theorem dL_law_23 : decode cL_law 23 = .ok (.if_icmp .gt 658, 3) := by decide +kernel
theorem dL_law_26 : decode cL_law 26 = .ok (.aload_n 0, 1) := by decide +kernel
theorem dL_law_27 : decode cL_law 27 = .ok (.iload_n 3, 1) := by decide +kernel
theorem dL_law_28 : decode cL_law 28 = .ok (.iaload, 1) := by decide +kernel
theorem dL_law_29 : decode cL_law 29 = .ok (.bipush 31, 2) := by decide +kernel
theorem dL_law_31 : decode cL_law 31 = .ok (.iand, 1) := by decide +kernel
theorem dL_law_32 : decode cL_law 32 = .ok (.tableswitch 643 0 16 #[84, 137, 170, 223, 276, 309, 352, 375, 398, 431, 464, 507, 518, 541, 574, 597, 620], 84) := by decide +kernel
theorem dL_law_116 : decode cL_law 116 = .ok (.aload_n 1, 1) := by decide +kernel
theorem dL_law_117 : decode cL_law 117 = .ok (.aload_n 0, 1) := by decide +kernel
theorem dL_law_118 : decode cL_law 118 = .ok (.iload_n 3, 1) := by decide +kernel
theorem dL_law_119 : decode cL_law 119 = .ok (.iconst 1, 1) := by decide +kernel
theorem dL_law_120 : decode cL_law 120 = .ok (.iadd, 1) := by decide +kernel
theorem dL_law_121 : decode cL_law 121 = .ok (.iaload, 1) := by decide +kernel
theorem dL_law_122 : decode cL_law 122 = .ok (.aload_n 0, 1) := by decide +kernel
theorem dL_law_123 : decode cL_law 123 = .ok (.iload_n 3, 1) := by decide +kernel
theorem dL_law_124 : decode cL_law 124 = .ok (.iconst 2, 1) := by decide +kernel
theorem dL_law_125 : decode cL_law 125 = .ok (.iadd, 1) := by decide +kernel
theorem dL_law_126 : decode cL_law 126 = .ok (.iaload, 1) := by decide +kernel
theorem dL_law_127 : decode cL_law 127 = .ok (.aload_n 0, 1) := by decide +kernel
theorem dL_law_128 : decode cL_law 128 = .ok (.iload_n 3, 1) := by decide +kernel
theorem dL_law_129 : decode cL_law 129 = .ok (.iconst 3, 1) := by decide +kernel
theorem dL_law_130 : decode cL_law 130 = .ok (.iadd, 1) := by decide +kernel
theorem dL_law_131 : decode cL_law 131 = .ok (.iaload, 1) := by decide +kernel
theorem dL_law_132 : decode cL_law 132 = .ok (.aload_n 0, 1) := by decide +kernel
theorem dL_law_133 : decode cL_law 133 = .ok (.iload_n 3, 1) := by decide +kernel
theorem dL_law_134 : decode cL_law 134 = .ok (.iconst 4, 1) := by decide +kernel
theorem dL_law_135 : decode cL_law 135 = .ok (.iadd, 1) := by decide +kernel
theorem dL_law_136 : decode cL_law 136 = .ok (.iaload, 1) := by decide +kernel
theorem dL_law_137 : decode cL_law 137 = .ok (.invokevirtual 13, 3) := by decide +kernel
theorem dL_law_140 : decode cL_law 140 = .ok (.aload_n 2, 1) := by decide +kernel
theorem dL_law_141 : decode cL_law 141 = .ok (.aload_n 0, 1) := by decide +kernel
theorem dL_law_142 : decode cL_law 142 = .ok (.iload_n 3, 1) := by decide +kernel
theorem dL_law_143 : decode cL_law 143 = .ok (.iconst 1, 1) := by decide +kernel
theorem dL_law_144 : decode cL_law 144 = .ok (.iadd, 1) := by decide +kernel
theorem dL_law_145 : decode cL_law 145 = .ok (.iaload, 1) := by decide +kernel
theorem dL_law_146 : decode cL_law 146 = .ok (.aload_n 0, 1) := by decide +kernel
theorem dL_law_147 : decode cL_law 147 = .ok (.iload_n 3, 1) := by decide +kernel
theorem dL_law_148 : decode cL_law 148 = .ok (.iconst 2, 1) := by decide +kernel
theorem dL_law_149 : decode cL_law 149 = .ok (.iadd, 1) := by decide +kernel
theorem dL_law_150 : decode cL_law 150 = .ok (.iaload, 1) := by decide +kernel
theorem dL_law_151 : decode cL_law 151 = .ok (.aload_n 0, 1) := by decide +kernel
theorem dL_law_152 : decode cL_law 152 = .ok (.iload_n 3, 1) := by decide +kernel
theorem dL_law_153 : decode cL_law 153 = .ok (.iconst 3, 1) := by decide +kernel
theorem dL_law_154 : decode cL_law 154 = .ok (.iadd, 1) := by decide +kernel
theorem dL_law_155 : decode cL_law 155 = .ok (.iaload, 1) := by decide +kernel
theorem dL_law_156 : decode cL_law 156 = .ok (.aload_n 0, 1) := by decide +kernel
theorem dL_law_157 : decode cL_law 157 = .ok (.iload_n 3, 1) := by decide +kernel
theorem dL_law_158 : decode cL_law 158 = .ok (.iconst 4, 1) := by decide +kernel
theorem dL_law_159 : decode cL_law 159 = .ok (.iadd, 1) := by decide +kernel
theorem dL_law_160 : decode cL_law 160 = .ok (.iaload, 1) := by decide +kernel
theorem dL_law_161 : decode cL_law 161 = .ok (.invokevirtual 17, 3) := by decide +kernel
theorem dL_law_164 : decode cL_law 164 = .ok (.if_icmp .eq 511, 3) := by decide +kernel
theorem dL_law_167 : decode cL_law 167 = .ok (.iconst 0, 1) := by decide +kernel
theorem dL_law_168 : decode cL_law 168 = .ok (.ireturn, 1) := by decide +kernel
theorem dL_law_169 : decode cL_law 169 = .ok (.aload_n 1, 1) := by decide +kernel
theorem dL_law_170 : decode cL_law 170 = .ok (.aload_n 0, 1) := by decide +kernel
theorem dL_law_171 : decode cL_law 171 = .ok (.iload_n 3, 1) := by decide +kernel
theorem dL_law_172 : decode cL_law 172 = .ok (.iconst 1, 1) := by decide +kernel
theorem dL_law_173 : decode cL_law 173 = .ok (.iadd, 1) := by decide +kernel
theorem dL_law_174 : decode cL_law 174 = .ok (.iaload, 1) := by decide +kernel
theorem dL_law_175 : decode cL_law 175 = .ok (.aload_n 0, 1) := by decide +kernel
theorem dL_law_176 : decode cL_law 176 = .ok (.iload_n 3, 1) := by decide +kernel
theorem dL_law_177 : decode cL_law 177 = .ok (.iconst 2, 1) := by decide +kernel
theorem dL_law_178 : decode cL_law 178 = .ok (.iadd, 1) := by decide +kernel
theorem dL_law_179 : decode cL_law 179 = .ok (.iaload, 1) := by decide +kernel
theorem dL_law_180 : decode cL_law 180 = .ok (.invokevirtual 18, 3) := by decide +kernel
theorem dL_law_183 : decode cL_law 183 = .ok (.aload_n 2, 1) := by decide +kernel
theorem dL_law_184 : decode cL_law 184 = .ok (.aload_n 0, 1) := by decide +kernel
theorem dL_law_185 : decode cL_law 185 = .ok (.iload_n 3, 1) := by decide +kernel
theorem dL_law_186 : decode cL_law 186 = .ok (.iconst 1, 1) := by decide +kernel
theorem dL_law_187 : decode cL_law 187 = .ok (.iadd, 1) := by decide +kernel
theorem dL_law_188 : decode cL_law 188 = .ok (.iaload, 1) := by decide +kernel
theorem dL_law_189 : decode cL_law 189 = .ok (.aload_n 0, 1) := by decide +kernel
theorem dL_law_190 : decode cL_law 190 = .ok (.iload_n 3, 1) := by decide +kernel
theorem dL_law_191 : decode cL_law 191 = .ok (.iconst 2, 1) := by decide +kernel
theorem dL_law_192 : decode cL_law 192 = .ok (.iadd, 1) := by decide +kernel
theorem dL_law_193 : decode cL_law 193 = .ok (.iaload, 1) := by decide +kernel
theorem dL_law_194 : decode cL_law 194 = .ok (.invokevirtual 22, 3) := by decide +kernel
theorem dL_law_197 : decode cL_law 197 = .ok (.if_icmp .eq 478, 3) := by decide +kernel
theorem dL_law_200 : decode cL_law 200 = .ok (.iconst 0, 1) := by decide +kernel
theorem dL_law_201 : decode cL_law 201 = .ok (.ireturn, 1) := by decide +kernel
theorem dL_law_202 : decode cL_law 202 = .ok (.aload_n 1, 1) := by decide +kernel
theorem dL_law_203 : decode cL_law 203 = .ok (.aload_n 0, 1) := by decide +kernel
theorem dL_law_204 : decode cL_law 204 = .ok (.iload_n 3, 1) := by decide +kernel
theorem dL_law_205 : decode cL_law 205 = .ok (.iconst 1, 1) := by decide +kernel
theorem dL_law_206 : decode cL_law 206 = .ok (.iadd, 1) := by decide +kernel
theorem dL_law_207 : decode cL_law 207 = .ok (.iaload, 1) := by decide +kernel
theorem dL_law_208 : decode cL_law 208 = .ok (.aload_n 0, 1) := by decide +kernel
theorem dL_law_209 : decode cL_law 209 = .ok (.iload_n 3, 1) := by decide +kernel
theorem dL_law_210 : decode cL_law 210 = .ok (.iconst 2, 1) := by decide +kernel
theorem dL_law_211 : decode cL_law 211 = .ok (.iadd, 1) := by decide +kernel
theorem dL_law_212 : decode cL_law 212 = .ok (.iaload, 1) := by decide +kernel
theorem dL_law_213 : decode cL_law 213 = .ok (.aload_n 0, 1) := by decide +kernel
theorem dL_law_214 : decode cL_law 214 = .ok (.iload_n 3, 1) := by decide +kernel
theorem dL_law_215 : decode cL_law 215 = .ok (.iconst 3, 1) := by decide +kernel
theorem dL_law_216 : decode cL_law 216 = .ok (.iadd, 1) := by decide +kernel
theorem dL_law_217 : decode cL_law 217 = .ok (.iaload, 1) := by decide +kernel
theorem dL_law_218 : decode cL_law 218 = .ok (.aload_n 0, 1) := by decide +kernel
theorem dL_law_219 : decode cL_law 219 = .ok (.iload_n 3, 1) := by decide +kernel
theorem dL_law_220 : decode cL_law 220 = .ok (.iconst 4, 1) := by decide +kernel
theorem dL_law_221 : decode cL_law 221 = .ok (.iadd, 1) := by decide +kernel
theorem dL_law_222 : decode cL_law 222 = .ok (.iaload, 1) := by decide +kernel
theorem dL_law_223 : decode cL_law 223 = .ok (.invokevirtual 23, 3) := by decide +kernel
theorem dL_law_226 : decode cL_law 226 = .ok (.aload_n 2, 1) := by decide +kernel
theorem dL_law_227 : decode cL_law 227 = .ok (.aload_n 0, 1) := by decide +kernel
theorem dL_law_228 : decode cL_law 228 = .ok (.iload_n 3, 1) := by decide +kernel
theorem dL_law_229 : decode cL_law 229 = .ok (.iconst 1, 1) := by decide +kernel
theorem dL_law_230 : decode cL_law 230 = .ok (.iadd, 1) := by decide +kernel
theorem dL_law_231 : decode cL_law 231 = .ok (.iaload, 1) := by decide +kernel
theorem dL_law_232 : decode cL_law 232 = .ok (.aload_n 0, 1) := by decide +kernel
theorem dL_law_233 : decode cL_law 233 = .ok (.iload_n 3, 1) := by decide +kernel
theorem dL_law_234 : decode cL_law 234 = .ok (.iconst 2, 1) := by decide +kernel
theorem dL_law_235 : decode cL_law 235 = .ok (.iadd, 1) := by decide +kernel
theorem dL_law_236 : decode cL_law 236 = .ok (.iaload, 1) := by decide +kernel
theorem dL_law_237 : decode cL_law 237 = .ok (.aload_n 0, 1) := by decide +kernel
theorem dL_law_238 : decode cL_law 238 = .ok (.iload_n 3, 1) := by decide +kernel
theorem dL_law_239 : decode cL_law 239 = .ok (.iconst 3, 1) := by decide +kernel
theorem dL_law_240 : decode cL_law 240 = .ok (.iadd, 1) := by decide +kernel
theorem dL_law_241 : decode cL_law 241 = .ok (.iaload, 1) := by decide +kernel
theorem dL_law_242 : decode cL_law 242 = .ok (.aload_n 0, 1) := by decide +kernel
theorem dL_law_243 : decode cL_law 243 = .ok (.iload_n 3, 1) := by decide +kernel
theorem dL_law_244 : decode cL_law 244 = .ok (.iconst 4, 1) := by decide +kernel
theorem dL_law_245 : decode cL_law 245 = .ok (.iadd, 1) := by decide +kernel
theorem dL_law_246 : decode cL_law 246 = .ok (.iaload, 1) := by decide +kernel
theorem dL_law_247 : decode cL_law 247 = .ok (.invokevirtual 26, 3) := by decide +kernel
theorem dL_law_250 : decode cL_law 250 = .ok (.if_icmp .eq 425, 3) := by decide +kernel
theorem dL_law_253 : decode cL_law 253 = .ok (.iconst 0, 1) := by decide +kernel
theorem dL_law_254 : decode cL_law 254 = .ok (.ireturn, 1) := by decide +kernel
theorem dL_law_255 : decode cL_law 255 = .ok (.aload_n 1, 1) := by decide +kernel
theorem dL_law_256 : decode cL_law 256 = .ok (.aload_n 0, 1) := by decide +kernel
theorem dL_law_257 : decode cL_law 257 = .ok (.iload_n 3, 1) := by decide +kernel
theorem dL_law_258 : decode cL_law 258 = .ok (.iconst 1, 1) := by decide +kernel
theorem dL_law_259 : decode cL_law 259 = .ok (.iadd, 1) := by decide +kernel
theorem dL_law_260 : decode cL_law 260 = .ok (.iaload, 1) := by decide +kernel
theorem dL_law_261 : decode cL_law 261 = .ok (.aload_n 0, 1) := by decide +kernel
theorem dL_law_262 : decode cL_law 262 = .ok (.iload_n 3, 1) := by decide +kernel
theorem dL_law_263 : decode cL_law 263 = .ok (.iconst 2, 1) := by decide +kernel
theorem dL_law_264 : decode cL_law 264 = .ok (.iadd, 1) := by decide +kernel
theorem dL_law_265 : decode cL_law 265 = .ok (.iaload, 1) := by decide +kernel
theorem dL_law_266 : decode cL_law 266 = .ok (.aload_n 0, 1) := by decide +kernel
theorem dL_law_267 : decode cL_law 267 = .ok (.iload_n 3, 1) := by decide +kernel
theorem dL_law_268 : decode cL_law 268 = .ok (.iconst 3, 1) := by decide +kernel
theorem dL_law_269 : decode cL_law 269 = .ok (.iadd, 1) := by decide +kernel
theorem dL_law_270 : decode cL_law 270 = .ok (.iaload, 1) := by decide +kernel
theorem dL_law_271 : decode cL_law 271 = .ok (.aload_n 0, 1) := by decide +kernel
theorem dL_law_272 : decode cL_law 272 = .ok (.iload_n 3, 1) := by decide +kernel
theorem dL_law_273 : decode cL_law 273 = .ok (.iconst 4, 1) := by decide +kernel
theorem dL_law_274 : decode cL_law 274 = .ok (.iadd, 1) := by decide +kernel
theorem dL_law_275 : decode cL_law 275 = .ok (.iaload, 1) := by decide +kernel
theorem dL_law_276 : decode cL_law 276 = .ok (.invokevirtual 27, 3) := by decide +kernel
theorem dL_law_279 : decode cL_law 279 = .ok (.aload_n 2, 1) := by decide +kernel
theorem dL_law_280 : decode cL_law 280 = .ok (.aload_n 0, 1) := by decide +kernel
theorem dL_law_281 : decode cL_law 281 = .ok (.iload_n 3, 1) := by decide +kernel
theorem dL_law_282 : decode cL_law 282 = .ok (.iconst 1, 1) := by decide +kernel
theorem dL_law_283 : decode cL_law 283 = .ok (.iadd, 1) := by decide +kernel
theorem dL_law_284 : decode cL_law 284 = .ok (.iaload, 1) := by decide +kernel
theorem dL_law_285 : decode cL_law 285 = .ok (.aload_n 0, 1) := by decide +kernel
theorem dL_law_286 : decode cL_law 286 = .ok (.iload_n 3, 1) := by decide +kernel
theorem dL_law_287 : decode cL_law 287 = .ok (.iconst 2, 1) := by decide +kernel
theorem dL_law_288 : decode cL_law 288 = .ok (.iadd, 1) := by decide +kernel
theorem dL_law_289 : decode cL_law 289 = .ok (.iaload, 1) := by decide +kernel
theorem dL_law_290 : decode cL_law 290 = .ok (.aload_n 0, 1) := by decide +kernel
theorem dL_law_291 : decode cL_law 291 = .ok (.iload_n 3, 1) := by decide +kernel
theorem dL_law_292 : decode cL_law 292 = .ok (.iconst 3, 1) := by decide +kernel
theorem dL_law_293 : decode cL_law 293 = .ok (.iadd, 1) := by decide +kernel
theorem dL_law_294 : decode cL_law 294 = .ok (.iaload, 1) := by decide +kernel
theorem dL_law_295 : decode cL_law 295 = .ok (.aload_n 0, 1) := by decide +kernel
theorem dL_law_296 : decode cL_law 296 = .ok (.iload_n 3, 1) := by decide +kernel
theorem dL_law_297 : decode cL_law 297 = .ok (.iconst 4, 1) := by decide +kernel
theorem dL_law_298 : decode cL_law 298 = .ok (.iadd, 1) := by decide +kernel
theorem dL_law_299 : decode cL_law 299 = .ok (.iaload, 1) := by decide +kernel
theorem dL_law_300 : decode cL_law 300 = .ok (.invokevirtual 30, 3) := by decide +kernel
theorem dL_law_303 : decode cL_law 303 = .ok (.if_icmp .eq 372, 3) := by decide +kernel
theorem dL_law_306 : decode cL_law 306 = .ok (.iconst 0, 1) := by decide +kernel
theorem dL_law_307 : decode cL_law 307 = .ok (.ireturn, 1) := by decide +kernel
theorem dL_law_308 : decode cL_law 308 = .ok (.aload_n 1, 1) := by decide +kernel
theorem dL_law_309 : decode cL_law 309 = .ok (.aload_n 0, 1) := by decide +kernel
theorem dL_law_310 : decode cL_law 310 = .ok (.iload_n 3, 1) := by decide +kernel
theorem dL_law_311 : decode cL_law 311 = .ok (.iconst 1, 1) := by decide +kernel
theorem dL_law_312 : decode cL_law 312 = .ok (.iadd, 1) := by decide +kernel
theorem dL_law_313 : decode cL_law 313 = .ok (.iaload, 1) := by decide +kernel
theorem dL_law_314 : decode cL_law 314 = .ok (.aload_n 0, 1) := by decide +kernel
theorem dL_law_315 : decode cL_law 315 = .ok (.iload_n 3, 1) := by decide +kernel
theorem dL_law_316 : decode cL_law 316 = .ok (.iconst 2, 1) := by decide +kernel
theorem dL_law_317 : decode cL_law 317 = .ok (.iadd, 1) := by decide +kernel
theorem dL_law_318 : decode cL_law 318 = .ok (.iaload, 1) := by decide +kernel
theorem dL_law_319 : decode cL_law 319 = .ok (.invokevirtual 31, 3) := by decide +kernel
theorem dL_law_322 : decode cL_law 322 = .ok (.aload_n 2, 1) := by decide +kernel
theorem dL_law_323 : decode cL_law 323 = .ok (.aload_n 0, 1) := by decide +kernel
theorem dL_law_324 : decode cL_law 324 = .ok (.iload_n 3, 1) := by decide +kernel
theorem dL_law_325 : decode cL_law 325 = .ok (.iconst 1, 1) := by decide +kernel
theorem dL_law_326 : decode cL_law 326 = .ok (.iadd, 1) := by decide +kernel
theorem dL_law_327 : decode cL_law 327 = .ok (.iaload, 1) := by decide +kernel
theorem dL_law_328 : decode cL_law 328 = .ok (.aload_n 0, 1) := by decide +kernel
theorem dL_law_329 : decode cL_law 329 = .ok (.iload_n 3, 1) := by decide +kernel
theorem dL_law_330 : decode cL_law 330 = .ok (.iconst 2, 1) := by decide +kernel
theorem dL_law_331 : decode cL_law 331 = .ok (.iadd, 1) := by decide +kernel
theorem dL_law_332 : decode cL_law 332 = .ok (.iaload, 1) := by decide +kernel
theorem dL_law_333 : decode cL_law 333 = .ok (.invokevirtual 35, 3) := by decide +kernel
theorem dL_law_336 : decode cL_law 336 = .ok (.if_icmp .eq 339, 3) := by decide +kernel
theorem dL_law_339 : decode cL_law 339 = .ok (.iconst 0, 1) := by decide +kernel
theorem dL_law_340 : decode cL_law 340 = .ok (.ireturn, 1) := by decide +kernel
theorem dL_law_341 : decode cL_law 341 = .ok (.aload_n 1, 1) := by decide +kernel
theorem dL_law_342 : decode cL_law 342 = .ok (.aload_n 0, 1) := by decide +kernel
theorem dL_law_343 : decode cL_law 343 = .ok (.iload_n 3, 1) := by decide +kernel
theorem dL_law_344 : decode cL_law 344 = .ok (.iconst 1, 1) := by decide +kernel
theorem dL_law_345 : decode cL_law 345 = .ok (.iadd, 1) := by decide +kernel
theorem dL_law_346 : decode cL_law 346 = .ok (.iaload, 1) := by decide +kernel
theorem dL_law_347 : decode cL_law 347 = .ok (.aload_n 0, 1) := by decide +kernel
theorem dL_law_348 : decode cL_law 348 = .ok (.iload_n 3, 1) := by decide +kernel
theorem dL_law_349 : decode cL_law 349 = .ok (.iconst 2, 1) := by decide +kernel
theorem dL_law_350 : decode cL_law 350 = .ok (.iadd, 1) := by decide +kernel
theorem dL_law_351 : decode cL_law 351 = .ok (.iaload, 1) := by decide +kernel
theorem dL_law_352 : decode cL_law 352 = .ok (.aload_n 0, 1) := by decide +kernel
theorem dL_law_353 : decode cL_law 353 = .ok (.iload_n 3, 1) := by decide +kernel
theorem dL_law_354 : decode cL_law 354 = .ok (.iconst 3, 1) := by decide +kernel
theorem dL_law_355 : decode cL_law 355 = .ok (.iadd, 1) := by decide +kernel
theorem dL_law_356 : decode cL_law 356 = .ok (.iaload, 1) := by decide +kernel
theorem dL_law_357 : decode cL_law 357 = .ok (.invokevirtual 36, 3) := by decide +kernel
theorem dL_law_360 : decode cL_law 360 = .ok (.aload_n 2, 1) := by decide +kernel
theorem dL_law_361 : decode cL_law 361 = .ok (.aload_n 0, 1) := by decide +kernel
theorem dL_law_362 : decode cL_law 362 = .ok (.iload_n 3, 1) := by decide +kernel
theorem dL_law_363 : decode cL_law 363 = .ok (.iconst 1, 1) := by decide +kernel
theorem dL_law_364 : decode cL_law 364 = .ok (.iadd, 1) := by decide +kernel
theorem dL_law_365 : decode cL_law 365 = .ok (.iaload, 1) := by decide +kernel
theorem dL_law_366 : decode cL_law 366 = .ok (.aload_n 0, 1) := by decide +kernel
theorem dL_law_367 : decode cL_law 367 = .ok (.iload_n 3, 1) := by decide +kernel
theorem dL_law_368 : decode cL_law 368 = .ok (.iconst 2, 1) := by decide +kernel
theorem dL_law_369 : decode cL_law 369 = .ok (.iadd, 1) := by decide +kernel
theorem dL_law_370 : decode cL_law 370 = .ok (.iaload, 1) := by decide +kernel
theorem dL_law_371 : decode cL_law 371 = .ok (.aload_n 0, 1) := by decide +kernel
theorem dL_law_372 : decode cL_law 372 = .ok (.iload_n 3, 1) := by decide +kernel
theorem dL_law_373 : decode cL_law 373 = .ok (.iconst 3, 1) := by decide +kernel
theorem dL_law_374 : decode cL_law 374 = .ok (.iadd, 1) := by decide +kernel
theorem dL_law_375 : decode cL_law 375 = .ok (.iaload, 1) := by decide +kernel
theorem dL_law_376 : decode cL_law 376 = .ok (.invokevirtual 40, 3) := by decide +kernel
theorem dL_law_379 : decode cL_law 379 = .ok (.if_icmp .eq 296, 3) := by decide +kernel
theorem dL_law_382 : decode cL_law 382 = .ok (.iconst 0, 1) := by decide +kernel
theorem dL_law_383 : decode cL_law 383 = .ok (.ireturn, 1) := by decide +kernel
theorem dL_law_384 : decode cL_law 384 = .ok (.aload_n 1, 1) := by decide +kernel
theorem dL_law_385 : decode cL_law 385 = .ok (.aload_n 0, 1) := by decide +kernel
theorem dL_law_386 : decode cL_law 386 = .ok (.iload_n 3, 1) := by decide +kernel
theorem dL_law_387 : decode cL_law 387 = .ok (.iconst 1, 1) := by decide +kernel
theorem dL_law_388 : decode cL_law 388 = .ok (.iadd, 1) := by decide +kernel
theorem dL_law_389 : decode cL_law 389 = .ok (.iaload, 1) := by decide +kernel
theorem dL_law_390 : decode cL_law 390 = .ok (.invokevirtual 41, 3) := by decide +kernel
theorem dL_law_393 : decode cL_law 393 = .ok (.aload_n 2, 1) := by decide +kernel
theorem dL_law_394 : decode cL_law 394 = .ok (.aload_n 0, 1) := by decide +kernel
theorem dL_law_395 : decode cL_law 395 = .ok (.iload_n 3, 1) := by decide +kernel
theorem dL_law_396 : decode cL_law 396 = .ok (.iconst 1, 1) := by decide +kernel
theorem dL_law_397 : decode cL_law 397 = .ok (.iadd, 1) := by decide +kernel
theorem dL_law_398 : decode cL_law 398 = .ok (.iaload, 1) := by decide +kernel
theorem dL_law_399 : decode cL_law 399 = .ok (.invokevirtual 45, 3) := by decide +kernel
theorem dL_law_402 : decode cL_law 402 = .ok (.if_icmp .eq 273, 3) := by decide +kernel
theorem dL_law_405 : decode cL_law 405 = .ok (.iconst 0, 1) := by decide +kernel
theorem dL_law_406 : decode cL_law 406 = .ok (.ireturn, 1) := by decide +kernel
theorem dL_law_407 : decode cL_law 407 = .ok (.aload_n 1, 1) := by decide +kernel
theorem dL_law_408 : decode cL_law 408 = .ok (.aload_n 0, 1) := by decide +kernel
theorem dL_law_409 : decode cL_law 409 = .ok (.iload_n 3, 1) := by decide +kernel
theorem dL_law_410 : decode cL_law 410 = .ok (.iconst 1, 1) := by decide +kernel
theorem dL_law_411 : decode cL_law 411 = .ok (.iadd, 1) := by decide +kernel
theorem dL_law_412 : decode cL_law 412 = .ok (.iaload, 1) := by decide +kernel
theorem dL_law_413 : decode cL_law 413 = .ok (.invokevirtual 46, 3) := by decide +kernel
theorem dL_law_416 : decode cL_law 416 = .ok (.aload_n 2, 1) := by decide +kernel
theorem dL_law_417 : decode cL_law 417 = .ok (.aload_n 0, 1) := by decide +kernel
theorem dL_law_418 : decode cL_law 418 = .ok (.iload_n 3, 1) := by decide +kernel
theorem dL_law_419 : decode cL_law 419 = .ok (.iconst 1, 1) := by decide +kernel
theorem dL_law_420 : decode cL_law 420 = .ok (.iadd, 1) := by decide +kernel
theorem dL_law_421 : decode cL_law 421 = .ok (.iaload, 1) := by decide +kernel
theorem dL_law_422 : decode cL_law 422 = .ok (.invokevirtual 50, 3) := by decide +kernel
theorem dL_law_425 : decode cL_law 425 = .ok (.if_icmp .eq 250, 3) := by decide +kernel
theorem dL_law_428 : decode cL_law 428 = .ok (.iconst 0, 1) := by decide +kernel
theorem dL_law_429 : decode cL_law 429 = .ok (.ireturn, 1) := by decide +kernel
theorem dL_law_430 : decode cL_law 430 = .ok (.aload_n 1, 1) := by decide +kernel
theorem dL_law_431 : decode cL_law 431 = .ok (.aload_n 0, 1) := by decide +kernel
theorem dL_law_432 : decode cL_law 432 = .ok (.iload_n 3, 1) := by decide +kernel
theorem dL_law_433 : decode cL_law 433 = .ok (.iconst 1, 1) := by decide +kernel
theorem dL_law_434 : decode cL_law 434 = .ok (.iadd, 1) := by decide +kernel
theorem dL_law_435 : decode cL_law 435 = .ok (.iaload, 1) := by decide +kernel
theorem dL_law_436 : decode cL_law 436 = .ok (.aload_n 0, 1) := by decide +kernel
theorem dL_law_437 : decode cL_law 437 = .ok (.iload_n 3, 1) := by decide +kernel
theorem dL_law_438 : decode cL_law 438 = .ok (.iconst 2, 1) := by decide +kernel
theorem dL_law_439 : decode cL_law 439 = .ok (.iadd, 1) := by decide +kernel
theorem dL_law_440 : decode cL_law 440 = .ok (.iaload, 1) := by decide +kernel
theorem dL_law_441 : decode cL_law 441 = .ok (.invokevirtual 51, 3) := by decide +kernel
theorem dL_law_444 : decode cL_law 444 = .ok (.aload_n 2, 1) := by decide +kernel
theorem dL_law_445 : decode cL_law 445 = .ok (.aload_n 0, 1) := by decide +kernel
theorem dL_law_446 : decode cL_law 446 = .ok (.iload_n 3, 1) := by decide +kernel
theorem dL_law_447 : decode cL_law 447 = .ok (.iconst 1, 1) := by decide +kernel
theorem dL_law_448 : decode cL_law 448 = .ok (.iadd, 1) := by decide +kernel
theorem dL_law_449 : decode cL_law 449 = .ok (.iaload, 1) := by decide +kernel
theorem dL_law_450 : decode cL_law 450 = .ok (.aload_n 0, 1) := by decide +kernel
theorem dL_law_451 : decode cL_law 451 = .ok (.iload_n 3, 1) := by decide +kernel
theorem dL_law_452 : decode cL_law 452 = .ok (.iconst 2, 1) := by decide +kernel
theorem dL_law_453 : decode cL_law 453 = .ok (.iadd, 1) := by decide +kernel
theorem dL_law_454 : decode cL_law 454 = .ok (.iaload, 1) := by decide +kernel
theorem dL_law_455 : decode cL_law 455 = .ok (.invokevirtual 54, 3) := by decide +kernel
theorem dL_law_458 : decode cL_law 458 = .ok (.if_icmp .eq 217, 3) := by decide +kernel
theorem dL_law_461 : decode cL_law 461 = .ok (.iconst 0, 1) := by decide +kernel
theorem dL_law_462 : decode cL_law 462 = .ok (.ireturn, 1) := by decide +kernel
theorem dL_law_463 : decode cL_law 463 = .ok (.aload_n 1, 1) := by decide +kernel
theorem dL_law_464 : decode cL_law 464 = .ok (.aload_n 0, 1) := by decide +kernel
theorem dL_law_465 : decode cL_law 465 = .ok (.iload_n 3, 1) := by decide +kernel
theorem dL_law_466 : decode cL_law 466 = .ok (.iconst 1, 1) := by decide +kernel
theorem dL_law_467 : decode cL_law 467 = .ok (.iadd, 1) := by decide +kernel
theorem dL_law_468 : decode cL_law 468 = .ok (.iaload, 1) := by decide +kernel
theorem dL_law_469 : decode cL_law 469 = .ok (.aload_n 0, 1) := by decide +kernel
theorem dL_law_470 : decode cL_law 470 = .ok (.iload_n 3, 1) := by decide +kernel
theorem dL_law_471 : decode cL_law 471 = .ok (.iconst 2, 1) := by decide +kernel
theorem dL_law_472 : decode cL_law 472 = .ok (.iadd, 1) := by decide +kernel
theorem dL_law_473 : decode cL_law 473 = .ok (.iaload, 1) := by decide +kernel
theorem dL_law_474 : decode cL_law 474 = .ok (.invokevirtual 55, 3) := by decide +kernel
theorem dL_law_477 : decode cL_law 477 = .ok (.aload_n 2, 1) := by decide +kernel
theorem dL_law_478 : decode cL_law 478 = .ok (.aload_n 0, 1) := by decide +kernel
theorem dL_law_479 : decode cL_law 479 = .ok (.iload_n 3, 1) := by decide +kernel
theorem dL_law_480 : decode cL_law 480 = .ok (.iconst 1, 1) := by decide +kernel
theorem dL_law_481 : decode cL_law 481 = .ok (.iadd, 1) := by decide +kernel
theorem dL_law_482 : decode cL_law 482 = .ok (.iaload, 1) := by decide +kernel
theorem dL_law_483 : decode cL_law 483 = .ok (.aload_n 0, 1) := by decide +kernel
theorem dL_law_484 : decode cL_law 484 = .ok (.iload_n 3, 1) := by decide +kernel
theorem dL_law_485 : decode cL_law 485 = .ok (.iconst 2, 1) := by decide +kernel
theorem dL_law_486 : decode cL_law 486 = .ok (.iadd, 1) := by decide +kernel
theorem dL_law_487 : decode cL_law 487 = .ok (.iaload, 1) := by decide +kernel
theorem dL_law_488 : decode cL_law 488 = .ok (.invokevirtual 58, 3) := by decide +kernel
theorem dL_law_491 : decode cL_law 491 = .ok (.if_icmp .eq 184, 3) := by decide +kernel
theorem dL_law_494 : decode cL_law 494 = .ok (.iconst 0, 1) := by decide +kernel
theorem dL_law_495 : decode cL_law 495 = .ok (.ireturn, 1) := by decide +kernel
theorem dL_law_496 : decode cL_law 496 = .ok (.aload_n 1, 1) := by decide +kernel
theorem dL_law_497 : decode cL_law 497 = .ok (.aload_n 0, 1) := by decide +kernel
theorem dL_law_498 : decode cL_law 498 = .ok (.iload_n 3, 1) := by decide +kernel
theorem dL_law_499 : decode cL_law 499 = .ok (.iconst 1, 1) := by decide +kernel
theorem dL_law_500 : decode cL_law 500 = .ok (.iadd, 1) := by decide +kernel
theorem dL_law_501 : decode cL_law 501 = .ok (.iaload, 1) := by decide +kernel
theorem dL_law_502 : decode cL_law 502 = .ok (.aload_n 0, 1) := by decide +kernel
theorem dL_law_503 : decode cL_law 503 = .ok (.iload_n 3, 1) := by decide +kernel
theorem dL_law_504 : decode cL_law 504 = .ok (.iconst 2, 1) := by decide +kernel
theorem dL_law_505 : decode cL_law 505 = .ok (.iadd, 1) := by decide +kernel
theorem dL_law_506 : decode cL_law 506 = .ok (.iaload, 1) := by decide +kernel
theorem dL_law_507 : decode cL_law 507 = .ok (.aload_n 0, 1) := by decide +kernel
theorem dL_law_508 : decode cL_law 508 = .ok (.iload_n 3, 1) := by decide +kernel
theorem dL_law_509 : decode cL_law 509 = .ok (.iconst 3, 1) := by decide +kernel
theorem dL_law_510 : decode cL_law 510 = .ok (.iadd, 1) := by decide +kernel
theorem dL_law_511 : decode cL_law 511 = .ok (.iaload, 1) := by decide +kernel
theorem dL_law_512 : decode cL_law 512 = .ok (.invokevirtual 59, 3) := by decide +kernel
theorem dL_law_515 : decode cL_law 515 = .ok (.aload_n 2, 1) := by decide +kernel
theorem dL_law_516 : decode cL_law 516 = .ok (.aload_n 0, 1) := by decide +kernel
theorem dL_law_517 : decode cL_law 517 = .ok (.iload_n 3, 1) := by decide +kernel
theorem dL_law_518 : decode cL_law 518 = .ok (.iconst 1, 1) := by decide +kernel
theorem dL_law_519 : decode cL_law 519 = .ok (.iadd, 1) := by decide +kernel
theorem dL_law_520 : decode cL_law 520 = .ok (.iaload, 1) := by decide +kernel
theorem dL_law_521 : decode cL_law 521 = .ok (.aload_n 0, 1) := by decide +kernel
theorem dL_law_522 : decode cL_law 522 = .ok (.iload_n 3, 1) := by decide +kernel
theorem dL_law_523 : decode cL_law 523 = .ok (.iconst 2, 1) := by decide +kernel
theorem dL_law_524 : decode cL_law 524 = .ok (.iadd, 1) := by decide +kernel
theorem dL_law_525 : decode cL_law 525 = .ok (.iaload, 1) := by decide +kernel
theorem dL_law_526 : decode cL_law 526 = .ok (.aload_n 0, 1) := by decide +kernel
theorem dL_law_527 : decode cL_law 527 = .ok (.iload_n 3, 1) := by decide +kernel
theorem dL_law_528 : decode cL_law 528 = .ok (.iconst 3, 1) := by decide +kernel
theorem dL_law_529 : decode cL_law 529 = .ok (.iadd, 1) := by decide +kernel
theorem dL_law_530 : decode cL_law 530 = .ok (.iaload, 1) := by decide +kernel
theorem dL_law_531 : decode cL_law 531 = .ok (.invokevirtual 62, 3) := by decide +kernel
theorem dL_law_534 : decode cL_law 534 = .ok (.if_icmp .eq 141, 3) := by decide +kernel
theorem dL_law_537 : decode cL_law 537 = .ok (.iconst 0, 1) := by decide +kernel
theorem dL_law_538 : decode cL_law 538 = .ok (.ireturn, 1) := by decide +kernel
theorem dL_law_539 : decode cL_law 539 = .ok (.aload_n 1, 1) := by decide +kernel
theorem dL_law_540 : decode cL_law 540 = .ok (.invokevirtual 63, 3) := by decide +kernel
theorem dL_law_543 : decode cL_law 543 = .ok (.aload_n 2, 1) := by decide +kernel
theorem dL_law_544 : decode cL_law 544 = .ok (.invokevirtual 66, 3) := by decide +kernel
theorem dL_law_547 : decode cL_law 547 = .ok (.goto 128, 3) := by decide +kernel
theorem dL_law_550 : decode cL_law 550 = .ok (.aload_n 1, 1) := by decide +kernel
theorem dL_law_551 : decode cL_law 551 = .ok (.aload_n 0, 1) := by decide +kernel
theorem dL_law_552 : decode cL_law 552 = .ok (.iload_n 3, 1) := by decide +kernel
theorem dL_law_553 : decode cL_law 553 = .ok (.iconst 1, 1) := by decide +kernel
theorem dL_law_554 : decode cL_law 554 = .ok (.iadd, 1) := by decide +kernel
theorem dL_law_555 : decode cL_law 555 = .ok (.iaload, 1) := by decide +kernel
theorem dL_law_556 : decode cL_law 556 = .ok (.invokevirtual 67, 3) := by decide +kernel
theorem dL_law_559 : decode cL_law 559 = .ok (.aload_n 2, 1) := by decide +kernel
theorem dL_law_560 : decode cL_law 560 = .ok (.aload_n 0, 1) := by decide +kernel
theorem dL_law_561 : decode cL_law 561 = .ok (.iload_n 3, 1) := by decide +kernel
theorem dL_law_562 : decode cL_law 562 = .ok (.iconst 1, 1) := by decide +kernel
theorem dL_law_563 : decode cL_law 563 = .ok (.iadd, 1) := by decide +kernel
theorem dL_law_564 : decode cL_law 564 = .ok (.iaload, 1) := by decide +kernel
theorem dL_law_565 : decode cL_law 565 = .ok (.invokevirtual 70, 3) := by decide +kernel
theorem dL_law_568 : decode cL_law 568 = .ok (.if_icmp .eq 107, 3) := by decide +kernel
theorem dL_law_571 : decode cL_law 571 = .ok (.iconst 0, 1) := by decide +kernel
theorem dL_law_572 : decode cL_law 572 = .ok (.ireturn, 1) := by decide +kernel
theorem dL_law_573 : decode cL_law 573 = .ok (.aload_n 1, 1) := by decide +kernel
theorem dL_law_574 : decode cL_law 574 = .ok (.aload_n 0, 1) := by decide +kernel
theorem dL_law_575 : decode cL_law 575 = .ok (.iload_n 3, 1) := by decide +kernel
theorem dL_law_576 : decode cL_law 576 = .ok (.iconst 1, 1) := by decide +kernel
theorem dL_law_577 : decode cL_law 577 = .ok (.iadd, 1) := by decide +kernel
theorem dL_law_578 : decode cL_law 578 = .ok (.iaload, 1) := by decide +kernel
theorem dL_law_579 : decode cL_law 579 = .ok (.aload_n 0, 1) := by decide +kernel
theorem dL_law_580 : decode cL_law 580 = .ok (.iload_n 3, 1) := by decide +kernel
theorem dL_law_581 : decode cL_law 581 = .ok (.iconst 2, 1) := by decide +kernel
theorem dL_law_582 : decode cL_law 582 = .ok (.iadd, 1) := by decide +kernel
theorem dL_law_583 : decode cL_law 583 = .ok (.iaload, 1) := by decide +kernel
theorem dL_law_584 : decode cL_law 584 = .ok (.invokevirtual 71, 3) := by decide +kernel
theorem dL_law_587 : decode cL_law 587 = .ok (.aload_n 2, 1) := by decide +kernel
theorem dL_law_588 : decode cL_law 588 = .ok (.aload_n 0, 1) := by decide +kernel
theorem dL_law_589 : decode cL_law 589 = .ok (.iload_n 3, 1) := by decide +kernel
theorem dL_law_590 : decode cL_law 590 = .ok (.iconst 1, 1) := by decide +kernel
theorem dL_law_591 : decode cL_law 591 = .ok (.iadd, 1) := by decide +kernel
theorem dL_law_592 : decode cL_law 592 = .ok (.iaload, 1) := by decide +kernel
theorem dL_law_593 : decode cL_law 593 = .ok (.aload_n 0, 1) := by decide +kernel
theorem dL_law_594 : decode cL_law 594 = .ok (.iload_n 3, 1) := by decide +kernel
theorem dL_law_595 : decode cL_law 595 = .ok (.iconst 2, 1) := by decide +kernel
theorem dL_law_596 : decode cL_law 596 = .ok (.iadd, 1) := by decide +kernel
theorem dL_law_597 : decode cL_law 597 = .ok (.iaload, 1) := by decide +kernel
theorem dL_law_598 : decode cL_law 598 = .ok (.invokevirtual 74, 3) := by decide +kernel
theorem dL_law_601 : decode cL_law 601 = .ok (.if_icmp .eq 74, 3) := by decide +kernel
theorem dL_law_604 : decode cL_law 604 = .ok (.iconst 0, 1) := by decide +kernel
theorem dL_law_605 : decode cL_law 605 = .ok (.ireturn, 1) := by decide +kernel
theorem dL_law_606 : decode cL_law 606 = .ok (.aload_n 1, 1) := by decide +kernel
theorem dL_law_607 : decode cL_law 607 = .ok (.aload_n 0, 1) := by decide +kernel
theorem dL_law_608 : decode cL_law 608 = .ok (.iload_n 3, 1) := by decide +kernel
theorem dL_law_609 : decode cL_law 609 = .ok (.iconst 1, 1) := by decide +kernel
theorem dL_law_610 : decode cL_law 610 = .ok (.iadd, 1) := by decide +kernel
theorem dL_law_611 : decode cL_law 611 = .ok (.iaload, 1) := by decide +kernel
theorem dL_law_612 : decode cL_law 612 = .ok (.invokevirtual 75, 3) := by decide +kernel
theorem dL_law_615 : decode cL_law 615 = .ok (.aload_n 2, 1) := by decide +kernel
theorem dL_law_616 : decode cL_law 616 = .ok (.aload_n 0, 1) := by decide +kernel
theorem dL_law_617 : decode cL_law 617 = .ok (.iload_n 3, 1) := by decide +kernel
theorem dL_law_618 : decode cL_law 618 = .ok (.iconst 1, 1) := by decide +kernel
theorem dL_law_619 : decode cL_law 619 = .ok (.iadd, 1) := by decide +kernel
theorem dL_law_620 : decode cL_law 620 = .ok (.iaload, 1) := by decide +kernel
theorem dL_law_621 : decode cL_law 621 = .ok (.invokevirtual 78, 3) := by decide +kernel
theorem dL_law_624 : decode cL_law 624 = .ok (.if_icmp .eq 51, 3) := by decide +kernel
theorem dL_law_627 : decode cL_law 627 = .ok (.iconst 0, 1) := by decide +kernel
theorem dL_law_628 : decode cL_law 628 = .ok (.ireturn, 1) := by decide +kernel
theorem dL_law_629 : decode cL_law 629 = .ok (.aload_n 1, 1) := by decide +kernel
theorem dL_law_630 : decode cL_law 630 = .ok (.aload_n 0, 1) := by decide +kernel
theorem dL_law_631 : decode cL_law 631 = .ok (.iload_n 3, 1) := by decide +kernel
theorem dL_law_632 : decode cL_law 632 = .ok (.iconst 1, 1) := by decide +kernel
theorem dL_law_633 : decode cL_law 633 = .ok (.iadd, 1) := by decide +kernel
theorem dL_law_634 : decode cL_law 634 = .ok (.iaload, 1) := by decide +kernel
theorem dL_law_635 : decode cL_law 635 = .ok (.invokevirtual 79, 3) := by decide +kernel
theorem dL_law_638 : decode cL_law 638 = .ok (.aload_n 2, 1) := by decide +kernel
theorem dL_law_639 : decode cL_law 639 = .ok (.aload_n 0, 1) := by decide +kernel
theorem dL_law_640 : decode cL_law 640 = .ok (.iload_n 3, 1) := by decide +kernel
theorem dL_law_641 : decode cL_law 641 = .ok (.iconst 1, 1) := by decide +kernel
theorem dL_law_642 : decode cL_law 642 = .ok (.iadd, 1) := by decide +kernel
theorem dL_law_643 : decode cL_law 643 = .ok (.iaload, 1) := by decide +kernel
theorem dL_law_644 : decode cL_law 644 = .ok (.invokevirtual 82, 3) := by decide +kernel
theorem dL_law_647 : decode cL_law 647 = .ok (.if_icmp .eq 28, 3) := by decide +kernel
theorem dL_law_650 : decode cL_law 650 = .ok (.iconst 0, 1) := by decide +kernel
theorem dL_law_651 : decode cL_law 651 = .ok (.ireturn, 1) := by decide +kernel
theorem dL_law_652 : decode cL_law 652 = .ok (.aload_n 1, 1) := by decide +kernel
theorem dL_law_653 : decode cL_law 653 = .ok (.aload_n 0, 1) := by decide +kernel
theorem dL_law_654 : decode cL_law 654 = .ok (.iload_n 3, 1) := by decide +kernel
theorem dL_law_655 : decode cL_law 655 = .ok (.iconst 1, 1) := by decide +kernel
theorem dL_law_656 : decode cL_law 656 = .ok (.iadd, 1) := by decide +kernel
theorem dL_law_657 : decode cL_law 657 = .ok (.iaload, 1) := by decide +kernel
theorem dL_law_658 : decode cL_law 658 = .ok (.invokevirtual 83, 3) := by decide +kernel
theorem dL_law_661 : decode cL_law 661 = .ok (.aload_n 2, 1) := by decide +kernel
theorem dL_law_662 : decode cL_law 662 = .ok (.aload_n 0, 1) := by decide +kernel
theorem dL_law_663 : decode cL_law 663 = .ok (.iload_n 3, 1) := by decide +kernel
theorem dL_law_664 : decode cL_law 664 = .ok (.iconst 1, 1) := by decide +kernel
theorem dL_law_665 : decode cL_law 665 = .ok (.iadd, 1) := by decide +kernel
theorem dL_law_666 : decode cL_law 666 = .ok (.iaload, 1) := by decide +kernel
theorem dL_law_667 : decode cL_law 667 = .ok (.invokevirtual 86, 3) := by decide +kernel
theorem dL_law_670 : decode cL_law 670 = .ok (.if_icmp .eq 5, 3) := by decide +kernel
theorem dL_law_673 : decode cL_law 673 = .ok (.iconst 0, 1) := by decide +kernel
theorem dL_law_674 : decode cL_law 674 = .ok (.ireturn, 1) := by decide +kernel
theorem dL_law_675 : decode cL_law 675 = .ok (.iinc 3 5, 3) := by decide +kernel
theorem dL_law_678 : decode cL_law 678 = .ok (.goto (-660), 3) := by decide +kernel
theorem dL_law_681 : decode cL_law 681 = .ok (.iconst 1, 1) := by decide +kernel
theorem dL_law_682 : decode cL_law 682 = .ok (.ireturn, 1) := by decide +kernel
end
section
/-! ===== the tables' words, all of them, as one premise ===== -/
def nestW : Cond → Bool
  | .methodLinkNest _ _ _ _ => true
  | .fieldLinkNest _ _ _ _ _ _ => true
  | _ => false
def okw (w : Cond) : Bool := goodWord w || nestW w
def tb : List Cond := lw_tbl.filter okw
def TB (U : State) : Prop := ∀ w ∈ tb, w.before #[] U = true
theorem okw_at {s U : State} {w : Cond} {a : Array Value} (a' : Array Value) (hW : s.WarmedH U.vm) (hok : okw w = true) (h : w.before a s = true) : w.before a' U = true := by
  by_cases g : goodWord w = true
  · exact word_at hW (good_of_word g) h
  · have g2 : nestW w = true := by simpa [okw, g] using hok
    cases w with
    | methodLinkNest c i x hh => exact va_Nw.use rfl (va_Nw.warmM hW (va_Nw.of rfl h))
    | fieldLinkNest c i r n d hh => exact va_Nw.use rfl (va_Nw.warmF hW (va_Nw.of rfl h))
    | _ => cases g2
theorem TB_moved {s U : State} (hW : s.WarmedH U.vm) (h : TB s) : TB U := fun w hw => okw_at _ hW (List.mem_filter.mp hw).2 (h w hw)
theorem TB_use {s : State} (args : Array Value) (h : TB s) : ∀ w ∈ tb, w.before args s = true := fun w hw => okw_at _ (State.WarmedH.refl s) (List.mem_filter.mp hw).2 (h w hw)
theorem tb_in {w : Cond} (i : Nat) (h : lw_tbl[i]? = some w) (hok : okw w = true) : w ∈ tb := List.mem_filter.mpr ⟨List.mem_of_getElem? h, hok⟩
theorem tb_all {ws : List Cond} (ps : List Nat) (h : ws = ps.filterMap (fun i => lw_tbl[i]?)) (hok : ws.all okw = true) : ∀ w ∈ ws, w ∈ tb := by
  intro w hw
  have h1 := List.all_eq_true.mp hok w hw
  rw [h] at hw
  obtain ⟨i, -, hi⟩ := List.mem_filterMap.mp hw
  exact tb_in i hi h1
/-! ===== the heap as a map: what lies at an address ===== -/
abbrev PE : Type := (Nat × (Nat → Int32)) ⊕ ((Nat × (Nat → Int64)) ⊕ ((Nat × (Nat → Int32)) ⊕ ((Nat × Nat × (Nat → Option Nat)) ⊕ (Nat × List Value))))
abbrev PH : Type := Nat → Option PE
abbrev eI (n : Nat) (f : Nat → Int32) : PE := .inl (n, f)
abbrev eJ (n : Nat) (f : Nat → Int64) : PE := .inr (.inl (n, f))
abbrev eZ (n : Nat) (f : Nat → Int32) : PE := .inr (.inr (.inl (n, f)))
abbrev eR (k n : Nat) (f : Nat → Option Nat) : PE := .inr (.inr (.inr (.inl (k, n, f))))
abbrev eO (ci : Nat) (fs : List Value) : PE := .inr (.inr (.inr (.inr (ci, fs))))
def toE (G : Nat → ClassId) : Option PE → va_E
  | some (.inl (n, f)) => .inl (G 0, n, .inl f)
  | some (.inr (.inl (n, f))) => .inl (G 1, n, .inr (.inl f))
  | some (.inr (.inr (.inl (n, f)))) => .inl (G 2, n, .inl f)
  | some (.inr (.inr (.inr (.inl (k, n, f))))) => .inl (G (3 + k), n, .inr (.inr (.inr (.inr f))))
  | some (.inr (.inr (.inr (.inr (ci, fs))))) => .inr (ci, fs)
  | none => .inl (G 0, 0, .inl (fun _ => 0))
abbrev gtys (G : Nat → ClassId) : List (ClassId × FieldType) := [(G 0, .int), (G 1, .long), (G 2, .boolean), (G 3, .object "SumsThatTell$State"), (G 4, .array .int), (G 5, .array .long)]
def pw (G : Nat → ClassId) (L : List Nat) (S : PH) : va_W := [] ++ va_pl L (fun a => toE G (S a))
def sup (L : List Nat) (S : PH) : Prop := ∀ a, (S a).isSome = true → a ∈ L
theorem pw_get {G : Nat → ClassId} {L : List Nat} {S : PH} {a : Nat} (h : a ∈ L) : ∃ k : Nat, (pw G L S)[k]? = some (a, toE G (S a)) := va_pl_get (X := []) (f := fun a => toE G (S a)) h
theorem pw_at {G : Nat → ClassId} {L : List Nat} {S : PH} {a : Nat} {x : PE} (hs : sup L S) (h : S a = some x) : a ∈ L ∧ ∃ k : Nat, (pw G L S)[k]? = some (a, toE G (some x)) ∧ (pw G L S)[k]? = some (a, toE G (S a)) := by
  have ha : a ∈ L := hs a (by rw [h]; rfl)
  obtain ⟨k, hk⟩ := pw_get (G := G) (S := S) ha
  exact ⟨ha, k, by rw [hk, h], hk⟩
theorem pw_set {A : Nat → Prop} {G : Nat → ClassId} {L : List Nat} {S : PH} {a q : Nat} (hD : va_D A (pw G L S)) (ha : a ∈ L) (hq : (pw G L S)[q]? = some (a, toE G (S a))) (x : PE) : (pw G L S).set q (a, toE G (some x)) = pw G L (va_up S a (some x)) := by
  have h := va_pl_set (X := []) (e := toE G (some x)) hD ha hq
  refine h.trans ?_
  refine congrArg (fun l => ([] : va_W) ++ l) (va_pl_congr (fun b => ?_))
  by_cases hb : b = a
  · subst hb
    rw [va_up_self, va_up_self]
  · rw [va_up_ne _ _ hb, va_up_ne _ _ hb]
theorem sup_up {L : List Nat} {S : PH} {a : Nat} {x : PE} (hs : sup L S) (ha : a ∈ L) : sup L (va_up S a (some x)) := by
  intro b hb
  by_cases h : b = a
  · rw [h]; exact ha
  · rw [va_up_ne _ _ h] at hb
    exact hs b hb
/-! ===== what a program reads and writes there ===== -/
def oF (S : PH) (a ci k : Nat) : Option Value := match S a with
  | some (.inr (.inr (.inr (.inr (c, fs))))) => if c = ci then fs[k]? else none
  | _ => none
def gI (S : PH) (a ci k : Nat) : Option Int32 := match oF S a ci k with
  | some (.int v) => some v
  | _ => none
def gR (S : PH) (a ci k : Nat) : Option Nat := match oF S a ci k with
  | some (.ref v) => some v
  | _ => none
def ckO (S : PH) (a ci : Nat) : Option Unit := match S a with
  | some (.inr (.inr (.inr (.inr (c, _))))) => if c = ci then some () else none
  | _ => none
def pF (S : PH) (a ci k : Nat) (v : Value) : Option PH := match S a with
  | some (.inr (.inr (.inr (.inr (c, fs))))) => if c = ci ∧ k < fs.length then some (va_up S a (some (eO c (fs.set k v)))) else none
  | _ => none
abbrev pI (S : PH) (a ci k : Nat) (v : Int32) : Option PH := pF S a ci k (.int v)
abbrev pR (S : PH) (a ci k : Nat) (v : Nat) : Option PH := pF S a ci k (.ref v)
def ldI (S : PH) (a : Nat) (i : Int32) : Option Int32 := match S a with
  | some (.inl (n, f)) => if i < 0 ∨ n ≤ i.toNatClampNeg then none else some (f i.toNatClampNeg)
  | _ => none
def ldJ (S : PH) (a : Nat) (i : Int32) : Option Int64 := match S a with
  | some (.inr (.inl (n, f))) => if i < 0 ∨ n ≤ i.toNatClampNeg then none else some (f i.toNatClampNeg)
  | _ => none
def ldZ (S : PH) (a : Nat) (i : Int32) : Option Int32 := match S a with
  | some (.inr (.inr (.inl (n, f)))) => if i < 0 ∨ n ≤ i.toNatClampNeg then none else some (f i.toNatClampNeg)
  | _ => none
def ldR (kd : Nat) (S : PH) (a : Nat) (i : Int32) : Option Nat := match S a with
  | some (.inr (.inr (.inr (.inl (k, n, f))))) => if k = kd then (if i < 0 ∨ n ≤ i.toNatClampNeg then none else f i.toNatClampNeg) else none
  | _ => none
def stI (S : PH) (a : Nat) (i v : Int32) : Option PH := match S a with
  | some (.inl (n, f)) => if i < 0 ∨ n ≤ i.toNatClampNeg then none else some (va_up S a (some (eI n (upd f i.toNatClampNeg v))))
  | _ => none
def stJ (S : PH) (a : Nat) (i : Int32) (v : Int64) : Option PH := match S a with
  | some (.inr (.inl (n, f))) => if i < 0 ∨ n ≤ i.toNatClampNeg then none else some (va_up S a (some (eJ n (vp_updL f i.toNatClampNeg v))))
  | _ => none
def stZ (S : PH) (a : Nat) (i v : Int32) : Option PH := match S a with
  | some (.inr (.inr (.inl (n, f)))) => if i < 0 ∨ n ≤ i.toNatClampNeg then none else some (va_up S a (some (eZ n (upd f i.toNatClampNeg (vp_nar .boolean v)))))
  | _ => none
def lnI (S : PH) (a : Nat) : Option Int32 := match S a with
  | some (.inl (n, _)) => some (Int32.ofNat n)
  | _ => none
def lnJ (S : PH) (a : Nat) : Option Int32 := match S a with
  | some (.inr (.inl (n, _))) => some (Int32.ofNat n)
  | _ => none
def cpI (S : PH) (a : Nat) (sp : Int32) (b : Nat) (dp n : Int32) : Option PH := match S a, S b with
  | some (.inl (n0, f)), some (.inl (n1, g)) => if sp < 0 ∨ dp < 0 ∨ n < 0 ∨ n0 < sp.toNatClampNeg + n.toNatClampNeg ∨ n1 < dp.toNatClampNeg + n.toNatClampNeg then none else some (va_up S b (some (eI n1 (va_cpy f g sp.toNatClampNeg dp.toNatClampNeg n.toNatClampNeg))))
  | _, _ => none
def cpJ (S : PH) (a : Nat) (sp : Int32) (b : Nat) (dp n : Int32) : Option PH := match S a, S b with
  | some (.inr (.inl (n0, f))), some (.inr (.inl (n1, g))) => if sp < 0 ∨ dp < 0 ∨ n < 0 ∨ n0 < sp.toNatClampNeg + n.toNatClampNeg ∨ n1 < dp.toNatClampNeg + n.toNatClampNeg then none else some (va_up S b (some (eJ n1 (va_cpy f g sp.toNatClampNeg dp.toNatClampNeg n.toNatClampNeg))))
  | _, _ => none
def dvI (x y : Int32) : Option Int32 := if y = 0 then none else some (x / y)
def rmI (x y : Int32) : Option Int32 := if y = 0 then none else some (x - x / y * y)
def ckZ (v : Int32) : Option Unit := if v = 0 ∨ v = 1 then some () else none
def nm {α β : Type} (x : α) (f : α → β) : β := f x
theorem nm_ex {α β : Type} {x : α} {f : α → Option β} {r : β} (h : nm x f = some r) : ∃ v, v = x ∧ f v = some r := ⟨x, rfl, h⟩
/-! ===== and what it says of the map that it is defined ===== -/
theorem oF_some {S : PH} {a ci k : Nat} {v : Value} (h : oF S a ci k = some v) : ∃ fs, S a = some (eO ci fs) ∧ fs[k]? = some v := by
  unfold oF at h
  split at h
  · rename_i c fs he
    split at h
    · rename_i hc
      subst hc
      exact ⟨fs, he, h⟩
    · cases h
  · cases h
theorem gI_some {S : PH} {a ci k : Nat} {v : Int32} (h : gI S a ci k = some v) : ∃ fs, S a = some (eO ci fs) ∧ fs[k]? = some (.int v) := by
  unfold gI at h
  split at h
  · rename_i w he
    cases h
    exact oF_some he
  · cases h
theorem gR_some {S : PH} {a ci k v : Nat} (h : gR S a ci k = some v) : ∃ fs, S a = some (eO ci fs) ∧ fs[k]? = some (.ref v) := by
  unfold gR at h
  split at h
  · rename_i w he
    cases h
    exact oF_some he
  · cases h
theorem ckO_some {S : PH} {a ci : Nat} {u : Unit} (h : ckO S a ci = some u) : ∃ fs, S a = some (eO ci fs) := by
  unfold ckO at h
  split at h
  · rename_i c fs he
    split at h
    · rename_i hc
      subst hc
      exact ⟨fs, he⟩
    · cases h
  · cases h
theorem pF_some {S S' : PH} {a ci k : Nat} {v : Value} (h : pF S a ci k v = some S') : ∃ fs, S a = some (eO ci fs) ∧ k < fs.length ∧ S' = va_up S a (some (eO ci (fs.set k v))) := by
  unfold pF at h
  split at h
  · rename_i c fs he
    split at h
    · rename_i hc
      obtain ⟨hc, hl⟩ := hc
      subst hc
      cases h
      exact ⟨fs, he, hl, rfl⟩
    · cases h
  · cases h
theorem ldI_some {S : PH} {a : Nat} {i v : Int32} (h : ldI S a i = some v) : ∃ n f, S a = some (eI n f) ∧ vp_in i n ∧ f i.toNatClampNeg = v := by
  unfold ldI at h
  split at h
  · rename_i n f he
    split at h
    · cases h
    · rename_i hc
      exact ⟨n, f, he, hc, Option.some.inj h⟩
  · cases h
theorem ldJ_some {S : PH} {a : Nat} {i : Int32} {v : Int64} (h : ldJ S a i = some v) : ∃ n f, S a = some (eJ n f) ∧ vp_in i n ∧ f i.toNatClampNeg = v := by
  unfold ldJ at h
  split at h
  · rename_i n f he
    split at h
    · cases h
    · rename_i hc
      exact ⟨n, f, he, hc, Option.some.inj h⟩
  · cases h
theorem ldZ_some {S : PH} {a : Nat} {i v : Int32} (h : ldZ S a i = some v) : ∃ n f, S a = some (eZ n f) ∧ vp_in i n ∧ f i.toNatClampNeg = v := by
  unfold ldZ at h
  split at h
  · rename_i n f he
    split at h
    · cases h
    · rename_i hc
      exact ⟨n, f, he, hc, Option.some.inj h⟩
  · cases h
theorem ldR_some {kd : Nat} {S : PH} {a v : Nat} {i : Int32} (h : ldR kd S a i = some v) : ∃ n f, S a = some (eR kd n f) ∧ vp_in i n ∧ f i.toNatClampNeg = some v := by
  unfold ldR at h
  split at h
  · rename_i k n f he
    split at h
    · rename_i hk
      subst hk
      split at h
      · cases h
      · rename_i hc
        exact ⟨n, f, he, hc, h⟩
    · cases h
  · cases h
theorem stI_some {S S' : PH} {a : Nat} {i v : Int32} (h : stI S a i v = some S') : ∃ n f, S a = some (eI n f) ∧ vp_in i n ∧ S' = va_up S a (some (eI n (upd f i.toNatClampNeg v))) := by
  unfold stI at h
  split at h
  · rename_i n f he
    split at h
    · cases h
    · rename_i hc
      exact ⟨n, f, he, hc, (Option.some.inj h).symm⟩
  · cases h
theorem stJ_some {S S' : PH} {a : Nat} {i : Int32} {v : Int64} (h : stJ S a i v = some S') : ∃ n f, S a = some (eJ n f) ∧ vp_in i n ∧ S' = va_up S a (some (eJ n (vp_updL f i.toNatClampNeg v))) := by
  unfold stJ at h
  split at h
  · rename_i n f he
    split at h
    · cases h
    · rename_i hc
      exact ⟨n, f, he, hc, (Option.some.inj h).symm⟩
  · cases h
theorem stZ_some {S S' : PH} {a : Nat} {i v : Int32} (h : stZ S a i v = some S') : ∃ n f, S a = some (eZ n f) ∧ vp_in i n ∧ S' = va_up S a (some (eZ n (upd f i.toNatClampNeg (vp_nar .boolean v)))) := by
  unfold stZ at h
  split at h
  · rename_i n f he
    split at h
    · cases h
    · rename_i hc
      exact ⟨n, f, he, hc, (Option.some.inj h).symm⟩
  · cases h
theorem lnI_some {S : PH} {a : Nat} {v : Int32} (h : lnI S a = some v) : ∃ n f, S a = some (eI n f) ∧ Int32.ofNat n = v := by
  unfold lnI at h
  split at h
  · rename_i n f he
    exact ⟨n, f, he, Option.some.inj h⟩
  · cases h
theorem lnJ_some {S : PH} {a : Nat} {v : Int32} (h : lnJ S a = some v) : ∃ n f, S a = some (eJ n f) ∧ Int32.ofNat n = v := by
  unfold lnJ at h
  split at h
  · rename_i n f he
    exact ⟨n, f, he, Option.some.inj h⟩
  · cases h
theorem cpI_some {S S' : PH} {a b : Nat} {sp dp n : Int32} (h : cpI S a sp b dp n = some S') : ∃ n0 f n1 g, S a = some (eI n0 f) ∧ S b = some (eI n1 g) ∧ ¬ sp < 0 ∧ ¬ dp < 0 ∧ ¬ n < 0 ∧ sp.toNatClampNeg + n.toNatClampNeg ≤ n0 ∧ dp.toNatClampNeg + n.toNatClampNeg ≤ n1 ∧ S' = va_up S b (some (eI n1 (va_cpy f g sp.toNatClampNeg dp.toNatClampNeg n.toNatClampNeg))) := by
  unfold cpI at h
  split at h
  · rename_i n0 f n1 g h0 h1
    split at h
    · cases h
    · rename_i hc
      exact ⟨n0, f, n1, g, h0, h1, fun q => hc (Or.inl q), fun q => hc (Or.inr (Or.inl q)), fun q => hc (Or.inr (Or.inr (Or.inl q))), Nat.not_lt.mp fun q => hc (Or.inr (Or.inr (Or.inr (Or.inl q)))), Nat.not_lt.mp fun q => hc (Or.inr (Or.inr (Or.inr (Or.inr q)))), (Option.some.inj h).symm⟩
  · cases h
theorem cpJ_some {S S' : PH} {a b : Nat} {sp dp n : Int32} (h : cpJ S a sp b dp n = some S') : ∃ n0 f n1 g, S a = some (eJ n0 f) ∧ S b = some (eJ n1 g) ∧ ¬ sp < 0 ∧ ¬ dp < 0 ∧ ¬ n < 0 ∧ sp.toNatClampNeg + n.toNatClampNeg ≤ n0 ∧ dp.toNatClampNeg + n.toNatClampNeg ≤ n1 ∧ S' = va_up S b (some (eJ n1 (va_cpy f g sp.toNatClampNeg dp.toNatClampNeg n.toNatClampNeg))) := by
  unfold cpJ at h
  split at h
  · rename_i n0 f n1 g h0 h1
    split at h
    · cases h
    · rename_i hc
      exact ⟨n0, f, n1, g, h0, h1, fun q => hc (Or.inl q), fun q => hc (Or.inr (Or.inl q)), fun q => hc (Or.inr (Or.inr (Or.inl q))), Nat.not_lt.mp fun q => hc (Or.inr (Or.inr (Or.inr (Or.inl q)))), Nat.not_lt.mp fun q => hc (Or.inr (Or.inr (Or.inr (Or.inr q)))), (Option.some.inj h).symm⟩
  · cases h
theorem dvI_some {x y v : Int32} (h : dvI x y = some v) : ¬ y = 0 ∧ x / y = v := by
  unfold dvI at h
  split at h
  · cases h
  · rename_i hc
    exact ⟨hc, Option.some.inj h⟩
theorem rmI_some {x y v : Int32} (h : rmI x y = some v) : ¬ y = 0 ∧ x - x / y * y = v := by
  unfold rmI at h
  split at h
  · cases h
  · rename_i hc
    exact ⟨hc, Option.some.inj h⟩
theorem ckZ_some {v : Int32} {u : Unit} (h : ckZ v = some u) : narrow .boolean (.int v) = .int v := by
  unfold ckZ at h
  split at h
  · rename_i hc
    rcases hc with rfl | rfl <;> rfl
  · cases h
/-! ===== chains ===== -/
theorem bs {α β : Type} {x : Option α} {f : α → Option β} {r : β} (h : x.bind f = some r) : ∃ a, x = some a ∧ f a = some r := by
  cases x with
  | none => cases h
  | some a => exact ⟨a, rfl, h⟩
def bd2 {α β γ : Type} (x : Option (α × β)) (f : α → β → Option γ) : Option γ := x.bind (fun y => f y.1 y.2)
theorem bs2 {α β γ : Type} {x : Option (α × β)} {f : α → β → Option γ} {r : γ} (h : bd2 x f = some r) : ∃ a b, x = some (a, b) ∧ f a b = some r := by
  obtain ⟨⟨a, b⟩, h1, h2⟩ := bs h
  exact ⟨a, b, h1, h2⟩
def bd3 {α β γ δ : Type} (x : Option (α × β × γ)) (f : α → β → γ → Option δ) : Option δ := x.bind (fun y => f y.1 y.2.1 y.2.2)
theorem bs3 {α β γ δ : Type} {x : Option (α × β × γ)} {f : α → β → γ → Option δ} {r : δ} (h : bd3 x f = some r) : ∃ a b c, x = some (a, b, c) ∧ f a b c = some r := by
  obtain ⟨⟨a, b, c⟩, h1, h2⟩ := bs h
  exact ⟨a, b, c, h1, h2⟩
def bd4 {α β γ δ ε : Type} (x : Option (α × β × γ × δ)) (f : α → β → γ → δ → Option ε) : Option ε := x.bind (fun y => f y.1 y.2.1 y.2.2.1 y.2.2.2)
theorem bs4 {α β γ δ ε : Type} {x : Option (α × β × γ × δ)} {f : α → β → γ → δ → Option ε} {r : ε} (h : bd4 x f = some r) : ∃ a b c d, x = some (a, b, c, d) ∧ f a b c d = some r := by
  obtain ⟨⟨a, b, c, d⟩, h1, h2⟩ := bs h
  exact ⟨a, b, c, d, h1, h2⟩
def bdS {α β γ : Type} (x : Option (α ⊕ β)) (f : α → Option γ) (g : β → Option γ) : Option γ := x.bind (fun y => y.elim f g)
theorem bsS {α β γ : Type} {x : Option (α ⊕ β)} {f : α → Option γ} {g : β → Option γ} {r : γ} (h : bdS x f g = some r) : (∃ a, x = some (.inl a) ∧ f a = some r) ∨ ∃ b, x = some (.inr b) ∧ g b = some r := by
  obtain ⟨y, h1, h2⟩ := bs h
  cases y with
  | inl a => exact Or.inl ⟨a, h1, h2⟩
  | inr b => exact Or.inr ⟨b, h1, h2⟩
theorem it {α : Type} {q : Prop} [Decidable q] {a b : α} {r : α} (hq : q) (h : (if q then a else b) = r) : a = r := by rw [if_pos hq] at h; exact h
theorem ie {α : Type} {q : Prop} [Decidable q] {a b : α} {r : α} (hq : ¬ q) (h : (if q then a else b) = r) : b = r := by rw [if_neg hq] at h; exact h
/-- a loop, by fuel -/
def FU : Nat := 1048576
def lpo {σ ε : Type} (b : σ → Option (σ ⊕ ε)) : Nat → σ → Option ε
  | 0, _ => none
  | n + 1, x => (b x).bind fun y => y.elim (lpo b n) some
theorem lpo_W {σ ε : Type} {b : σ → Option (σ ⊕ ε)} {P : σ → Prop} {e : ε} (hs : ∀ x y, b x = some y → (∀ x', y = .inl x' → P x') → (∀ e', y = .inr e' → e' = e) → P x) : ∀ (n : Nat) (x : σ), lpo b n x = some e → P x := by
  intro n
  induction n with
  | zero => intro x h; cases h
  | succ n ih =>
    intro x h
    obtain ⟨y, h1, h2⟩ := bs (show (b x).bind (fun y => y.elim (lpo b n) some) = some e from h)
    refine hs x y h1 (fun x' hx => ?_) (fun e' he => ?_)
    · subst hx
      exact ih x' h2
    · subst he
      exact Option.some.inj h2
end
section
/-! ===== a method's world: the map S of the cells L ===== -/
def PreU (D : va_G) (G : Nat → ClassId) (L : List Nat) (S : PH) (U : State) : Prop := sup L S ∧ va_P D vwCl (pw G L S) U.heap ∧ va_D (fun q => q ∈ L) (pw G L S) ∧ va_K D vwCl (gtys G) U ∧ TB U
def Wd (D : va_G) (G : Nat → ClassId) (L : List Nat) (A : Nat → Prop) (H0 : Heap) (S : PH) (H : Heap) (locs : List Loc) : Prop := sup L S ∧ va_P D vwCl (pw G L S) H ∧ va_D A (pw G L S) ∧ va_S A H0 H locs
abbrev CX (p : Program) (s : State) (m : MethodId) (c : Code) (args : Array Value) (D : va_G) (G : Nat → ClassId) (cc : ByteArray) (nL : Nat) (own : String) : Prop := CallFix p m c cc nL s args tb own ∧ va_K D vwCl (gtys G) s ∧ TB s
abbrev inL (L : List Nat) : Nat → Prop := fun q => q ∈ L
abbrev Qi (D : va_G) (G : Nat → ClassId) (L : List Nat) (r : Int32) (S : PH) : Array Value → State → Outcome → State → Prop := va_Qi (fun (r' : Int32) (u : PH) => r' = r ∧ u = S) (PreU D G L) (inL L)
abbrev Ql (D : va_G) (G : Nat → ClassId) (L : List Nat) (r : Int64) (S : PH) : Array Value → State → Outcome → State → Prop := va_Ql (fun (r' : Int64) (u : PH) => r' = r ∧ u = S) (PreU D G L) (inL L)
abbrev Qv (D : va_G) (G : Nat → ClassId) (L : List Nat) (S : PH) : Array Value → State → Outcome → State → Prop := va_Qv (fun (u : PH) => u = S) (PreU D G L) (inL L)
abbrev Qr (D : va_G) (G : Nat → ClassId) (L : List Nat) (r : Nat) (S : PH) : Array Value → State → Outcome → State → Prop := va_Qr (fun (u : PH) => u = S) (fun u a t => a = r ∧ PreU D G L u t) (inL L)
theorem pw_base {G : Nat → ClassId} {L : List Nat} {S : PH} {k : Nat} {q : Nat × va_E} (h : (pw G L S)[k]? = some q) : q.1 ∈ L := by
  have h1 : q ∈ va_pl L (fun a => toE G (S a)) := List.mem_of_getElem? (show (va_pl L (fun a => toE G (S a)))[k]? = some q from h)
  obtain ⟨a, ha, rfl⟩ := List.mem_map.mp h1
  exact ha
theorem PreU_blind {D : va_G} {G : Nat → ClassId} {L : List Nat} {S : PH} (av : List Value) : FrameBlind (va_Pc av (PreU D G L S)) := by
  intro a U g mk ⟨h0, h1, h2, h3, h4, h5⟩
  exact ⟨h0, h1, h2, h3, va_K.moved (u := U) (U := U.calling g mk a) (Vm.Alike.refl U.vm) h4, TB_moved (U := U.calling g mk a) (State.WarmedH.refl U) h5⟩
def FL (own : String) (index ci k : Nat) : Prop := ∃ (Cn : String) (T : u_T) (N : Nat), vwCl[ci]? = some (Cn, T, N) ∧ (∀ w ∈ u_ws Cn T N, w ∈ tb) ∧ k < N ∧ (Cond.fieldLink own index (T k).1 (T k).2.1 (T k).2.2.1 ∈ tb ∨ ∃ host, Cond.fieldLinkNest own index (T k).1 (T k).2.1 (T k).2.2.1 host ∈ tb)
def FP (own : String) (index ci k : Nat) (ty : FieldType) : Prop := ∃ (Cn : String) (T : u_T) (N : Nat) (ty0 : Nat → FieldType), vwCl[ci]? = some (Cn, T, N) ∧ (∀ w ∈ u_ws Cn T N, w ∈ tb) ∧ k < N ∧ (Cond.fieldLink own index (T k).1 (T k).2.1 (T k).2.2.1 ∈ tb ∨ ∃ host, Cond.fieldLinkNest own index (T k).1 (T k).2.1 (T k).2.2.1 host ∈ tb) ∧ (∀ k, k < N → parseFieldDescriptor (T k).2.2.1 = some (ty0 k)) ∧ (∀ a, a < N → ∀ b, b < N → a ≠ b → (T a).2.1 ≠ (T b).2.1) ∧ (T k).2.2.2 = false ∧ parseFieldDescriptor (T k).2.2.1 = some ty
def ML (own : String) (index : Nat) (y : MethodName) (bytes : ByteArray) (maxL : Nat) (ret : Option FieldType) (n : Nat) : Prop := (Cond.methodLink own index y ∈ tb ∨ ∃ host, Cond.methodLinkNest own index y host ∈ tb) ∧ Cond.initialized y.cls ∈ tb ∧ Cond.code y bytes maxL ret ∈ tb ∧ (y.cls ≠ "java/lang/invoke/MethodHandle" ∧ y.cls ≠ "java/lang/invoke/VarHandle") ∧ (parseMethodDescriptor y.desc).map (fun d => d.parameters.length) = some n
def MV (ci : Nat) (y : MethodName) : Prop := Cond.instanceMethod y ∈ tb ∧ Cond.selects y.cls y y ∈ tb ∧ ∃ q : vw_C, vwCl[ci]? = some q ∧ q.1 = y.cls
theorem ml_len {y : MethodName} {n : Nat} (h : (parseMethodDescriptor y.desc).map (fun d => d.parameters.length) = some n) : ∀ sig, parseMethodDescriptor y.desc = some sig → n = sig.parameters.length := by
  intro sig hs
  rw [hs] at h
  exact (Option.some.inj h).symm
section OPS
variable {p : Program} {l : Launch} {e : Env} {R : Room} {s : State} {m : MethodId} {args : Array Value} {below : List Frame} {meth : Method} {c : Code} {H : Heap} {locs : List Loc} {cells slots : Nat} {Q : State → Prop}
variable {cc : ByteArray} {nL pc : Nat} {ls : Array Slot} {rest : List Value} {D : va_G} {G : Nat → ClassId} {L : List Nat} {A : Nat → Prop} {H0 : Heap} {S S1 : PH} {own : String}
theorem o_gI (C : CX p s m c args D G cc nL own) (w : Wd D G L A H0 S H locs) {a ci k index : Nat} {v : Int32} (h : gI S a ci k = some v) (f : FL own index ci k) (hdg : decode cc pc = .ok (.getfield index, 3)) (kk : W p l e R s m args below meth c H locs cells slots Q (F0 m (pc + 3) ls (.int v :: rest))) : W p l e R s m args below meth c H locs cells slots Q (F0 m pc ls (.ref a :: rest)) := by
  obtain ⟨⟨hx, hb, hml, hown, hts⟩, hK, -⟩ := C
  obtain ⟨hs, hP, hD, hS⟩ := w
  obtain ⟨Cn, T, N, hc, hin, hk, hlink⟩ := f
  obtain ⟨fs, hSa, hv⟩ := gI_some h
  obtain ⟨-, q, hq, -⟩ := pw_at (G := G) hs hSa
  rcases hlink with hlink | ⟨host, hlink⟩
  · exact va_get hx hb hts hin hown hK hP q hq hc k hk (hts _ hlink) (fun _ h9 => h9) hv hdg kk
  · exact va_getN hx hb hts hin hown hK hP q hq hc k hk (hts _ hlink) (fun _ h9 => h9) hv hdg kk
theorem o_gR (C : CX p s m c args D G cc nL own) (w : Wd D G L A H0 S H locs) {a ci k index : Nat} {v : Nat} (h : gR S a ci k = some v) (f : FL own index ci k) (hdg : decode cc pc = .ok (.getfield index, 3)) (kk : W p l e R s m args below meth c H locs cells slots Q (F0 m (pc + 3) ls (.ref v :: rest))) : W p l e R s m args below meth c H locs cells slots Q (F0 m pc ls (.ref a :: rest)) := by
  obtain ⟨⟨hx, hb, hml, hown, hts⟩, hK, -⟩ := C
  obtain ⟨hs, hP, hD, hS⟩ := w
  obtain ⟨Cn, T, N, hc, hin, hk, hlink⟩ := f
  obtain ⟨fs, hSa, hv⟩ := gR_some h
  obtain ⟨-, q, hq, -⟩ := pw_at (G := G) hs hSa
  rcases hlink with hlink | ⟨host, hlink⟩
  · exact va_get hx hb hts hin hown hK hP q hq hc k hk (hts _ hlink) (fun _ h9 => h9) hv hdg kk
  · exact va_getN hx hb hts hin hown hK hP q hq hc k hk (hts _ hlink) (fun _ h9 => h9) hv hdg kk
theorem o_pF (C : CX p s m c args D G cc nL own) (w : Wd D G L A H0 S H locs) {a ci k index : Nat} {v : Value} {ty : FieldType} (h : pF S a ci k v = some S1) (f : FP own index ci k ty) (hn : narrow ty v = v) (hf : fits ty v = true) (hdg : decode cc pc = .ok (.putfield index, 3)) (kk : ∀ (H1 : Heap) (locs1 : List Loc), Wd D G L A H0 S1 H1 locs1 → W p l e R s m args below meth c H1 locs1 cells slots Q (F0 m (pc + 3) ls (rest))) : W p l e R s m args below meth c H locs cells slots Q (F0 m pc ls (v :: .ref a :: rest)) := by
  obtain ⟨⟨hx, hb, hml, hown, hts⟩, hK, -⟩ := C
  obtain ⟨hs, hP, hD, hS⟩ := w
  obtain ⟨Cn, T, N, ty0, hc, hin, hk, hlink, hty, hnm, hfin, hd⟩ := f
  obtain ⟨fs, hSa, hl, rfl⟩ := pF_some h
  obtain ⟨ha, q, hq, hq2⟩ := pw_at (G := G) hs hSa
  have key : ∀ (H1 : Heap) (locs1 : List Loc), va_P D vwCl ((pw G L S).set q (a, .inr (ci, fs.set k v))) H1 → va_D A ((pw G L S).set q (a, .inr (ci, fs.set k v))) → va_S A H0 H1 locs1 → W p l e R s m args below meth c H1 locs1 cells slots Q (F0 m (pc + 3) ls (rest)) := by
    intro H1 locs1 g1 g2 g3
    have hw := pw_set hD ha hq2 (eO ci (fs.set k v))
    exact kk H1 locs1 ⟨sup_up hs ha, by rw [← hw]; exact g1, by rw [← hw]; exact g2, g3⟩
  rcases hlink with hlink | ⟨host, hlink⟩
  · exact va_put hx hb hts hin ty0 hty hnm hown hK hP hD hS q hq hc k hk (hts _ hlink) (fun _ h9 => h9) hfin hd hn hf hl hdg key
  · exact va_putN hx hb hts hin ty0 hty hnm hown hK hP hD hS q hq hc k hk (hts _ hlink) (fun _ h9 => h9) hfin hd hn hf hl hdg key
theorem o_ldI (C : CX p s m c args D G cc nL own) (w : Wd D G L A H0 S H locs) {a : Nat} {i : Int32} {v : Int32} (h : ldI S a i = some v) (hdg : decode cc pc = .ok (.iaload, 1)) (kk : W p l e R s m args below meth c H locs cells slots Q (F0 m (pc + 1) ls (.int v :: rest))) : W p l e R s m args below meth c H locs cells slots Q (F0 m pc ls (.int i :: .ref a :: rest)) := by
  obtain ⟨⟨hx, hb, hml, hown, hts⟩, hK, -⟩ := C
  obtain ⟨hs, hP, hD, hS⟩ := w
  obtain ⟨n, f, hSa, hin, rfl⟩ := ldI_some h
  obtain ⟨-, q, hq, -⟩ := pw_at (G := G) hs hSa
  exact va_iald hx hb hK hP q 0 hq rfl hin hdg kk
theorem o_ldJ (C : CX p s m c args D G cc nL own) (w : Wd D G L A H0 S H locs) {a : Nat} {i : Int32} {v : Int64} (h : ldJ S a i = some v) (hdg : decode cc pc = .ok (.laload, 1)) (kk : W p l e R s m args below meth c H locs cells slots Q (F0 m (pc + 1) ls (.long v :: rest))) : W p l e R s m args below meth c H locs cells slots Q (F0 m pc ls (.int i :: .ref a :: rest)) := by
  obtain ⟨⟨hx, hb, hml, hown, hts⟩, hK, -⟩ := C
  obtain ⟨hs, hP, hD, hS⟩ := w
  obtain ⟨n, f, hSa, hin, rfl⟩ := ldJ_some h
  obtain ⟨-, q, hq, -⟩ := pw_at (G := G) hs hSa
  exact va_lald hx hb hK hP q 1 hq rfl hin hdg kk
theorem o_ldZ (C : CX p s m c args D G cc nL own) (w : Wd D G L A H0 S H locs) {a : Nat} {i : Int32} {v : Int32} (h : ldZ S a i = some v) (hdg : decode cc pc = .ok (.baload, 1)) (kk : W p l e R s m args below meth c H locs cells slots Q (F0 m (pc + 1) ls (.int v :: rest))) : W p l e R s m args below meth c H locs cells slots Q (F0 m pc ls (.int i :: .ref a :: rest)) := by
  obtain ⟨⟨hx, hb, hml, hown, hts⟩, hK, -⟩ := C
  obtain ⟨hs, hP, hD, hS⟩ := w
  obtain ⟨n, f, hSa, hin, rfl⟩ := ldZ_some h
  obtain ⟨-, q, hq, -⟩ := pw_at (G := G) hs hSa
  exact va_zald hx hb hK hP q 2 hq rfl hin hdg kk
theorem o_ldR0 (C : CX p s m c args D G cc nL own) (w : Wd D G L A H0 S H locs) {a v : Nat} {i : Int32} (h : ldR 0 S a i = some v) (hdg : decode cc pc = .ok (.aaload, 1)) (kk : W p l e R s m args below meth c H locs cells slots Q (F0 m (pc + 1) ls (.ref v :: rest))) : W p l e R s m args below meth c H locs cells slots Q (F0 m pc ls (.int i :: .ref a :: rest)) := by
  obtain ⟨⟨hx, hb, hml, hown, hts⟩, hK, -⟩ := C
  obtain ⟨hs, hP, hD, hS⟩ := w
  obtain ⟨n, f, hSa, hin, hv⟩ := ldR_some h
  obtain ⟨-, q, hq, -⟩ := pw_at (G := G) hs hSa
  have hlt : i.toNatClampNeg < n := Nat.not_le.mp fun q => hin (Or.inr q)
  have ht : (gtys G)[3]? = some (G 3, .object "SumsThatTell$State") := rfl
  have kk2 : W p l e R s m args below meth c H locs cells slots Q (F0 m (pc + 1) ls (va_rf (f i.toNatClampNeg) :: rest)) := by rw [hv]; exact kk
  exact W.aald (v := va_rf (f i.toNatClampNeg)) (ty := .object "SumsThatTell$State") hx hb (hP q _ hq) ((hK.2 3 _ ht).1 n (fun j => va_rf (f j))) rfl (fun q => by cases q) (by show ¬ (i < 0 ∨ (arrV _ _ _).slots.size ≤ _); rw [arrV_size]; exact hin) (by show (arrV _ _ _).slots[_]? = _; rw [arrV_read _ _ hlt]) rfl rfl hdg kk2
theorem o_ldR1 (C : CX p s m c args D G cc nL own) (w : Wd D G L A H0 S H locs) {a v : Nat} {i : Int32} (h : ldR 1 S a i = some v) (hdg : decode cc pc = .ok (.aaload, 1)) (kk : W p l e R s m args below meth c H locs cells slots Q (F0 m (pc + 1) ls (.ref v :: rest))) : W p l e R s m args below meth c H locs cells slots Q (F0 m pc ls (.int i :: .ref a :: rest)) := by
  obtain ⟨⟨hx, hb, hml, hown, hts⟩, hK, -⟩ := C
  obtain ⟨hs, hP, hD, hS⟩ := w
  obtain ⟨n, f, hSa, hin, hv⟩ := ldR_some h
  obtain ⟨-, q, hq, -⟩ := pw_at (G := G) hs hSa
  have hlt : i.toNatClampNeg < n := Nat.not_le.mp fun q => hin (Or.inr q)
  have ht : (gtys G)[4]? = some (G 4, .array .int) := rfl
  have kk2 : W p l e R s m args below meth c H locs cells slots Q (F0 m (pc + 1) ls (va_rf (f i.toNatClampNeg) :: rest)) := by rw [hv]; exact kk
  exact W.aald (v := va_rf (f i.toNatClampNeg)) (ty := .array .int) hx hb (hP q _ hq) ((hK.2 4 _ ht).1 n (fun j => va_rf (f j))) rfl (fun q => by cases q) (by show ¬ (i < 0 ∨ (arrV _ _ _).slots.size ≤ _); rw [arrV_size]; exact hin) (by show (arrV _ _ _).slots[_]? = _; rw [arrV_read _ _ hlt]) rfl rfl hdg kk2
theorem o_ldR2 (C : CX p s m c args D G cc nL own) (w : Wd D G L A H0 S H locs) {a v : Nat} {i : Int32} (h : ldR 2 S a i = some v) (hdg : decode cc pc = .ok (.aaload, 1)) (kk : W p l e R s m args below meth c H locs cells slots Q (F0 m (pc + 1) ls (.ref v :: rest))) : W p l e R s m args below meth c H locs cells slots Q (F0 m pc ls (.int i :: .ref a :: rest)) := by
  obtain ⟨⟨hx, hb, hml, hown, hts⟩, hK, -⟩ := C
  obtain ⟨hs, hP, hD, hS⟩ := w
  obtain ⟨n, f, hSa, hin, hv⟩ := ldR_some h
  obtain ⟨-, q, hq, -⟩ := pw_at (G := G) hs hSa
  have hlt : i.toNatClampNeg < n := Nat.not_le.mp fun q => hin (Or.inr q)
  have ht : (gtys G)[5]? = some (G 5, .array .long) := rfl
  have kk2 : W p l e R s m args below meth c H locs cells slots Q (F0 m (pc + 1) ls (va_rf (f i.toNatClampNeg) :: rest)) := by rw [hv]; exact kk
  exact W.aald (v := va_rf (f i.toNatClampNeg)) (ty := .array .long) hx hb (hP q _ hq) ((hK.2 5 _ ht).1 n (fun j => va_rf (f j))) rfl (fun q => by cases q) (by show ¬ (i < 0 ∨ (arrV _ _ _).slots.size ≤ _); rw [arrV_size]; exact hin) (by show (arrV _ _ _).slots[_]? = _; rw [arrV_read _ _ hlt]) rfl rfl hdg kk2
theorem o_stI (C : CX p s m c args D G cc nL own) (w : Wd D G L A H0 S H locs) {a : Nat} {i : Int32} {v : Int32} (h : stI S a i v = some S1) (hdg : decode cc pc = .ok (.iastore, 1)) (kk : ∀ (H1 : Heap) (locs1 : List Loc), Wd D G L A H0 S1 H1 locs1 → W p l e R s m args below meth c H1 locs1 cells slots Q (F0 m (pc + 1) ls (rest))) : W p l e R s m args below meth c H locs cells slots Q (F0 m pc ls (.int v :: .int i :: .ref a :: rest)) := by
  obtain ⟨⟨hx, hb, hml, hown, hts⟩, hK, -⟩ := C
  obtain ⟨hs, hP, hD, hS⟩ := w
  obtain ⟨n, f, hSa, hin, rfl⟩ := stI_some h
  obtain ⟨ha, q, hq, hq2⟩ := pw_at (G := G) hs hSa
  have hw := pw_set hD ha hq2 (eI n (upd f i.toNatClampNeg v))
  exact va_iast hx hb hK hP hD hS q 0 hq rfl hin hdg (fun H1 locs1 g1 g2 g3 => kk H1 locs1 ⟨sup_up hs ha, by rw [← hw]; exact g1, by rw [← hw]; exact g2, g3⟩)
theorem o_stJ (C : CX p s m c args D G cc nL own) (w : Wd D G L A H0 S H locs) {a : Nat} {i : Int32} {v : Int64} (h : stJ S a i v = some S1) (hdg : decode cc pc = .ok (.lastore, 1)) (kk : ∀ (H1 : Heap) (locs1 : List Loc), Wd D G L A H0 S1 H1 locs1 → W p l e R s m args below meth c H1 locs1 cells slots Q (F0 m (pc + 1) ls (rest))) : W p l e R s m args below meth c H locs cells slots Q (F0 m pc ls (.long v :: .int i :: .ref a :: rest)) := by
  obtain ⟨⟨hx, hb, hml, hown, hts⟩, hK, -⟩ := C
  obtain ⟨hs, hP, hD, hS⟩ := w
  obtain ⟨n, f, hSa, hin, rfl⟩ := stJ_some h
  obtain ⟨ha, q, hq, hq2⟩ := pw_at (G := G) hs hSa
  have hw := pw_set hD ha hq2 (eJ n (vp_updL f i.toNatClampNeg v))
  exact va_last hx hb hK hP hD hS q 1 hq rfl hin hdg (fun H1 locs1 g1 g2 g3 => kk H1 locs1 ⟨sup_up hs ha, by rw [← hw]; exact g1, by rw [← hw]; exact g2, g3⟩)
theorem o_stZ (C : CX p s m c args D G cc nL own) (w : Wd D G L A H0 S H locs) {a : Nat} {i : Int32} {v : Int32} (h : stZ S a i v = some S1) (hdg : decode cc pc = .ok (.bastore, 1)) (kk : ∀ (H1 : Heap) (locs1 : List Loc), Wd D G L A H0 S1 H1 locs1 → W p l e R s m args below meth c H1 locs1 cells slots Q (F0 m (pc + 1) ls (rest))) : W p l e R s m args below meth c H locs cells slots Q (F0 m pc ls (.int v :: .int i :: .ref a :: rest)) := by
  obtain ⟨⟨hx, hb, hml, hown, hts⟩, hK, -⟩ := C
  obtain ⟨hs, hP, hD, hS⟩ := w
  obtain ⟨n, f, hSa, hin, rfl⟩ := stZ_some h
  obtain ⟨ha, q, hq, hq2⟩ := pw_at (G := G) hs hSa
  have hw := pw_set hD ha hq2 (eZ n (upd f i.toNatClampNeg (vp_nar .boolean v)))
  exact va_zast hx hb hK hP hD hS q 2 hq rfl hin hdg (fun H1 locs1 g1 g2 g3 => kk H1 locs1 ⟨sup_up hs ha, by rw [← hw]; exact g1, by rw [← hw]; exact g2, g3⟩)
theorem o_lnI (C : CX p s m c args D G cc nL own) (w : Wd D G L A H0 S H locs) {a : Nat} {v : Int32} (h : lnI S a = some v) (hdg : decode cc pc = .ok (.arraylength, 1)) (kk : W p l e R s m args below meth c H locs cells slots Q (F0 m (pc + 1) ls (.int v :: rest))) : W p l e R s m args below meth c H locs cells slots Q (F0 m pc ls (.ref a :: rest)) := by
  obtain ⟨⟨hx, hb, hml, hown, hts⟩, hK, -⟩ := C
  obtain ⟨hs, hP, hD, hS⟩ := w
  obtain ⟨n, f, hSa, hv⟩ := lnI_some h
  obtain ⟨-, q, hq, -⟩ := pw_at (G := G) hs hSa
  exact va_alen hx hb hK hP q 0 hq rfl hv hdg kk
theorem o_lnJ (C : CX p s m c args D G cc nL own) (w : Wd D G L A H0 S H locs) {a : Nat} {v : Int32} (h : lnJ S a = some v) (hdg : decode cc pc = .ok (.arraylength, 1)) (kk : W p l e R s m args below meth c H locs cells slots Q (F0 m (pc + 1) ls (.int v :: rest))) : W p l e R s m args below meth c H locs cells slots Q (F0 m pc ls (.ref a :: rest)) := by
  obtain ⟨⟨hx, hb, hml, hown, hts⟩, hK, -⟩ := C
  obtain ⟨hs, hP, hD, hS⟩ := w
  obtain ⟨n, f, hSa, hv⟩ := lnJ_some h
  obtain ⟨-, q, hq, -⟩ := pw_at (G := G) hs hSa
  exact va_alen hx hb hK hP q 1 hq rfl hv hdg kk
theorem o_cpI (C : CX p s m c args D G cc nL own) (w : Wd D G L A H0 S H locs) (hsz : ls.size = nL) {a b index : Nat} {sp dp n : Int32} (h : cpI S a sp b dp n = some S1) (hlk : Cond.methodLink own index arraycopyName ∈ tb) (hnat : Cond.native arraycopyName ∈ tb) (hst : Cond.static arraycopyName ∈ tb) (hini : Cond.initialized "java/lang/System" ∈ tb) (hfr : 1 ≤ R.frames) (hlo : (rest.map fun v => v.category).sum + (nativeFrameWords "java/lang/System" "arraycopy" 5 + 11) ≤ R.locals) (hdg : decode cc pc = .ok (.invokestatic index, 3)) (kk : ∀ (H1 : Heap) (locs1 : List Loc), Wd D G L A H0 S1 H1 locs1 → W p l e R s m args below meth c H1 locs1 cells slots Q (F0 m (pc + 3) ls (rest))) : W p l e R s m args below meth c H locs cells slots Q (F0 m pc ls (.int n :: .int dp :: .ref b :: .int sp :: .ref a :: rest)) := by
  obtain ⟨⟨hx, hb, hml, hown, hts⟩, hK, -⟩ := C
  obtain ⟨hs, hP, hD, hS⟩ := w
  obtain ⟨n0, f, n1, g, hSa, hSb, h1, h2, h3, h4, h5, rfl⟩ := cpI_some h
  obtain ⟨-, q, hq, -⟩ := pw_at (G := G) hs hSa
  obtain ⟨hbL, q1, hq1, hq2⟩ := pw_at (G := G) hs hSb
  have hw := pw_set hD hbL hq2 (eI n1 (va_cpy f g sp.toNatClampNeg dp.toNatClampNeg n.toNatClampNeg))
  exact va_copyi (ty := .int) hx hb (hml.trans hsz.symm) hown (hts _ hlk) (hts _ hnat) (hts _ hst) (hts _ hini) hK hP hD hS q q1 0 0 hq hq1 rfl rfl rfl h1 h2 h3 h4 h5 (fun _ _ => rfl) hfr hlo hdg (fun H1 locs1 g1 g2 g3 => kk H1 locs1 ⟨sup_up hs hbL, by rw [← hw]; exact g1, by rw [← hw]; exact g2, g3⟩)
theorem o_cpJ (C : CX p s m c args D G cc nL own) (w : Wd D G L A H0 S H locs) (hsz : ls.size = nL) {a b index : Nat} {sp dp n : Int32} (h : cpJ S a sp b dp n = some S1) (hlk : Cond.methodLink own index arraycopyName ∈ tb) (hnat : Cond.native arraycopyName ∈ tb) (hst : Cond.static arraycopyName ∈ tb) (hini : Cond.initialized "java/lang/System" ∈ tb) (hfr : 1 ≤ R.frames) (hlo : (rest.map fun v => v.category).sum + (nativeFrameWords "java/lang/System" "arraycopy" 5 + 11) ≤ R.locals) (hdg : decode cc pc = .ok (.invokestatic index, 3)) (kk : ∀ (H1 : Heap) (locs1 : List Loc), Wd D G L A H0 S1 H1 locs1 → W p l e R s m args below meth c H1 locs1 cells slots Q (F0 m (pc + 3) ls (rest))) : W p l e R s m args below meth c H locs cells slots Q (F0 m pc ls (.int n :: .int dp :: .ref b :: .int sp :: .ref a :: rest)) := by
  obtain ⟨⟨hx, hb, hml, hown, hts⟩, hK, -⟩ := C
  obtain ⟨hs, hP, hD, hS⟩ := w
  obtain ⟨n0, f, n1, g, hSa, hSb, h1, h2, h3, h4, h5, rfl⟩ := cpJ_some h
  obtain ⟨-, q, hq, -⟩ := pw_at (G := G) hs hSa
  obtain ⟨hbL, q1, hq1, hq2⟩ := pw_at (G := G) hs hSb
  have hw := pw_set hD hbL hq2 (eJ n1 (va_cpy f g sp.toNatClampNeg dp.toNatClampNeg n.toNatClampNeg))
  exact va_copyl (ty := .long) hx hb (hml.trans hsz.symm) hown (hts _ hlk) (hts _ hnat) (hts _ hst) (hts _ hini) hK hP hD hS q q1 1 1 hq hq1 rfl rfl rfl h1 h2 h3 h4 h5 (fun _ _ => rfl) hfr hlo hdg (fun H1 locs1 g1 g2 g3 => kk H1 locs1 ⟨sup_up hs hbL, by rw [← hw]; exact g1, by rw [← hw]; exact g2, g3⟩)
theorem o_dv (C : CX p s m c args D G cc nL own) {x y v : Int32} (h : dvI x y = some v) (hdg : decode cc pc = .ok (.idiv, 1)) (kk : W p l e R s m args below meth c H locs cells slots Q (F0 m (pc + 1) ls (.int v :: rest))) : W p l e R s m args below meth c H locs cells slots Q (F0 m pc ls (.int y :: .int x :: rest)) := by
  obtain ⟨hne, rfl⟩ := dvI_some h
  exact lv_idiv C.1.1 C.1.2.1 hdg hne kk
theorem o_rm (C : CX p s m c args D G cc nL own) {x y v : Int32} (h : rmI x y = some v) (hdg : decode cc pc = .ok (.irem, 1)) (kk : W p l e R s m args below meth c H locs cells slots Q (F0 m (pc + 1) ls (.int v :: rest))) : W p l e R s m args below meth c H locs cells slots Q (F0 m pc ls (.int y :: .int x :: rest)) := by
  obtain ⟨hne, rfl⟩ := rmI_some h
  exact lv_irem C.1.1 C.1.2.1 hdg hne kk
theorem o_topi {x y : Int32} (h : y = x) (kk : W p l e R s m args below meth c H locs cells slots Q (F0 m pc ls (.int y :: rest))) : W p l e R s m args below meth c H locs cells slots Q (F0 m pc ls (.int x :: rest)) := h ▸ kk
theorem o_topl {x y : Int64} (h : y = x) (kk : W p l e R s m args below meth c H locs cells slots Q (F0 m pc ls (.long y :: rest))) : W p l e R s m args below meth c H locs cells slots Q (F0 m pc ls (.long x :: rest)) := h ▸ kk
theorem o_sw0 {x : Int32} {dflt : Int} {lo9 hi : Int} {offs : Array Int} {len tgt : Nat} {off : Int} (C : CX p s m c args D G cc nL own) (k : Int32) (hk : x = k) (hdg : decode cc pc = .ok (.tableswitch dflt lo9 hi offs, len)) (h1 : ¬ k.toInt < lo9) (h2 : ¬ hi < k.toInt) (ho : offs[(k.toInt - lo9).toNat]? = some off) (ht : (pc : Int) + off = (tgt : Int)) (kk : W p l e R s m args below meth c H locs cells slots Q (F0 m tgt ls (rest))) : W p l e R s m args below meth c H locs cells slots Q (F0 m pc ls (.int x :: rest)) := by
  subst hk
  exact lv_tableIn C.1.1 C.1.2.1 hdg h1 h2 ho ht kk
theorem o_iret (C : CX p s m c args D G cc nL own) (w : Wd D G L (inL L) s.heap S H locs) (hr : meth.sig.returnType = some .int) (hlk : meth.locks = false) {v : Int32} (hdg : decode cc pc = .ok (.ireturn, 1)) : W p l e R s m args below meth c H locs 0 0 (MQ below (Qi D G L v S) args s 0 0 (inL L)) (F0 m pc ls [.int v]) := by
  obtain ⟨⟨hx, hb, hml, hown, hts⟩, hK, hT⟩ := C
  obtain ⟨hs, hP, hD, hS⟩ := w
  exact W.iret hx hb hr (fun t ht hW => ⟨⟨v, S, rfl, ⟨rfl, rfl⟩, hs, by rw [ht]; exact hP, hD, va_K.moved hW.alike hK, TB_moved hW hT⟩, hS.F ht⟩) hS.2.2 hdg hlk
theorem o_zret (C : CX p s m c args D G cc nL own) (w : Wd D G L (inL L) s.heap S H locs) (hr : meth.sig.returnType = some .boolean) (hlk : meth.locks = false) {v : Int32} (hn : narrow .boolean (.int v) = .int v) (hdg : decode cc pc = .ok (.ireturn, 1)) : W p l e R s m args below meth c H locs 0 0 (MQ below (Qi D G L v S) args s 0 0 (inL L)) (F0 m pc ls [.int v]) := by
  obtain ⟨⟨hx, hb, hml, hown, hts⟩, hK, hT⟩ := C
  obtain ⟨hs, hP, hD, hS⟩ := w
  exact W.zret hx hb hr hn (fun t ht hW => ⟨⟨v, S, rfl, ⟨rfl, rfl⟩, hs, by rw [ht]; exact hP, hD, va_K.moved hW.alike hK, TB_moved hW hT⟩, hS.F ht⟩) hS.2.2 hdg hlk
theorem o_lret (C : CX p s m c args D G cc nL own) (w : Wd D G L (inL L) s.heap S H locs) (hr : meth.sig.returnType = some .long) (hlk : meth.locks = false) {v : Int64} (hdg : decode cc pc = .ok (.lreturn, 1)) : W p l e R s m args below meth c H locs 0 0 (MQ below (Ql D G L v S) args s 0 0 (inL L)) (F0 m pc ls [.long v]) := by
  obtain ⟨⟨hx, hb, hml, hown, hts⟩, hK, hT⟩ := C
  obtain ⟨hs, hP, hD, hS⟩ := w
  exact W.lret hx hb hr (fun t ht hW => ⟨⟨v, S, rfl, ⟨rfl, rfl⟩, hs, by rw [ht]; exact hP, hD, va_K.moved hW.alike hK, TB_moved hW hT⟩, hS.F ht⟩) hS.2.2 hdg hlk
theorem o_vret (C : CX p s m c args D G cc nL own) (w : Wd D G L (inL L) s.heap S H locs) (hr : meth.sig.returnType = none) (hlk : meth.locks = false) (hdg : decode cc pc = .ok (.return_, 1)) : W p l e R s m args below meth c H locs 0 0 (MQ below (Qv D G L S) args s 0 0 (inL L)) (F0 m pc ls []) := by
  obtain ⟨⟨hx, hb, hml, hown, hts⟩, hK, hT⟩ := C
  obtain ⟨hs, hP, hD, hS⟩ := w
  exact W.vret hx hb hr (fun t ht hW => ⟨⟨S, rfl, rfl, hs, by rw [ht]; exact hP, hD, va_K.moved hW.alike hK, TB_moved hW hT⟩, hS.F ht⟩) hS.2.2 hdg hlk
theorem o_aret (C : CX p s m c args D G cc nL own) (w : Wd D G L (inL L) s.heap S H locs) {rt : FieldType} (hr : meth.sig.returnType = some rt) (hrt : (∃ n, rt = .object n) ∨ ∃ t, rt = .array t) (hlk : meth.locks = false) {v : Nat} (hdg : decode cc pc = .ok (.areturn, 1)) : W p l e R s m args below meth c H locs 0 0 (MQ below (Qr D G L v S) args s 0 0 (inL L)) (F0 m pc ls [.ref v]) := by
  obtain ⟨⟨hx, hb, hml, hown, hts⟩, hK, hT⟩ := C
  obtain ⟨hs, hP, hD, hS⟩ := w
  exact W.aret hx hb hr hrt (Or.inr ⟨v, rfl⟩) (fun t ht hW => ⟨⟨S, v, rfl, rfl, rfl, hs, by rw [ht]; exact hP, hD, va_K.moved hW.alike hK, TB_moved hW hT⟩, hS.F ht⟩) hS.2.2 hdg hlk
/-- a method's start -/
theorem o_ent {y : MethodName} {rm : Room} {maxL : Nat} {ret : Option FieldType} {ws : List Cond} {s₁ : State} (hy : y.cls = own) (B : BodyLoose p l y (headSpec ws rm) cc maxL ret e s m args below meth c s₁) (hml : c.maxLocals = nL) (h : PreU D G L S s) : CX p s m c args D G cc nL own ∧ Wd D G L (inL L) s.heap S s.heap [] := by
  obtain ⟨h1, h2, h3, h4, h5⟩ := h
  exact ⟨⟨⟨B.exec, B.bytes, hml, by rw [← hy]; exact findClass_of_methodNamed B.named, TB_use args h5⟩, h4, h5⟩, h1, h2, h3, va_S.rf⟩
abbrev RoomOk (R rm : Room) (maxL : Nat) : Prop := rm.cells = 0 ∧ rm.slots = 0 ∧ rm.frames + 1 ≤ R.frames ∧ 8 + (maxL + 11) + rm.locals ≤ R.locals
theorem o_runV (C : CX p s m c args D G cc nL own) (w : Wd D G L A H0 S H locs) {b : Nat} {As st : List Value} {ci index n maxL : Nat} {y : MethodName} {bytes : ByteArray} {ret : Option FieldType} {rm : Room} {Qc : Array Value → State → Outcome → State → Prop} (hM : Met l y [Cond.code y bytes maxL ret] rm (va_Pc (.ref b :: As) (PreU D G L S)) Qc 0 0 (inL L)) (ml : ML own index y bytes maxL ret n) (mv : MV ci y) (hR : RoomOk R rm maxL) (hob : ckO S b ci = some ()) (hn : As.length = n) (hsz : ls.size = nL) (hst : st = As.reverse ++ .ref b :: rest) (hrm : (rest.map fun v => v.category).sum ≤ 8) (hdg : decode cc pc = .ok (.invokevirtual index, 3)) (hcs : cells ≤ R.cells ∧ slots ≤ R.slots) : va_Run p l e R s m args below meth c H locs cells slots 0 0 (F0 m pc ls st) rest (Qc (Value.ref b :: As).toArray) (inL L) := by
  obtain ⟨hfix, hK, hT⟩ := C
  have hts := hfix.2.2.2.2
  obtain ⟨hs, hP, hD, hS⟩ := w
  obtain ⟨hlk, hini, hcode, hnm, hds⟩ := ml
  obtain ⟨hin, hsel, q, hq, hqc⟩ := mv
  obtain ⟨fs, hSb⟩ := ckO_some hob
  obtain ⟨-, k, hk, -⟩ := pw_at (G := G) hs hSb
  have hD' : va_D (inL L) (pw G L S) := hD.weaken (fun k q hk _ => pw_base hk)
  have hp : PreV s H y.cls b (va_Pc (.ref b :: As) (PreU D G L S)) As := ⟨PreU_blind _, by rw [← hqc]; exact va_recv hK hP hq hk, fun U hU hW => ⟨rfl, hs, by rw [hU]; exact hP, hD', va_K.moved hW.alike hK, TB_moved hW hT⟩⟩
  have hgood : ∀ w ∈ [Cond.code y bytes maxL ret], ∀ (a' : Array Value) (U : State), s.WarmedH U.vm → w.before a' U = true := by
    intro w hw a' U hW
    rw [List.mem_singleton] at hw
    subst hw
    exact okw_at a' hW (List.mem_filter.mp hcode).2 (hT _ hcode)
  rcases hlk with hlk | ⟨host, hlk⟩
  · exact va_runV hfix hM ⟨⟨hR.1, hR.2.1, hR.2.2.1, hR.2.2.2, hgood, List.mem_singleton_self _, hts _ hcode, hts _ hini, hnm, ml_len hds, hts _ hlk⟩, hts _ hin, hts _ hsel⟩ hp rfl hn hsz hst (lv_room hrm) hdg ⟨hcs.1, hcs.2⟩
  · exact va_runVN (host := host) hfix hM ⟨⟨⟨hR.1, hR.2.1, hR.2.2.1, hR.2.2.2, hgood, List.mem_singleton_self _⟩, hts _ hcode, hts _ hini, hnm, ml_len hds, hts _ hlk⟩, hts _ hin, hts _ hsel⟩ hp rfl hn hsz hst (lv_room hrm) hdg ⟨hcs.1, hcs.2⟩
theorem o_runS (C : CX p s m c args D G cc nL own) (w : Wd D G L A H0 S H locs) {As st : List Value} {index n maxL : Nat} {y : MethodName} {bytes : ByteArray} {ret : Option FieldType} {rm : Room} {Qc : Array Value → State → Outcome → State → Prop} (hM : Met l y [Cond.code y bytes maxL ret] rm (va_Pc As (PreU D G L S)) Qc 0 0 (inL L)) (ml : ML own index y bytes maxL ret n) (mv : Cond.static y ∈ tb) (hR : RoomOk R rm maxL) (hn : As.length = n) (hsz : ls.size = nL) (hst : st = As.reverse ++ rest) (hrm : (rest.map fun v => v.category).sum ≤ 8) (hdg : decode cc pc = .ok (.invokestatic index, 3)) (hcs : cells ≤ R.cells ∧ slots ≤ R.slots) : va_Run p l e R s m args below meth c H locs cells slots 0 0 (F0 m pc ls st) rest (Qc As.toArray) (inL L) := by
  obtain ⟨hfix, hK, hT⟩ := C
  have hts := hfix.2.2.2.2
  obtain ⟨hs, hP, hD, hS⟩ := w
  obtain ⟨hlk, hini, hcode, hnm, hds⟩ := ml
  have hD' : va_D (inL L) (pw G L S) := hD.weaken (fun k q hk _ => pw_base hk)
  have hp : PreS s H (va_Pc As (PreU D G L S)) As := ⟨PreU_blind _, fun U hU hW => ⟨rfl, hs, by rw [hU]; exact hP, hD', va_K.moved hW.alike hK, TB_moved hW hT⟩⟩
  have hgood : ∀ w ∈ [Cond.code y bytes maxL ret], ∀ (a' : Array Value) (U : State), s.WarmedH U.vm → w.before a' U = true := by
    intro w hw a' U hW
    rw [List.mem_singleton] at hw
    subst hw
    exact okw_at a' hW (List.mem_filter.mp hcode).2 (hT _ hcode)
  rcases hlk with hlk | ⟨host, hlk⟩
  · exact va_runS hfix hM ⟨⟨hR.1, hR.2.1, hR.2.2.1, hR.2.2.2, hgood, List.mem_singleton_self _, hts _ hcode, hts _ hini, hnm, ml_len hds, hts _ hlk⟩, hts _ mv⟩ hp rfl hn hsz hst (lv_room hrm) hdg ⟨hcs.1, hcs.2⟩
  · exact va_runSN (host := host) hfix hM ⟨⟨⟨hR.1, hR.2.1, hR.2.2.1, hR.2.2.2, hgood, List.mem_singleton_self _⟩, hts _ hcode, hts _ hini, hnm, ml_len hds, hts _ hlk⟩, hts _ mv, trivial⟩ hp rfl hn hsz hst (lv_room hrm) hdg ⟨hcs.1, hcs.2⟩
theorem o_backi (w : Wd D G L A H0 S H locs) (hLA : ∀ q ∈ L, A q) {st : List Value} {a9 : Array Value} {r : Int32} (hr : va_Run p l e R s m args below meth c H locs cells slots 0 0 (F0 m pc ls st) rest (Qi D G L r S1 a9) (inL L)) (kk : ∀ (H1 : Heap) (locs1 : List Loc), Wd D G L A H0 S1 H1 locs1 → W p l e R s m args below meth c H1 locs1 cells slots Q (F0 m (pc + 3) ls (.int r :: rest))) : W p l e R s m args below meth c H locs cells slots Q (F0 m pc ls (st)) := by
  obtain ⟨hs, hP, hD, hS⟩ := w
  refine va_calli hr hS (fun q _ h => hLA q h) (fun q h => hLA q h) (fun r9 u t H1 locs1 ht hvm hw hB hz1 hk1 hS1 => ?_)
  obtain ⟨rfl, rfl⟩ := hw
  obtain ⟨g1, g2, g3, g4, g5⟩ := hB
  exact kk H1 locs1 ⟨g1, by rw [← ht]; exact g2, g3.weaken (fun k q hk _ => hLA _ (pw_base hk)), hS1⟩
theorem o_backl (w : Wd D G L A H0 S H locs) (hLA : ∀ q ∈ L, A q) {st : List Value} {a9 : Array Value} {r : Int64} (hr : va_Run p l e R s m args below meth c H locs cells slots 0 0 (F0 m pc ls st) rest (Ql D G L r S1 a9) (inL L)) (kk : ∀ (H1 : Heap) (locs1 : List Loc), Wd D G L A H0 S1 H1 locs1 → W p l e R s m args below meth c H1 locs1 cells slots Q (F0 m (pc + 3) ls (.long r :: rest))) : W p l e R s m args below meth c H locs cells slots Q (F0 m pc ls (st)) := by
  obtain ⟨hs, hP, hD, hS⟩ := w
  refine va_calll hr hS (fun q _ h => hLA q h) (fun q h => hLA q h) (fun r9 u t H1 locs1 ht hvm hw hB hz1 hk1 hS1 => ?_)
  obtain ⟨rfl, rfl⟩ := hw
  obtain ⟨g1, g2, g3, g4, g5⟩ := hB
  exact kk H1 locs1 ⟨g1, by rw [← ht]; exact g2, g3.weaken (fun k q hk _ => hLA _ (pw_base hk)), hS1⟩
theorem o_backv (w : Wd D G L A H0 S H locs) (hLA : ∀ q ∈ L, A q) {st : List Value} {a9 : Array Value} (hr : va_Run p l e R s m args below meth c H locs cells slots 0 0 (F0 m pc ls st) rest (Qv D G L S1 a9) (inL L)) (kk : ∀ (H1 : Heap) (locs1 : List Loc), Wd D G L A H0 S1 H1 locs1 → W p l e R s m args below meth c H1 locs1 cells slots Q (F0 m (pc + 3) ls (rest))) : W p l e R s m args below meth c H locs cells slots Q (F0 m pc ls (st)) := by
  obtain ⟨hs, hP, hD, hS⟩ := w
  refine va_callv hr hS (fun q _ h => hLA q h) (fun q h => hLA q h) (fun u t H1 locs1 ht hvm hw hB hz1 hk1 hS1 => ?_)
  subst hw
  obtain ⟨g1, g2, g3, g4, g5⟩ := hB
  exact kk H1 locs1 ⟨g1, by rw [← ht]; exact g2, g3.weaken (fun k q hk _ => hLA _ (pw_base hk)), hS1⟩
theorem o_backr (w : Wd D G L A H0 S H locs) (hLA : ∀ q ∈ L, A q) {st : List Value} {a9 : Array Value} {r : Nat} (hr : va_Run p l e R s m args below meth c H locs cells slots 0 0 (F0 m pc ls st) rest (Qr D G L r S1 a9) (inL L)) (kk : ∀ (H1 : Heap) (locs1 : List Loc), Wd D G L A H0 S1 H1 locs1 → W p l e R s m args below meth c H1 locs1 cells slots Q (F0 m (pc + 3) ls (.ref r :: rest))) : W p l e R s m args below meth c H locs cells slots Q (F0 m pc ls (st)) := by
  obtain ⟨hs, hP, hD, hS⟩ := w
  refine va_callr hr hS (fun q _ h => hLA q h) (fun q h => hLA q h) (fun u r9 t H1 locs1 ht hvm hw hB hz1 hk1 hS1 => ?_)
  subst hw
  obtain ⟨rfl, g1, g2, g3, g4, g5⟩ := hB
  exact kk H1 locs1 ⟨g1, by rw [← ht]; exact g2, g3.weaken (fun k q hk _ => hLA _ (pw_base hk)), hS1⟩
end OPS
end
section
theorem in_X0 : ∀ w ∈ u_ws RX0 TX0 3, w ∈ tb := tb_all [178, 180, 182] (by decide +kernel) (by decide +kernel)
theorem in_X1 : ∀ w ∈ u_ws RX1 TX1 2, w ∈ tb := tb_all [158, 160] (by decide +kernel) (by decide +kernel)
theorem in_X2 : ∀ w ∈ u_ws RX2 TX2 12, w ∈ tb := tb_all [122, 124, 126, 128, 130, 132, 134, 136, 138, 140, 142, 144] (by decide +kernel) (by decide +kernel)
theorem in_X3 : ∀ w ∈ u_ws RX3 TX3 3, w ∈ tb := tb_all [237, 239, 241] (by decide +kernel) (by decide +kernel)
theorem in_X4 : ∀ w ∈ u_ws RX4 TX4 7, w ∈ tb := tb_all [258, 260, 262, 264, 266, 268, 270] (by decide +kernel) (by decide +kernel)
theorem in_X5 : ∀ w ∈ u_ws RX5 TX5 4, w ∈ tb := tb_all [216, 218, 220, 222] (by decide +kernel) (by decide +kernel)
theorem in_X6 : ∀ w ∈ u_ws RX6 TX6 4, w ∈ tb := tb_all [199, 201, 203, 205] (by decide +kernel) (by decide +kernel)
theorem in_X7 : ∀ w ∈ u_ws RX7 TX7 5, w ∈ tb := tb_all [278, 280, 282, 284, 286] (by decide +kernel) (by decide +kernel)
theorem in_X8 : ∀ w ∈ u_ws RX8 TX8 14, w ∈ tb := tb_all [610, 612, 614, 616, 618, 620, 622, 624, 626, 628, 630, 632, 634, 636] (by decide +kernel) (by decide +kernel)
theorem fl_X7_12 : FL RX7 12 7 0 := ⟨RX7, TX7, 5, rfl, in_X7, by decide, Or.inl (tb_in 273 (by decide +kernel) rfl)⟩
theorem fl_X7_16 : FL RX7 16 7 1 := ⟨RX7, TX7, 5, rfl, in_X7, by decide, Or.inl (tb_in 274 (by decide +kernel) rfl)⟩
theorem fl_X7_20 : FL RX7 20 7 2 := ⟨RX7, TX7, 5, rfl, in_X7, by decide, Or.inl (tb_in 275 (by decide +kernel) rfl)⟩
theorem fl_X7_27 : FL RX7 27 7 3 := ⟨RX7, TX7, 5, rfl, in_X7, by decide, Or.inl (tb_in 276 (by decide +kernel) rfl)⟩
theorem fl_X7_34 : FL RX7 34 7 4 := ⟨RX7, TX7, 5, rfl, in_X7, by decide, Or.inl (tb_in 277 (by decide +kernel) rfl)⟩
theorem fl_X7_38 : FL RX7 38 5 0 := ⟨RX5, TX5, 4, rfl, in_X5, by decide, Or.inr ⟨"SumsThatTell", tb_in 209 (by decide +kernel) rfl⟩⟩
theorem fl_X7_42 : FL RX7 42 2 7 := ⟨RX2, TX2, 12, rfl, in_X2, by decide, Or.inr ⟨"SumsThatTell", tb_in 112 (by decide +kernel) rfl⟩⟩
theorem fp_X7_42 : FP RX7 42 2 7 .int := ⟨RX2, TX2, 12, tyX2, rfl, in_X2, by decide, Or.inr ⟨"SumsThatTell", tb_in 112 (by decide +kernel) rfl⟩, tyX2_ok, nmX2, rfl, by decide +kernel⟩
theorem fl_X7_56 : FL RX7 56 2 0 := ⟨RX2, TX2, 12, rfl, in_X2, by decide, Or.inr ⟨"SumsThatTell", tb_in 97 (by decide +kernel) rfl⟩⟩
theorem fl_X7_60 : FL RX7 60 2 2 := ⟨RX2, TX2, 12, rfl, in_X2, by decide, Or.inr ⟨"SumsThatTell", tb_in 101 (by decide +kernel) rfl⟩⟩
theorem fl_X7_63 : FL RX7 63 2 3 := ⟨RX2, TX2, 12, rfl, in_X2, by decide, Or.inr ⟨"SumsThatTell", tb_in 104 (by decide +kernel) rfl⟩⟩
theorem fl_X7_66 : FL RX7 66 2 4 := ⟨RX2, TX2, 12, rfl, in_X2, by decide, Or.inr ⟨"SumsThatTell", tb_in 106 (by decide +kernel) rfl⟩⟩
theorem fl_X7_77 : FL RX7 77 5 2 := ⟨RX5, TX5, 4, rfl, in_X5, by decide, Or.inr ⟨"SumsThatTell", tb_in 213 (by decide +kernel) rfl⟩⟩
theorem fl_X7_81 : FL RX7 81 0 1 := ⟨RX0, TX0, 3, rfl, in_X0, by decide, Or.inr ⟨"SumsThatTell", tb_in 175 (by decide +kernel) rfl⟩⟩
theorem fp_X7_81 : FP RX7 81 0 1 .int := ⟨RX0, TX0, 3, tyX0, rfl, in_X0, by decide, Or.inr ⟨"SumsThatTell", tb_in 175 (by decide +kernel) rfl⟩, tyX0_ok, nmX0, rfl, by decide +kernel⟩
theorem fl_X7_94 : FL RX7 94 3 1 := ⟨RX3, TX3, 3, rfl, in_X3, by decide, Or.inr ⟨"SumsThatTell", tb_in 235 (by decide +kernel) rfl⟩⟩
theorem fl_X7_101 : FL RX7 101 5 1 := ⟨RX5, TX5, 4, rfl, in_X5, by decide, Or.inr ⟨"SumsThatTell", tb_in 211 (by decide +kernel) rfl⟩⟩
theorem fl_X7_105 : FL RX7 105 2 9 := ⟨RX2, TX2, 12, rfl, in_X2, by decide, Or.inr ⟨"SumsThatTell", tb_in 119 (by decide +kernel) rfl⟩⟩
theorem fp_X7_105 : FP RX7 105 2 9 .int := ⟨RX2, TX2, 12, tyX2, rfl, in_X2, by decide, Or.inr ⟨"SumsThatTell", tb_in 119 (by decide +kernel) rfl⟩, tyX2_ok, nmX2, rfl, by decide +kernel⟩
theorem fl_X7_120 : FL RX7 120 2 8 := ⟨RX2, TX2, 12, rfl, in_X2, by decide, Or.inr ⟨"SumsThatTell", tb_in 115 (by decide +kernel) rfl⟩⟩
theorem fp_X7_120 : FP RX7 120 2 8 .int := ⟨RX2, TX2, 12, tyX2, rfl, in_X2, by decide, Or.inr ⟨"SumsThatTell", tb_in 115 (by decide +kernel) rfl⟩, tyX2_ok, nmX2, rfl, by decide +kernel⟩
theorem fl_X7_147 : FL RX7 147 2 1 := ⟨RX2, TX2, 12, rfl, in_X2, by decide, Or.inr ⟨"SumsThatTell", tb_in 99 (by decide +kernel) rfl⟩⟩
theorem fl_X7_153 : FL RX7 153 2 5 := ⟨RX2, TX2, 12, rfl, in_X2, by decide, Or.inr ⟨"SumsThatTell", tb_in 108 (by decide +kernel) rfl⟩⟩
theorem fl_X7_156 : FL RX7 156 0 0 := ⟨RX0, TX0, 3, rfl, in_X0, by decide, Or.inr ⟨"SumsThatTell", tb_in 173 (by decide +kernel) rfl⟩⟩
theorem fl_X7_160 : FL RX7 160 5 3 := ⟨RX5, TX5, 4, rfl, in_X5, by decide, Or.inr ⟨"SumsThatTell", tb_in 215 (by decide +kernel) rfl⟩⟩
theorem fl_X7_164 : FL RX7 164 6 3 := ⟨RX6, TX6, 4, rfl, in_X6, by decide, Or.inr ⟨"SumsThatTell", tb_in 198 (by decide +kernel) rfl⟩⟩
theorem fp_X7_164 : FP RX7 164 6 3 .int := ⟨RX6, TX6, 4, tyX6, rfl, in_X6, by decide, Or.inr ⟨"SumsThatTell", tb_in 198 (by decide +kernel) rfl⟩, tyX6_ok, nmX6, rfl, by decide +kernel⟩
theorem fl_X7_181 : FL RX7 181 0 2 := ⟨RX0, TX0, 3, rfl, in_X0, by decide, Or.inr ⟨"SumsThatTell", tb_in 177 (by decide +kernel) rfl⟩⟩
theorem fp_X7_181 : FP RX7 181 0 2 .int := ⟨RX0, TX0, 3, tyX0, rfl, in_X0, by decide, Or.inr ⟨"SumsThatTell", tb_in 177 (by decide +kernel) rfl⟩, tyX0_ok, nmX0, rfl, by decide +kernel⟩
theorem fl_X7_221 : FL RX7 221 3 0 := ⟨RX3, TX3, 3, rfl, in_X3, by decide, Or.inr ⟨"SumsThatTell", tb_in 233 (by decide +kernel) rfl⟩⟩
theorem fl_X7_229 : FL RX7 229 6 0 := ⟨RX6, TX6, 4, rfl, in_X6, by decide, Or.inr ⟨"SumsThatTell", tb_in 192 (by decide +kernel) rfl⟩⟩
theorem fl_X7_232 : FL RX7 232 6 1 := ⟨RX6, TX6, 4, rfl, in_X6, by decide, Or.inr ⟨"SumsThatTell", tb_in 194 (by decide +kernel) rfl⟩⟩
theorem fl_X7_235 : FL RX7 235 6 2 := ⟨RX6, TX6, 4, rfl, in_X6, by decide, Or.inr ⟨"SumsThatTell", tb_in 196 (by decide +kernel) rfl⟩⟩
theorem fl_X0_11 : FL RX0 11 0 0 := ⟨RX0, TX0, 3, rfl, in_X0, by decide, Or.inl (tb_in 172 (by decide +kernel) rfl)⟩
theorem fl_X0_16 : FL RX0 16 0 1 := ⟨RX0, TX0, 3, rfl, in_X0, by decide, Or.inl (tb_in 174 (by decide +kernel) rfl)⟩
theorem fp_X0_16 : FP RX0 16 0 1 .int := ⟨RX0, TX0, 3, tyX0, rfl, in_X0, by decide, Or.inl (tb_in 174 (by decide +kernel) rfl), tyX0_ok, nmX0, rfl, by decide +kernel⟩
theorem fl_X0_20 : FL RX0 20 0 2 := ⟨RX0, TX0, 3, rfl, in_X0, by decide, Or.inl (tb_in 176 (by decide +kernel) rfl)⟩
theorem fp_X0_20 : FP RX0 20 0 2 .int := ⟨RX0, TX0, 3, tyX0, rfl, in_X0, by decide, Or.inl (tb_in 176 (by decide +kernel) rfl), tyX0_ok, nmX0, rfl, by decide +kernel⟩
theorem fl_X1_9 : FL RX1 9 1 0 := ⟨RX1, TX1, 2, rfl, in_X1, by decide, Or.inl (tb_in 156 (by decide +kernel) rfl)⟩
theorem fl_X1_17 : FL RX1 17 1 1 := ⟨RX1, TX1, 2, rfl, in_X1, by decide, Or.inl (tb_in 157 (by decide +kernel) rfl)⟩
theorem fl_X2_9 : FL RX2 9 2 0 := ⟨RX2, TX2, 12, rfl, in_X2, by decide, Or.inl (tb_in 96 (by decide +kernel) rfl)⟩
theorem fl_X2_15 : FL RX2 15 2 1 := ⟨RX2, TX2, 12, rfl, in_X2, by decide, Or.inl (tb_in 98 (by decide +kernel) rfl)⟩
theorem fl_X2_18 : FL RX2 18 2 2 := ⟨RX2, TX2, 12, rfl, in_X2, by decide, Or.inl (tb_in 100 (by decide +kernel) rfl)⟩
theorem fl_X2_21 : FL RX2 21 2 3 := ⟨RX2, TX2, 12, rfl, in_X2, by decide, Or.inl (tb_in 103 (by decide +kernel) rfl)⟩
theorem fl_X2_24 : FL RX2 24 2 4 := ⟨RX2, TX2, 12, rfl, in_X2, by decide, Or.inl (tb_in 105 (by decide +kernel) rfl)⟩
theorem fl_X2_27 : FL RX2 27 2 5 := ⟨RX2, TX2, 12, rfl, in_X2, by decide, Or.inl (tb_in 107 (by decide +kernel) rfl)⟩
theorem fl_X2_30 : FL RX2 30 2 6 := ⟨RX2, TX2, 12, rfl, in_X2, by decide, Or.inl (tb_in 109 (by decide +kernel) rfl)⟩
theorem fl_X2_33 : FL RX2 33 2 7 := ⟨RX2, TX2, 12, rfl, in_X2, by decide, Or.inl (tb_in 111 (by decide +kernel) rfl)⟩
theorem fp_X2_33 : FP RX2 33 2 7 .int := ⟨RX2, TX2, 12, tyX2, rfl, in_X2, by decide, Or.inl (tb_in 111 (by decide +kernel) rfl), tyX2_ok, nmX2, rfl, by decide +kernel⟩
theorem fl_X2_37 : FL RX2 37 2 8 := ⟨RX2, TX2, 12, rfl, in_X2, by decide, Or.inl (tb_in 113 (by decide +kernel) rfl)⟩
theorem fp_X2_37 : FP RX2 37 2 8 .int := ⟨RX2, TX2, 12, tyX2, rfl, in_X2, by decide, Or.inl (tb_in 113 (by decide +kernel) rfl), tyX2_ok, nmX2, rfl, by decide +kernel⟩
theorem fl_X2_40 : FL RX2 40 2 9 := ⟨RX2, TX2, 12, rfl, in_X2, by decide, Or.inl (tb_in 116 (by decide +kernel) rfl)⟩
theorem fp_X2_40 : FP RX2 40 2 9 .int := ⟨RX2, TX2, 12, tyX2, rfl, in_X2, by decide, Or.inl (tb_in 116 (by decide +kernel) rfl), tyX2_ok, nmX2, rfl, by decide +kernel⟩
theorem fl_X2_43 : FL RX2 43 2 10 := ⟨RX2, TX2, 12, rfl, in_X2, by decide, Or.inl (tb_in 120 (by decide +kernel) rfl)⟩
theorem fp_X2_43 : FP RX2 43 2 10 .int := ⟨RX2, TX2, 12, tyX2, rfl, in_X2, by decide, Or.inl (tb_in 120 (by decide +kernel) rfl), tyX2_ok, nmX2, rfl, by decide +kernel⟩
theorem fl_X2_46 : FL RX2 46 2 11 := ⟨RX2, TX2, 12, rfl, in_X2, by decide, Or.inl (tb_in 121 (by decide +kernel) rfl)⟩
theorem fp_X2_46 : FP RX2 46 2 11 .int := ⟨RX2, TX2, 12, tyX2, rfl, in_X2, by decide, Or.inl (tb_in 121 (by decide +kernel) rfl), tyX2_ok, nmX2, rfl, by decide +kernel⟩
theorem fl_X3_9 : FL RX3 9 3 0 := ⟨RX3, TX3, 3, rfl, in_X3, by decide, Or.inl (tb_in 232 (by decide +kernel) rfl)⟩
theorem fl_X3_15 : FL RX3 15 3 1 := ⟨RX3, TX3, 3, rfl, in_X3, by decide, Or.inl (tb_in 234 (by decide +kernel) rfl)⟩
theorem fl_X3_19 : FL RX3 19 3 2 := ⟨RX3, TX3, 3, rfl, in_X3, by decide, Or.inl (tb_in 236 (by decide +kernel) rfl)⟩
theorem fl_X3_22 : FL RX3 22 2 8 := ⟨RX2, TX2, 12, rfl, in_X2, by decide, Or.inr ⟨"SumsThatTell", tb_in 114 (by decide +kernel) rfl⟩⟩
theorem fp_X3_22 : FP RX3 22 2 8 .int := ⟨RX2, TX2, 12, tyX2, rfl, in_X2, by decide, Or.inr ⟨"SumsThatTell", tb_in 114 (by decide +kernel) rfl⟩, tyX2_ok, nmX2, rfl, by decide +kernel⟩
theorem fl_X3_32 : FL RX3 32 2 6 := ⟨RX2, TX2, 12, rfl, in_X2, by decide, Or.inr ⟨"SumsThatTell", tb_in 110 (by decide +kernel) rfl⟩⟩
theorem fl_X3_39 : FL RX3 39 2 2 := ⟨RX2, TX2, 12, rfl, in_X2, by decide, Or.inr ⟨"SumsThatTell", tb_in 102 (by decide +kernel) rfl⟩⟩
theorem fl_X4_9 : FL RX4 9 4 0 := ⟨RX4, TX4, 7, rfl, in_X4, by decide, Or.inl (tb_in 251 (by decide +kernel) rfl)⟩
theorem fl_X4_15 : FL RX4 15 4 1 := ⟨RX4, TX4, 7, rfl, in_X4, by decide, Or.inl (tb_in 252 (by decide +kernel) rfl)⟩
theorem fp_X4_15 : FP RX4 15 4 1 (.array .int) := ⟨RX4, TX4, 7, tyX4, rfl, in_X4, by decide, Or.inl (tb_in 252 (by decide +kernel) rfl), tyX4_ok, nmX4, rfl, by decide +kernel⟩
theorem fl_X4_19 : FL RX4 19 4 2 := ⟨RX4, TX4, 7, rfl, in_X4, by decide, Or.inl (tb_in 253 (by decide +kernel) rfl)⟩
theorem fp_X4_19 : FP RX4 19 4 2 (.array .int) := ⟨RX4, TX4, 7, tyX4, rfl, in_X4, by decide, Or.inl (tb_in 253 (by decide +kernel) rfl), tyX4_ok, nmX4, rfl, by decide +kernel⟩
theorem fl_X4_22 : FL RX4 22 4 3 := ⟨RX4, TX4, 7, rfl, in_X4, by decide, Or.inl (tb_in 254 (by decide +kernel) rfl)⟩
theorem fl_X4_25 : FL RX4 25 4 4 := ⟨RX4, TX4, 7, rfl, in_X4, by decide, Or.inl (tb_in 255 (by decide +kernel) rfl)⟩
theorem fp_X4_25 : FP RX4 25 4 4 (.object "SumsThatTell$Numbers") := ⟨RX4, TX4, 7, tyX4, rfl, in_X4, by decide, Or.inl (tb_in 255 (by decide +kernel) rfl), tyX4_ok, nmX4, rfl, by decide +kernel⟩
theorem fl_X4_29 : FL RX4 29 4 5 := ⟨RX4, TX4, 7, rfl, in_X4, by decide, Or.inl (tb_in 256 (by decide +kernel) rfl)⟩
theorem fp_X4_29 : FP RX4 29 4 5 (.array .long) := ⟨RX4, TX4, 7, tyX4, rfl, in_X4, by decide, Or.inl (tb_in 256 (by decide +kernel) rfl), tyX4_ok, nmX4, rfl, by decide +kernel⟩
theorem fl_X4_32 : FL RX4 32 4 6 := ⟨RX4, TX4, 7, rfl, in_X4, by decide, Or.inl (tb_in 257 (by decide +kernel) rfl)⟩
theorem fp_X4_32 : FP RX4 32 4 6 .int := ⟨RX4, TX4, 7, tyX4, rfl, in_X4, by decide, Or.inl (tb_in 257 (by decide +kernel) rfl), tyX4_ok, nmX4, rfl, by decide +kernel⟩
theorem fl_X4_36 : FL RX4 36 2 9 := ⟨RX2, TX2, 12, rfl, in_X2, by decide, Or.inr ⟨"SumsThatTell", tb_in 118 (by decide +kernel) rfl⟩⟩
theorem fp_X4_36 : FP RX4 36 2 9 .int := ⟨RX2, TX2, 12, tyX2, rfl, in_X2, by decide, Or.inr ⟨"SumsThatTell", tb_in 118 (by decide +kernel) rfl⟩, tyX2_ok, nmX2, rfl, by decide +kernel⟩
theorem fl_X5_10 : FL RX5 10 5 0 := ⟨RX5, TX5, 4, rfl, in_X5, by decide, Or.inl (tb_in 208 (by decide +kernel) rfl)⟩
theorem fl_X5_19 : FL RX5 19 5 1 := ⟨RX5, TX5, 4, rfl, in_X5, by decide, Or.inl (tb_in 210 (by decide +kernel) rfl)⟩
theorem fl_X5_26 : FL RX5 26 5 2 := ⟨RX5, TX5, 4, rfl, in_X5, by decide, Or.inl (tb_in 212 (by decide +kernel) rfl)⟩
theorem fl_X5_33 : FL RX5 33 5 3 := ⟨RX5, TX5, 4, rfl, in_X5, by decide, Or.inl (tb_in 214 (by decide +kernel) rfl)⟩
theorem fl_X5_37 : FL RX5 37 2 9 := ⟨RX2, TX2, 12, rfl, in_X2, by decide, Or.inr ⟨"SumsThatTell", tb_in 117 (by decide +kernel) rfl⟩⟩
theorem fp_X5_37 : FP RX5 37 2 9 .int := ⟨RX2, TX2, 12, tyX2, rfl, in_X2, by decide, Or.inr ⟨"SumsThatTell", tb_in 117 (by decide +kernel) rfl⟩, tyX2_ok, nmX2, rfl, by decide +kernel⟩
theorem fl_X6_9 : FL RX6 9 6 0 := ⟨RX6, TX6, 4, rfl, in_X6, by decide, Or.inl (tb_in 191 (by decide +kernel) rfl)⟩
theorem fl_X6_15 : FL RX6 15 6 1 := ⟨RX6, TX6, 4, rfl, in_X6, by decide, Or.inl (tb_in 193 (by decide +kernel) rfl)⟩
theorem fl_X6_18 : FL RX6 18 6 2 := ⟨RX6, TX6, 4, rfl, in_X6, by decide, Or.inl (tb_in 195 (by decide +kernel) rfl)⟩
theorem fl_X6_21 : FL RX6 21 6 3 := ⟨RX6, TX6, 4, rfl, in_X6, by decide, Or.inl (tb_in 197 (by decide +kernel) rfl)⟩
theorem fp_X6_21 : FP RX6 21 6 3 .int := ⟨RX6, TX6, 4, tyX6, rfl, in_X6, by decide, Or.inl (tb_in 197 (by decide +kernel) rfl), tyX6_ok, nmX6, rfl, by decide +kernel⟩
theorem fl_X8_8 : FL RX8 8 8 0 := ⟨RX8, TX8, 14, rfl, in_X8, by decide, Or.inl (tb_in 596 (by decide +kernel) rfl)⟩
theorem fl_X8_14 : FL RX8 14 8 1 := ⟨RX8, TX8, 14, rfl, in_X8, by decide, Or.inl (tb_in 597 (by decide +kernel) rfl)⟩
theorem fl_X8_18 : FL RX8 18 8 6 := ⟨RX8, TX8, 14, rfl, in_X8, by decide, Or.inl (tb_in 602 (by decide +kernel) rfl)⟩
theorem fl_X8_21 : FL RX8 21 8 7 := ⟨RX8, TX8, 14, rfl, in_X8, by decide, Or.inl (tb_in 603 (by decide +kernel) rfl)⟩
theorem fl_X8_24 : FL RX8 24 8 8 := ⟨RX8, TX8, 14, rfl, in_X8, by decide, Or.inl (tb_in 604 (by decide +kernel) rfl)⟩
theorem fl_X8_27 : FL RX8 27 8 9 := ⟨RX8, TX8, 14, rfl, in_X8, by decide, Or.inl (tb_in 605 (by decide +kernel) rfl)⟩
theorem fl_X8_30 : FL RX8 30 8 10 := ⟨RX8, TX8, 14, rfl, in_X8, by decide, Or.inl (tb_in 606 (by decide +kernel) rfl)⟩
theorem fl_X8_34 : FL RX8 34 8 11 := ⟨RX8, TX8, 14, rfl, in_X8, by decide, Or.inl (tb_in 607 (by decide +kernel) rfl)⟩
theorem fl_X8_37 : FL RX8 37 8 12 := ⟨RX8, TX8, 14, rfl, in_X8, by decide, Or.inl (tb_in 608 (by decide +kernel) rfl)⟩
theorem fl_X8_64 : FL RX8 64 8 2 := ⟨RX8, TX8, 14, rfl, in_X8, by decide, Or.inl (tb_in 598 (by decide +kernel) rfl)⟩
theorem fp_X8_64 : FP RX8 64 8 2 .int := ⟨RX8, TX8, 14, tyX8, rfl, in_X8, by decide, Or.inl (tb_in 598 (by decide +kernel) rfl), tyX8_ok, nmX8, rfl, by decide +kernel⟩
theorem fl_X8_68 : FL RX8 68 8 3 := ⟨RX8, TX8, 14, rfl, in_X8, by decide, Or.inl (tb_in 599 (by decide +kernel) rfl)⟩
theorem fp_X8_68 : FP RX8 68 8 3 .int := ⟨RX8, TX8, 14, tyX8, rfl, in_X8, by decide, Or.inl (tb_in 599 (by decide +kernel) rfl), tyX8_ok, nmX8, rfl, by decide +kernel⟩
theorem fl_X8_71 : FL RX8 71 8 4 := ⟨RX8, TX8, 14, rfl, in_X8, by decide, Or.inl (tb_in 600 (by decide +kernel) rfl)⟩
theorem fp_X8_71 : FP RX8 71 8 4 .int := ⟨RX8, TX8, 14, tyX8, rfl, in_X8, by decide, Or.inl (tb_in 600 (by decide +kernel) rfl), tyX8_ok, nmX8, rfl, by decide +kernel⟩
theorem fl_X8_74 : FL RX8 74 8 5 := ⟨RX8, TX8, 14, rfl, in_X8, by decide, Or.inl (tb_in 601 (by decide +kernel) rfl)⟩
theorem fp_X8_74 : FP RX8 74 8 5 .int := ⟨RX8, TX8, 14, tyX8, rfl, in_X8, by decide, Or.inl (tb_in 601 (by decide +kernel) rfl), tyX8_ok, nmX8, rfl, by decide +kernel⟩
theorem fl_X8_128 : FL RX8 128 8 13 := ⟨RX8, TX8, 14, rfl, in_X8, by decide, Or.inl (tb_in 609 (by decide +kernel) rfl)⟩
theorem fp_X8_128 : FP RX8 128 8 13 .int := ⟨RX8, TX8, 14, tyX8, rfl, in_X8, by decide, Or.inl (tb_in 609 (by decide +kernel) rfl), tyX8_ok, nmX8, rfl, by decide +kernel⟩
theorem ml_X7_11 : ML RX7 11 yX5_init cX5_init 1 none 0 := ⟨Or.inr ⟨"SumsThatTell", tb_in 86 (by decide +kernel) rfl⟩, tb_in 63 (by decide +kernel) rfl, tb_in 88 (by decide +kernel) rfl, ⟨by decide, by decide⟩, by decide +kernel⟩
theorem ml_X7_26 : ML RX7 26 yX3_init cX3_init 1 none 0 := ⟨Or.inr ⟨"SumsThatTell", tb_in 228 (by decide +kernel) rfl⟩, tb_in 68 (by decide +kernel) rfl, tb_in 230 (by decide +kernel) rfl, ⟨by decide, by decide⟩, by decide +kernel⟩
theorem ml_X7_33 : ML RX7 33 yX4_init cX4_init 1 none 0 := ⟨Or.inr ⟨"SumsThatTell", tb_in 247 (by decide +kernel) rfl⟩, tb_in 69 (by decide +kernel) rfl, tb_in 249 (by decide +kernel) rfl, ⟨by decide, by decide⟩, by decide +kernel⟩
theorem ml_X7_48 : ML RX7 48 yX2_hasRoomFor cX2_hasRoomFor 4 (some .boolean) 3 := ⟨Or.inr ⟨"SumsThatTell", tb_in 293 (by decide +kernel) rfl⟩, tb_in 64 (by decide +kernel) rfl, tb_in 296 (by decide +kernel) rfl, ⟨by decide, by decide⟩, by decide +kernel⟩
theorem mv_X2_hasRoomFor : MV 2 yX2_hasRoomFor := ⟨tb_in 295 (by decide +kernel) rfl, tb_in 0 (by decide +kernel) rfl, (RX2, TX2, 12), rfl, rfl⟩
theorem ml_X7_52 : ML RX7 52 yX5_addNumber cX5_addNumber 6 none 5 := ⟨Or.inr ⟨"SumsThatTell", tb_in 297 (by decide +kernel) rfl⟩, tb_in 63 (by decide +kernel) rfl, tb_in 300 (by decide +kernel) rfl, ⟨by decide, by decide⟩, by decide +kernel⟩
theorem mv_X5_addNumber : MV 5 yX5_addNumber := ⟨tb_in 299 (by decide +kernel) rfl, tb_in 1 (by decide +kernel) rfl, (RX5, TX5, 4), rfl, rfl⟩
theorem ml_X7_69 : ML RX7 69 yX7_isAsker cX7_isAsker 1 (some .boolean) 1 := ⟨Or.inl (tb_in 327 (by decide +kernel) rfl), tb_in 62 (by decide +kernel) rfl, tb_in 329 (by decide +kernel) rfl, ⟨by decide, by decide⟩, by decide +kernel⟩
theorem st_X7_isAsker : Cond.static yX7_isAsker ∈ tb := tb_in 328 (by decide +kernel) rfl
theorem ml_X7_73 : ML RX7 73 yX7_isQuestion cX7_isQuestion 2 (some .boolean) 2 := ⟨Or.inl (tb_in 330 (by decide +kernel) rfl), tb_in 62 (by decide +kernel) rfl, tb_in 332 (by decide +kernel) rfl, ⟨by decide, by decide⟩, by decide +kernel⟩
theorem st_X7_isQuestion : Cond.static yX7_isQuestion ∈ tb := tb_in 331 (by decide +kernel) rfl
theorem ml_X7_86 : ML RX7 86 yX2_onlyPeople cX2_onlyPeople 2 (some .int) 1 := ⟨Or.inr ⟨"SumsThatTell", tb_in 333 (by decide +kernel) rfl⟩, tb_in 64 (by decide +kernel) rfl, tb_in 336 (by decide +kernel) rfl, ⟨by decide, by decide⟩, by decide +kernel⟩
theorem mv_X2_onlyPeople : MV 2 yX2_onlyPeople := ⟨tb_in 335 (by decide +kernel) rfl, tb_in 5 (by decide +kernel) rfl, (RX2, TX2, 12), rfl, rfl⟩
theorem ml_X7_90 : ML RX7 90 yX7_judge cX7_judge 5 (some .int) 4 := ⟨Or.inl (tb_in 337 (by decide +kernel) rfl), tb_in 62 (by decide +kernel) rfl, tb_in 340 (by decide +kernel) rfl, ⟨by decide, by decide⟩, by decide +kernel⟩
theorem mv_X7_judge : MV 7 yX7_judge := ⟨tb_in 339 (by decide +kernel) rfl, tb_in 6 (by decide +kernel) rfl, (RX7, TX7, 5), rfl, rfl⟩
theorem ml_X7_97 : ML RX7 97 yX2_hiddenTable cX2_hiddenTable 4 (some .int) 0 := ⟨Or.inr ⟨"SumsThatTell", tb_in 402 (by decide +kernel) rfl⟩, tb_in 64 (by decide +kernel) rfl, tb_in 405 (by decide +kernel) rfl, ⟨by decide, by decide⟩, by decide +kernel⟩
theorem mv_X2_hiddenTable : MV 2 yX2_hiddenTable := ⟨tb_in 404 (by decide +kernel) rfl, tb_in 18 (by decide +kernel) rfl, (RX2, TX2, 12), rfl, rfl⟩
theorem ml_X7_108 : ML RX7 108 yX1_keepOnly cX1_keepOnly 7 none 4 := ⟨Or.inr ⟨"SumsThatTell", tb_in 406 (by decide +kernel) rfl⟩, tb_in 65 (by decide +kernel) rfl, tb_in 409 (by decide +kernel) rfl, ⟨by decide, by decide⟩, by decide +kernel⟩
theorem mv_X1_keepOnly : MV 1 yX1_keepOnly := ⟨tb_in 408 (by decide +kernel) rfl, tb_in 19 (by decide +kernel) rfl, (RX1, TX1, 2), rfl, rfl⟩
theorem ml_X7_114 : ML RX7 114 yX0_add cX0_add 6 none 5 := ⟨Or.inr ⟨"SumsThatTell", tb_in 412 (by decide +kernel) rfl⟩, tb_in 66 (by decide +kernel) rfl, tb_in 415 (by decide +kernel) rfl, ⟨by decide, by decide⟩, by decide +kernel⟩
theorem mv_X0_add : MV 0 yX0_add := ⟨tb_in 414 (by decide +kernel) rfl, tb_in 20 (by decide +kernel) rfl, (RX0, TX0, 3), rfl, rfl⟩
theorem ml_X7_117 : ML RX7 117 yX1_unite cX1_unite 6 (some .boolean) 2 := ⟨Or.inr ⟨"SumsThatTell", tb_in 424 (by decide +kernel) rfl⟩, tb_in 65 (by decide +kernel) rfl, tb_in 427 (by decide +kernel) rfl, ⟨by decide, by decide⟩, by decide +kernel⟩
theorem mv_X1_unite : MV 1 yX1_unite := ⟨tb_in 426 (by decide +kernel) rfl, tb_in 21 (by decide +kernel) rfl, (RX1, TX1, 2), rfl, rfl⟩
theorem ml_X7_121 : ML RX7 121 yX7_seenBy cX7_seenBy 2 (some .long) 1 := ⟨Or.inl (tb_in 432 (by decide +kernel) rfl), tb_in 62 (by decide +kernel) rfl, tb_in 435 (by decide +kernel) rfl, ⟨by decide, by decide⟩, by decide +kernel⟩
theorem mv_X7_seenBy : MV 7 yX7_seenBy := ⟨tb_in 434 (by decide +kernel) rfl, tb_in 22 (by decide +kernel) rfl, (RX7, TX7, 5), rfl, rfl⟩
theorem ml_X7_125 : ML RX7 125 yX2_valuesIn cX2_valuesIn 4 (some .int) 2 := ⟨Or.inr ⟨"SumsThatTell", tb_in 440 (by decide +kernel) rfl⟩, tb_in 64 (by decide +kernel) rfl, tb_in 401 (by decide +kernel) rfl, ⟨by decide, by decide⟩, by decide +kernel⟩
theorem mv_X2_valuesIn : MV 2 yX2_valuesIn := ⟨tb_in 400 (by decide +kernel) rfl, tb_in 17 (by decide +kernel) rfl, (RX2, TX2, 12), rfl, rfl⟩
theorem ml_X7_129 : ML RX7 129 yX7_lowestBit cX7_lowestBit 2 (some .int) 1 := ⟨Or.inl (tb_in 441 (by decide +kernel) rfl), tb_in 62 (by decide +kernel) rfl, tb_in 443 (by decide +kernel) rfl, ⟨by decide, by decide⟩, by decide +kernel⟩
theorem st_X7_lowestBit : Cond.static yX7_lowestBit ∈ tb := tb_in 442 (by decide +kernel) rfl
theorem ml_X7_132 : ML RX7 132 yX7_highestBit cX7_highestBit 2 (some .int) 1 := ⟨Or.inl (tb_in 445 (by decide +kernel) rfl), tb_in 62 (by decide +kernel) rfl, tb_in 447 (by decide +kernel) rfl, ⟨by decide, by decide⟩, by decide +kernel⟩
theorem st_X7_highestBit : Cond.static yX7_highestBit ∈ tb := tb_in 446 (by decide +kernel) rfl
theorem ml_X7_135 : ML RX7 135 yJ6_bitCount_0f7a4 cJ6_bitCount_0f7a4 1 (some .int) 1 := ⟨Or.inl (tb_in 448 (by decide +kernel) rfl), tb_in 73 (by decide +kernel) rfl, tb_in 450 (by decide +kernel) rfl, ⟨by decide, by decide⟩, by decide +kernel⟩
theorem st_J6_bitCount_0f7a4 : Cond.static yJ6_bitCount_0f7a4 ∈ tb := tb_in 449 (by decide +kernel) rfl
theorem ml_X7_140 : ML RX7 140 yX1_tablesLeft cX1_tablesLeft 5 (some .int) 1 := ⟨Or.inr ⟨"SumsThatTell", tb_in 458 (by decide +kernel) rfl⟩, tb_in 65 (by decide +kernel) rfl, tb_in 461 (by decide +kernel) rfl, ⟨by decide, by decide⟩, by decide +kernel⟩
theorem mv_X1_tablesLeft : MV 1 yX1_tablesLeft := ⟨tb_in 460 (by decide +kernel) rfl, tb_in 24 (by decide +kernel) rfl, (RX1, TX1, 2), rfl, rfl⟩
theorem ml_X7_143 : ML RX7 143 yX2_areSafe cX2_areSafe 8 (some .boolean) 1 := ⟨Or.inr ⟨"SumsThatTell", tb_in 472 (by decide +kernel) rfl⟩, tb_in 64 (by decide +kernel) rfl, tb_in 397 (by decide +kernel) rfl, ⟨by decide, by decide⟩, by decide +kernel⟩
theorem mv_X2_areSafe : MV 2 yX2_areSafe := ⟨tb_in 396 (by decide +kernel) rfl, tb_in 16 (by decide +kernel) rfl, (RX2, TX2, 12), rfl, rfl⟩
theorem ml_X7_150 : ML RX7 150 yX2_isCurrent cX2_isCurrent 2 (some .boolean) 1 := ⟨Or.inr ⟨"SumsThatTell", tb_in 477 (by decide +kernel) rfl⟩, tb_in 64 (by decide +kernel) rfl, tb_in 357 (by decide +kernel) rfl, ⟨by decide, by decide⟩, by decide +kernel⟩
theorem mv_X2_isCurrent : MV 2 yX2_isCurrent := ⟨tb_in 356 (by decide +kernel) rfl, tb_in 10 (by decide +kernel) rfl, (RX2, TX2, 12), rfl, rfl⟩
theorem ml_X7_167 : ML RX7 167 yX6_add cX6_add 4 (some .int) 3 := ⟨Or.inr ⟨"SumsThatTell", tb_in 486 (by decide +kernel) rfl⟩, tb_in 67 (by decide +kernel) rfl, tb_in 489 (by decide +kernel) rfl, ⟨by decide, by decide⟩, by decide +kernel⟩
theorem mv_X6_add : MV 6 yX6_add := ⟨tb_in 488 (by decide +kernel) rfl, tb_in 25 (by decide +kernel) rfl, (RX6, TX6, 4), rfl, rfl⟩
theorem ml_X7_170 : ML RX7 170 yX7_answerWishes cX7_answerWishes 4 none 1 := ⟨Or.inl (tb_in 498 (by decide +kernel) rfl), tb_in 62 (by decide +kernel) rfl, tb_in 501 (by decide +kernel) rfl, ⟨by decide, by decide⟩, by decide +kernel⟩
theorem mv_X7_answerWishes : MV 7 yX7_answerWishes := ⟨tb_in 500 (by decide +kernel) rfl, tb_in 26 (by decide +kernel) rfl, (RX7, TX7, 5), rfl, rfl⟩
theorem ml_X7_174 : ML RX7 174 yX7_largestGranted cX7_largestGranted 8 (some .int) 5 := ⟨Or.inl (tb_in 511 (by decide +kernel) rfl), tb_in 62 (by decide +kernel) rfl, tb_in 513 (by decide +kernel) rfl, ⟨by decide, by decide⟩, by decide +kernel⟩
theorem st_X7_largestGranted : Cond.static yX7_largestGranted ∈ tb := tb_in 512 (by decide +kernel) rfl
theorem ml_X7_178 : ML RX7 178 yX4_isGranted cX4_isGranted 3 (some .boolean) 1 := ⟨Or.inr ⟨"SumsThatTell", tb_in 514 (by decide +kernel) rfl⟩, tb_in 69 (by decide +kernel) rfl, tb_in 517 (by decide +kernel) rfl, ⟨by decide, by decide⟩, by decide +kernel⟩
theorem mv_X4_isGranted : MV 4 yX4_isGranted := ⟨tb_in 516 (by decide +kernel) rfl, tb_in 29 (by decide +kernel) rfl, (RX4, TX4, 7), rfl, rfl⟩
theorem ml_X7_184 : ML RX7 184 yX1_circles cX1_circles 3 (some .int) 0 := ⟨Or.inr ⟨"SumsThatTell", tb_in 551 (by decide +kernel) rfl⟩, tb_in 65 (by decide +kernel) rfl, tb_in 554 (by decide +kernel) rfl, ⟨by decide, by decide⟩, by decide +kernel⟩
theorem mv_X1_circles : MV 1 yX1_circles := ⟨tb_in 553 (by decide +kernel) rfl, tb_in 33 (by decide +kernel) rfl, (RX1, TX1, 2), rfl, rfl⟩
theorem ml_X7_187 : ML RX7 187 yX5_copyFrom cX5_copyFrom 2 none 1 := ⟨Or.inr ⟨"SumsThatTell", tb_in 559 (by decide +kernel) rfl⟩, tb_in 63 (by decide +kernel) rfl, tb_in 562 (by decide +kernel) rfl, ⟨by decide, by decide⟩, by decide +kernel⟩
theorem mv_X5_copyFrom : MV 5 yX5_copyFrom := ⟨tb_in 561 (by decide +kernel) rfl, tb_in 34 (by decide +kernel) rfl, (RX5, TX5, 4), rfl, rfl⟩
theorem ml_X7_191 : ML RX7 191 yX7_holdsBit cX7_holdsBit 2 (some .boolean) 2 := ⟨Or.inl (tb_in 444 (by decide +kernel) rfl), tb_in 62 (by decide +kernel) rfl, tb_in 360 (by decide +kernel) rfl, ⟨by decide, by decide⟩, by decide +kernel⟩
theorem st_X7_holdsBit : Cond.static yX7_holdsBit ∈ tb := tb_in 359 (by decide +kernel) rfl
theorem ml_X7_194 : ML RX7 194 yX3_markTables cX3_markTables 9 none 1 := ⟨Or.inr ⟨"SumsThatTell", tb_in 341 (by decide +kernel) rfl⟩, tb_in 68 (by decide +kernel) rfl, tb_in 344 (by decide +kernel) rfl, ⟨by decide, by decide⟩, by decide +kernel⟩
theorem mv_X3_markTables : MV 3 yX3_markTables := ⟨tb_in 343 (by decide +kernel) rfl, tb_in 7 (by decide +kernel) rfl, (RX3, TX3, 3), rfl, rfl⟩
theorem ml_X7_198 : ML RX7 198 yX3_answerTables cX3_answerTables 13 none 4 := ⟨Or.inr ⟨"SumsThatTell", tb_in 346 (by decide +kernel) rfl⟩, tb_in 68 (by decide +kernel) rfl, tb_in 349 (by decide +kernel) rfl, ⟨by decide, by decide⟩, by decide +kernel⟩
theorem mv_X3_answerTables : MV 3 yX3_answerTables := ⟨tb_in 348 (by decide +kernel) rfl, tb_in 8 (by decide +kernel) rfl, (RX3, TX3, 3), rfl, rfl⟩
theorem ml_X7_202 : ML RX7 202 yX1_leftOf cX1_leftOf 2 (some (.array .long)) 1 := ⟨Or.inr ⟨"SumsThatTell", tb_in 374 (by decide +kernel) rfl⟩, tb_in 65 (by decide +kernel) rfl, tb_in 377 (by decide +kernel) rfl, ⟨by decide, by decide⟩, by decide +kernel⟩
theorem mv_X1_leftOf : MV 1 yX1_leftOf := ⟨tb_in 376 (by decide +kernel) rfl, tb_in 12 (by decide +kernel) rfl, (RX1, TX1, 2), rfl, rfl⟩
theorem ml_X7_206 : ML RX7 206 yX3_gatherCells cX3_gatherCells 4 none 2 := ⟨Or.inr ⟨"SumsThatTell", tb_in 378 (by decide +kernel) rfl⟩, tb_in 68 (by decide +kernel) rfl, tb_in 381 (by decide +kernel) rfl, ⟨by decide, by decide⟩, by decide +kernel⟩
theorem mv_X3_gatherCells : MV 3 yX3_gatherCells := ⟨tb_in 380 (by decide +kernel) rfl, tb_in 13 (by decide +kernel) rfl, (RX3, TX3, 3), rfl, rfl⟩
theorem ml_X7_210 : ML RX7 210 yX3_cellsUsed cX3_cellsUsed 3 (some .int) 0 := ⟨Or.inr ⟨"SumsThatTell", tb_in 386 (by decide +kernel) rfl⟩, tb_in 68 (by decide +kernel) rfl, tb_in 389 (by decide +kernel) rfl, ⟨by decide, by decide⟩, by decide +kernel⟩
theorem mv_X3_cellsUsed : MV 3 yX3_cellsUsed := ⟨tb_in 388 (by decide +kernel) rfl, tb_in 14 (by decide +kernel) rfl, (RX3, TX3, 3), rfl, rfl⟩
theorem ml_X7_213 : ML RX7 213 yX3_areCellsSafe cX3_areCellsSafe 3 (some .boolean) 1 := ⟨Or.inr ⟨"SumsThatTell", tb_in 390 (by decide +kernel) rfl⟩, tb_in 68 (by decide +kernel) rfl, tb_in 393 (by decide +kernel) rfl, ⟨by decide, by decide⟩, by decide +kernel⟩
theorem mv_X3_areCellsSafe : MV 3 yX3_areCellsSafe := ⟨tb_in 392 (by decide +kernel) rfl, tb_in 15 (by decide +kernel) rfl, (RX3, TX3, 3), rfl, rfl⟩
theorem ml_X7_217 : ML RX7 217 yX3_seenIn cX3_seenIn 6 (some .long) 2 := ⟨Or.inr ⟨"SumsThatTell", tb_in 436 (by decide +kernel) rfl⟩, tb_in 68 (by decide +kernel) rfl, tb_in 439 (by decide +kernel) rfl, ⟨by decide, by decide⟩, by decide +kernel⟩
theorem mv_X3_seenIn : MV 3 yX3_seenIn := ⟨tb_in 438 (by decide +kernel) rfl, tb_in 23 (by decide +kernel) rfl, (RX3, TX3, 3), rfl, rfl⟩
theorem ml_X7_225 : ML RX7 225 yX4_begin cX4_begin 5 none 3 := ⟨Or.inr ⟨"SumsThatTell", tb_in 502 (by decide +kernel) rfl⟩, tb_in 69 (by decide +kernel) rfl, tb_in 505 (by decide +kernel) rfl, ⟨by decide, by decide⟩, by decide +kernel⟩
theorem mv_X4_begin : MV 4 yX4_begin := ⟨tb_in 504 (by decide +kernel) rfl, tb_in 27 (by decide +kernel) rfl, (RX4, TX4, 7), rfl, rfl⟩
theorem ml_X7_238 : ML RX7 238 yX4_addAnswers cX4_addAnswers 5 none 2 := ⟨Or.inr ⟨"SumsThatTell", tb_in 507 (by decide +kernel) rfl⟩, tb_in 69 (by decide +kernel) rfl, tb_in 510 (by decide +kernel) rfl, ⟨by decide, by decide⟩, by decide +kernel⟩
theorem mv_X4_addAnswers : MV 4 yX4_addAnswers := ⟨tb_in 509 (by decide +kernel) rfl, tb_in 28 (by decide +kernel) rfl, (RX4, TX4, 7), rfl, rfl⟩
theorem ml_X7_242 : ML RX7 242 yX7_betterOf cX7_betterOf 3 (some .int) 2 := ⟨Or.inl (tb_in 539 (by decide +kernel) rfl), tb_in 62 (by decide +kernel) rfl, tb_in 541 (by decide +kernel) rfl, ⟨by decide, by decide⟩, by decide +kernel⟩
theorem st_X7_betterOf : Cond.static yX7_betterOf ∈ tb := tb_in 540 (by decide +kernel) rfl
theorem ml_X7_246 : ML RX7 246 yJ9_min_7cf53 cJ9_min_7cf53 2 (some .int) 2 := ⟨Or.inl (tb_in 542 (by decide +kernel) rfl), tb_in 71 (by decide +kernel) rfl, tb_in 369 (by decide +kernel) rfl, ⟨by decide, by decide⟩, by decide +kernel⟩
theorem st_J9_min_7cf53 : Cond.static yJ9_min_7cf53 ∈ tb := tb_in 368 (by decide +kernel) rfl
theorem ml_X1_20 : ML RX1 20 yX1_leftOf cX1_leftOf 2 (some (.array .long)) 1 := ⟨Or.inl (tb_in 410 (by decide +kernel) rfl), tb_in 65 (by decide +kernel) rfl, tb_in 377 (by decide +kernel) rfl, ⟨by decide, by decide⟩, by decide +kernel⟩
theorem ml_X1_24 : ML RX1 24 yJ13_bitCount_95d88 cJ13_bitCount_95d88 2 (some .int) 1 := ⟨Or.inl (tb_in 462 (by decide +kernel) rfl), tb_in 74 (by decide +kernel) rfl, tb_in 464 (by decide +kernel) rfl, ⟨by decide, by decide⟩, by decide +kernel⟩
theorem st_J13_bitCount_95d88 : Cond.static yJ13_bitCount_95d88 ∈ tb := tb_in 463 (by decide +kernel) rfl
theorem ml_X1_30 : ML RX1 30 yX1_repeat cX1_repeat 6 none 3 := ⟨Or.inl (tb_in 305 (by decide +kernel) rfl), tb_in 65 (by decide +kernel) rfl, tb_in 307 (by decide +kernel) rfl, ⟨by decide, by decide⟩, by decide +kernel⟩
theorem st_X1_repeat : Cond.static yX1_repeat ∈ tb := tb_in 306 (by decide +kernel) rfl
theorem ml_X1_34 : ML RX1 34 yX1_holds cX1_holds 2 (some .boolean) 2 := ⟨Or.inl (tb_in 308 (by decide +kernel) rfl), tb_in 65 (by decide +kernel) rfl, tb_in 310 (by decide +kernel) rfl, ⟨by decide, by decide⟩, by decide +kernel⟩
theorem st_X1_holds : Cond.static yX1_holds ∈ tb := tb_in 309 (by decide +kernel) rfl
theorem ml_X2_49 : ML RX2 49 yX2_valueCount cX2_valueCount 2 (some .int) 1 := ⟨Or.inl (tb_in 315 (by decide +kernel) rfl), tb_in 64 (by decide +kernel) rfl, tb_in 318 (by decide +kernel) rfl, ⟨by decide, by decide⟩, by decide +kernel⟩
theorem mv_X2_valueCount : MV 2 yX2_valueCount := ⟨tb_in 317 (by decide +kernel) rfl, tb_in 4 (by decide +kernel) rfl, (RX2, TX2, 12), rfl, rfl⟩
theorem ml_X2_53 : ML RX2 53 yX2_isCurrent cX2_isCurrent 2 (some .boolean) 1 := ⟨Or.inl (tb_in 354 (by decide +kernel) rfl), tb_in 64 (by decide +kernel) rfl, tb_in 357 (by decide +kernel) rfl, ⟨by decide, by decide⟩, by decide +kernel⟩
theorem ml_X2_57 : ML RX2 57 yX7_holdsBit cX7_holdsBit 2 (some .boolean) 2 := ⟨Or.inr ⟨"SumsThatTell", tb_in 358 (by decide +kernel) rfl⟩, tb_in 62 (by decide +kernel) rfl, tb_in 360 (by decide +kernel) rfl, ⟨by decide, by decide⟩, by decide +kernel⟩
theorem ml_X2_61 : ML RX2 61 yX2_valuesIn cX2_valuesIn 4 (some .int) 2 := ⟨Or.inl (tb_in 398 (by decide +kernel) rfl), tb_in 64 (by decide +kernel) rfl, tb_in 401 (by decide +kernel) rfl, ⟨by decide, by decide⟩, by decide +kernel⟩
theorem ml_X3_28 : ML RX3 28 yX2_valueCount cX2_valueCount 2 (some .int) 1 := ⟨Or.inr ⟨"SumsThatTell", tb_in 345 (by decide +kernel) rfl⟩, tb_in 64 (by decide +kernel) rfl, tb_in 318 (by decide +kernel) rfl, ⟨by decide, by decide⟩, by decide +kernel⟩
theorem ml_X3_35 : ML RX3 35 yX2_isAskedOf cX2_isAskedOf 3 (some .boolean) 2 := ⟨Or.inr ⟨"SumsThatTell", tb_in 350 (by decide +kernel) rfl⟩, tb_in 64 (by decide +kernel) rfl, tb_in 353 (by decide +kernel) rfl, ⟨by decide, by decide⟩, by decide +kernel⟩
theorem mv_X2_isAskedOf : MV 2 yX2_isAskedOf := ⟨tb_in 352 (by decide +kernel) rfl, tb_in 9 (by decide +kernel) rfl, (RX2, TX2, 12), rfl, rfl⟩
theorem ml_X3_42 : ML RX3 42 yX3_withValue cX3_withValue 4 (some .int) 4 := ⟨Or.inl (tb_in 361 (by decide +kernel) rfl), tb_in 68 (by decide +kernel) rfl, tb_in 363 (by decide +kernel) rfl, ⟨by decide, by decide⟩, by decide +kernel⟩
theorem st_X3_withValue : Cond.static yX3_withValue ∈ tb := tb_in 362 (by decide +kernel) rfl
theorem ml_X3_46 : ML RX3 46 yX3_cutAnswers cX3_cutAnswers 4 none 2 := ⟨Or.inl (tb_in 370 (by decide +kernel) rfl), tb_in 68 (by decide +kernel) rfl, tb_in 373 (by decide +kernel) rfl, ⟨by decide, by decide⟩, by decide +kernel⟩
theorem mv_X3_cutAnswers : MV 3 yX3_cutAnswers := ⟨tb_in 372 (by decide +kernel) rfl, tb_in 11 (by decide +kernel) rfl, (RX3, TX3, 3), rfl, rfl⟩
theorem ml_X3_50 : ML RX3 50 yJ9_max_7cf53 cJ9_max_7cf53 2 (some .int) 2 := ⟨Or.inl (tb_in 364 (by decide +kernel) rfl), tb_in 71 (by decide +kernel) rfl, tb_in 366 (by decide +kernel) rfl, ⟨by decide, by decide⟩, by decide +kernel⟩
theorem st_J9_max_7cf53 : Cond.static yJ9_max_7cf53 ∈ tb := tb_in 365 (by decide +kernel) rfl
theorem ml_X3_56 : ML RX3 56 yJ9_min_7cf53 cJ9_min_7cf53 2 (some .int) 2 := ⟨Or.inl (tb_in 367 (by decide +kernel) rfl), tb_in 71 (by decide +kernel) rfl, tb_in 369 (by decide +kernel) rfl, ⟨by decide, by decide⟩, by decide +kernel⟩
theorem ml_X3_59 : ML RX3 59 yX1_holds cX1_holds 2 (some .boolean) 2 := ⟨Or.inr ⟨"SumsThatTell", tb_in 385 (by decide +kernel) rfl⟩, tb_in 65 (by decide +kernel) rfl, tb_in 310 (by decide +kernel) rfl, ⟨by decide, by decide⟩, by decide +kernel⟩
theorem ml_X3_65 : ML RX3 65 yJ7_fill_d0a16 cJ7_fill_d0a16 5 none 2 := ⟨Or.inl (tb_in 382 (by decide +kernel) rfl), tb_in 72 (by decide +kernel) rfl, tb_in 384 (by decide +kernel) rfl, ⟨by decide, by decide⟩, by decide +kernel⟩
theorem st_J7_fill_d0a16 : Cond.static yJ7_fill_d0a16 ∈ tb := tb_in 383 (by decide +kernel) rfl
theorem ml_X3_71 : ML RX3 71 yX2_areSafe cX2_areSafe 8 (some .boolean) 1 := ⟨Or.inr ⟨"SumsThatTell", tb_in 394 (by decide +kernel) rfl⟩, tb_in 64 (by decide +kernel) rfl, tb_in 397 (by decide +kernel) rfl, ⟨by decide, by decide⟩, by decide +kernel⟩
theorem ml_X4_41 : ML RX4 41 yX1_holds cX1_holds 2 (some .boolean) 2 := ⟨Or.inr ⟨"SumsThatTell", tb_in 506 (by decide +kernel) rfl⟩, tb_in 65 (by decide +kernel) rfl, tb_in 310 (by decide +kernel) rfl, ⟨by decide, by decide⟩, by decide +kernel⟩
theorem ml_X4_47 : ML RX4 47 yX7_holdsBit cX7_holdsBit 2 (some .boolean) 2 := ⟨Or.inr ⟨"SumsThatTell", tb_in 518 (by decide +kernel) rfl⟩, tb_in 62 (by decide +kernel) rfl, tb_in 360 (by decide +kernel) rfl, ⟨by decide, by decide⟩, by decide +kernel⟩
theorem ml_X4_51 : ML RX4 51 yX4_sortBy cX4_sortBy 4 none 1 := ⟨Or.inl (tb_in 519 (by decide +kernel) rfl), tb_in 69 (by decide +kernel) rfl, tb_in 522 (by decide +kernel) rfl, ⟨by decide, by decide⟩, by decide +kernel⟩
theorem mv_X4_sortBy : MV 4 yX4_sortBy := ⟨tb_in 521 (by decide +kernel) rfl, tb_in 30 (by decide +kernel) rfl, (RX4, TX4, 7), rfl, rfl⟩
theorem ml_X4_55 : ML RX4 55 yX4_answerBitsOf cX4_answerBitsOf 4 (some .long) 1 := ⟨Or.inl (tb_in 530 (by decide +kernel) rfl), tb_in 69 (by decide +kernel) rfl, tb_in 532 (by decide +kernel) rfl, ⟨by decide, by decide⟩, by decide +kernel⟩
theorem st_X4_answerBitsOf : Cond.static yX4_answerBitsOf ∈ tb := tb_in 531 (by decide +kernel) rfl
theorem ml_X4_59 : ML RX4 59 yX4_areCellsSafe cX4_areCellsSafe 8 (some .boolean) 1 := ⟨Or.inl (tb_in 534 (by decide +kernel) rfl), tb_in 69 (by decide +kernel) rfl, tb_in 537 (by decide +kernel) rfl, ⟨by decide, by decide⟩, by decide +kernel⟩
theorem mv_X4_areCellsSafe : MV 4 yX4_areCellsSafe := ⟨tb_in 536 (by decide +kernel) rfl, tb_in 32 (by decide +kernel) rfl, (RX4, TX4, 7), rfl, rfl⟩
theorem ml_X4_63 : ML RX4 63 yJ7_fill_53178 cJ7_fill_53178 4 none 2 := ⟨Or.inl (tb_in 523 (by decide +kernel) rfl), tb_in 72 (by decide +kernel) rfl, tb_in 525 (by decide +kernel) rfl, ⟨by decide, by decide⟩, by decide +kernel⟩
theorem st_J7_fill_53178 : Cond.static yJ7_fill_53178 ∈ tb := tb_in 524 (by decide +kernel) rfl
theorem ml_X4_69 : ML RX4 69 yX4_answerTo cX4_answerTo 3 (some .int) 2 := ⟨Or.inl (tb_in 526 (by decide +kernel) rfl), tb_in 69 (by decide +kernel) rfl, tb_in 529 (by decide +kernel) rfl, ⟨by decide, by decide⟩, by decide +kernel⟩
theorem mv_X4_answerTo : MV 4 yX4_answerTo := ⟨tb_in 528 (by decide +kernel) rfl, tb_in 31 (by decide +kernel) rfl, (RX4, TX4, 7), rfl, rfl⟩
theorem ml_X4_73 : ML RX4 73 yX2_areSafe cX2_areSafe 8 (some .boolean) 1 := ⟨Or.inr ⟨"SumsThatTell", tb_in 538 (by decide +kernel) rfl⟩, tb_in 64 (by decide +kernel) rfl, tb_in 397 (by decide +kernel) rfl, ⟨by decide, by decide⟩, by decide +kernel⟩
theorem ml_X5_9 : ML RX5 9 yX2_init cX2_init 1 none 0 := ⟨Or.inr ⟨"SumsThatTell", tb_in 92 (by decide +kernel) rfl⟩, tb_in 64 (by decide +kernel) rfl, tb_in 94 (by decide +kernel) rfl, ⟨by decide, by decide⟩, by decide +kernel⟩
theorem ml_X5_18 : ML RX5 18 yX1_init cX1_init 2 none 0 := ⟨Or.inr ⟨"SumsThatTell", tb_in 150 (by decide +kernel) rfl⟩, tb_in 65 (by decide +kernel) rfl, tb_in 152 (by decide +kernel) rfl, ⟨by decide, by decide⟩, by decide +kernel⟩
theorem ml_X5_25 : ML RX5 25 yX0_init cX0_init 1 none 0 := ⟨Or.inr ⟨"SumsThatTell", tb_in 166 (by decide +kernel) rfl⟩, tb_in 66 (by decide +kernel) rfl, tb_in 168 (by decide +kernel) rfl, ⟨by decide, by decide⟩, by decide +kernel⟩
theorem ml_X5_32 : ML RX5 32 yX6_init cX6_init 1 none 0 := ⟨Or.inr ⟨"SumsThatTell", tb_in 187 (by decide +kernel) rfl⟩, tb_in 67 (by decide +kernel) rfl, tb_in 189 (by decide +kernel) rfl, ⟨by decide, by decide⟩, by decide +kernel⟩
theorem ml_X5_41 : ML RX5 41 yX1_widen cX1_widen 4 none 2 := ⟨Or.inr ⟨"SumsThatTell", tb_in 301 (by decide +kernel) rfl⟩, tb_in 65 (by decide +kernel) rfl, tb_in 304 (by decide +kernel) rfl, ⟨by decide, by decide⟩, by decide +kernel⟩
theorem mv_X1_widen : MV 1 yX1_widen := ⟨tb_in 303 (by decide +kernel) rfl, tb_in 2 (by decide +kernel) rfl, (RX1, TX1, 2), rfl, rfl⟩
theorem ml_X5_45 : ML RX5 45 yX2_add cX2_add 6 none 5 := ⟨Or.inr ⟨"SumsThatTell", tb_in 311 (by decide +kernel) rfl⟩, tb_in 64 (by decide +kernel) rfl, tb_in 314 (by decide +kernel) rfl, ⟨by decide, by decide⟩, by decide +kernel⟩
theorem mv_X2_add : MV 2 yX2_add := ⟨tb_in 313 (by decide +kernel) rfl, tb_in 3 (by decide +kernel) rfl, (RX2, TX2, 12), rfl, rfl⟩
theorem ml_X5_49 : ML RX5 49 yX2_copyFrom cX2_copyFrom 2 none 1 := ⟨Or.inr ⟨"SumsThatTell", tb_in 563 (by decide +kernel) rfl⟩, tb_in 64 (by decide +kernel) rfl, tb_in 566 (by decide +kernel) rfl, ⟨by decide, by decide⟩, by decide +kernel⟩
theorem mv_X2_copyFrom : MV 2 yX2_copyFrom := ⟨tb_in 565 (by decide +kernel) rfl, tb_in 35 (by decide +kernel) rfl, (RX2, TX2, 12), rfl, rfl⟩
theorem ml_X5_53 : ML RX5 53 yX1_copyFrom cX1_copyFrom 3 none 1 := ⟨Or.inr ⟨"SumsThatTell", tb_in 570 (by decide +kernel) rfl⟩, tb_in 65 (by decide +kernel) rfl, tb_in 573 (by decide +kernel) rfl, ⟨by decide, by decide⟩, by decide +kernel⟩
theorem mv_X1_copyFrom : MV 1 yX1_copyFrom := ⟨tb_in 572 (by decide +kernel) rfl, tb_in 36 (by decide +kernel) rfl, (RX1, TX1, 2), rfl, rfl⟩
theorem ml_X5_56 : ML RX5 56 yX0_copyFrom cX0_copyFrom 3 none 1 := ⟨Or.inr ⟨"SumsThatTell", tb_in 575 (by decide +kernel) rfl⟩, tb_in 66 (by decide +kernel) rfl, tb_in 578 (by decide +kernel) rfl, ⟨by decide, by decide⟩, by decide +kernel⟩
theorem mv_X0_copyFrom : MV 0 yX0_copyFrom := ⟨tb_in 577 (by decide +kernel) rfl, tb_in 37 (by decide +kernel) rfl, (RX0, TX0, 3), rfl, rfl⟩
theorem ml_X5_59 : ML RX5 59 yX6_copyFrom cX6_copyFrom 2 none 1 := ⟨Or.inr ⟨"SumsThatTell", tb_in 580 (by decide +kernel) rfl⟩, tb_in 67 (by decide +kernel) rfl, tb_in 583 (by decide +kernel) rfl, ⟨by decide, by decide⟩, by decide +kernel⟩
theorem mv_X6_copyFrom : MV 6 yX6_copyFrom := ⟨tb_in 582 (by decide +kernel) rfl, tb_in 38 (by decide +kernel) rfl, (RX6, TX6, 4), rfl, rfl⟩
theorem ml_L_9 : ML RL 9 yX7_init cX7_init 2 none 0 := ⟨Or.inl (tb_in 78 (by decide +kernel) rfl), tb_in 62 (by decide +kernel) rfl, tb_in 80 (by decide +kernel) rfl, ⟨by decide, by decide⟩, by decide +kernel⟩
theorem ml_L_12 : ML RL 12 yX8_init cX8_init 2 none 0 := ⟨Or.inl (tb_in 591 (by decide +kernel) rfl), tb_in 70 (by decide +kernel) rfl, tb_in 593 (by decide +kernel) rfl, ⟨by decide, by decide⟩, by decide +kernel⟩
theorem ml_L_13 : ML RL 13 yX7_person cX7_person 7 (some .int) 4 := ⟨Or.inl (tb_in 289 (by decide +kernel) rfl), tb_in 62 (by decide +kernel) rfl, tb_in 292 (by decide +kernel) rfl, ⟨by decide, by decide⟩, by decide +kernel⟩
theorem mv_X7_person : MV 7 yX7_person := ⟨tb_in 290 (by decide +kernel) rfl, tb_in 291 (by decide +kernel) rfl, (RX7, TX7, 5), rfl, rfl⟩
theorem ml_L_17 : ML RL 17 yX8_person cX8_person 7 (some .int) 4 := ⟨Or.inl (tb_in 639 (by decide +kernel) rfl), tb_in 70 (by decide +kernel) rfl, tb_in 642 (by decide +kernel) rfl, ⟨by decide, by decide⟩, by decide +kernel⟩
theorem mv_X8_person : MV 8 yX8_person := ⟨tb_in 640 (by decide +kernel) rfl, tb_in 641 (by decide +kernel) rfl, (RX8, TX8, 14), rfl, rfl⟩
theorem ml_L_18 : ML RL 18 yX7_change cX7_change 7 (some .int) 2 := ⟨Or.inl (tb_in 319 (by decide +kernel) rfl), tb_in 62 (by decide +kernel) rfl, tb_in 322 (by decide +kernel) rfl, ⟨by decide, by decide⟩, by decide +kernel⟩
theorem mv_X7_change : MV 7 yX7_change := ⟨tb_in 320 (by decide +kernel) rfl, tb_in 321 (by decide +kernel) rfl, (RX7, TX7, 5), rfl, rfl⟩
theorem ml_L_22 : ML RL 22 yX8_change cX8_change 4 (some .int) 2 := ⟨Or.inl (tb_in 658 (by decide +kernel) rfl), tb_in 70 (by decide +kernel) rfl, tb_in 661 (by decide +kernel) rfl, ⟨by decide, by decide⟩, by decide +kernel⟩
theorem mv_X8_change : MV 8 yX8_change := ⟨tb_in 659 (by decide +kernel) rfl, tb_in 660 (by decide +kernel) rfl, (RX8, TX8, 14), rfl, rfl⟩
theorem ml_L_23 : ML RL 23 yX7_ask cX7_ask 7 (some .int) 4 := ⟨Or.inl (tb_in 323 (by decide +kernel) rfl), tb_in 62 (by decide +kernel) rfl, tb_in 326 (by decide +kernel) rfl, ⟨by decide, by decide⟩, by decide +kernel⟩
theorem mv_X7_ask : MV 7 yX7_ask := ⟨tb_in 324 (by decide +kernel) rfl, tb_in 325 (by decide +kernel) rfl, (RX7, TX7, 5), rfl, rfl⟩
theorem ml_L_26 : ML RL 26 yX8_ask cX8_ask 10 (some .int) 4 := ⟨Or.inl (tb_in 724 (by decide +kernel) rfl), tb_in 70 (by decide +kernel) rfl, tb_in 727 (by decide +kernel) rfl, ⟨by decide, by decide⟩, by decide +kernel⟩
theorem mv_X8_ask : MV 8 yX8_ask := ⟨tb_in 725 (by decide +kernel) rfl, tb_in 726 (by decide +kernel) rfl, (RX8, TX8, 14), rfl, rfl⟩
theorem ml_L_27 : ML RL 27 yX7_would cX7_would 5 (some .int) 4 := ⟨Or.inl (tb_in 416 (by decide +kernel) rfl), tb_in 62 (by decide +kernel) rfl, tb_in 419 (by decide +kernel) rfl, ⟨by decide, by decide⟩, by decide +kernel⟩
theorem mv_X7_would : MV 7 yX7_would := ⟨tb_in 417 (by decide +kernel) rfl, tb_in 418 (by decide +kernel) rfl, (RX7, TX7, 5), rfl, rfl⟩
theorem ml_L_30 : ML RL 30 yX8_would cX8_would 5 (some .int) 4 := ⟨Or.inl (tb_in 666 (by decide +kernel) rfl), tb_in 70 (by decide +kernel) rfl, tb_in 669 (by decide +kernel) rfl, ⟨by decide, by decide⟩, by decide +kernel⟩
theorem mv_X8_would : MV 8 yX8_would := ⟨tb_in 667 (by decide +kernel) rfl, tb_in 668 (by decide +kernel) rfl, (RX8, TX8, 14), rfl, rfl⟩
theorem ml_L_31 : ML RL 31 yX7_join cX7_join 3 (some .boolean) 2 := ⟨Or.inl (tb_in 420 (by decide +kernel) rfl), tb_in 62 (by decide +kernel) rfl, tb_in 423 (by decide +kernel) rfl, ⟨by decide, by decide⟩, by decide +kernel⟩
theorem mv_X7_join : MV 7 yX7_join := ⟨tb_in 421 (by decide +kernel) rfl, tb_in 422 (by decide +kernel) rfl, (RX7, TX7, 5), rfl, rfl⟩
theorem ml_L_35 : ML RL 35 yX8_join cX8_join 9 (some .boolean) 2 := ⟨Or.inl (tb_in 736 (by decide +kernel) rfl), tb_in 70 (by decide +kernel) rfl, tb_in 739 (by decide +kernel) rfl, ⟨by decide, by decide⟩, by decide +kernel⟩
theorem mv_X8_join : MV 8 yX8_join := ⟨tb_in 737 (by decide +kernel) rfl, tb_in 738 (by decide +kernel) rfl, (RX8, TX8, 14), rfl, rfl⟩
theorem ml_L_36 : ML RL 36 yX7_knows cX7_knows 6 (some .int) 3 := ⟨Or.inl (tb_in 428 (by decide +kernel) rfl), tb_in 62 (by decide +kernel) rfl, tb_in 431 (by decide +kernel) rfl, ⟨by decide, by decide⟩, by decide +kernel⟩
theorem mv_X7_knows : MV 7 yX7_knows := ⟨tb_in 429 (by decide +kernel) rfl, tb_in 430 (by decide +kernel) rfl, (RX7, TX7, 5), rfl, rfl⟩
theorem ml_L_40 : ML RL 40 yX8_knows cX8_knows 9 (some .int) 3 := ⟨Or.inl (tb_in 740 (by decide +kernel) rfl), tb_in 70 (by decide +kernel) rfl, tb_in 743 (by decide +kernel) rfl, ⟨by decide, by decide⟩, by decide +kernel⟩
theorem mv_X8_knows : MV 8 yX8_knows := ⟨tb_in 741 (by decide +kernel) rfl, tb_in 742 (by decide +kernel) rfl, (RX8, TX8, 14), rfl, rfl⟩
theorem ml_L_41 : ML RL 41 yX7_tables cX7_tables 2 (some .int) 1 := ⟨Or.inl (tb_in 454 (by decide +kernel) rfl), tb_in 62 (by decide +kernel) rfl, tb_in 457 (by decide +kernel) rfl, ⟨by decide, by decide⟩, by decide +kernel⟩
theorem mv_X7_tables : MV 7 yX7_tables := ⟨tb_in 455 (by decide +kernel) rfl, tb_in 456 (by decide +kernel) rfl, (RX7, TX7, 5), rfl, rfl⟩
theorem ml_L_45 : ML RL 45 yX8_tables cX8_tables 4 (some .int) 1 := ⟨Or.inl (tb_in 748 (by decide +kernel) rfl), tb_in 70 (by decide +kernel) rfl, tb_in 751 (by decide +kernel) rfl, ⟨by decide, by decide⟩, by decide +kernel⟩
theorem mv_X8_tables : MV 8 yX8_tables := ⟨tb_in 749 (by decide +kernel) rfl, tb_in 750 (by decide +kernel) rfl, (RX8, TX8, 14), rfl, rfl⟩
theorem ml_L_46 : ML RL 46 yX7_broken cX7_broken 2 (some .boolean) 1 := ⟨Or.inl (tb_in 468 (by decide +kernel) rfl), tb_in 62 (by decide +kernel) rfl, tb_in 471 (by decide +kernel) rfl, ⟨by decide, by decide⟩, by decide +kernel⟩
theorem mv_X7_broken : MV 7 yX7_broken := ⟨tb_in 469 (by decide +kernel) rfl, tb_in 470 (by decide +kernel) rfl, (RX7, TX7, 5), rfl, rfl⟩
theorem ml_L_50 : ML RL 50 yX8_broken cX8_broken 3 (some .boolean) 1 := ⟨Or.inl (tb_in 752 (by decide +kernel) rfl), tb_in 70 (by decide +kernel) rfl, tb_in 755 (by decide +kernel) rfl, ⟨by decide, by decide⟩, by decide +kernel⟩
theorem mv_X8_broken : MV 8 yX8_broken := ⟨tb_in 753 (by decide +kernel) rfl, tb_in 754 (by decide +kernel) rfl, (RX8, TX8, 14), rfl, rfl⟩
theorem ml_L_51 : ML RL 51 yX7_tell cX7_tell 5 (some .int) 2 := ⟨Or.inl (tb_in 473 (by decide +kernel) rfl), tb_in 62 (by decide +kernel) rfl, tb_in 476 (by decide +kernel) rfl, ⟨by decide, by decide⟩, by decide +kernel⟩
theorem mv_X7_tell : MV 7 yX7_tell := ⟨tb_in 474 (by decide +kernel) rfl, tb_in 475 (by decide +kernel) rfl, (RX7, TX7, 5), rfl, rfl⟩
theorem ml_L_54 : ML RL 54 yX8_tell cX8_tell 3 (some .int) 2 := ⟨Or.inl (tb_in 756 (by decide +kernel) rfl), tb_in 70 (by decide +kernel) rfl, tb_in 759 (by decide +kernel) rfl, ⟨by decide, by decide⟩, by decide +kernel⟩
theorem mv_X8_tell : MV 8 yX8_tell := ⟨tb_in 757 (by decide +kernel) rfl, tb_in 758 (by decide +kernel) rfl, (RX8, TX8, 14), rfl, rfl⟩
theorem ml_L_55 : ML RL 55 yX7_asked cX7_asked 3 (some .int) 2 := ⟨Or.inl (tb_in 478 (by decide +kernel) rfl), tb_in 62 (by decide +kernel) rfl, tb_in 481 (by decide +kernel) rfl, ⟨by decide, by decide⟩, by decide +kernel⟩
theorem mv_X7_asked : MV 7 yX7_asked := ⟨tb_in 479 (by decide +kernel) rfl, tb_in 480 (by decide +kernel) rfl, (RX7, TX7, 5), rfl, rfl⟩
theorem ml_L_58 : ML RL 58 yX8_asked cX8_asked 3 (some .int) 2 := ⟨Or.inl (tb_in 760 (by decide +kernel) rfl), tb_in 70 (by decide +kernel) rfl, tb_in 763 (by decide +kernel) rfl, ⟨by decide, by decide⟩, by decide +kernel⟩
theorem mv_X8_asked : MV 8 yX8_asked := ⟨tb_in 761 (by decide +kernel) rfl, tb_in 762 (by decide +kernel) rfl, (RX8, TX8, 14), rfl, rfl⟩
theorem ml_L_59 : ML RL 59 yX7_wish cX7_wish 4 (some .int) 3 := ⟨Or.inl (tb_in 482 (by decide +kernel) rfl), tb_in 62 (by decide +kernel) rfl, tb_in 485 (by decide +kernel) rfl, ⟨by decide, by decide⟩, by decide +kernel⟩
theorem mv_X7_wish : MV 7 yX7_wish := ⟨tb_in 483 (by decide +kernel) rfl, tb_in 484 (by decide +kernel) rfl, (RX7, TX7, 5), rfl, rfl⟩
theorem ml_L_62 : ML RL 62 yX8_wish cX8_wish 5 (some .int) 3 := ⟨Or.inl (tb_in 764 (by decide +kernel) rfl), tb_in 70 (by decide +kernel) rfl, tb_in 767 (by decide +kernel) rfl, ⟨by decide, by decide⟩, by decide +kernel⟩
theorem mv_X8_wish : MV 8 yX8_wish := ⟨tb_in 765 (by decide +kernel) rfl, tb_in 766 (by decide +kernel) rfl, (RX8, TX8, 14), rfl, rfl⟩
theorem ml_L_63 : ML RL 63 yX7_clear cX7_clear 1 none 0 := ⟨Or.inl (tb_in 490 (by decide +kernel) rfl), tb_in 62 (by decide +kernel) rfl, tb_in 493 (by decide +kernel) rfl, ⟨by decide, by decide⟩, by decide +kernel⟩
theorem mv_X7_clear : MV 7 yX7_clear := ⟨tb_in 491 (by decide +kernel) rfl, tb_in 492 (by decide +kernel) rfl, (RX7, TX7, 5), rfl, rfl⟩
theorem ml_L_66 : ML RL 66 yX8_clear cX8_clear 1 none 0 := ⟨Or.inl (tb_in 768 (by decide +kernel) rfl), tb_in 70 (by decide +kernel) rfl, tb_in 771 (by decide +kernel) rfl, ⟨by decide, by decide⟩, by decide +kernel⟩
theorem mv_X8_clear : MV 8 yX8_clear := ⟨tb_in 769 (by decide +kernel) rfl, tb_in 770 (by decide +kernel) rfl, (RX8, TX8, 14), rfl, rfl⟩
theorem ml_L_67 : ML RL 67 yX7_most cX7_most 2 (some .int) 1 := ⟨Or.inl (tb_in 494 (by decide +kernel) rfl), tb_in 62 (by decide +kernel) rfl, tb_in 497 (by decide +kernel) rfl, ⟨by decide, by decide⟩, by decide +kernel⟩
theorem mv_X7_most : MV 7 yX7_most := ⟨tb_in 495 (by decide +kernel) rfl, tb_in 496 (by decide +kernel) rfl, (RX7, TX7, 5), rfl, rfl⟩
theorem ml_L_70 : ML RL 70 yX8_most cX8_most 4 (some .int) 1 := ⟨Or.inl (tb_in 789 (by decide +kernel) rfl), tb_in 70 (by decide +kernel) rfl, tb_in 792 (by decide +kernel) rfl, ⟨by decide, by decide⟩, by decide +kernel⟩
theorem mv_X8_most : MV 8 yX8_most := ⟨tb_in 790 (by decide +kernel) rfl, tb_in 791 (by decide +kernel) rfl, (RX8, TX8, 14), rfl, rfl⟩
theorem ml_L_71 : ML RL 71 yX7_together cX7_together 3 (some .boolean) 2 := ⟨Or.inl (tb_in 543 (by decide +kernel) rfl), tb_in 62 (by decide +kernel) rfl, tb_in 546 (by decide +kernel) rfl, ⟨by decide, by decide⟩, by decide +kernel⟩
theorem mv_X7_together : MV 7 yX7_together := ⟨tb_in 544 (by decide +kernel) rfl, tb_in 545 (by decide +kernel) rfl, (RX7, TX7, 5), rfl, rfl⟩
theorem ml_L_74 : ML RL 74 yX8_together cX8_together 3 (some .boolean) 2 := ⟨Or.inl (tb_in 772 (by decide +kernel) rfl), tb_in 70 (by decide +kernel) rfl, tb_in 775 (by decide +kernel) rfl, ⟨by decide, by decide⟩, by decide +kernel⟩
theorem mv_X8_together : MV 8 yX8_together := ⟨tb_in 773 (by decide +kernel) rfl, tb_in 774 (by decide +kernel) rfl, (RX8, TX8, 14), rfl, rfl⟩
theorem ml_L_75 : ML RL 75 yX7_count cX7_count 2 (some .int) 1 := ⟨Or.inl (tb_in 547 (by decide +kernel) rfl), tb_in 62 (by decide +kernel) rfl, tb_in 550 (by decide +kernel) rfl, ⟨by decide, by decide⟩, by decide +kernel⟩
theorem mv_X7_count : MV 7 yX7_count := ⟨tb_in 548 (by decide +kernel) rfl, tb_in 549 (by decide +kernel) rfl, (RX7, TX7, 5), rfl, rfl⟩
theorem ml_L_78 : ML RL 78 yX8_count cX8_count 4 (some .int) 1 := ⟨Or.inl (tb_in 796 (by decide +kernel) rfl), tb_in 70 (by decide +kernel) rfl, tb_in 799 (by decide +kernel) rfl, ⟨by decide, by decide⟩, by decide +kernel⟩
theorem mv_X8_count : MV 8 yX8_count := ⟨tb_in 797 (by decide +kernel) rfl, tb_in 798 (by decide +kernel) rfl, (RX8, TX8, 14), rfl, rfl⟩
theorem ml_L_79 : ML RL 79 yX7_image cX7_image 2 (some .boolean) 1 := ⟨Or.inl (tb_in 555 (by decide +kernel) rfl), tb_in 62 (by decide +kernel) rfl, tb_in 558 (by decide +kernel) rfl, ⟨by decide, by decide⟩, by decide +kernel⟩
theorem mv_X7_image : MV 7 yX7_image := ⟨tb_in 556 (by decide +kernel) rfl, tb_in 557 (by decide +kernel) rfl, (RX7, TX7, 5), rfl, rfl⟩
theorem ml_L_82 : ML RL 82 yX8_image cX8_image 3 (some .boolean) 1 := ⟨Or.inl (tb_in 800 (by decide +kernel) rfl), tb_in 70 (by decide +kernel) rfl, tb_in 803 (by decide +kernel) rfl, ⟨by decide, by decide⟩, by decide +kernel⟩
theorem mv_X8_image : MV 8 yX8_image := ⟨tb_in 801 (by decide +kernel) rfl, tb_in 802 (by decide +kernel) rfl, (RX8, TX8, 14), rfl, rfl⟩
theorem ml_L_83 : ML RL 83 yX7_again cX7_again 2 (some .boolean) 1 := ⟨Or.inl (tb_in 585 (by decide +kernel) rfl), tb_in 62 (by decide +kernel) rfl, tb_in 588 (by decide +kernel) rfl, ⟨by decide, by decide⟩, by decide +kernel⟩
theorem mv_X7_again : MV 7 yX7_again := ⟨tb_in 586 (by decide +kernel) rfl, tb_in 587 (by decide +kernel) rfl, (RX7, TX7, 5), rfl, rfl⟩
theorem ml_L_86 : ML RL 86 yX8_again cX8_again 3 (some .boolean) 1 := ⟨Or.inl (tb_in 804 (by decide +kernel) rfl), tb_in 70 (by decide +kernel) rfl, tb_in 807 (by decide +kernel) rfl, ⟨by decide, by decide⟩, by decide +kernel⟩
theorem mv_X8_again : MV 8 yX8_again := ⟨tb_in 805 (by decide +kernel) rfl, tb_in 806 (by decide +kernel) rfl, (RX8, TX8, 14), rfl, rfl⟩
theorem ml_X8_40 : ML RX8 40 yX8_isIn cX8_isIn 3 (some .boolean) 3 := ⟨Or.inl (tb_in 643 (by decide +kernel) rfl), tb_in 70 (by decide +kernel) rfl, tb_in 645 (by decide +kernel) rfl, ⟨by decide, by decide⟩, by decide +kernel⟩
theorem st_X8_isIn : Cond.static yX8_isIn ∈ tb := tb_in 644 (by decide +kernel) rfl
theorem ml_X8_44 : ML RX8 44 yX8_of cX8_of 3 (some .int) 2 := ⟨Or.inl (tb_in 650 (by decide +kernel) rfl), tb_in 70 (by decide +kernel) rfl, tb_in 653 (by decide +kernel) rfl, ⟨by decide, by decide⟩, by decide +kernel⟩
theorem mv_X8_of : MV 8 yX8_of := ⟨tb_in 652 (by decide +kernel) rfl, tb_in 40 (by decide +kernel) rfl, (RX8, TX8, 14), rfl, rfl⟩
theorem ml_X8_48 : ML RX8 48 yX8_many cX8_many 2 (some .int) 1 := ⟨Or.inl (tb_in 704 (by decide +kernel) rfl), tb_in 70 (by decide +kernel) rfl, tb_in 707 (by decide +kernel) rfl, ⟨by decide, by decide⟩, by decide +kernel⟩
theorem mv_X8_many : MV 8 yX8_many := ⟨tb_in 706 (by decide +kernel) rfl, tb_in 50 (by decide +kernel) rfl, (RX8, TX8, 14), rfl, rfl⟩
theorem ml_X8_52 : ML RX8 52 yX8_mayCome cX8_mayCome 5 (some .boolean) 2 := ⟨Or.inl (tb_in 646 (by decide +kernel) rfl), tb_in 70 (by decide +kernel) rfl, tb_in 649 (by decide +kernel) rfl, ⟨by decide, by decide⟩, by decide +kernel⟩
theorem mv_X8_mayCome : MV 8 yX8_mayCome := ⟨tb_in 648 (by decide +kernel) rfl, tb_in 39 (by decide +kernel) rfl, (RX8, TX8, 14), rfl, rfl⟩
theorem ml_X8_56 : ML RX8 56 yX8_comes cX8_comes 11 (some .int) 5 := ⟨Or.inl (tb_in 654 (by decide +kernel) rfl), tb_in 70 (by decide +kernel) rfl, tb_in 657 (by decide +kernel) rfl, ⟨by decide, by decide⟩, by decide +kernel⟩
theorem mv_X8_comes : MV 8 yX8_comes := ⟨tb_in 656 (by decide +kernel) rfl, tb_in 41 (by decide +kernel) rfl, (RX8, TX8, 14), rfl, rfl⟩
theorem ml_X8_60 : ML RX8 60 yX8_isPerson cX8_isPerson 2 (some .boolean) 1 := ⟨Or.inl (tb_in 662 (by decide +kernel) rfl), tb_in 70 (by decide +kernel) rfl, tb_in 665 (by decide +kernel) rfl, ⟨by decide, by decide⟩, by decide +kernel⟩
theorem mv_X8_isPerson : MV 8 yX8_isPerson := ⟨tb_in 664 (by decide +kernel) rfl, tb_in 42 (by decide +kernel) rfl, (RX8, TX8, 14), rfl, rfl⟩
theorem ml_X8_77 : ML RX8 77 yX8_begins cX8_begins 1 none 0 := ⟨Or.inl (tb_in 696 (by decide +kernel) rfl), tb_in 70 (by decide +kernel) rfl, tb_in 699 (by decide +kernel) rfl, ⟨by decide, by decide⟩, by decide +kernel⟩
theorem mv_X8_begins : MV 8 yX8_begins := ⟨tb_in 698 (by decide +kernel) rfl, tb_in 48 (by decide +kernel) rfl, (RX8, TX8, 14), rfl, rfl⟩
theorem ml_X8_80 : ML RX8 80 yX8_valueIn cX8_valueIn 3 (some .int) 2 := ⟨Or.inl (tb_in 700 (by decide +kernel) rfl), tb_in 70 (by decide +kernel) rfl, tb_in 703 (by decide +kernel) rfl, ⟨by decide, by decide⟩, by decide +kernel⟩
theorem mv_X8_valueIn : MV 8 yX8_valueIn := ⟨tb_in 702 (by decide +kernel) rfl, tb_in 49 (by decide +kernel) rfl, (RX8, TX8, 14), rfl, rfl⟩
theorem ml_X8_83 : ML RX8 83 yX8_takes cX8_takes 3 none 2 := ⟨Or.inl (tb_in 708 (by decide +kernel) rfl), tb_in 70 (by decide +kernel) rfl, tb_in 711 (by decide +kernel) rfl, ⟨by decide, by decide⟩, by decide +kernel⟩
theorem mv_X8_takes : MV 8 yX8_takes := ⟨tb_in 710 (by decide +kernel) rfl, tb_in 51 (by decide +kernel) rfl, (RX8, TX8, 14), rfl, rfl⟩
theorem ml_X8_87 : ML RX8 87 yX8_answer cX8_answer 3 (some .int) 2 := ⟨Or.inl (tb_in 712 (by decide +kernel) rfl), tb_in 70 (by decide +kernel) rfl, tb_in 715 (by decide +kernel) rfl, ⟨by decide, by decide⟩, by decide +kernel⟩
theorem mv_X8_answer : MV 8 yX8_answer := ⟨tb_in 714 (by decide +kernel) rfl, tb_in 52 (by decide +kernel) rfl, (RX8, TX8, 14), rfl, rfl⟩
theorem ml_X8_90 : ML RX8 90 yX8_clears cX8_clears 2 none 0 := ⟨Or.inl (tb_in 684 (by decide +kernel) rfl), tb_in 70 (by decide +kernel) rfl, tb_in 687 (by decide +kernel) rfl, ⟨by decide, by decide⟩, by decide +kernel⟩
theorem mv_X8_clears : MV 8 yX8_clears := ⟨tb_in 686 (by decide +kernel) rfl, tb_in 45 (by decide +kernel) rfl, (RX8, TX8, 14), rfl, rfl⟩
theorem ml_X8_93 : ML RX8 93 yX8_isLeft cX8_isLeft 3 (some .boolean) 2 := ⟨Or.inl (tb_in 688 (by decide +kernel) rfl), tb_in 70 (by decide +kernel) rfl, tb_in 691 (by decide +kernel) rfl, ⟨by decide, by decide⟩, by decide +kernel⟩
theorem mv_X8_isLeft : MV 8 yX8_isLeft := ⟨tb_in 690 (by decide +kernel) rfl, tb_in 46 (by decide +kernel) rfl, (RX8, TX8, 14), rfl, rfl⟩
theorem ml_X8_96 : ML RX8 96 yX8_answerIn cX8_answerIn 6 (some .int) 4 := ⟨Or.inl (tb_in 692 (by decide +kernel) rfl), tb_in 70 (by decide +kernel) rfl, tb_in 695 (by decide +kernel) rfl, ⟨by decide, by decide⟩, by decide +kernel⟩
theorem mv_X8_answerIn : MV 8 yX8_answerIn := ⟨tb_in 694 (by decide +kernel) rfl, tb_in 47 (by decide +kernel) rfl, (RX8, TX8, 14), rfl, rfl⟩
theorem ml_X8_100 : ML RX8 100 yX8_meets cX8_meets 6 none 2 := ⟨Or.inl (tb_in 716 (by decide +kernel) rfl), tb_in 70 (by decide +kernel) rfl, tb_in 719 (by decide +kernel) rfl, ⟨by decide, by decide⟩, by decide +kernel⟩
theorem mv_X8_meets : MV 8 yX8_meets := ⟨tb_in 718 (by decide +kernel) rfl, tb_in 53 (by decide +kernel) rfl, (RX8, TX8, 14), rfl, rfl⟩
theorem ml_X8_103 : ML RX8 103 yX8_isClose cX8_isClose 4 (some .boolean) 1 := ⟨Or.inl (tb_in 720 (by decide +kernel) rfl), tb_in 70 (by decide +kernel) rfl, tb_in 723 (by decide +kernel) rfl, ⟨by decide, by decide⟩, by decide +kernel⟩
theorem mv_X8_isClose : MV 8 yX8_isClose := ⟨tb_in 722 (by decide +kernel) rfl, tb_in 54 (by decide +kernel) rfl, (RX8, TX8, 14), rfl, rfl⟩
theorem ml_X8_106 : ML RX8 106 yX8_isAsker cX8_isAsker 1 (some .boolean) 1 := ⟨Or.inl (tb_in 670 (by decide +kernel) rfl), tb_in 70 (by decide +kernel) rfl, tb_in 672 (by decide +kernel) rfl, ⟨by decide, by decide⟩, by decide +kernel⟩
theorem st_X8_isAsker : Cond.static yX8_isAsker ∈ tb := tb_in 671 (by decide +kernel) rfl
theorem ml_X8_109 : ML RX8 109 yX8_isAsk cX8_isAsk 2 (some .boolean) 2 := ⟨Or.inl (tb_in 673 (by decide +kernel) rfl), tb_in 70 (by decide +kernel) rfl, tb_in 675 (by decide +kernel) rfl, ⟨by decide, by decide⟩, by decide +kernel⟩
theorem st_X8_isAsk : Cond.static yX8_isAsk ∈ tb := tb_in 674 (by decide +kernel) rfl
theorem ml_X8_112 : ML RX8 112 yX8_numbersOf cX8_numbersOf 4 (some .int) 1 := ⟨Or.inl (tb_in 676 (by decide +kernel) rfl), tb_in 70 (by decide +kernel) rfl, tb_in 679 (by decide +kernel) rfl, ⟨by decide, by decide⟩, by decide +kernel⟩
theorem mv_X8_numbersOf : MV 8 yX8_numbersOf := ⟨tb_in 678 (by decide +kernel) rfl, tb_in 43 (by decide +kernel) rfl, (RX8, TX8, 14), rfl, rfl⟩
theorem ml_X8_115 : ML RX8 115 yX8_judged cX8_judged 8 (some .int) 4 := ⟨Or.inl (tb_in 680 (by decide +kernel) rfl), tb_in 70 (by decide +kernel) rfl, tb_in 683 (by decide +kernel) rfl, ⟨by decide, by decide⟩, by decide +kernel⟩
theorem mv_X8_judged : MV 8 yX8_judged := ⟨tb_in 682 (by decide +kernel) rfl, tb_in 44 (by decide +kernel) rfl, (RX8, TX8, 14), rfl, rfl⟩
theorem ml_X8_118 : ML RX8 118 yX8_hiddenAnswer cX8_hiddenAnswer 5 (some .int) 3 := ⟨Or.inl (tb_in 728 (by decide +kernel) rfl), tb_in 70 (by decide +kernel) rfl, tb_in 731 (by decide +kernel) rfl, ⟨by decide, by decide⟩, by decide +kernel⟩
theorem mv_X8_hiddenAnswer : MV 8 yX8_hiddenAnswer := ⟨tb_in 730 (by decide +kernel) rfl, tb_in 55 (by decide +kernel) rfl, (RX8, TX8, 14), rfl, rfl⟩
theorem ml_X8_122 : ML RX8 122 yX8_known cX8_known 2 (some .int) 1 := ⟨Or.inl (tb_in 732 (by decide +kernel) rfl), tb_in 70 (by decide +kernel) rfl, tb_in 735 (by decide +kernel) rfl, ⟨by decide, by decide⟩, by decide +kernel⟩
theorem mv_X8_known : MV 8 yX8_known := ⟨tb_in 734 (by decide +kernel) rfl, tb_in 56 (by decide +kernel) rfl, (RX8, TX8, 14), rfl, rfl⟩
theorem ml_X8_125 : ML RX8 125 yX8_isNumber cX8_isNumber 2 (some .boolean) 1 := ⟨Or.inl (tb_in 744 (by decide +kernel) rfl), tb_in 70 (by decide +kernel) rfl, tb_in 747 (by decide +kernel) rfl, ⟨by decide, by decide⟩, by decide +kernel⟩
theorem mv_X8_isNumber : MV 8 yX8_isNumber := ⟨tb_in 746 (by decide +kernel) rfl, tb_in 57 (by decide +kernel) rfl, (RX8, TX8, 14), rfl, rfl⟩
theorem ml_X8_133 : ML RX8 133 yX8_sorts cX8_sorts 8 none 1 := ⟨Or.inl (tb_in 784 (by decide +kernel) rfl), tb_in 70 (by decide +kernel) rfl, tb_in 787 (by decide +kernel) rfl, ⟨by decide, by decide⟩, by decide +kernel⟩
theorem mv_X8_sorts : MV 8 yX8_sorts := ⟨tb_in 786 (by decide +kernel) rfl, tb_in 60 (by decide +kernel) rfl, (RX8, TX8, 14), rfl, rfl⟩
theorem ml_X8_137 : ML RX8 137 yX8_reckons cX8_reckons 7 none 1 := ⟨Or.inl (tb_in 776 (by decide +kernel) rfl), tb_in 70 (by decide +kernel) rfl, tb_in 779 (by decide +kernel) rfl, ⟨by decide, by decide⟩, by decide +kernel⟩
theorem mv_X8_reckons : MV 8 yX8_reckons := ⟨tb_in 778 (by decide +kernel) rfl, tb_in 58 (by decide +kernel) rfl, (RX8, TX8, 14), rfl, rfl⟩
theorem ml_X8_140 : ML RX8 140 yX8_mayBe cX8_mayBe 3 (some .boolean) 1 := ⟨Or.inl (tb_in 780 (by decide +kernel) rfl), tb_in 70 (by decide +kernel) rfl, tb_in 783 (by decide +kernel) rfl, ⟨by decide, by decide⟩, by decide +kernel⟩
theorem mv_X8_mayBe : MV 8 yX8_mayBe := ⟨tb_in 782 (by decide +kernel) rfl, tb_in 59 (by decide +kernel) rfl, (RX8, TX8, 14), rfl, rfl⟩
theorem ml_X8_143 : ML RX8 143 yX8_bitsOf cX8_bitsOf 3 (some .int) 1 := ⟨Or.inl (tb_in 793 (by decide +kernel) rfl), tb_in 70 (by decide +kernel) rfl, tb_in 795 (by decide +kernel) rfl, ⟨by decide, by decide⟩, by decide +kernel⟩
theorem st_X8_bitsOf : Cond.static yX8_bitsOf ∈ tb := tb_in 794 (by decide +kernel) rfl
theorem kc_X1_38 : Cond.constantLong RX1 38 (-1) ∈ tb := tb_in 411 (by decide +kernel) rfl
theorem kc_X4_76 : Cond.constantLong RX4 76 (63) ∈ tb := tb_in 533 (by decide +kernel) rfl
theorem kc_X8_7 : Cond.constant RX8 7 (70056) ∈ tb := tb_in 595 (by decide +kernel) rfl
theorem kc_X8_131 : Cond.constantLong RX8 131 (63) ∈ tb := tb_in 788 (by decide +kernel) rfl
theorem kc_J6_265 : Cond.constant RJ6 265 (1431655765) ∈ tb := tb_in 451 (by decide +kernel) rfl
theorem kc_J6_266 : Cond.constant RJ6 266 (858993459) ∈ tb := tb_in 452 (by decide +kernel) rfl
theorem kc_J6_267 : Cond.constant RJ6 267 (252645135) ∈ tb := tb_in 453 (by decide +kernel) rfl
theorem kc_J13_314 : Cond.constantLong RJ13 314 (6148914691236517205) ∈ tb := tb_in 465 (by decide +kernel) rfl
theorem kc_J13_316 : Cond.constantLong RJ13 316 (3689348814741910323) ∈ tb := tb_in 466 (by decide +kernel) rfl
theorem kc_J13_318 : Cond.constantLong RJ13 318 (1085102592571150095) ∈ tb := tb_in 467 (by decide +kernel) rfl
theorem kac_n : Cond.native arraycopyName ∈ tb := tb_in 569 (by decide +kernel) rfl
theorem kac_s : Cond.static arraycopyName ∈ tb := tb_in 568 (by decide +kernel) rfl
theorem kac_i : Cond.initialized "java/lang/System" ∈ tb := tb_in 75 (by decide +kernel) rfl
theorem kmm_X7_246 : Cond.methodLink RX7 246 Lib.Math.min.name ∈ tb := tb_in 542 (by decide +kernel) rfl
theorem kac_X0_23 : Cond.methodLink RX0 23 arraycopyName ∈ tb := tb_in 579 (by decide +kernel) rfl
theorem kac_X1_40 : Cond.methodLink RX1 40 arraycopyName ∈ tb := tb_in 574 (by decide +kernel) rfl
theorem kac_X2_65 : Cond.methodLink RX2 65 arraycopyName ∈ tb := tb_in 567 (by decide +kernel) rfl
theorem kmm_X3_50 : Cond.methodLink RX3 50 Lib.Math.max.name ∈ tb := tb_in 364 (by decide +kernel) rfl
theorem kmm_X3_56 : Cond.methodLink RX3 56 Lib.Math.min.name ∈ tb := tb_in 367 (by decide +kernel) rfl
theorem kac_X6_25 : Cond.methodLink RX6 25 arraycopyName ∈ tb := tb_in 584 (by decide +kernel) rfl
theorem kmm_max_s : Cond.static Lib.Math.max.name ∈ tb := tb_in 365 (by decide +kernel) rfl
theorem kmm_max_c : Cond.code Lib.Math.max.name Lib.Math.max.code 2 (some .int) ∈ tb := tb_in 366 (by decide +kernel) rfl
theorem kmm_min_s : Cond.static Lib.Math.min.name ∈ tb := tb_in 368 (by decide +kernel) rfl
theorem kmm_min_c : Cond.code Lib.Math.min.name Lib.Math.min.code 2 (some .int) ∈ tb := tb_in 369 (by decide +kernel) rfl
theorem kmm_i : Cond.initialized "java/lang/Math" ∈ tb := tb_in 71 (by decide +kernel) rfl
end
section
def f_X8_isIn (v0 : Int32) (v1 : Int32) (v2 : Int32) : Option (Int32) :=
if v0 < v1 then (
some (0 : Int32))
else (
if v2 < v0 then (
some (0 : Int32))
else (
some (1 : Int32)))
set_option maxHeartbeats 4000000 in
set_option maxRecDepth 100000 in
theorem w_X8_isIn {p : Program} {l : Launch} {e : Env} {R : Room} {s : State} {m : MethodId} {args : Array Value} {below : List Frame} {meth : Method} {c : Code} {cells slots : Nat} {Q : State → Prop} {D : va_G} {G : Nat → ClassId} {L : List Nat} {A : Nat → Prop} {H0 : Heap} (C : CX p s m c args D G cX8_isIn 3 RX8) (hLA : ∀ q ∈ L, A q) (hcs : cells ≤ R.cells ∧ slots ≤ R.slots)  (S : PH) (v0 : Int32) (v1 : Int32) (v2 : Int32) (r : Int32) (h : f_X8_isIn v0 v1 v2 = some r) (hret : ∀ (v : Int32) (H : Heap) (locs : List Loc) (ls : Array Slot) (pc : Nat), Wd D G L A H0 S H locs → narrow .boolean (.int v) = .int v → v = r → decode cX8_isIn pc = .ok (.ireturn, 1) → W p l e R s m args below meth c H locs cells slots Q (F0 m pc ls [.int v])) : ∀ (H : Heap) (locs : List Loc) (ls : Array Slot), Wd D G L A H0 S H locs → lv_has ls 3 [(0, .int v0), (1, .int v1), (2, .int v2)] → W p l e R s m args below meth c H locs cells slots Q (F0 m 0 ls []) := by
  have hx := C.1.1
  have hb := C.1.2.1
  unfold f_X8_isIn at h
  intro H locs ls w hl
  refine lv_iload_n hx hb dX8_isIn_0 rfl (lv_at hl 0 rfl) ?_
  refine lv_iload_n hx hb dX8_isIn_1 rfl (lv_at hl 1 rfl) ?_
  refine lv_icmp_lt (tgt := 14) hx hb dX8_isIn_2 (by decide) (fun cc2 => ?_) (fun cc2 => ?_)
  · have h := it cc2 h
    refine lv_iconst (v := 0) hx hb dX8_isIn_14 (by decide) ?_
    exact hret _ _ _ _ _ w rfl (Option.some.inj h) dX8_isIn_15
  · have h := ie cc2 h
    refine lv_iload_n hx hb dX8_isIn_5 rfl (lv_at hl 0 rfl) ?_
    refine lv_iload_n hx hb dX8_isIn_6 rfl (lv_at hl 2 rfl) ?_
    refine lv_icmp_gt (tgt := 14) hx hb dX8_isIn_7 (by decide) (fun cc7 => ?_) (fun cc7 => ?_)
    · have h := it cc7 h
      refine lv_iconst (v := 0) hx hb dX8_isIn_14 (by decide) ?_
      exact hret _ _ _ _ _ w rfl (Option.some.inj h) dX8_isIn_15
    · have h := ie cc7 h
      refine lv_iconst (v := 1) hx hb dX8_isIn_10 (by decide) ?_
      refine lv_goto (tgt := 15) hx hb dX8_isIn_11 (by decide) ?_
      exact hret _ _ _ _ _ w rfl (Option.some.inj h) dX8_isIn_15
set_option maxHeartbeats 4000000 in
set_option maxRecDepth 100000 in
theorem c_X8_isIn (l : Launch) (D : va_G) (G : Nat → ClassId) (L : List Nat) (S : PH) (v0 : Int32) (v1 : Int32) (v2 : Int32) (r : Int32) (h : f_X8_isIn v0 v1 v2 = some r) : Met l yX8_isIn [Cond.code yX8_isIn cX8_isIn 3 (some .boolean)] ({ frames := 0, cells := 0, slots := 0, locals := 0 }) (va_Pc [.int v0, .int v1, .int v2] (PreU D G L S)) (Qi D G L r S) 0 0 (inL L) := by
  refine Met.ofW (cc := cX8_isIn) (maxL := 3) (ret := (some .boolean)) (by decide) rfl ?_
  intro p e s m args below meth c s₁ B hml hv
  obtain ⟨rfl, hpre⟩ := hv
  obtain ⟨C, w⟩ := o_ent (own := RX8) rfl B hml hpre
  have hl := lv_entry ([.int v0, .int v1, .int v2]) (n := 3) (Nat.le_of_ble_eq_true rfl)
  rw [lg_entry_eq]
  generalize (lg_sl ([.int v0, .int v1, .int v2]) ++ List.replicate (3 - (lg_sl ([.int v0, .int v1, .int v2])).length) Slot.unset).toArray = ls at hl ⊢
  exact w_X8_isIn C (fun _ h => h) ⟨Nat.zero_le _, Nat.zero_le _⟩  S v0 v1 v2 r h (fun v H locs ls pc w hz hv hd => by subst hv; exact o_zret C w B.returns B.notSynchronized hz hd) _ _ _ w hl

def f_X8_isAsker (v0 : Int32) : Option (Int32) :=
(f_X8_isIn v0 (0 : Int32) (3 : Int32)).bind fun x1 =>
(ckZ x1).bind fun _ =>
some x1
set_option maxHeartbeats 4000000 in
set_option maxRecDepth 100000 in
theorem w_X8_isAsker {p : Program} {l : Launch} {e : Env} {R : Room} {s : State} {m : MethodId} {args : Array Value} {below : List Frame} {meth : Method} {c : Code} {cells slots : Nat} {Q : State → Prop} {D : va_G} {G : Nat → ClassId} {L : List Nat} {A : Nat → Prop} {H0 : Heap} (C : CX p s m c args D G cX8_isAsker 1 RX8) (hLA : ∀ q ∈ L, A q) (hcs : cells ≤ R.cells ∧ slots ≤ R.slots) (hR_X8_isIn : RoomOk R ({ frames := 0, cells := 0, slots := 0, locals := 0 }) 3) (S : PH) (v0 : Int32) (r : Int32) (h : f_X8_isAsker v0 = some r) (hret : ∀ (v : Int32) (H : Heap) (locs : List Loc) (ls : Array Slot) (pc : Nat), Wd D G L A H0 S H locs → narrow .boolean (.int v) = .int v → v = r → decode cX8_isAsker pc = .ok (.ireturn, 1) → W p l e R s m args below meth c H locs cells slots Q (F0 m pc ls [.int v])) : ∀ (H : Heap) (locs : List Loc) (ls : Array Slot), Wd D G L A H0 S H locs → lv_has ls 1 [(0, .int v0)] → W p l e R s m args below meth c H locs cells slots Q (F0 m 0 ls []) := by
  have hx := C.1.1
  have hb := C.1.2.1
  unfold f_X8_isAsker at h
  intro H locs ls w hl
  refine lv_iload_n hx hb dX8_isAsker_0 rfl (lv_at hl 0 rfl) ?_
  refine lv_iconst (v := 0) hx hb dX8_isAsker_1 (by decide) ?_
  refine lv_iconst (v := 3) hx hb dX8_isAsker_2 (by decide) ?_
  obtain ⟨x1, hc, h⟩ := bs h
  refine o_backi w hLA (o_runS (As := [.int v0, .int (0 : Int32), .int (3 : Int32)]) (rest := []) C w (c_X8_isIn l D G L S v0 (0 : Int32) (3 : Int32) x1 hc) ml_X8_40 st_X8_isIn hR_X8_isIn rfl hl.1 rfl (Nat.le_of_ble_eq_true rfl) dX8_isAsker_3 hcs) (fun H locs w => ?_)
  obtain ⟨_, hz, h⟩ := bs h
  exact hret _ _ _ _ _ w (ckZ_some hz) (Option.some.inj h) dX8_isAsker_6
set_option maxHeartbeats 4000000 in
set_option maxRecDepth 100000 in
theorem c_X8_isAsker (l : Launch) (D : va_G) (G : Nat → ClassId) (L : List Nat) (S : PH) (v0 : Int32) (r : Int32) (h : f_X8_isAsker v0 = some r) : Met l yX8_isAsker [Cond.code yX8_isAsker cX8_isAsker 1 (some .boolean)] ({ frames := 1, cells := 0, slots := 0, locals := 22 }) (va_Pc [.int v0] (PreU D G L S)) (Qi D G L r S) 0 0 (inL L) := by
  refine Met.ofW (cc := cX8_isAsker) (maxL := 1) (ret := (some .boolean)) (by decide) rfl ?_
  intro p e s m args below meth c s₁ B hml hv
  obtain ⟨rfl, hpre⟩ := hv
  obtain ⟨C, w⟩ := o_ent (own := RX8) rfl B hml hpre
  have hl := lv_entry ([.int v0]) (n := 1) (Nat.le_of_ble_eq_true rfl)
  rw [lg_entry_eq]
  generalize (lg_sl ([.int v0]) ++ List.replicate (1 - (lg_sl ([.int v0])).length) Slot.unset).toArray = ls at hl ⊢
  exact w_X8_isAsker C (fun _ h => h) ⟨Nat.zero_le _, Nat.zero_le _⟩ ⟨rfl, rfl, Nat.le_of_ble_eq_true rfl, Nat.le_of_ble_eq_true rfl⟩ S v0 r h (fun v H locs ls pc w hz hv hd => by subst hv; exact o_zret C w B.returns B.notSynchronized hz hd) _ _ _ w hl

def f_X8_isPerson (S : PH) (v0 : Nat) (v1 : Int32) : Option (Int32) :=
(gR S v0 8 0).bind fun x1 =>
(ldI S x1 (0 : Int32)).bind fun x2 =>
(f_X8_isIn v1 (0 : Int32) (x2 - (1 : Int32))).bind fun x3 =>
(ckZ x3).bind fun _ =>
some x3
set_option maxHeartbeats 4000000 in
set_option maxRecDepth 100000 in
theorem w_X8_isPerson {p : Program} {l : Launch} {e : Env} {R : Room} {s : State} {m : MethodId} {args : Array Value} {below : List Frame} {meth : Method} {c : Code} {cells slots : Nat} {Q : State → Prop} {D : va_G} {G : Nat → ClassId} {L : List Nat} {A : Nat → Prop} {H0 : Heap} (C : CX p s m c args D G cX8_isPerson 2 RX8) (hLA : ∀ q ∈ L, A q) (hcs : cells ≤ R.cells ∧ slots ≤ R.slots) (hR_X8_isIn : RoomOk R ({ frames := 0, cells := 0, slots := 0, locals := 0 }) 3) (S : PH) (v0 : Nat) (v1 : Int32) (r : Int32) (h : f_X8_isPerson S v0 v1 = some r) (hret : ∀ (v : Int32) (H : Heap) (locs : List Loc) (ls : Array Slot) (pc : Nat), Wd D G L A H0 S H locs → narrow .boolean (.int v) = .int v → v = r → decode cX8_isPerson pc = .ok (.ireturn, 1) → W p l e R s m args below meth c H locs cells slots Q (F0 m pc ls [.int v])) : ∀ (H : Heap) (locs : List Loc) (ls : Array Slot), Wd D G L A H0 S H locs → lv_has ls 2 [(0, .ref v0), (1, .int v1)] → W p l e R s m args below meth c H locs cells slots Q (F0 m 0 ls []) := by
  have hx := C.1.1
  have hb := C.1.2.1
  unfold f_X8_isPerson at h
  intro H locs ls w hl
  refine lv_iload_n hx hb dX8_isPerson_0 rfl (lv_at hl 1 rfl) ?_
  refine lv_iconst (v := 0) hx hb dX8_isPerson_1 (by decide) ?_
  refine lv_aload_n hx hb dX8_isPerson_2 rfl (lv_at hl 0 rfl) ?_
  obtain ⟨x1, hx1, h⟩ := bs h
  refine o_gR C w hx1 fl_X8_8 dX8_isPerson_3 ?_
  refine lv_iconst (v := 0) hx hb dX8_isPerson_6 (by decide) ?_
  obtain ⟨x2, hx2, h⟩ := bs h
  refine o_ldI C w hx2 dX8_isPerson_7 ?_
  refine lv_iconst (v := 1) hx hb dX8_isPerson_8 (by decide) ?_
  refine lv_isub hx hb dX8_isPerson_9 ?_
  obtain ⟨x3, hc, h⟩ := bs h
  refine o_backi w hLA (o_runS (As := [.int v1, .int (0 : Int32), .int (x2 - (1 : Int32))]) (rest := []) C w (c_X8_isIn l D G L S v1 (0 : Int32) (x2 - (1 : Int32)) x3 hc) ml_X8_40 st_X8_isIn hR_X8_isIn rfl hl.1 rfl (Nat.le_of_ble_eq_true rfl) dX8_isPerson_10 hcs) (fun H locs w => ?_)
  obtain ⟨_, hz, h⟩ := bs h
  exact hret _ _ _ _ _ w (ckZ_some hz) (Option.some.inj h) dX8_isPerson_13
set_option maxHeartbeats 4000000 in
set_option maxRecDepth 100000 in
theorem c_X8_isPerson (l : Launch) (D : va_G) (G : Nat → ClassId) (L : List Nat) (S : PH) (v0 : Nat) (v1 : Int32) (r : Int32) (h : f_X8_isPerson S v0 v1 = some r) : Met l yX8_isPerson [Cond.code yX8_isPerson cX8_isPerson 2 (some .boolean)] ({ frames := 1, cells := 0, slots := 0, locals := 22 }) (va_Pc [.ref v0, .int v1] (PreU D G L S)) (Qi D G L r S) 0 0 (inL L) := by
  refine Met.ofW (cc := cX8_isPerson) (maxL := 2) (ret := (some .boolean)) (by decide) rfl ?_
  intro p e s m args below meth c s₁ B hml hv
  obtain ⟨rfl, hpre⟩ := hv
  obtain ⟨C, w⟩ := o_ent (own := RX8) rfl B hml hpre
  have hl := lv_entry ([.ref v0, .int v1]) (n := 2) (Nat.le_of_ble_eq_true rfl)
  rw [lg_entry_eq]
  generalize (lg_sl ([.ref v0, .int v1]) ++ List.replicate (2 - (lg_sl ([.ref v0, .int v1])).length) Slot.unset).toArray = ls at hl ⊢
  exact w_X8_isPerson C (fun _ h => h) ⟨Nat.zero_le _, Nat.zero_le _⟩ ⟨rfl, rfl, Nat.le_of_ble_eq_true rfl, Nat.le_of_ble_eq_true rfl⟩ S v0 v1 r h (fun v H locs ls pc w hz hv hd => by subst hv; exact o_zret C w B.returns B.notSynchronized hz hd) _ _ _ w hl

def f_X8_isNumber (S : PH) (v0 : Nat) (v1 : Int32) : Option (Int32) :=
(gR S v0 8 0).bind fun x1 =>
(ldI S x1 (1 : Int32)).bind fun x2 =>
(f_X8_isIn v1 (0 : Int32) (x2 - (1 : Int32))).bind fun x3 =>
(ckZ x3).bind fun _ =>
some x3
set_option maxHeartbeats 4000000 in
set_option maxRecDepth 100000 in
theorem w_X8_isNumber {p : Program} {l : Launch} {e : Env} {R : Room} {s : State} {m : MethodId} {args : Array Value} {below : List Frame} {meth : Method} {c : Code} {cells slots : Nat} {Q : State → Prop} {D : va_G} {G : Nat → ClassId} {L : List Nat} {A : Nat → Prop} {H0 : Heap} (C : CX p s m c args D G cX8_isNumber 2 RX8) (hLA : ∀ q ∈ L, A q) (hcs : cells ≤ R.cells ∧ slots ≤ R.slots) (hR_X8_isIn : RoomOk R ({ frames := 0, cells := 0, slots := 0, locals := 0 }) 3) (S : PH) (v0 : Nat) (v1 : Int32) (r : Int32) (h : f_X8_isNumber S v0 v1 = some r) (hret : ∀ (v : Int32) (H : Heap) (locs : List Loc) (ls : Array Slot) (pc : Nat), Wd D G L A H0 S H locs → narrow .boolean (.int v) = .int v → v = r → decode cX8_isNumber pc = .ok (.ireturn, 1) → W p l e R s m args below meth c H locs cells slots Q (F0 m pc ls [.int v])) : ∀ (H : Heap) (locs : List Loc) (ls : Array Slot), Wd D G L A H0 S H locs → lv_has ls 2 [(0, .ref v0), (1, .int v1)] → W p l e R s m args below meth c H locs cells slots Q (F0 m 0 ls []) := by
  have hx := C.1.1
  have hb := C.1.2.1
  unfold f_X8_isNumber at h
  intro H locs ls w hl
  refine lv_iload_n hx hb dX8_isNumber_0 rfl (lv_at hl 1 rfl) ?_
  refine lv_iconst (v := 0) hx hb dX8_isNumber_1 (by decide) ?_
  refine lv_aload_n hx hb dX8_isNumber_2 rfl (lv_at hl 0 rfl) ?_
  obtain ⟨x1, hx1, h⟩ := bs h
  refine o_gR C w hx1 fl_X8_8 dX8_isNumber_3 ?_
  refine lv_iconst (v := 1) hx hb dX8_isNumber_6 (by decide) ?_
  obtain ⟨x2, hx2, h⟩ := bs h
  refine o_ldI C w hx2 dX8_isNumber_7 ?_
  refine lv_iconst (v := 1) hx hb dX8_isNumber_8 (by decide) ?_
  refine lv_isub hx hb dX8_isNumber_9 ?_
  obtain ⟨x3, hc, h⟩ := bs h
  refine o_backi w hLA (o_runS (As := [.int v1, .int (0 : Int32), .int (x2 - (1 : Int32))]) (rest := []) C w (c_X8_isIn l D G L S v1 (0 : Int32) (x2 - (1 : Int32)) x3 hc) ml_X8_40 st_X8_isIn hR_X8_isIn rfl hl.1 rfl (Nat.le_of_ble_eq_true rfl) dX8_isNumber_10 hcs) (fun H locs w => ?_)
  obtain ⟨_, hz, h⟩ := bs h
  exact hret _ _ _ _ _ w (ckZ_some hz) (Option.some.inj h) dX8_isNumber_13
set_option maxHeartbeats 4000000 in
set_option maxRecDepth 100000 in
theorem c_X8_isNumber (l : Launch) (D : va_G) (G : Nat → ClassId) (L : List Nat) (S : PH) (v0 : Nat) (v1 : Int32) (r : Int32) (h : f_X8_isNumber S v0 v1 = some r) : Met l yX8_isNumber [Cond.code yX8_isNumber cX8_isNumber 2 (some .boolean)] ({ frames := 1, cells := 0, slots := 0, locals := 22 }) (va_Pc [.ref v0, .int v1] (PreU D G L S)) (Qi D G L r S) 0 0 (inL L) := by
  refine Met.ofW (cc := cX8_isNumber) (maxL := 2) (ret := (some .boolean)) (by decide) rfl ?_
  intro p e s m args below meth c s₁ B hml hv
  obtain ⟨rfl, hpre⟩ := hv
  obtain ⟨C, w⟩ := o_ent (own := RX8) rfl B hml hpre
  have hl := lv_entry ([.ref v0, .int v1]) (n := 2) (Nat.le_of_ble_eq_true rfl)
  rw [lg_entry_eq]
  generalize (lg_sl ([.ref v0, .int v1]) ++ List.replicate (2 - (lg_sl ([.ref v0, .int v1])).length) Slot.unset).toArray = ls at hl ⊢
  exact w_X8_isNumber C (fun _ h => h) ⟨Nat.zero_le _, Nat.zero_le _⟩ ⟨rfl, rfl, Nat.le_of_ble_eq_true rfl, Nat.le_of_ble_eq_true rfl⟩ S v0 v1 r h (fun v H locs ls pc w hz hv hd => by subst hv; exact o_zret C w B.returns B.notSynchronized hz hd) _ _ _ w hl

def f_X8_of (S : PH) (v0 : Nat) (v1 : Int32) (v2 : Int32) : Option (Int32) :=
(gR S v0 8 0).bind fun x1 =>
(ldI S x1 (((20 : Int32) + ((8 : Int32) * v1)) + v2)).bind fun x2 =>
some x2
set_option maxHeartbeats 4000000 in
set_option maxRecDepth 100000 in
theorem w_X8_of {p : Program} {l : Launch} {e : Env} {R : Room} {s : State} {m : MethodId} {args : Array Value} {below : List Frame} {meth : Method} {c : Code} {cells slots : Nat} {Q : State → Prop} {D : va_G} {G : Nat → ClassId} {L : List Nat} {A : Nat → Prop} {H0 : Heap} (C : CX p s m c args D G cX8_of 3 RX8) (hLA : ∀ q ∈ L, A q) (hcs : cells ≤ R.cells ∧ slots ≤ R.slots)  (S : PH) (v0 : Nat) (v1 : Int32) (v2 : Int32) (r : Int32) (h : f_X8_of S v0 v1 v2 = some r) (hret : ∀ (v : Int32) (H : Heap) (locs : List Loc) (ls : Array Slot) (pc : Nat), Wd D G L A H0 S H locs → v = r → decode cX8_of pc = .ok (.ireturn, 1) → W p l e R s m args below meth c H locs cells slots Q (F0 m pc ls [.int v])) : ∀ (H : Heap) (locs : List Loc) (ls : Array Slot), Wd D G L A H0 S H locs → lv_has ls 3 [(0, .ref v0), (1, .int v1), (2, .int v2)] → W p l e R s m args below meth c H locs cells slots Q (F0 m 0 ls []) := by
  have hx := C.1.1
  have hb := C.1.2.1
  unfold f_X8_of at h
  intro H locs ls w hl
  refine lv_aload_n hx hb dX8_of_0 rfl (lv_at hl 0 rfl) ?_
  obtain ⟨x1, hx1, h⟩ := bs h
  refine o_gR C w hx1 fl_X8_8 dX8_of_1 ?_
  refine lv_bipush (v := 20) hx hb dX8_of_4 (by decide) ?_
  refine lv_bipush (v := 8) hx hb dX8_of_6 (by decide) ?_
  refine lv_iload_n hx hb dX8_of_8 rfl (lv_at hl 1 rfl) ?_
  refine lv_imul hx hb dX8_of_9 ?_
  refine lv_iadd hx hb dX8_of_10 ?_
  refine lv_iload_n hx hb dX8_of_11 rfl (lv_at hl 2 rfl) ?_
  refine lv_iadd hx hb dX8_of_12 ?_
  obtain ⟨x2, hx2, h⟩ := bs h
  refine o_ldI C w hx2 dX8_of_13 ?_
  exact hret _ _ _ _ _ w (Option.some.inj h) dX8_of_14
set_option maxHeartbeats 4000000 in
set_option maxRecDepth 100000 in
theorem c_X8_of (l : Launch) (D : va_G) (G : Nat → ClassId) (L : List Nat) (S : PH) (v0 : Nat) (v1 : Int32) (v2 : Int32) (r : Int32) (h : f_X8_of S v0 v1 v2 = some r) : Met l yX8_of [Cond.code yX8_of cX8_of 3 (some .int)] ({ frames := 0, cells := 0, slots := 0, locals := 0 }) (va_Pc [.ref v0, .int v1, .int v2] (PreU D G L S)) (Qi D G L r S) 0 0 (inL L) := by
  refine Met.ofW (cc := cX8_of) (maxL := 3) (ret := (some .int)) (by decide) rfl ?_
  intro p e s m args below meth c s₁ B hml hv
  obtain ⟨rfl, hpre⟩ := hv
  obtain ⟨C, w⟩ := o_ent (own := RX8) rfl B hml hpre
  have hl := lv_entry ([.ref v0, .int v1, .int v2]) (n := 3) (Nat.le_of_ble_eq_true rfl)
  rw [lg_entry_eq]
  generalize (lg_sl ([.ref v0, .int v1, .int v2]) ++ List.replicate (3 - (lg_sl ([.ref v0, .int v1, .int v2])).length) Slot.unset).toArray = ls at hl ⊢
  exact w_X8_of C (fun _ h => h) ⟨Nat.zero_le _, Nat.zero_le _⟩  S v0 v1 v2 r h (fun v H locs ls pc w hv hd => by subst hv; exact o_iret C w B.returns B.notSynchronized hd) _ _ _ w hl

def f_X8_many (S : PH) (v0 : Nat) (v1 : Int32) : Option (Int32) :=
(ckO S v0 8).bind fun _ =>
(f_X8_of S v0 v1 (2 : Int32)).bind fun x1 =>
(ckO S v0 8).bind fun _ =>
(f_X8_of S v0 v1 (1 : Int32)).bind fun x2 =>
some ((x1 - x2) + (1 : Int32))
set_option maxHeartbeats 4000000 in
set_option maxRecDepth 100000 in
theorem w_X8_many {p : Program} {l : Launch} {e : Env} {R : Room} {s : State} {m : MethodId} {args : Array Value} {below : List Frame} {meth : Method} {c : Code} {cells slots : Nat} {Q : State → Prop} {D : va_G} {G : Nat → ClassId} {L : List Nat} {A : Nat → Prop} {H0 : Heap} (C : CX p s m c args D G cX8_many 2 RX8) (hLA : ∀ q ∈ L, A q) (hcs : cells ≤ R.cells ∧ slots ≤ R.slots) (hR_X8_of : RoomOk R ({ frames := 0, cells := 0, slots := 0, locals := 0 }) 3) (S : PH) (v0 : Nat) (v1 : Int32) (r : Int32) (h : f_X8_many S v0 v1 = some r) (hret : ∀ (v : Int32) (H : Heap) (locs : List Loc) (ls : Array Slot) (pc : Nat), Wd D G L A H0 S H locs → v = r → decode cX8_many pc = .ok (.ireturn, 1) → W p l e R s m args below meth c H locs cells slots Q (F0 m pc ls [.int v])) : ∀ (H : Heap) (locs : List Loc) (ls : Array Slot), Wd D G L A H0 S H locs → lv_has ls 2 [(0, .ref v0), (1, .int v1)] → W p l e R s m args below meth c H locs cells slots Q (F0 m 0 ls []) := by
  have hx := C.1.1
  have hb := C.1.2.1
  unfold f_X8_many at h
  intro H locs ls w hl
  refine lv_aload_n hx hb dX8_many_0 rfl (lv_at hl 0 rfl) ?_
  refine lv_iload_n hx hb dX8_many_1 rfl (lv_at hl 1 rfl) ?_
  refine lv_iconst (v := 2) hx hb dX8_many_2 (by decide) ?_
  obtain ⟨_, ho, h⟩ := bs h
  obtain ⟨x1, hc, h⟩ := bs h
  refine o_backi w hLA (o_runV (As := [.int v1, .int (2 : Int32)]) (rest := []) C w (c_X8_of l D G L S v0 v1 (2 : Int32) x1 hc) ml_X8_44 mv_X8_of hR_X8_of ho rfl hl.1 rfl (Nat.le_of_ble_eq_true rfl) dX8_many_3 hcs) (fun H locs w => ?_)
  refine lv_aload_n hx hb dX8_many_6 rfl (lv_at hl 0 rfl) ?_
  refine lv_iload_n hx hb dX8_many_7 rfl (lv_at hl 1 rfl) ?_
  refine lv_iconst (v := 1) hx hb dX8_many_8 (by decide) ?_
  obtain ⟨_, ho, h⟩ := bs h
  obtain ⟨x2, hc, h⟩ := bs h
  refine o_backi w hLA (o_runV (As := [.int v1, .int (1 : Int32)]) (rest := [.int x1]) C w (c_X8_of l D G L S v0 v1 (1 : Int32) x2 hc) ml_X8_44 mv_X8_of hR_X8_of ho rfl hl.1 rfl (Nat.le_of_ble_eq_true rfl) dX8_many_9 hcs) (fun H locs w => ?_)
  refine lv_isub hx hb dX8_many_12 ?_
  refine lv_iconst (v := 1) hx hb dX8_many_13 (by decide) ?_
  refine lv_iadd hx hb dX8_many_14 ?_
  exact hret _ _ _ _ _ w (Option.some.inj h) dX8_many_15
set_option maxHeartbeats 4000000 in
set_option maxRecDepth 100000 in
theorem c_X8_many (l : Launch) (D : va_G) (G : Nat → ClassId) (L : List Nat) (S : PH) (v0 : Nat) (v1 : Int32) (r : Int32) (h : f_X8_many S v0 v1 = some r) : Met l yX8_many [Cond.code yX8_many cX8_many 2 (some .int)] ({ frames := 1, cells := 0, slots := 0, locals := 22 }) (va_Pc [.ref v0, .int v1] (PreU D G L S)) (Qi D G L r S) 0 0 (inL L) := by
  refine Met.ofW (cc := cX8_many) (maxL := 2) (ret := (some .int)) (by decide) rfl ?_
  intro p e s m args below meth c s₁ B hml hv
  obtain ⟨rfl, hpre⟩ := hv
  obtain ⟨C, w⟩ := o_ent (own := RX8) rfl B hml hpre
  have hl := lv_entry ([.ref v0, .int v1]) (n := 2) (Nat.le_of_ble_eq_true rfl)
  rw [lg_entry_eq]
  generalize (lg_sl ([.ref v0, .int v1]) ++ List.replicate (2 - (lg_sl ([.ref v0, .int v1])).length) Slot.unset).toArray = ls at hl ⊢
  exact w_X8_many C (fun _ h => h) ⟨Nat.zero_le _, Nat.zero_le _⟩ ⟨rfl, rfl, Nat.le_of_ble_eq_true rfl, Nat.le_of_ble_eq_true rfl⟩ S v0 v1 r h (fun v H locs ls pc w hv hd => by subst hv; exact o_iret C w B.returns B.notSynchronized hd) _ _ _ w hl

def f_X8_valueIn (S : PH) (v0 : Nat) (v1 : Int32) (v2 : Int32) : Option (Int32) :=
(ckO S v0 8).bind fun _ =>
(f_X8_of S v0 v2 (1 : Int32)).bind fun x1 =>
(ckO S v0 8).bind fun _ =>
(f_X8_of S v0 v2 (5 : Int32)).bind fun x2 =>
(dvI v1 x2).bind fun x3 =>
(ckO S v0 8).bind fun _ =>
(f_X8_many S v0 v2).bind fun x4 =>
(rmI x3 x4).bind fun x5 =>
some (x1 + x5)
set_option maxHeartbeats 4000000 in
set_option maxRecDepth 100000 in
theorem w_X8_valueIn {p : Program} {l : Launch} {e : Env} {R : Room} {s : State} {m : MethodId} {args : Array Value} {below : List Frame} {meth : Method} {c : Code} {cells slots : Nat} {Q : State → Prop} {D : va_G} {G : Nat → ClassId} {L : List Nat} {A : Nat → Prop} {H0 : Heap} (C : CX p s m c args D G cX8_valueIn 3 RX8) (hLA : ∀ q ∈ L, A q) (hcs : cells ≤ R.cells ∧ slots ≤ R.slots) (hR_X8_of : RoomOk R ({ frames := 0, cells := 0, slots := 0, locals := 0 }) 3) (hR_X8_many : RoomOk R ({ frames := 1, cells := 0, slots := 0, locals := 22 }) 2) (S : PH) (v0 : Nat) (v1 : Int32) (v2 : Int32) (r : Int32) (h : f_X8_valueIn S v0 v1 v2 = some r) (hret : ∀ (v : Int32) (H : Heap) (locs : List Loc) (ls : Array Slot) (pc : Nat), Wd D G L A H0 S H locs → v = r → decode cX8_valueIn pc = .ok (.ireturn, 1) → W p l e R s m args below meth c H locs cells slots Q (F0 m pc ls [.int v])) : ∀ (H : Heap) (locs : List Loc) (ls : Array Slot), Wd D G L A H0 S H locs → lv_has ls 3 [(0, .ref v0), (1, .int v1), (2, .int v2)] → W p l e R s m args below meth c H locs cells slots Q (F0 m 0 ls []) := by
  have hx := C.1.1
  have hb := C.1.2.1
  unfold f_X8_valueIn at h
  intro H locs ls w hl
  refine lv_aload_n hx hb dX8_valueIn_0 rfl (lv_at hl 0 rfl) ?_
  refine lv_iload_n hx hb dX8_valueIn_1 rfl (lv_at hl 2 rfl) ?_
  refine lv_iconst (v := 1) hx hb dX8_valueIn_2 (by decide) ?_
  obtain ⟨_, ho, h⟩ := bs h
  obtain ⟨x1, hc, h⟩ := bs h
  refine o_backi w hLA (o_runV (As := [.int v2, .int (1 : Int32)]) (rest := []) C w (c_X8_of l D G L S v0 v2 (1 : Int32) x1 hc) ml_X8_44 mv_X8_of hR_X8_of ho rfl hl.1 rfl (Nat.le_of_ble_eq_true rfl) dX8_valueIn_3 hcs) (fun H locs w => ?_)
  refine lv_iload_n hx hb dX8_valueIn_6 rfl (lv_at hl 1 rfl) ?_
  refine lv_aload_n hx hb dX8_valueIn_7 rfl (lv_at hl 0 rfl) ?_
  refine lv_iload_n hx hb dX8_valueIn_8 rfl (lv_at hl 2 rfl) ?_
  refine lv_iconst (v := 5) hx hb dX8_valueIn_9 (by decide) ?_
  obtain ⟨_, ho, h⟩ := bs h
  obtain ⟨x2, hc, h⟩ := bs h
  refine o_backi w hLA (o_runV (As := [.int v2, .int (5 : Int32)]) (rest := [.int v1, .int x1]) C w (c_X8_of l D G L S v0 v2 (5 : Int32) x2 hc) ml_X8_44 mv_X8_of hR_X8_of ho rfl hl.1 rfl (Nat.le_of_ble_eq_true rfl) dX8_valueIn_10 hcs) (fun H locs w => ?_)
  obtain ⟨x3, hx3, h⟩ := bs h
  refine o_dv C hx3 dX8_valueIn_13 ?_
  refine lv_aload_n hx hb dX8_valueIn_14 rfl (lv_at hl 0 rfl) ?_
  refine lv_iload_n hx hb dX8_valueIn_15 rfl (lv_at hl 2 rfl) ?_
  obtain ⟨_, ho, h⟩ := bs h
  obtain ⟨x4, hc, h⟩ := bs h
  refine o_backi w hLA (o_runV (As := [.int v2]) (rest := [.int x3, .int x1]) C w (c_X8_many l D G L S v0 v2 x4 hc) ml_X8_48 mv_X8_many hR_X8_many ho rfl hl.1 rfl (Nat.le_of_ble_eq_true rfl) dX8_valueIn_16 hcs) (fun H locs w => ?_)
  obtain ⟨x5, hx5, h⟩ := bs h
  refine o_rm C hx5 dX8_valueIn_19 ?_
  refine lv_iadd hx hb dX8_valueIn_20 ?_
  exact hret _ _ _ _ _ w (Option.some.inj h) dX8_valueIn_21
set_option maxHeartbeats 4000000 in
set_option maxRecDepth 100000 in
theorem c_X8_valueIn (l : Launch) (D : va_G) (G : Nat → ClassId) (L : List Nat) (S : PH) (v0 : Nat) (v1 : Int32) (v2 : Int32) (r : Int32) (h : f_X8_valueIn S v0 v1 v2 = some r) : Met l yX8_valueIn [Cond.code yX8_valueIn cX8_valueIn 3 (some .int)] ({ frames := 2, cells := 0, slots := 0, locals := 43 }) (va_Pc [.ref v0, .int v1, .int v2] (PreU D G L S)) (Qi D G L r S) 0 0 (inL L) := by
  refine Met.ofW (cc := cX8_valueIn) (maxL := 3) (ret := (some .int)) (by decide) rfl ?_
  intro p e s m args below meth c s₁ B hml hv
  obtain ⟨rfl, hpre⟩ := hv
  obtain ⟨C, w⟩ := o_ent (own := RX8) rfl B hml hpre
  have hl := lv_entry ([.ref v0, .int v1, .int v2]) (n := 3) (Nat.le_of_ble_eq_true rfl)
  rw [lg_entry_eq]
  generalize (lg_sl ([.ref v0, .int v1, .int v2]) ++ List.replicate (3 - (lg_sl ([.ref v0, .int v1, .int v2])).length) Slot.unset).toArray = ls at hl ⊢
  exact w_X8_valueIn C (fun _ h => h) ⟨Nat.zero_le _, Nat.zero_le _⟩ ⟨rfl, rfl, Nat.le_of_ble_eq_true rfl, Nat.le_of_ble_eq_true rfl⟩ ⟨rfl, rfl, Nat.le_of_ble_eq_true rfl, Nat.le_of_ble_eq_true rfl⟩ S v0 v1 v2 r h (fun v H locs ls pc w hv hd => by subst hv; exact o_iret C w B.returns B.notSynchronized hd) _ _ _ w hl

def f_X8_mayCome_L5 (S : PH) (v0 : Nat) (v3 : Int32) (v4 : Int32) : Option ((Int32 × Int32) ⊕ (Int32)) :=
(gR S v0 8 0).bind fun x1 =>
(ldI S x1 (1 : Int32)).bind fun x2 =>
if x2 ≤ v4 then (
some (.inr v3))
else (
(ckO S v0 8).bind fun _ =>
(f_X8_of S v0 v4 (2 : Int32)).bind fun x3 =>
some (.inl ((v3 + x3), (v4 + 1))))
def f_X8_mayCome (S : PH) (v0 : Nat) (v1 : Int32) (v2 : Int32) : Option (Int32) :=
(lpo (fun x : Int32 × Int32 => f_X8_mayCome_L5 S v0 x.1 x.2) FU (v2, (0 : Int32))).bind fun y4 =>
(gR S v0 8 0).bind fun x5 =>
(ldI S x5 (1 : Int32)).bind fun x6 =>
if (10 : Int32) ≤ x6 then (
some (0 : Int32))
else (
(gR S v0 8 0).bind fun x7 =>
(ldI S x7 (2 : Int32)).bind fun x8 =>
if (4096 : Int32) < (x8 * ((v2 - v1) + (1 : Int32))) then (
some (0 : Int32))
else (
if (60 : Int32) < y4 then (
some (0 : Int32))
else (
some (1 : Int32))))
set_option maxHeartbeats 4000000 in
set_option maxRecDepth 100000 in
theorem w_X8_mayCome {p : Program} {l : Launch} {e : Env} {R : Room} {s : State} {m : MethodId} {args : Array Value} {below : List Frame} {meth : Method} {c : Code} {cells slots : Nat} {Q : State → Prop} {D : va_G} {G : Nat → ClassId} {L : List Nat} {A : Nat → Prop} {H0 : Heap} (C : CX p s m c args D G cX8_mayCome 5 RX8) (hLA : ∀ q ∈ L, A q) (hcs : cells ≤ R.cells ∧ slots ≤ R.slots) (hR_X8_of : RoomOk R ({ frames := 0, cells := 0, slots := 0, locals := 0 }) 3) (S : PH) (v0 : Nat) (v1 : Int32) (v2 : Int32) (r : Int32) (h : f_X8_mayCome S v0 v1 v2 = some r) (hret : ∀ (v : Int32) (H : Heap) (locs : List Loc) (ls : Array Slot) (pc : Nat), Wd D G L A H0 S H locs → narrow .boolean (.int v) = .int v → v = r → decode cX8_mayCome pc = .ok (.ireturn, 1) → W p l e R s m args below meth c H locs cells slots Q (F0 m pc ls [.int v])) : ∀ (H : Heap) (locs : List Loc) (ls : Array Slot), Wd D G L A H0 S H locs → lv_has ls 5 [(0, .ref v0), (1, .int v1), (2, .int v2)] → W p l e R s m args below meth c H locs cells slots Q (F0 m 0 ls []) := by
  have hx := C.1.1
  have hb := C.1.2.1
  unfold f_X8_mayCome at h
  intro H locs ls w hl
  refine lv_iload_n hx hb dX8_mayCome_0 rfl (lv_at hl 2 rfl) ?_
  refine lv_istore_n (lv' := [(3, .int v2), (0, .ref v0), (1, .int v1), (2, .int v2)]) hx hb dX8_mayCome_1 rfl hl (by decide) rfl (fun ls hl => ?_)
  refine lv_iconst (v := 0) hx hb dX8_mayCome_2 (by decide) ?_
  refine lv_istore (lv' := [(4, .int (0 : Int32)), (3, .int v2), (0, .ref v0), (1, .int v1), (2, .int v2)]) hx hb dX8_mayCome_3 hl (by decide) rfl (fun ls hl => ?_)
  obtain ⟨y4, hL5, h⟩ := bs h
  have hE5 : ∀ (q9 : Int32), y4 = q9 → ∀ (H : Heap) (locs : List Loc) (ls : Array Slot), Wd D G L A H0 S H locs → lv_has ls 5 [(0, .ref v0), (1, .int v1), (2, .int v2), (3, .int q9)] → W p l e R s m args below meth c H locs cells slots Q (F0 m 32 ls []) := by
    intro q9 he
    cases he
    intro H locs ls w hl
    refine lv_aload_n hx hb dX8_mayCome_32 rfl (lv_at hl 0 rfl) ?_
    obtain ⟨x5, hx5, h⟩ := bs h
    refine o_gR C w hx5 fl_X8_8 dX8_mayCome_33 ?_
    refine lv_iconst (v := 1) hx hb dX8_mayCome_36 (by decide) ?_
    obtain ⟨x6, hx6, h⟩ := bs h
    refine o_ldI C w hx6 dX8_mayCome_37 ?_
    refine lv_bipush (v := 10) hx hb dX8_mayCome_38 (by decide) ?_
    refine lv_icmp_ge (tgt := 71) hx hb dX8_mayCome_40 (by decide) (fun cc40 => ?_) (fun cc40 => ?_)
    · have h := it cc40 h
      refine lv_iconst (v := 0) hx hb dX8_mayCome_71 (by decide) ?_
      exact hret _ _ _ _ _ w rfl (Option.some.inj h) dX8_mayCome_72
    · have h := ie cc40 h
      refine lv_aload_n hx hb dX8_mayCome_43 rfl (lv_at hl 0 rfl) ?_
      obtain ⟨x7, hx7, h⟩ := bs h
      refine o_gR C w hx7 fl_X8_8 dX8_mayCome_44 ?_
      refine lv_iconst (v := 2) hx hb dX8_mayCome_47 (by decide) ?_
      obtain ⟨x8, hx8, h⟩ := bs h
      refine o_ldI C w hx8 dX8_mayCome_48 ?_
      refine lv_iload_n hx hb dX8_mayCome_49 rfl (lv_at hl 2 rfl) ?_
      refine lv_iload_n hx hb dX8_mayCome_50 rfl (lv_at hl 1 rfl) ?_
      refine lv_isub hx hb dX8_mayCome_51 ?_
      refine lv_iconst (v := 1) hx hb dX8_mayCome_52 (by decide) ?_
      refine lv_iadd hx hb dX8_mayCome_53 ?_
      refine lv_imul hx hb dX8_mayCome_54 ?_
      refine lv_sipush (v := 4096) hx hb dX8_mayCome_55 (by decide) ?_
      refine lv_icmp_gt (tgt := 71) hx hb dX8_mayCome_58 (by decide) (fun cc58 => ?_) (fun cc58 => ?_)
      · have h := it cc58 h
        refine lv_iconst (v := 0) hx hb dX8_mayCome_71 (by decide) ?_
        exact hret _ _ _ _ _ w rfl (Option.some.inj h) dX8_mayCome_72
      · have h := ie cc58 h
        refine lv_iload_n hx hb dX8_mayCome_61 rfl (lv_at hl 3 rfl) ?_
        refine lv_bipush (v := 60) hx hb dX8_mayCome_62 (by decide) ?_
        refine lv_icmp_gt (tgt := 71) hx hb dX8_mayCome_64 (by decide) (fun cc64 => ?_) (fun cc64 => ?_)
        · have h := it cc64 h
          refine lv_iconst (v := 0) hx hb dX8_mayCome_71 (by decide) ?_
          exact hret _ _ _ _ _ w rfl (Option.some.inj h) dX8_mayCome_72
        · have h := ie cc64 h
          refine lv_iconst (v := 1) hx hb dX8_mayCome_67 (by decide) ?_
          refine lv_goto (tgt := 72) hx hb dX8_mayCome_68 (by decide) ?_
          exact hret _ _ _ _ _ w rfl (Option.some.inj h) dX8_mayCome_72
  refine lpo_W (P := fun x : Int32 × Int32 => ∀ (H : Heap) (locs : List Loc) (ls : Array Slot), Wd D G L A H0 S H locs → lv_has ls 5 [(0, .ref v0), (1, .int v1), (2, .int v2), (3, .int x.1), (4, .int x.2)] → W p l e R s m args below meth c H locs cells slots Q (F0 m 5 ls [])) ?_ FU _ hL5 H locs ls w (lv_sub hl [2, 3, 4, 1, 0] rfl)
  intro x y5 h hnext5 hend5
  obtain ⟨t10, t11⟩ := x
  have h : f_X8_mayCome_L5 S v0 t10 t11 = some y5 := h
  unfold f_X8_mayCome_L5 at h
  intro H locs ls w hl
  have hl : lv_has ls 5 [(0, .ref v0), (1, .int v1), (2, .int v2), (3, .int t10), (4, .int t11)] := hl
  refine lv_iload hx hb dX8_mayCome_5 (lv_at hl 4 rfl) ?_
  refine lv_aload_n hx hb dX8_mayCome_7 rfl (lv_at hl 0 rfl) ?_
  obtain ⟨x12, hx12, h⟩ := bs h
  refine o_gR C w hx12 fl_X8_8 dX8_mayCome_8 ?_
  refine lv_iconst (v := 1) hx hb dX8_mayCome_11 (by decide) ?_
  obtain ⟨x13, hx13, h⟩ := bs h
  refine o_ldI C w hx13 dX8_mayCome_12 ?_
  refine lv_icmp_ge (tgt := 32) hx hb dX8_mayCome_13 (by decide) (fun cc13 => ?_) (fun cc13 => ?_)
  · have h := it cc13 h
    exact hE5 _ (hend5 _ (Option.some.inj h).symm).symm H locs ls w (lv_sub hl [0, 1, 2, 3] rfl)
  · have h := ie cc13 h
    refine lv_iload_n hx hb dX8_mayCome_16 rfl (lv_at hl 3 rfl) ?_
    refine lv_aload_n hx hb dX8_mayCome_17 rfl (lv_at hl 0 rfl) ?_
    refine lv_iload hx hb dX8_mayCome_18 (lv_at hl 4 rfl) ?_
    refine lv_iconst (v := 2) hx hb dX8_mayCome_20 (by decide) ?_
    obtain ⟨_, ho, h⟩ := bs h
    obtain ⟨x14, hc, h⟩ := bs h
    refine o_backi w hLA (o_runV (As := [.int t11, .int (2 : Int32)]) (rest := [.int t10]) C w (c_X8_of l D G L S v0 t11 (2 : Int32) x14 hc) ml_X8_44 mv_X8_of hR_X8_of ho rfl hl.1 rfl (Nat.le_of_ble_eq_true rfl) dX8_mayCome_21 hcs) (fun H locs w => ?_)
    refine lv_iadd hx hb dX8_mayCome_24 ?_
    refine lv_istore_n (lv' := [(3, .int (t10 + x14)), (0, .ref v0), (1, .int v1), (2, .int v2), (4, .int t11)]) hx hb dX8_mayCome_25 rfl hl (by decide) rfl (fun ls hl => ?_)
    refine lv_iinc (v := (t11 + 1)) (lv' := [(4, .int (t11 + 1)), (3, .int (t10 + x14)), (0, .ref v0), (1, .int v1), (2, .int v2)]) hx hb dX8_mayCome_26 hl (k := 4) rfl rfl (by decide) rfl (fun ls hl => ?_)
    refine lv_goto (tgt := 5) hx hb dX8_mayCome_29 (by decide) ?_
    exact hnext5 _ (Option.some.inj h).symm H locs ls w (lv_sub hl [2, 3, 4, 1, 0] rfl)
set_option maxHeartbeats 4000000 in
set_option maxRecDepth 100000 in
theorem c_X8_mayCome (l : Launch) (D : va_G) (G : Nat → ClassId) (L : List Nat) (S : PH) (v0 : Nat) (v1 : Int32) (v2 : Int32) (r : Int32) (h : f_X8_mayCome S v0 v1 v2 = some r) : Met l yX8_mayCome [Cond.code yX8_mayCome cX8_mayCome 5 (some .boolean)] ({ frames := 1, cells := 0, slots := 0, locals := 22 }) (va_Pc [.ref v0, .int v1, .int v2] (PreU D G L S)) (Qi D G L r S) 0 0 (inL L) := by
  refine Met.ofW (cc := cX8_mayCome) (maxL := 5) (ret := (some .boolean)) (by decide) rfl ?_
  intro p e s m args below meth c s₁ B hml hv
  obtain ⟨rfl, hpre⟩ := hv
  obtain ⟨C, w⟩ := o_ent (own := RX8) rfl B hml hpre
  have hl := lv_entry ([.ref v0, .int v1, .int v2]) (n := 5) (Nat.le_of_ble_eq_true rfl)
  rw [lg_entry_eq]
  generalize (lg_sl ([.ref v0, .int v1, .int v2]) ++ List.replicate (5 - (lg_sl ([.ref v0, .int v1, .int v2])).length) Slot.unset).toArray = ls at hl ⊢
  exact w_X8_mayCome C (fun _ h => h) ⟨Nat.zero_le _, Nat.zero_le _⟩ ⟨rfl, rfl, Nat.le_of_ble_eq_true rfl, Nat.le_of_ble_eq_true rfl⟩ S v0 v1 v2 r h (fun v H locs ls pc w hz hv hd => by subst hv; exact o_zret C w B.returns B.notSynchronized hz hd) _ _ _ w hl
end
section
def f_X8_comes_L125 (S : PH) (v0 : Nat) (v8 : Int32) (v9 : Int32) (v10 : Int32) : Option ((Int32 × PH) ⊕ (PH)) :=
(gR S v0 8 0).bind fun x22 =>
(ldI S x22 (2 : Int32)).bind fun x23 =>
if x23 ≤ v10 then (
some (.inr S))
else (
(gR S v0 8 0).bind fun x24 =>
(gR S v0 8 0).bind fun x25 =>
(ldI S x25 ((((1130 : Int32) + ((4096 : Int32) * v9)) + v10) - v8)).bind fun x26 =>
(stI S x24 (((1130 : Int32) + ((4096 : Int32) * v9)) + v10) x26).bind fun S27 =>
some (.inl ((v10 + 1), S27)))
def f_X8_comes_L115 (S : PH) (v0 : Nat) (v8 : Int32) (v9 : Int32) : Option ((Int32 × PH) ⊕ (PH)) :=
if (4 : Int32) ≤ v9 then (
some (.inr S))
else (
(lpo (fun x : Int32 × PH => f_X8_comes_L125 x.2 v0 v8 v9 x.1) FU (v8, S)).bind fun S28 =>
some (.inl ((v9 + 1), S28)))
def f_X8_comes (S : PH) (v0 : Nat) (v1 : Int32) (v2 : Int32) (v3 : Int32) (v4 : Int32) (v5 : Int32) : Option (Int32 × PH) :=
(gR S v0 8 0).bind fun x1 =>
(ldI S x1 (1 : Int32)).bind fun x2 =>
(gR S v0 8 0).bind fun x3 =>
(ldI S x3 (2 : Int32)).bind fun x4 =>
(gR S v0 8 0).bind fun x5 =>
(stI S x5 ((20 : Int32) + ((8 : Int32) * x2)) v1).bind fun S6 =>
(gR S6 v0 8 0).bind fun x7 =>
(stI S6 x7 (((20 : Int32) + ((8 : Int32) * x2)) + (1 : Int32)) v3).bind fun S8 =>
(gR S8 v0 8 0).bind fun x9 =>
(stI S8 x9 (((20 : Int32) + ((8 : Int32) * x2)) + (2 : Int32)) v4).bind fun S10 =>
(gR S10 v0 8 0).bind fun x11 =>
(stI S10 x11 (((20 : Int32) + ((8 : Int32) * x2)) + (3 : Int32)) v5).bind fun S12 =>
(gR S12 v0 8 0).bind fun x13 =>
(stI S12 x13 (((20 : Int32) + ((8 : Int32) * x2)) + (4 : Int32)) v2).bind fun S14 =>
(gR S14 v0 8 0).bind fun x15 =>
(stI S14 x15 (((20 : Int32) + ((8 : Int32) * x2)) + (5 : Int32)) x4).bind fun S16 =>
(gR S16 v0 8 0).bind fun x17 =>
(ldI S16 x17 (1 : Int32)).bind fun x18 =>
(stI S16 x17 (1 : Int32) (x18 + (1 : Int32))).bind fun S19 =>
(gR S19 v0 8 0).bind fun x20 =>
(stI S19 x20 (2 : Int32) (x4 * ((v4 - v3) + (1 : Int32)))).bind fun S21 =>
(lpo (fun x : Int32 × PH => f_X8_comes_L115 x.2 v0 x4 x.1) FU ((0 : Int32), S21)).bind fun S38 =>
(gR S38 v0 8 0).bind fun x39 =>
(stI S38 x39 ((10 : Int32) + v1) x2).bind fun S40 =>
some (x2, S40)
set_option maxHeartbeats 4000000 in
set_option maxRecDepth 100000 in
theorem w_X8_comes {p : Program} {l : Launch} {e : Env} {R : Room} {s : State} {m : MethodId} {args : Array Value} {below : List Frame} {meth : Method} {c : Code} {cells slots : Nat} {Q : State → Prop} {D : va_G} {G : Nat → ClassId} {L : List Nat} {A : Nat → Prop} {H0 : Heap} (C : CX p s m c args D G cX8_comes 11 RX8) (hLA : ∀ q ∈ L, A q) (hcs : cells ≤ R.cells ∧ slots ≤ R.slots)  (S : PH) (v0 : Nat) (v1 : Int32) (v2 : Int32) (v3 : Int32) (v4 : Int32) (v5 : Int32) (r : Int32 × PH) (h : f_X8_comes S v0 v1 v2 v3 v4 v5 = some r) (hret : ∀ (v : Int32) (S9 : PH) (H : Heap) (locs : List Loc) (ls : Array Slot) (pc : Nat), Wd D G L A H0 S9 H locs → (v, S9) = r → decode cX8_comes pc = .ok (.ireturn, 1) → W p l e R s m args below meth c H locs cells slots Q (F0 m pc ls [.int v])) : ∀ (H : Heap) (locs : List Loc) (ls : Array Slot), Wd D G L A H0 S H locs → lv_has ls 11 [(0, .ref v0), (1, .int v1), (2, .int v2), (3, .int v3), (4, .int v4), (5, .int v5)] → W p l e R s m args below meth c H locs cells slots Q (F0 m 0 ls []) := by
  have hx := C.1.1
  have hb := C.1.2.1
  unfold f_X8_comes at h
  intro H locs ls w hl
  refine lv_aload_n hx hb dX8_comes_0 rfl (lv_at hl 0 rfl) ?_
  obtain ⟨x1, hx1, h⟩ := bs h
  refine o_gR C w hx1 fl_X8_8 dX8_comes_1 ?_
  refine lv_iconst (v := 1) hx hb dX8_comes_4 (by decide) ?_
  obtain ⟨x2, hx2, h⟩ := bs h
  refine o_ldI C w hx2 dX8_comes_5 ?_
  refine lv_istore (lv' := [(6, .int x2), (0, .ref v0), (1, .int v1), (2, .int v2), (3, .int v3), (4, .int v4), (5, .int v5)]) hx hb dX8_comes_6 hl (by decide) rfl (fun ls hl => ?_)
  refine lv_bipush (v := 20) hx hb dX8_comes_8 (by decide) ?_
  refine lv_bipush (v := 8) hx hb dX8_comes_10 (by decide) ?_
  refine lv_iload hx hb dX8_comes_12 (lv_at hl 0 rfl) ?_
  refine lv_imul hx hb dX8_comes_14 ?_
  refine lv_iadd hx hb dX8_comes_15 ?_
  refine lv_istore (lv' := [(7, .int ((20 : Int32) + ((8 : Int32) * x2))), (6, .int x2), (0, .ref v0), (1, .int v1), (2, .int v2), (3, .int v3), (4, .int v4), (5, .int v5)]) hx hb dX8_comes_16 hl (by decide) rfl (fun ls hl => ?_)
  refine lv_aload_n hx hb dX8_comes_18 rfl (lv_at hl 2 rfl) ?_
  obtain ⟨x3, hx3, h⟩ := bs h
  refine o_gR C w hx3 fl_X8_8 dX8_comes_19 ?_
  refine lv_iconst (v := 2) hx hb dX8_comes_22 (by decide) ?_
  obtain ⟨x4, hx4, h⟩ := bs h
  refine o_ldI C w hx4 dX8_comes_23 ?_
  refine lv_istore (lv' := [(8, .int x4), (7, .int ((20 : Int32) + ((8 : Int32) * x2))), (6, .int x2), (0, .ref v0), (1, .int v1), (2, .int v2), (3, .int v3), (4, .int v4), (5, .int v5)]) hx hb dX8_comes_24 hl (by decide) rfl (fun ls hl => ?_)
  refine lv_aload_n hx hb dX8_comes_26 rfl (lv_at hl 3 rfl) ?_
  obtain ⟨x5, hx5, h⟩ := bs h
  refine o_gR C w hx5 fl_X8_8 dX8_comes_27 ?_
  refine lv_iload hx hb dX8_comes_30 (lv_at hl 1 rfl) ?_
  refine lv_iload_n hx hb dX8_comes_32 rfl (lv_at hl 4 rfl) ?_
  obtain ⟨S6, hS6, h⟩ := bs h
  refine o_stI C w hS6 dX8_comes_33 (fun H locs w => ?_)
  refine lv_aload_n hx hb dX8_comes_34 rfl (lv_at hl 3 rfl) ?_
  obtain ⟨x7, hx7, h⟩ := bs h
  refine o_gR C w hx7 fl_X8_8 dX8_comes_35 ?_
  refine lv_iload hx hb dX8_comes_38 (lv_at hl 1 rfl) ?_
  refine lv_iconst (v := 1) hx hb dX8_comes_40 (by decide) ?_
  refine lv_iadd hx hb dX8_comes_41 ?_
  refine lv_iload_n hx hb dX8_comes_42 rfl (lv_at hl 6 rfl) ?_
  obtain ⟨S8, hS8, h⟩ := bs h
  refine o_stI C w hS8 dX8_comes_43 (fun H locs w => ?_)
  refine lv_aload_n hx hb dX8_comes_44 rfl (lv_at hl 3 rfl) ?_
  obtain ⟨x9, hx9, h⟩ := bs h
  refine o_gR C w hx9 fl_X8_8 dX8_comes_45 ?_
  refine lv_iload hx hb dX8_comes_48 (lv_at hl 1 rfl) ?_
  refine lv_iconst (v := 2) hx hb dX8_comes_50 (by decide) ?_
  refine lv_iadd hx hb dX8_comes_51 ?_
  refine lv_iload hx hb dX8_comes_52 (lv_at hl 7 rfl) ?_
  obtain ⟨S10, hS10, h⟩ := bs h
  refine o_stI C w hS10 dX8_comes_54 (fun H locs w => ?_)
  refine lv_aload_n hx hb dX8_comes_55 rfl (lv_at hl 3 rfl) ?_
  obtain ⟨x11, hx11, h⟩ := bs h
  refine o_gR C w hx11 fl_X8_8 dX8_comes_56 ?_
  refine lv_iload hx hb dX8_comes_59 (lv_at hl 1 rfl) ?_
  refine lv_iconst (v := 3) hx hb dX8_comes_61 (by decide) ?_
  refine lv_iadd hx hb dX8_comes_62 ?_
  refine lv_iload hx hb dX8_comes_63 (lv_at hl 8 rfl) ?_
  obtain ⟨S12, hS12, h⟩ := bs h
  refine o_stI C w hS12 dX8_comes_65 (fun H locs w => ?_)
  refine lv_aload_n hx hb dX8_comes_66 rfl (lv_at hl 3 rfl) ?_
  obtain ⟨x13, hx13, h⟩ := bs h
  refine o_gR C w hx13 fl_X8_8 dX8_comes_67 ?_
  refine lv_iload hx hb dX8_comes_70 (lv_at hl 1 rfl) ?_
  refine lv_iconst (v := 4) hx hb dX8_comes_72 (by decide) ?_
  refine lv_iadd hx hb dX8_comes_73 ?_
  refine lv_iload_n hx hb dX8_comes_74 rfl (lv_at hl 5 rfl) ?_
  obtain ⟨S14, hS14, h⟩ := bs h
  refine o_stI C w hS14 dX8_comes_75 (fun H locs w => ?_)
  refine lv_aload_n hx hb dX8_comes_76 rfl (lv_at hl 3 rfl) ?_
  obtain ⟨x15, hx15, h⟩ := bs h
  refine o_gR C w hx15 fl_X8_8 dX8_comes_77 ?_
  refine lv_iload hx hb dX8_comes_80 (lv_at hl 1 rfl) ?_
  refine lv_iconst (v := 5) hx hb dX8_comes_82 (by decide) ?_
  refine lv_iadd hx hb dX8_comes_83 ?_
  refine lv_iload hx hb dX8_comes_84 (lv_at hl 0 rfl) ?_
  obtain ⟨S16, hS16, h⟩ := bs h
  refine o_stI C w hS16 dX8_comes_86 (fun H locs w => ?_)
  refine lv_aload_n hx hb dX8_comes_87 rfl (lv_at hl 3 rfl) ?_
  obtain ⟨x17, hx17, h⟩ := bs h
  refine o_gR C w hx17 fl_X8_8 dX8_comes_88 ?_
  refine lv_iconst (v := 1) hx hb dX8_comes_91 (by decide) ?_
  refine lv_dup2_11 hx hb dX8_comes_92 rfl rfl ?_
  obtain ⟨x18, hx18, h⟩ := bs h
  refine o_ldI C w hx18 dX8_comes_93 ?_
  refine lv_iconst (v := 1) hx hb dX8_comes_94 (by decide) ?_
  refine lv_iadd hx hb dX8_comes_95 ?_
  obtain ⟨S19, hS19, h⟩ := bs h
  refine o_stI C w hS19 dX8_comes_96 (fun H locs w => ?_)
  refine lv_aload_n hx hb dX8_comes_97 rfl (lv_at hl 3 rfl) ?_
  obtain ⟨x20, hx20, h⟩ := bs h
  refine o_gR C w hx20 fl_X8_8 dX8_comes_98 ?_
  refine lv_iconst (v := 2) hx hb dX8_comes_101 (by decide) ?_
  refine lv_iload hx hb dX8_comes_102 (lv_at hl 0 rfl) ?_
  refine lv_iload hx hb dX8_comes_104 (lv_at hl 7 rfl) ?_
  refine lv_iload_n hx hb dX8_comes_106 rfl (lv_at hl 6 rfl) ?_
  refine lv_isub hx hb dX8_comes_107 ?_
  refine lv_iconst (v := 1) hx hb dX8_comes_108 (by decide) ?_
  refine lv_iadd hx hb dX8_comes_109 ?_
  refine lv_imul hx hb dX8_comes_110 ?_
  obtain ⟨S21, hS21, h⟩ := bs h
  refine o_stI C w hS21 dX8_comes_111 (fun H locs w => ?_)
  refine lv_iconst (v := 0) hx hb dX8_comes_112 (by decide) ?_
  refine lv_istore (lv' := [(9, .int (0 : Int32)), (8, .int x4), (7, .int ((20 : Int32) + ((8 : Int32) * x2))), (6, .int x2), (0, .ref v0), (1, .int v1), (2, .int v2), (3, .int v3), (4, .int v4), (5, .int v5)]) hx hb dX8_comes_113 hl (by decide) rfl (fun ls hl => ?_)
  obtain ⟨S38, hL115, h⟩ := bs h
  have hE115 : ∀ (q41 : PH), S38 = q41 → ∀ (H : Heap) (locs : List Loc) (ls : Array Slot), Wd D G L A H0 q41 H locs → lv_has ls 11 [(0, .ref v0), (1, .int v1), (6, .int x2)] → W p l e R s m args below meth c H locs cells slots Q (F0 m 187 ls []) := by
    intro q41 he
    cases he
    intro H locs ls w hl
    refine lv_aload_n hx hb dX8_comes_187 rfl (lv_at hl 0 rfl) ?_
    obtain ⟨x39, hx39, h⟩ := bs h
    refine o_gR C w hx39 fl_X8_8 dX8_comes_188 ?_
    refine lv_bipush (v := 10) hx hb dX8_comes_191 (by decide) ?_
    refine lv_iload_n hx hb dX8_comes_193 rfl (lv_at hl 1 rfl) ?_
    refine lv_iadd hx hb dX8_comes_194 ?_
    refine lv_iload hx hb dX8_comes_195 (lv_at hl 2 rfl) ?_
    obtain ⟨S40, hS40, h⟩ := bs h
    refine o_stI C w hS40 dX8_comes_197 (fun H locs w => ?_)
    refine lv_iload hx hb dX8_comes_198 (lv_at hl 2 rfl) ?_
    exact hret _ _ _ _ _ _ w (Option.some.inj h) dX8_comes_200
  refine lpo_W (P := fun x : Int32 × PH => ∀ (H : Heap) (locs : List Loc) (ls : Array Slot), Wd D G L A H0 x.2 H locs → lv_has ls 11 [(0, .ref v0), (1, .int v1), (6, .int x2), (8, .int x4), (9, .int x.1)] → W p l e R s m args below meth c H locs cells slots Q (F0 m 115 ls [])) ?_ FU _ hL115 H locs ls w (lv_sub hl [4, 5, 3, 1, 0] rfl)
  intro x y115 h hnext115 hend115
  obtain ⟨t42, S43⟩ := x
  have h : f_X8_comes_L115 S43 v0 x4 t42 = some y115 := h
  unfold f_X8_comes_L115 at h
  intro H locs ls w hl
  have hl : lv_has ls 11 [(0, .ref v0), (1, .int v1), (6, .int x2), (8, .int x4), (9, .int t42)] := hl
  have w : Wd D G L A H0 S43 H locs := w
  refine lv_iload hx hb dX8_comes_115 (lv_at hl 4 rfl) ?_
  refine lv_iconst (v := 4) hx hb dX8_comes_117 (by decide) ?_
  refine lv_icmp_ge (tgt := 187) hx hb dX8_comes_118 (by decide) (fun cc118 => ?_) (fun cc118 => ?_)
  · have h := it cc118 h
    exact hE115 _ (hend115 _ (Option.some.inj h).symm).symm H locs ls w (lv_sub hl [0, 1, 2] rfl)
  · have h := ie cc118 h
    refine lv_iload hx hb dX8_comes_121 (lv_at hl 3 rfl) ?_
    refine lv_istore (lv' := [(10, .int x4), (0, .ref v0), (1, .int v1), (6, .int x2), (8, .int x4), (9, .int t42)]) hx hb dX8_comes_123 hl (by decide) rfl (fun ls hl => ?_)
    obtain ⟨S44, hL125, h⟩ := bs h
    have hE125 : ∀ (q45 : PH), S44 = q45 → ∀ (H : Heap) (locs : List Loc) (ls : Array Slot), Wd D G L A H0 q45 H locs → lv_has ls 11 [(0, .ref v0), (1, .int v1), (6, .int x2), (8, .int x4), (9, .int t42)] → W p l e R s m args below meth c H locs cells slots Q (F0 m 181 ls []) := by
      intro q45 he
      cases he
      intro H locs ls w hl
      refine lv_iinc (v := (t42 + 1)) (lv' := [(9, .int (t42 + 1)), (0, .ref v0), (1, .int v1), (6, .int x2), (8, .int x4)]) hx hb dX8_comes_181 hl (k := 4) rfl rfl (by decide) rfl (fun ls hl => ?_)
      refine lv_goto (tgt := 115) hx hb dX8_comes_184 (by decide) ?_
      exact hnext115 _ (Option.some.inj h).symm H locs ls w (lv_sub hl [1, 2, 3, 4, 0] rfl)
    refine lpo_W (P := fun x : Int32 × PH => ∀ (H : Heap) (locs : List Loc) (ls : Array Slot), Wd D G L A H0 x.2 H locs → lv_has ls 11 [(0, .ref v0), (1, .int v1), (6, .int x2), (8, .int x4), (9, .int t42), (10, .int x.1)] → W p l e R s m args below meth c H locs cells slots Q (F0 m 125 ls [])) ?_ FU _ hL125 H locs ls w (lv_sub hl [1, 2, 3, 4, 5, 0] rfl)
    intro x y125 h hnext125 hend125
    obtain ⟨t46, S47⟩ := x
    have h : f_X8_comes_L125 S47 v0 x4 t42 t46 = some y125 := h
    unfold f_X8_comes_L125 at h
    intro H locs ls w hl
    have hl : lv_has ls 11 [(0, .ref v0), (1, .int v1), (6, .int x2), (8, .int x4), (9, .int t42), (10, .int t46)] := hl
    have w : Wd D G L A H0 S47 H locs := w
    refine lv_iload hx hb dX8_comes_125 (lv_at hl 5 rfl) ?_
    refine lv_aload_n hx hb dX8_comes_127 rfl (lv_at hl 0 rfl) ?_
    obtain ⟨x48, hx48, h⟩ := bs h
    refine o_gR C w hx48 fl_X8_8 dX8_comes_128 ?_
    refine lv_iconst (v := 2) hx hb dX8_comes_131 (by decide) ?_
    obtain ⟨x49, hx49, h⟩ := bs h
    refine o_ldI C w hx49 dX8_comes_132 ?_
    refine lv_icmp_ge (tgt := 181) hx hb dX8_comes_133 (by decide) (fun cc133 => ?_) (fun cc133 => ?_)
    · have h := it cc133 h
      exact hE125 _ (hend125 _ (Option.some.inj h).symm).symm H locs ls w (lv_sub hl [0, 1, 2, 3, 4] rfl)
    · have h := ie cc133 h
      refine lv_aload_n hx hb dX8_comes_136 rfl (lv_at hl 0 rfl) ?_
      obtain ⟨x50, hx50, h⟩ := bs h
      refine o_gR C w hx50 fl_X8_8 dX8_comes_137 ?_
      refine lv_sipush (v := 1130) hx hb dX8_comes_140 (by decide) ?_
      refine lv_sipush (v := 4096) hx hb dX8_comes_143 (by decide) ?_
      refine lv_iload hx hb dX8_comes_146 (lv_at hl 4 rfl) ?_
      refine lv_imul hx hb dX8_comes_148 ?_
      refine lv_iadd hx hb dX8_comes_149 ?_
      refine lv_iload hx hb dX8_comes_150 (lv_at hl 5 rfl) ?_
      refine lv_iadd hx hb dX8_comes_152 ?_
      refine lv_aload_n hx hb dX8_comes_153 rfl (lv_at hl 0 rfl) ?_
      obtain ⟨x51, hx51, h⟩ := bs h
      refine o_gR C w hx51 fl_X8_8 dX8_comes_154 ?_
      refine lv_sipush (v := 1130) hx hb dX8_comes_157 (by decide) ?_
      refine lv_sipush (v := 4096) hx hb dX8_comes_160 (by decide) ?_
      refine lv_iload hx hb dX8_comes_163 (lv_at hl 4 rfl) ?_
      refine lv_imul hx hb dX8_comes_165 ?_
      refine lv_iadd hx hb dX8_comes_166 ?_
      refine lv_iload hx hb dX8_comes_167 (lv_at hl 5 rfl) ?_
      refine lv_iadd hx hb dX8_comes_169 ?_
      refine lv_iload hx hb dX8_comes_170 (lv_at hl 3 rfl) ?_
      refine lv_isub hx hb dX8_comes_172 ?_
      obtain ⟨x52, hx52, h⟩ := bs h
      refine o_ldI C w hx52 dX8_comes_173 ?_
      obtain ⟨S53, hS53, h⟩ := bs h
      refine o_stI C w hS53 dX8_comes_174 (fun H locs w => ?_)
      refine lv_iinc (v := (t46 + 1)) (lv' := [(10, .int (t46 + 1)), (0, .ref v0), (1, .int v1), (6, .int x2), (8, .int x4), (9, .int t42)]) hx hb dX8_comes_175 hl (k := 5) rfl rfl (by decide) rfl (fun ls hl => ?_)
      refine lv_goto (tgt := 125) hx hb dX8_comes_178 (by decide) ?_
      exact hnext125 _ (Option.some.inj h).symm H locs ls w (lv_sub hl [1, 2, 3, 4, 5, 0] rfl)
set_option maxHeartbeats 4000000 in
set_option maxRecDepth 100000 in
theorem c_X8_comes (l : Launch) (D : va_G) (G : Nat → ClassId) (L : List Nat) (S : PH) (v0 : Nat) (v1 : Int32) (v2 : Int32) (v3 : Int32) (v4 : Int32) (v5 : Int32) (r : Int32 × PH) (h : f_X8_comes S v0 v1 v2 v3 v4 v5 = some r) : Met l yX8_comes [Cond.code yX8_comes cX8_comes 11 (some .int)] ({ frames := 0, cells := 0, slots := 0, locals := 0 }) (va_Pc [.ref v0, .int v1, .int v2, .int v3, .int v4, .int v5] (PreU D G L S)) (Qi D G L r.1 r.2) 0 0 (inL L) := by
  refine Met.ofW (cc := cX8_comes) (maxL := 11) (ret := (some .int)) (by decide) rfl ?_
  intro p e s m args below meth c s₁ B hml hv
  obtain ⟨rfl, hpre⟩ := hv
  obtain ⟨C, w⟩ := o_ent (own := RX8) rfl B hml hpre
  have hl := lv_entry ([.ref v0, .int v1, .int v2, .int v3, .int v4, .int v5]) (n := 11) (Nat.le_of_ble_eq_true rfl)
  rw [lg_entry_eq]
  generalize (lg_sl ([.ref v0, .int v1, .int v2, .int v3, .int v4, .int v5]) ++ List.replicate (11 - (lg_sl ([.ref v0, .int v1, .int v2, .int v3, .int v4, .int v5])).length) Slot.unset).toArray = ls at hl ⊢
  exact w_X8_comes C (fun _ h => h) ⟨Nat.zero_le _, Nat.zero_le _⟩  S v0 v1 v2 v3 v4 v5 r h (fun v S9 H locs ls pc w hv hd => by subst hv; exact o_iret C w B.returns B.notSynchronized hd) _ _ _ w hl

def f_X8_person (S : PH) (v0 : Nat) (v1 : Int32) (v2 : Int32) (v3 : Int32) (v4 : Int32) : Option (Int32 × PH) :=
(gR S v0 8 0).bind fun x1 =>
(ldI S x1 (0 : Int32)).bind fun x2 =>
if x2 = (8 : Int32) then (
some ((-1 : Int32), S))
else (
(f_X8_isIn v2 (0 : Int32) (20 : Int32)).bind fun x3 =>
if x3 = 0 then (
some ((-1 : Int32), S))
else (
(f_X8_isIn v3 v2 (20 : Int32)).bind fun x4 =>
if x4 = 0 then (
some ((-1 : Int32), S))
else (
(f_X8_isIn v1 v2 v3).bind fun x5 =>
if x5 = 0 then (
some ((-1 : Int32), S))
else (
(f_X8_isIn v4 (1 : Int32) ((v3 - v2) + (1 : Int32))).bind fun x6 =>
if x6 = 0 then (
some ((-1 : Int32), S))
else (
(ckO S v0 8).bind fun _ =>
(f_X8_mayCome S v0 v2 v3).bind fun x7 =>
if x7 = 0 then (
some ((-1 : Int32), S))
else (
(gR S v0 8 0).bind fun x8 =>
(ldI S x8 (0 : Int32)).bind fun x9 =>
(gR S v0 8 0).bind fun x10 =>
(ldI S x10 (0 : Int32)).bind fun x11 =>
(stI S x10 (0 : Int32) (x11 + (1 : Int32))).bind fun S12 =>
(ckO S12 v0 8).bind fun _ =>
bd2 (f_X8_comes S12 v0 x9 v1 v2 v3 v4) fun x13 S14 =>
some (x9, S14)))))))
set_option maxHeartbeats 4000000 in
set_option maxRecDepth 100000 in
theorem w_X8_person {p : Program} {l : Launch} {e : Env} {R : Room} {s : State} {m : MethodId} {args : Array Value} {below : List Frame} {meth : Method} {c : Code} {cells slots : Nat} {Q : State → Prop} {D : va_G} {G : Nat → ClassId} {L : List Nat} {A : Nat → Prop} {H0 : Heap} (C : CX p s m c args D G cX8_person 7 RX8) (hLA : ∀ q ∈ L, A q) (hcs : cells ≤ R.cells ∧ slots ≤ R.slots) (hR_X8_isIn : RoomOk R ({ frames := 0, cells := 0, slots := 0, locals := 0 }) 3) (hR_X8_mayCome : RoomOk R ({ frames := 1, cells := 0, slots := 0, locals := 22 }) 5) (hR_X8_comes : RoomOk R ({ frames := 0, cells := 0, slots := 0, locals := 0 }) 11) (S : PH) (v0 : Nat) (v1 : Int32) (v2 : Int32) (v3 : Int32) (v4 : Int32) (r : Int32 × PH) (h : f_X8_person S v0 v1 v2 v3 v4 = some r) (hret : ∀ (v : Int32) (S9 : PH) (H : Heap) (locs : List Loc) (ls : Array Slot) (pc : Nat), Wd D G L A H0 S9 H locs → (v, S9) = r → decode cX8_person pc = .ok (.ireturn, 1) → W p l e R s m args below meth c H locs cells slots Q (F0 m pc ls [.int v])) : ∀ (H : Heap) (locs : List Loc) (ls : Array Slot), Wd D G L A H0 S H locs → lv_has ls 7 [(0, .ref v0), (1, .int v1), (2, .int v2), (3, .int v3), (4, .int v4)] → W p l e R s m args below meth c H locs cells slots Q (F0 m 0 ls []) := by
  have hx := C.1.1
  have hb := C.1.2.1
  unfold f_X8_person at h
  intro H locs ls w hl
  refine lv_aload_n hx hb dX8_person_0 rfl (lv_at hl 0 rfl) ?_
  obtain ⟨x1, hx1, h⟩ := bs h
  refine o_gR C w hx1 fl_X8_8 dX8_person_1 ?_
  refine lv_iconst (v := 0) hx hb dX8_person_4 (by decide) ?_
  obtain ⟨x2, hx2, h⟩ := bs h
  refine o_ldI C w hx2 dX8_person_5 ?_
  refine lv_bipush (v := 8) hx hb dX8_person_6 (by decide) ?_
  refine lv_icmp_eq (tgt := 63) hx hb dX8_person_8 (by decide) (fun cc8 => ?_) (fun cc8 => ?_)
  · have h := it cc8 h
    refine lv_iconst (v := -1) hx hb dX8_person_63 (by decide) ?_
    exact hret _ _ _ _ _ _ w (Option.some.inj h) dX8_person_64
  · have h := ie cc8 h
    refine lv_iload_n hx hb dX8_person_11 rfl (lv_at hl 2 rfl) ?_
    refine lv_iconst (v := 0) hx hb dX8_person_12 (by decide) ?_
    refine lv_bipush (v := 20) hx hb dX8_person_13 (by decide) ?_
    obtain ⟨x3, hc, h⟩ := bs h
    refine o_backi w hLA (o_runS (As := [.int v2, .int (0 : Int32), .int (20 : Int32)]) (rest := []) C w (c_X8_isIn l D G L S v2 (0 : Int32) (20 : Int32) x3 hc) ml_X8_40 st_X8_isIn hR_X8_isIn rfl hl.1 rfl (Nat.le_of_ble_eq_true rfl) dX8_person_15 hcs) (fun H locs w => ?_)
    refine lv_if_eq (tgt := 63) hx hb dX8_person_18 (by decide) (fun cc18 => ?_) (fun cc18 => ?_)
    · have h := it cc18 h
      refine lv_iconst (v := -1) hx hb dX8_person_63 (by decide) ?_
      exact hret _ _ _ _ _ _ w (Option.some.inj h) dX8_person_64
    · have h := ie cc18 h
      refine lv_iload_n hx hb dX8_person_21 rfl (lv_at hl 3 rfl) ?_
      refine lv_iload_n hx hb dX8_person_22 rfl (lv_at hl 2 rfl) ?_
      refine lv_bipush (v := 20) hx hb dX8_person_23 (by decide) ?_
      obtain ⟨x4, hc, h⟩ := bs h
      refine o_backi w hLA (o_runS (As := [.int v3, .int v2, .int (20 : Int32)]) (rest := []) C w (c_X8_isIn l D G L S v3 v2 (20 : Int32) x4 hc) ml_X8_40 st_X8_isIn hR_X8_isIn rfl hl.1 rfl (Nat.le_of_ble_eq_true rfl) dX8_person_25 hcs) (fun H locs w => ?_)
      refine lv_if_eq (tgt := 63) hx hb dX8_person_28 (by decide) (fun cc28 => ?_) (fun cc28 => ?_)
      · have h := it cc28 h
        refine lv_iconst (v := -1) hx hb dX8_person_63 (by decide) ?_
        exact hret _ _ _ _ _ _ w (Option.some.inj h) dX8_person_64
      · have h := ie cc28 h
        refine lv_iload_n hx hb dX8_person_31 rfl (lv_at hl 1 rfl) ?_
        refine lv_iload_n hx hb dX8_person_32 rfl (lv_at hl 2 rfl) ?_
        refine lv_iload_n hx hb dX8_person_33 rfl (lv_at hl 3 rfl) ?_
        obtain ⟨x5, hc, h⟩ := bs h
        refine o_backi w hLA (o_runS (As := [.int v1, .int v2, .int v3]) (rest := []) C w (c_X8_isIn l D G L S v1 v2 v3 x5 hc) ml_X8_40 st_X8_isIn hR_X8_isIn rfl hl.1 rfl (Nat.le_of_ble_eq_true rfl) dX8_person_34 hcs) (fun H locs w => ?_)
        refine lv_if_eq (tgt := 63) hx hb dX8_person_37 (by decide) (fun cc37 => ?_) (fun cc37 => ?_)
        · have h := it cc37 h
          refine lv_iconst (v := -1) hx hb dX8_person_63 (by decide) ?_
          exact hret _ _ _ _ _ _ w (Option.some.inj h) dX8_person_64
        · have h := ie cc37 h
          refine lv_iload hx hb dX8_person_40 (lv_at hl 4 rfl) ?_
          refine lv_iconst (v := 1) hx hb dX8_person_42 (by decide) ?_
          refine lv_iload_n hx hb dX8_person_43 rfl (lv_at hl 3 rfl) ?_
          refine lv_iload_n hx hb dX8_person_44 rfl (lv_at hl 2 rfl) ?_
          refine lv_isub hx hb dX8_person_45 ?_
          refine lv_iconst (v := 1) hx hb dX8_person_46 (by decide) ?_
          refine lv_iadd hx hb dX8_person_47 ?_
          obtain ⟨x6, hc, h⟩ := bs h
          refine o_backi w hLA (o_runS (As := [.int v4, .int (1 : Int32), .int ((v3 - v2) + (1 : Int32))]) (rest := []) C w (c_X8_isIn l D G L S v4 (1 : Int32) ((v3 - v2) + (1 : Int32)) x6 hc) ml_X8_40 st_X8_isIn hR_X8_isIn rfl hl.1 rfl (Nat.le_of_ble_eq_true rfl) dX8_person_48 hcs) (fun H locs w => ?_)
          refine lv_if_eq (tgt := 63) hx hb dX8_person_51 (by decide) (fun cc51 => ?_) (fun cc51 => ?_)
          · have h := it cc51 h
            refine lv_iconst (v := -1) hx hb dX8_person_63 (by decide) ?_
            exact hret _ _ _ _ _ _ w (Option.some.inj h) dX8_person_64
          · have h := ie cc51 h
            refine lv_aload_n hx hb dX8_person_54 rfl (lv_at hl 0 rfl) ?_
            refine lv_iload_n hx hb dX8_person_55 rfl (lv_at hl 2 rfl) ?_
            refine lv_iload_n hx hb dX8_person_56 rfl (lv_at hl 3 rfl) ?_
            obtain ⟨_, ho, h⟩ := bs h
            obtain ⟨x7, hc, h⟩ := bs h
            refine o_backi w hLA (o_runV (As := [.int v2, .int v3]) (rest := []) C w (c_X8_mayCome l D G L S v0 v2 v3 x7 hc) ml_X8_52 mv_X8_mayCome hR_X8_mayCome ho rfl hl.1 rfl (Nat.le_of_ble_eq_true rfl) dX8_person_57 hcs) (fun H locs w => ?_)
            refine lv_if_ne (tgt := 65) hx hb dX8_person_60 (by decide) (fun cc60 => ?_) (fun cc60 => ?_)
            · have h := ie cc60 h
              refine lv_aload_n hx hb dX8_person_65 rfl (lv_at hl 0 rfl) ?_
              obtain ⟨x8, hx8, h⟩ := bs h
              refine o_gR C w hx8 fl_X8_8 dX8_person_66 ?_
              refine lv_iconst (v := 0) hx hb dX8_person_69 (by decide) ?_
              obtain ⟨x9, hx9, h⟩ := bs h
              refine o_ldI C w hx9 dX8_person_70 ?_
              refine lv_istore (lv' := [(5, .int x9), (0, .ref v0), (1, .int v1), (2, .int v2), (3, .int v3), (4, .int v4)]) hx hb dX8_person_71 hl (by decide) rfl (fun ls hl => ?_)
              refine lv_aload_n hx hb dX8_person_73 rfl (lv_at hl 1 rfl) ?_
              obtain ⟨x10, hx10, h⟩ := bs h
              refine o_gR C w hx10 fl_X8_8 dX8_person_74 ?_
              refine lv_iconst (v := 0) hx hb dX8_person_77 (by decide) ?_
              refine lv_dup2_11 hx hb dX8_person_78 rfl rfl ?_
              obtain ⟨x11, hx11, h⟩ := bs h
              refine o_ldI C w hx11 dX8_person_79 ?_
              refine lv_iconst (v := 1) hx hb dX8_person_80 (by decide) ?_
              refine lv_iadd hx hb dX8_person_81 ?_
              obtain ⟨S12, hS12, h⟩ := bs h
              refine o_stI C w hS12 dX8_person_82 (fun H locs w => ?_)
              refine lv_aload_n hx hb dX8_person_83 rfl (lv_at hl 1 rfl) ?_
              refine lv_iload hx hb dX8_person_84 (lv_at hl 0 rfl) ?_
              refine lv_iload_n hx hb dX8_person_86 rfl (lv_at hl 2 rfl) ?_
              refine lv_iload_n hx hb dX8_person_87 rfl (lv_at hl 3 rfl) ?_
              refine lv_iload_n hx hb dX8_person_88 rfl (lv_at hl 4 rfl) ?_
              refine lv_iload hx hb dX8_person_89 (lv_at hl 5 rfl) ?_
              obtain ⟨_, ho, h⟩ := bs h
              obtain ⟨x13, S14, hc, h⟩ := bs2 h
              refine o_backi w hLA (o_runV (As := [.int x9, .int v1, .int v2, .int v3, .int v4]) (rest := []) C w (c_X8_comes l D G L S12 v0 x9 v1 v2 v3 v4 (x13, S14) hc) ml_X8_56 mv_X8_comes hR_X8_comes ho rfl hl.1 rfl (Nat.le_of_ble_eq_true rfl) dX8_person_91 hcs) (fun H locs w => ?_)
              refine lv_istore (lv' := [(6, .int x13), (5, .int x9), (0, .ref v0), (1, .int v1), (2, .int v2), (3, .int v3), (4, .int v4)]) hx hb dX8_person_94 hl (by decide) rfl (fun ls hl => ?_)
              refine lv_iload hx hb dX8_person_96 (lv_at hl 1 rfl) ?_
              exact hret _ _ _ _ _ _ w (Option.some.inj h) dX8_person_98
            · have h := it cc60 h
              refine lv_iconst (v := -1) hx hb dX8_person_63 (by decide) ?_
              exact hret _ _ _ _ _ _ w (Option.some.inj h) dX8_person_64
set_option maxHeartbeats 4000000 in
set_option maxRecDepth 100000 in
theorem c_X8_person (l : Launch) (D : va_G) (G : Nat → ClassId) (L : List Nat) (S : PH) (v0 : Nat) (v1 : Int32) (v2 : Int32) (v3 : Int32) (v4 : Int32) (r : Int32 × PH) (h : f_X8_person S v0 v1 v2 v3 v4 = some r) : Met l yX8_person [Cond.code yX8_person cX8_person 7 (some .int)] ({ frames := 2, cells := 0, slots := 0, locals := 46 }) (va_Pc [.ref v0, .int v1, .int v2, .int v3, .int v4] (PreU D G L S)) (Qi D G L r.1 r.2) 0 0 (inL L) := by
  refine Met.ofW (cc := cX8_person) (maxL := 7) (ret := (some .int)) (by decide) rfl ?_
  intro p e s m args below meth c s₁ B hml hv
  obtain ⟨rfl, hpre⟩ := hv
  obtain ⟨C, w⟩ := o_ent (own := RX8) rfl B hml hpre
  have hl := lv_entry ([.ref v0, .int v1, .int v2, .int v3, .int v4]) (n := 7) (Nat.le_of_ble_eq_true rfl)
  rw [lg_entry_eq]
  generalize (lg_sl ([.ref v0, .int v1, .int v2, .int v3, .int v4]) ++ List.replicate (7 - (lg_sl ([.ref v0, .int v1, .int v2, .int v3, .int v4])).length) Slot.unset).toArray = ls at hl ⊢
  exact w_X8_person C (fun _ h => h) ⟨Nat.zero_le _, Nat.zero_le _⟩ ⟨rfl, rfl, Nat.le_of_ble_eq_true rfl, Nat.le_of_ble_eq_true rfl⟩ ⟨rfl, rfl, Nat.le_of_ble_eq_true rfl, Nat.le_of_ble_eq_true rfl⟩ ⟨rfl, rfl, Nat.le_of_ble_eq_true rfl, Nat.le_of_ble_eq_true rfl⟩ S v0 v1 v2 v3 v4 r h (fun v S9 H locs ls pc w hv hd => by subst hv; exact o_iret C w B.returns B.notSynchronized hd) _ _ _ w hl

def f_X8_change_b58 (S : PH)  : Option (Int32 × PH) :=
some ((-1 : Int32), S)
def f_X8_change (S : PH) (v0 : Nat) (v1 : Int32) (v2 : Int32) : Option (Int32 × PH) :=
(ckO S v0 8).bind fun _ =>
(f_X8_isPerson S v0 v1).bind fun x1 =>
if x1 = 0 then (
some ((-1 : Int32), S))
else (
(gR S v0 8 0).bind fun x2 =>
(ldI S x2 ((10 : Int32) + v1)).bind fun x3 =>
(ckO S v0 8).bind fun _ =>
(f_X8_of S v0 x3 (1 : Int32)).bind fun x4 =>
(ckO S v0 8).bind fun _ =>
(f_X8_of S v0 x3 (2 : Int32)).bind fun x5 =>
(f_X8_isIn v2 x4 x5).bind fun x6 =>
if x6 = 0 then (
f_X8_change_b58 S )
else (
(ckO S v0 8).bind fun _ =>
(f_X8_of S v0 x3 (1 : Int32)).bind fun x7 =>
(ckO S v0 8).bind fun _ =>
(f_X8_of S v0 x3 (2 : Int32)).bind fun x8 =>
(ckO S v0 8).bind fun _ =>
(f_X8_mayCome S v0 x7 x8).bind fun x9 =>
if x9 = 0 then (
f_X8_change_b58 S )
else (
(ckO S v0 8).bind fun _ =>
(f_X8_of S v0 x3 (1 : Int32)).bind fun x10 =>
(ckO S v0 8).bind fun _ =>
(f_X8_of S v0 x3 (2 : Int32)).bind fun x11 =>
(ckO S v0 8).bind fun _ =>
(f_X8_of S v0 x3 (3 : Int32)).bind fun x12 =>
(ckO S v0 8).bind fun _ =>
bd2 (f_X8_comes S v0 v1 v2 x10 x11 x12) fun x13 S14 =>
some (x13, S14))))
set_option maxHeartbeats 4000000 in
set_option maxRecDepth 100000 in
theorem w_X8_change {p : Program} {l : Launch} {e : Env} {R : Room} {s : State} {m : MethodId} {args : Array Value} {below : List Frame} {meth : Method} {c : Code} {cells slots : Nat} {Q : State → Prop} {D : va_G} {G : Nat → ClassId} {L : List Nat} {A : Nat → Prop} {H0 : Heap} (C : CX p s m c args D G cX8_change 4 RX8) (hLA : ∀ q ∈ L, A q) (hcs : cells ≤ R.cells ∧ slots ≤ R.slots) (hR_X8_isPerson : RoomOk R ({ frames := 1, cells := 0, slots := 0, locals := 22 }) 2) (hR_X8_of : RoomOk R ({ frames := 0, cells := 0, slots := 0, locals := 0 }) 3) (hR_X8_isIn : RoomOk R ({ frames := 0, cells := 0, slots := 0, locals := 0 }) 3) (hR_X8_mayCome : RoomOk R ({ frames := 1, cells := 0, slots := 0, locals := 22 }) 5) (hR_X8_comes : RoomOk R ({ frames := 0, cells := 0, slots := 0, locals := 0 }) 11) (S : PH) (v0 : Nat) (v1 : Int32) (v2 : Int32) (r : Int32 × PH) (h : f_X8_change S v0 v1 v2 = some r) (hret : ∀ (v : Int32) (S9 : PH) (H : Heap) (locs : List Loc) (ls : Array Slot) (pc : Nat), Wd D G L A H0 S9 H locs → (v, S9) = r → decode cX8_change pc = .ok (.ireturn, 1) → W p l e R s m args below meth c H locs cells slots Q (F0 m pc ls [.int v])) : ∀ (H : Heap) (locs : List Loc) (ls : Array Slot), Wd D G L A H0 S H locs → lv_has ls 4 [(0, .ref v0), (1, .int v1), (2, .int v2)] → W p l e R s m args below meth c H locs cells slots Q (F0 m 0 ls []) := by
  have hx := C.1.1
  have hb := C.1.2.1
  unfold f_X8_change at h
  have hb58 : ∀ (S15 : PH) , f_X8_change_b58 S15  = some r → ∀ (H : Heap) (locs : List Loc) (ls : Array Slot), Wd D G L A H0 S15 H locs → lv_has ls 4 [] → W p l e R s m args below meth c H locs cells slots Q (F0 m 58 ls []) := by
    intro S15  h H locs ls w hl
    unfold f_X8_change_b58 at h
    refine lv_iconst (v := -1) hx hb dX8_change_58 (by decide) ?_
    refine lv_goto (tgt := 86) hx hb dX8_change_59 (by decide) ?_
    exact hret _ _ _ _ _ _ w (Option.some.inj h) dX8_change_86
  intro H locs ls w hl
  refine lv_aload_n hx hb dX8_change_0 rfl (lv_at hl 0 rfl) ?_
  refine lv_iload_n hx hb dX8_change_1 rfl (lv_at hl 1 rfl) ?_
  obtain ⟨_, ho, h⟩ := bs h
  obtain ⟨x1, hc, h⟩ := bs h
  refine o_backi w hLA (o_runV (As := [.int v1]) (rest := []) C w (c_X8_isPerson l D G L S v0 v1 x1 hc) ml_X8_60 mv_X8_isPerson hR_X8_isPerson ho rfl hl.1 rfl (Nat.le_of_ble_eq_true rfl) dX8_change_2 hcs) (fun H locs w => ?_)
  refine lv_if_ne (tgt := 10) hx hb dX8_change_5 (by decide) (fun cc5 => ?_) (fun cc5 => ?_)
  · have h := ie cc5 h
    refine lv_aload_n hx hb dX8_change_10 rfl (lv_at hl 0 rfl) ?_
    obtain ⟨x2, hx2, h⟩ := bs h
    refine o_gR C w hx2 fl_X8_8 dX8_change_11 ?_
    refine lv_bipush (v := 10) hx hb dX8_change_14 (by decide) ?_
    refine lv_iload_n hx hb dX8_change_16 rfl (lv_at hl 1 rfl) ?_
    refine lv_iadd hx hb dX8_change_17 ?_
    obtain ⟨x3, hx3, h⟩ := bs h
    refine o_ldI C w hx3 dX8_change_18 ?_
    refine lv_istore_n (lv' := [(3, .int x3), (0, .ref v0), (1, .int v1), (2, .int v2)]) hx hb dX8_change_19 rfl hl (by decide) rfl (fun ls hl => ?_)
    refine lv_iload_n hx hb dX8_change_20 rfl (lv_at hl 3 rfl) ?_
    refine lv_aload_n hx hb dX8_change_21 rfl (lv_at hl 1 rfl) ?_
    refine lv_iload_n hx hb dX8_change_22 rfl (lv_at hl 0 rfl) ?_
    refine lv_iconst (v := 1) hx hb dX8_change_23 (by decide) ?_
    obtain ⟨_, ho, h⟩ := bs h
    obtain ⟨x4, hc, h⟩ := bs h
    refine o_backi w hLA (o_runV (As := [.int x3, .int (1 : Int32)]) (rest := [.int v2]) C w (c_X8_of l D G L S v0 x3 (1 : Int32) x4 hc) ml_X8_44 mv_X8_of hR_X8_of ho rfl hl.1 rfl (Nat.le_of_ble_eq_true rfl) dX8_change_24 hcs) (fun H locs w => ?_)
    refine lv_aload_n hx hb dX8_change_27 rfl (lv_at hl 1 rfl) ?_
    refine lv_iload_n hx hb dX8_change_28 rfl (lv_at hl 0 rfl) ?_
    refine lv_iconst (v := 2) hx hb dX8_change_29 (by decide) ?_
    obtain ⟨_, ho, h⟩ := bs h
    obtain ⟨x5, hc, h⟩ := bs h
    refine o_backi w hLA (o_runV (As := [.int x3, .int (2 : Int32)]) (rest := [.int x4, .int v2]) C w (c_X8_of l D G L S v0 x3 (2 : Int32) x5 hc) ml_X8_44 mv_X8_of hR_X8_of ho rfl hl.1 rfl (Nat.le_of_ble_eq_true rfl) dX8_change_30 hcs) (fun H locs w => ?_)
    obtain ⟨x6, hc, h⟩ := bs h
    refine o_backi w hLA (o_runS (As := [.int v2, .int x4, .int x5]) (rest := []) C w (c_X8_isIn l D G L S v2 x4 x5 x6 hc) ml_X8_40 st_X8_isIn hR_X8_isIn rfl hl.1 rfl (Nat.le_of_ble_eq_true rfl) dX8_change_33 hcs) (fun H locs w => ?_)
    refine lv_if_eq (tgt := 58) hx hb dX8_change_36 (by decide) (fun cc36 => ?_) (fun cc36 => ?_)
    · have h := it cc36 h
      exact hb58 _ h H locs ls w (lv_sub hl [] rfl)
    · have h := ie cc36 h
      refine lv_aload_n hx hb dX8_change_39 rfl (lv_at hl 1 rfl) ?_
      refine lv_aload_n hx hb dX8_change_40 rfl (lv_at hl 1 rfl) ?_
      refine lv_iload_n hx hb dX8_change_41 rfl (lv_at hl 0 rfl) ?_
      refine lv_iconst (v := 1) hx hb dX8_change_42 (by decide) ?_
      obtain ⟨_, ho, h⟩ := bs h
      obtain ⟨x7, hc, h⟩ := bs h
      refine o_backi w hLA (o_runV (As := [.int x3, .int (1 : Int32)]) (rest := [.ref v0]) C w (c_X8_of l D G L S v0 x3 (1 : Int32) x7 hc) ml_X8_44 mv_X8_of hR_X8_of ho rfl hl.1 rfl (Nat.le_of_ble_eq_true rfl) dX8_change_43 hcs) (fun H locs w => ?_)
      refine lv_aload_n hx hb dX8_change_46 rfl (lv_at hl 1 rfl) ?_
      refine lv_iload_n hx hb dX8_change_47 rfl (lv_at hl 0 rfl) ?_
      refine lv_iconst (v := 2) hx hb dX8_change_48 (by decide) ?_
      obtain ⟨_, ho, h⟩ := bs h
      obtain ⟨x8, hc, h⟩ := bs h
      refine o_backi w hLA (o_runV (As := [.int x3, .int (2 : Int32)]) (rest := [.int x7, .ref v0]) C w (c_X8_of l D G L S v0 x3 (2 : Int32) x8 hc) ml_X8_44 mv_X8_of hR_X8_of ho rfl hl.1 rfl (Nat.le_of_ble_eq_true rfl) dX8_change_49 hcs) (fun H locs w => ?_)
      obtain ⟨_, ho, h⟩ := bs h
      obtain ⟨x9, hc, h⟩ := bs h
      refine o_backi w hLA (o_runV (As := [.int x7, .int x8]) (rest := []) C w (c_X8_mayCome l D G L S v0 x7 x8 x9 hc) ml_X8_52 mv_X8_mayCome hR_X8_mayCome ho rfl hl.1 rfl (Nat.le_of_ble_eq_true rfl) dX8_change_52 hcs) (fun H locs w => ?_)
      refine lv_if_ne (tgt := 62) hx hb dX8_change_55 (by decide) (fun cc55 => ?_) (fun cc55 => ?_)
      · have h := ie cc55 h
        refine lv_aload_n hx hb dX8_change_62 rfl (lv_at hl 1 rfl) ?_
        refine lv_iload_n hx hb dX8_change_63 rfl (lv_at hl 2 rfl) ?_
        refine lv_iload_n hx hb dX8_change_64 rfl (lv_at hl 3 rfl) ?_
        refine lv_aload_n hx hb dX8_change_65 rfl (lv_at hl 1 rfl) ?_
        refine lv_iload_n hx hb dX8_change_66 rfl (lv_at hl 0 rfl) ?_
        refine lv_iconst (v := 1) hx hb dX8_change_67 (by decide) ?_
        obtain ⟨_, ho, h⟩ := bs h
        obtain ⟨x10, hc, h⟩ := bs h
        refine o_backi w hLA (o_runV (As := [.int x3, .int (1 : Int32)]) (rest := [.int v2, .int v1, .ref v0]) C w (c_X8_of l D G L S v0 x3 (1 : Int32) x10 hc) ml_X8_44 mv_X8_of hR_X8_of ho rfl hl.1 rfl (Nat.le_of_ble_eq_true rfl) dX8_change_68 hcs) (fun H locs w => ?_)
        refine lv_aload_n hx hb dX8_change_71 rfl (lv_at hl 1 rfl) ?_
        refine lv_iload_n hx hb dX8_change_72 rfl (lv_at hl 0 rfl) ?_
        refine lv_iconst (v := 2) hx hb dX8_change_73 (by decide) ?_
        obtain ⟨_, ho, h⟩ := bs h
        obtain ⟨x11, hc, h⟩ := bs h
        refine o_backi w hLA (o_runV (As := [.int x3, .int (2 : Int32)]) (rest := [.int x10, .int v2, .int v1, .ref v0]) C w (c_X8_of l D G L S v0 x3 (2 : Int32) x11 hc) ml_X8_44 mv_X8_of hR_X8_of ho rfl hl.1 rfl (Nat.le_of_ble_eq_true rfl) dX8_change_74 hcs) (fun H locs w => ?_)
        refine lv_aload_n hx hb dX8_change_77 rfl (lv_at hl 1 rfl) ?_
        refine lv_iload_n hx hb dX8_change_78 rfl (lv_at hl 0 rfl) ?_
        refine lv_iconst (v := 3) hx hb dX8_change_79 (by decide) ?_
        obtain ⟨_, ho, h⟩ := bs h
        obtain ⟨x12, hc, h⟩ := bs h
        refine o_backi w hLA (o_runV (As := [.int x3, .int (3 : Int32)]) (rest := [.int x11, .int x10, .int v2, .int v1, .ref v0]) C w (c_X8_of l D G L S v0 x3 (3 : Int32) x12 hc) ml_X8_44 mv_X8_of hR_X8_of ho rfl hl.1 rfl (Nat.le_of_ble_eq_true rfl) dX8_change_80 hcs) (fun H locs w => ?_)
        obtain ⟨_, ho, h⟩ := bs h
        obtain ⟨x13, S14, hc, h⟩ := bs2 h
        refine o_backi w hLA (o_runV (As := [.int v1, .int v2, .int x10, .int x11, .int x12]) (rest := []) C w (c_X8_comes l D G L S v0 v1 v2 x10 x11 x12 (x13, S14) hc) ml_X8_56 mv_X8_comes hR_X8_comes ho rfl hl.1 rfl (Nat.le_of_ble_eq_true rfl) dX8_change_83 hcs) (fun H locs w => ?_)
        exact hret _ _ _ _ _ _ w (Option.some.inj h) dX8_change_86
      · have h := it cc55 h
        exact hb58 _ h H locs ls w (lv_sub hl [] rfl)
  · have h := it cc5 h
    refine lv_iconst (v := -1) hx hb dX8_change_8 (by decide) ?_
    exact hret _ _ _ _ _ _ w (Option.some.inj h) dX8_change_9
set_option maxHeartbeats 4000000 in
set_option maxRecDepth 100000 in
theorem c_X8_change (l : Launch) (D : va_G) (G : Nat → ClassId) (L : List Nat) (S : PH) (v0 : Nat) (v1 : Int32) (v2 : Int32) (r : Int32 × PH) (h : f_X8_change S v0 v1 v2 = some r) : Met l yX8_change [Cond.code yX8_change cX8_change 4 (some .int)] ({ frames := 2, cells := 0, slots := 0, locals := 46 }) (va_Pc [.ref v0, .int v1, .int v2] (PreU D G L S)) (Qi D G L r.1 r.2) 0 0 (inL L) := by
  refine Met.ofW (cc := cX8_change) (maxL := 4) (ret := (some .int)) (by decide) rfl ?_
  intro p e s m args below meth c s₁ B hml hv
  obtain ⟨rfl, hpre⟩ := hv
  obtain ⟨C, w⟩ := o_ent (own := RX8) rfl B hml hpre
  have hl := lv_entry ([.ref v0, .int v1, .int v2]) (n := 4) (Nat.le_of_ble_eq_true rfl)
  rw [lg_entry_eq]
  generalize (lg_sl ([.ref v0, .int v1, .int v2]) ++ List.replicate (4 - (lg_sl ([.ref v0, .int v1, .int v2])).length) Slot.unset).toArray = ls at hl ⊢
  exact w_X8_change C (fun _ h => h) ⟨Nat.zero_le _, Nat.zero_le _⟩ ⟨rfl, rfl, Nat.le_of_ble_eq_true rfl, Nat.le_of_ble_eq_true rfl⟩ ⟨rfl, rfl, Nat.le_of_ble_eq_true rfl, Nat.le_of_ble_eq_true rfl⟩ ⟨rfl, rfl, Nat.le_of_ble_eq_true rfl, Nat.le_of_ble_eq_true rfl⟩ ⟨rfl, rfl, Nat.le_of_ble_eq_true rfl, Nat.le_of_ble_eq_true rfl⟩ ⟨rfl, rfl, Nat.le_of_ble_eq_true rfl, Nat.le_of_ble_eq_true rfl⟩ S v0 v1 v2 r h (fun v S9 H locs ls pc w hv hd => by subst hv; exact o_iret C w B.returns B.notSynchronized hd) _ _ _ w hl

def f_X8_numbersOf_b37 (S : PH) (v0 : Nat) (v1 : Int32) (v2 : Int32) (v3 : Int32) : Option ((Int32 × Int32) ⊕ (Int32)) :=
some (.inl (v2, (v3 + 1)))
def f_X8_numbersOf_L4 (S : PH) (v0 : Nat) (v1 : Int32) (v2 : Int32) (v3 : Int32) : Option ((Int32 × Int32) ⊕ (Int32)) :=
(gR S v0 8 0).bind fun x1 =>
(ldI S x1 (0 : Int32)).bind fun x2 =>
if x2 ≤ v3 then (
some (.inr v2))
else (
if ((v1 >>> (v3 &&& 31)) &&& (1 : Int32)) = (1 : Int32) then (
(gR S v0 8 0).bind fun x3 =>
(ldI S x3 ((10 : Int32) + v3)).bind fun x4 =>
f_X8_numbersOf_b37 S v0 v1 (v2 ||| ((1 : Int32) <<< (x4 &&& 31))) v3)
else (
f_X8_numbersOf_b37 S v0 v1 v2 v3))
def f_X8_numbersOf (S : PH) (v0 : Nat) (v1 : Int32) : Option (Int32) :=
(lpo (fun x : Int32 × Int32 => f_X8_numbersOf_L4 S v0 v1 x.1 x.2) FU ((0 : Int32), (0 : Int32))).bind fun y5 =>
some y5
set_option maxHeartbeats 4000000 in
set_option maxRecDepth 100000 in
theorem w_X8_numbersOf {p : Program} {l : Launch} {e : Env} {R : Room} {s : State} {m : MethodId} {args : Array Value} {below : List Frame} {meth : Method} {c : Code} {cells slots : Nat} {Q : State → Prop} {D : va_G} {G : Nat → ClassId} {L : List Nat} {A : Nat → Prop} {H0 : Heap} (C : CX p s m c args D G cX8_numbersOf 4 RX8) (hLA : ∀ q ∈ L, A q) (hcs : cells ≤ R.cells ∧ slots ≤ R.slots)  (S : PH) (v0 : Nat) (v1 : Int32) (r : Int32) (h : f_X8_numbersOf S v0 v1 = some r) (hret : ∀ (v : Int32) (H : Heap) (locs : List Loc) (ls : Array Slot) (pc : Nat), Wd D G L A H0 S H locs → v = r → decode cX8_numbersOf pc = .ok (.ireturn, 1) → W p l e R s m args below meth c H locs cells slots Q (F0 m pc ls [.int v])) : ∀ (H : Heap) (locs : List Loc) (ls : Array Slot), Wd D G L A H0 S H locs → lv_has ls 4 [(0, .ref v0), (1, .int v1)] → W p l e R s m args below meth c H locs cells slots Q (F0 m 0 ls []) := by
  have hx := C.1.1
  have hb := C.1.2.1
  unfold f_X8_numbersOf at h
  intro H locs ls w hl
  refine lv_iconst (v := 0) hx hb dX8_numbersOf_0 (by decide) ?_
  refine lv_istore_n (lv' := [(2, .int (0 : Int32)), (0, .ref v0), (1, .int v1)]) hx hb dX8_numbersOf_1 rfl hl (by decide) rfl (fun ls hl => ?_)
  refine lv_iconst (v := 0) hx hb dX8_numbersOf_2 (by decide) ?_
  refine lv_istore_n (lv' := [(3, .int (0 : Int32)), (2, .int (0 : Int32)), (0, .ref v0), (1, .int v1)]) hx hb dX8_numbersOf_3 rfl hl (by decide) rfl (fun ls hl => ?_)
  obtain ⟨y5, hL4, h⟩ := bs h
  have hE4 : ∀ (q6 : Int32), y5 = q6 → ∀ (H : Heap) (locs : List Loc) (ls : Array Slot), Wd D G L A H0 S H locs → lv_has ls 4 [(2, .int q6)] → W p l e R s m args below meth c H locs cells slots Q (F0 m 43 ls []) := by
    intro q6 he
    cases he
    intro H locs ls w hl
    refine lv_iload_n hx hb dX8_numbersOf_43 rfl (lv_at hl 0 rfl) ?_
    exact hret _ _ _ _ _ w (Option.some.inj h) dX8_numbersOf_44
  refine lpo_W (P := fun x : Int32 × Int32 => ∀ (H : Heap) (locs : List Loc) (ls : Array Slot), Wd D G L A H0 S H locs → lv_has ls 4 [(0, .ref v0), (1, .int v1), (2, .int x.1), (3, .int x.2)] → W p l e R s m args below meth c H locs cells slots Q (F0 m 4 ls [])) ?_ FU _ hL4 H locs ls w (lv_sub hl [2, 3, 1, 0] rfl)
  intro x y4 h hnext4 hend4
  obtain ⟨t7, t8⟩ := x
  have h : f_X8_numbersOf_L4 S v0 v1 t7 t8 = some y4 := h
  unfold f_X8_numbersOf_L4 at h
  have hb37 : ∀ (u9 : Int32) (u10 : Int32), f_X8_numbersOf_b37 S v0 v1 u9 u10 = some y4 → ∀ (H : Heap) (locs : List Loc) (ls : Array Slot), Wd D G L A H0 S H locs → lv_has ls 4 [(0, .ref v0), (1, .int v1), (2, .int u9), (3, .int u10)] → W p l e R s m args below meth c H locs cells slots Q (F0 m 37 ls []) := by
    intro u9 u10 h H locs ls w hl
    unfold f_X8_numbersOf_b37 at h
    refine lv_iinc (v := (u10 + 1)) (lv' := [(3, .int (u10 + 1)), (0, .ref v0), (1, .int v1), (2, .int u9)]) hx hb dX8_numbersOf_37 hl (k := 3) rfl rfl (by decide) rfl (fun ls hl => ?_)
    refine lv_goto (tgt := 4) hx hb dX8_numbersOf_40 (by decide) ?_
    exact hnext4 _ (Option.some.inj h).symm H locs ls w (lv_sub hl [1, 2, 3, 0] rfl)
  intro H locs ls w hl
  have hl : lv_has ls 4 [(0, .ref v0), (1, .int v1), (2, .int t7), (3, .int t8)] := hl
  refine lv_iload_n hx hb dX8_numbersOf_4 rfl (lv_at hl 3 rfl) ?_
  refine lv_aload_n hx hb dX8_numbersOf_5 rfl (lv_at hl 0 rfl) ?_
  obtain ⟨x11, hx11, h⟩ := bs h
  refine o_gR C w hx11 fl_X8_8 dX8_numbersOf_6 ?_
  refine lv_iconst (v := 0) hx hb dX8_numbersOf_9 (by decide) ?_
  obtain ⟨x12, hx12, h⟩ := bs h
  refine o_ldI C w hx12 dX8_numbersOf_10 ?_
  refine lv_icmp_ge (tgt := 43) hx hb dX8_numbersOf_11 (by decide) (fun cc11 => ?_) (fun cc11 => ?_)
  · have h := it cc11 h
    exact hE4 _ (hend4 _ (Option.some.inj h).symm).symm H locs ls w (lv_sub hl [2] rfl)
  · have h := ie cc11 h
    refine lv_iload_n hx hb dX8_numbersOf_14 rfl (lv_at hl 1 rfl) ?_
    refine lv_iload_n hx hb dX8_numbersOf_15 rfl (lv_at hl 3 rfl) ?_
    refine lv_ishr hx hb dX8_numbersOf_16 ?_
    refine lv_iconst (v := 1) hx hb dX8_numbersOf_17 (by decide) ?_
    refine lv_iand hx hb dX8_numbersOf_18 ?_
    refine lv_iconst (v := 1) hx hb dX8_numbersOf_19 (by decide) ?_
    refine lv_icmp_ne (tgt := 37) hx hb dX8_numbersOf_20 (by decide) (fun cc20 => ?_) (fun cc20 => ?_)
    · have h := ie cc20 h
      exact hb37 _ _ h H locs ls w (lv_sub hl [0, 1, 2, 3] rfl)
    · have h := it cc20 h
      refine lv_iload_n hx hb dX8_numbersOf_23 rfl (lv_at hl 2 rfl) ?_
      refine lv_iconst (v := 1) hx hb dX8_numbersOf_24 (by decide) ?_
      refine lv_aload_n hx hb dX8_numbersOf_25 rfl (lv_at hl 0 rfl) ?_
      obtain ⟨x13, hx13, h⟩ := bs h
      refine o_gR C w hx13 fl_X8_8 dX8_numbersOf_26 ?_
      refine lv_bipush (v := 10) hx hb dX8_numbersOf_29 (by decide) ?_
      refine lv_iload_n hx hb dX8_numbersOf_31 rfl (lv_at hl 3 rfl) ?_
      refine lv_iadd hx hb dX8_numbersOf_32 ?_
      obtain ⟨x14, hx14, h⟩ := bs h
      refine o_ldI C w hx14 dX8_numbersOf_33 ?_
      refine lv_ishl hx hb dX8_numbersOf_34 ?_
      refine lv_ior hx hb dX8_numbersOf_35 ?_
      refine lv_istore_n (lv' := [(2, .int (t7 ||| ((1 : Int32) <<< (x14 &&& 31)))), (0, .ref v0), (1, .int v1), (3, .int t8)]) hx hb dX8_numbersOf_36 rfl hl (by decide) rfl (fun ls hl => ?_)
      exact hb37 _ _ h H locs ls w (lv_sub hl [1, 2, 0, 3] rfl)
set_option maxHeartbeats 4000000 in
set_option maxRecDepth 100000 in
theorem c_X8_numbersOf (l : Launch) (D : va_G) (G : Nat → ClassId) (L : List Nat) (S : PH) (v0 : Nat) (v1 : Int32) (r : Int32) (h : f_X8_numbersOf S v0 v1 = some r) : Met l yX8_numbersOf [Cond.code yX8_numbersOf cX8_numbersOf 4 (some .int)] ({ frames := 0, cells := 0, slots := 0, locals := 0 }) (va_Pc [.ref v0, .int v1] (PreU D G L S)) (Qi D G L r S) 0 0 (inL L) := by
  refine Met.ofW (cc := cX8_numbersOf) (maxL := 4) (ret := (some .int)) (by decide) rfl ?_
  intro p e s m args below meth c s₁ B hml hv
  obtain ⟨rfl, hpre⟩ := hv
  obtain ⟨C, w⟩ := o_ent (own := RX8) rfl B hml hpre
  have hl := lv_entry ([.ref v0, .int v1]) (n := 4) (Nat.le_of_ble_eq_true rfl)
  rw [lg_entry_eq]
  generalize (lg_sl ([.ref v0, .int v1]) ++ List.replicate (4 - (lg_sl ([.ref v0, .int v1])).length) Slot.unset).toArray = ls at hl ⊢
  exact w_X8_numbersOf C (fun _ h => h) ⟨Nat.zero_le _, Nat.zero_le _⟩  S v0 v1 r h (fun v H locs ls pc w hv hd => by subst hv; exact o_iret C w B.returns B.notSynchronized hd) _ _ _ w hl

def f_X8_begins (S : PH) (v0 : Nat) : Option (PH) :=
(pI S v0 8 2 (0 : Int32)).bind fun S1 =>
(pI S1 v0 8 3 (0 : Int32)).bind fun S2 =>
(pI S2 v0 8 4 (-1 : Int32)).bind fun S3 =>
(pI S3 v0 8 5 (-1 : Int32)).bind fun S4 =>
some S4
set_option maxHeartbeats 4000000 in
set_option maxRecDepth 100000 in
theorem w_X8_begins {p : Program} {l : Launch} {e : Env} {R : Room} {s : State} {m : MethodId} {args : Array Value} {below : List Frame} {meth : Method} {c : Code} {cells slots : Nat} {Q : State → Prop} {D : va_G} {G : Nat → ClassId} {L : List Nat} {A : Nat → Prop} {H0 : Heap} (C : CX p s m c args D G cX8_begins 1 RX8) (hLA : ∀ q ∈ L, A q) (hcs : cells ≤ R.cells ∧ slots ≤ R.slots)  (S : PH) (v0 : Nat) (r : PH) (h : f_X8_begins S v0 = some r) (hret : ∀ (S9 : PH) (H : Heap) (locs : List Loc) (ls : Array Slot) (pc : Nat), Wd D G L A H0 S9 H locs → S9 = r → decode cX8_begins pc = .ok (.return_, 1) → W p l e R s m args below meth c H locs cells slots Q (F0 m pc ls [])) : ∀ (H : Heap) (locs : List Loc) (ls : Array Slot), Wd D G L A H0 S H locs → lv_has ls 1 [(0, .ref v0)] → W p l e R s m args below meth c H locs cells slots Q (F0 m 0 ls []) := by
  have hx := C.1.1
  have hb := C.1.2.1
  unfold f_X8_begins at h
  intro H locs ls w hl
  refine lv_aload_n hx hb dX8_begins_0 rfl (lv_at hl 0 rfl) ?_
  refine lv_iconst (v := 0) hx hb dX8_begins_1 (by decide) ?_
  obtain ⟨S1, hS1, h⟩ := bs h
  refine o_pF C w hS1 fp_X8_64 rfl rfl dX8_begins_2 (fun H locs w => ?_)
  refine lv_aload_n hx hb dX8_begins_5 rfl (lv_at hl 0 rfl) ?_
  refine lv_iconst (v := 0) hx hb dX8_begins_6 (by decide) ?_
  obtain ⟨S2, hS2, h⟩ := bs h
  refine o_pF C w hS2 fp_X8_68 rfl rfl dX8_begins_7 (fun H locs w => ?_)
  refine lv_aload_n hx hb dX8_begins_10 rfl (lv_at hl 0 rfl) ?_
  refine lv_iconst (v := -1) hx hb dX8_begins_11 (by decide) ?_
  obtain ⟨S3, hS3, h⟩ := bs h
  refine o_pF C w hS3 fp_X8_71 rfl rfl dX8_begins_12 (fun H locs w => ?_)
  refine lv_aload_n hx hb dX8_begins_15 rfl (lv_at hl 0 rfl) ?_
  refine lv_iconst (v := -1) hx hb dX8_begins_16 (by decide) ?_
  obtain ⟨S4, hS4, h⟩ := bs h
  refine o_pF C w hS4 fp_X8_74 rfl rfl dX8_begins_17 (fun H locs w => ?_)
  exact hret _ _ _ _ _ w (Option.some.inj h) dX8_begins_20
set_option maxHeartbeats 4000000 in
set_option maxRecDepth 100000 in
theorem c_X8_begins (l : Launch) (D : va_G) (G : Nat → ClassId) (L : List Nat) (S : PH) (v0 : Nat) (r : PH) (h : f_X8_begins S v0 = some r) : Met l yX8_begins [Cond.code yX8_begins cX8_begins 1 none] ({ frames := 0, cells := 0, slots := 0, locals := 0 }) (va_Pc [.ref v0] (PreU D G L S)) (Qv D G L r) 0 0 (inL L) := by
  refine Met.ofW (cc := cX8_begins) (maxL := 1) (ret := none) (by decide) rfl ?_
  intro p e s m args below meth c s₁ B hml hv
  obtain ⟨rfl, hpre⟩ := hv
  obtain ⟨C, w⟩ := o_ent (own := RX8) rfl B hml hpre
  have hl := lv_entry ([.ref v0]) (n := 1) (Nat.le_of_ble_eq_true rfl)
  rw [lg_entry_eq]
  generalize (lg_sl ([.ref v0]) ++ List.replicate (1 - (lg_sl ([.ref v0])).length) Slot.unset).toArray = ls at hl ⊢
  exact w_X8_begins C (fun _ h => h) ⟨Nat.zero_le _, Nat.zero_le _⟩  S v0 r h (fun S9 H locs ls pc w hv hd => by subst hv; exact o_vret C w B.returns B.notSynchronized hd) _ _ _ w hl

def f_X8_takes_b73 (S : PH) (s0 : Nat) (s1 : Int32) : Option (PH) :=
(pI S s0 8 5 s1).bind fun S1 =>
some S1
def f_X8_takes_b65 (S : PH) (v1 : Int32) (s0 : Nat) : Option (PH) :=
f_X8_takes_b73 S s0 v1
def f_X8_takes_b46 (S : PH) (v0 : Nat) (v1 : Int32) (s0 : Nat) (s1 : Int32) : Option (PH) :=
(pI S s0 8 4 s1).bind fun S2 =>
(gI S2 v0 8 5).bind fun x3 =>
if x3 < 0 then (
f_X8_takes_b65 S2 v1 v0)
else (
(gI S2 v0 8 5).bind fun x4 =>
if x4 ≤ v1 then (
(gI S2 v0 8 5).bind fun x5 =>
f_X8_takes_b73 S2 v0 x5)
else (
f_X8_takes_b65 S2 v1 v0))
def f_X8_takes_b25 (S : PH) (v0 : Nat) (v1 : Int32) (s0 : Nat) (s1 : Int32) (s2 : Int32) : Option (PH) :=
(pI S s0 8 3 (s1 + s2)).bind fun S6 =>
(gI S6 v0 8 4).bind fun x7 =>
if v1 ≤ x7 then (
(gI S6 v0 8 4).bind fun x8 =>
f_X8_takes_b46 S6 v0 v1 v0 x8)
else (
f_X8_takes_b46 S6 v0 v1 v0 v1)
def f_X8_takes (S : PH) (v0 : Nat) (v1 : Int32) (v2 : Int32) : Option (PH) :=
(gI S v0 8 2).bind fun x9 =>
(pI S v0 8 2 (x9 + v1)).bind fun S10 =>
(gI S10 v0 8 3).bind fun x11 =>
if v1 < v2 then (
f_X8_takes_b25 S10 v0 v1 v0 x11 (0 : Int32))
else (
f_X8_takes_b25 S10 v0 v1 v0 x11 (1 : Int32))
set_option maxHeartbeats 4000000 in
set_option maxRecDepth 100000 in
theorem w_X8_takes {p : Program} {l : Launch} {e : Env} {R : Room} {s : State} {m : MethodId} {args : Array Value} {below : List Frame} {meth : Method} {c : Code} {cells slots : Nat} {Q : State → Prop} {D : va_G} {G : Nat → ClassId} {L : List Nat} {A : Nat → Prop} {H0 : Heap} (C : CX p s m c args D G cX8_takes 3 RX8) (hLA : ∀ q ∈ L, A q) (hcs : cells ≤ R.cells ∧ slots ≤ R.slots)  (S : PH) (v0 : Nat) (v1 : Int32) (v2 : Int32) (r : PH) (h : f_X8_takes S v0 v1 v2 = some r) (hret : ∀ (S9 : PH) (H : Heap) (locs : List Loc) (ls : Array Slot) (pc : Nat), Wd D G L A H0 S9 H locs → S9 = r → decode cX8_takes pc = .ok (.return_, 1) → W p l e R s m args below meth c H locs cells slots Q (F0 m pc ls [])) : ∀ (H : Heap) (locs : List Loc) (ls : Array Slot), Wd D G L A H0 S H locs → lv_has ls 3 [(0, .ref v0), (1, .int v1), (2, .int v2)] → W p l e R s m args below meth c H locs cells slots Q (F0 m 0 ls []) := by
  have hx := C.1.1
  have hb := C.1.2.1
  unfold f_X8_takes at h
  have hb73 : ∀ (S12 : PH) (u13 : Nat) (u14 : Int32), f_X8_takes_b73 S12 u13 u14 = some r → ∀ (H : Heap) (locs : List Loc) (ls : Array Slot), Wd D G L A H0 S12 H locs → lv_has ls 3 [] → W p l e R s m args below meth c H locs cells slots Q (F0 m 73 ls [.int u14, .ref u13]) := by
    intro S12 u13 u14 h H locs ls w hl
    unfold f_X8_takes_b73 at h
    obtain ⟨S15, hS15, h⟩ := bs h
    refine o_pF C w hS15 fp_X8_74 rfl rfl dX8_takes_73 (fun H locs w => ?_)
    exact hret _ _ _ _ _ w (Option.some.inj h) dX8_takes_76
  have hb65 : ∀ (S16 : PH) (u17 : Int32) (u18 : Nat), f_X8_takes_b65 S16 u17 u18 = some r → ∀ (H : Heap) (locs : List Loc) (ls : Array Slot), Wd D G L A H0 S16 H locs → lv_has ls 3 [(1, .int u17)] → W p l e R s m args below meth c H locs cells slots Q (F0 m 65 ls [.ref u18]) := by
    intro S16 u17 u18 h H locs ls w hl
    unfold f_X8_takes_b65 at h
    refine lv_iload_n hx hb dX8_takes_65 rfl (lv_at hl 0 rfl) ?_
    refine lv_goto (tgt := 73) hx hb dX8_takes_66 (by decide) ?_
    exact hb73 _ _ _ h H locs ls w (lv_sub hl [] rfl)
  have hb46 : ∀ (S19 : PH) (u20 : Nat) (u21 : Int32) (u22 : Nat) (u23 : Int32), f_X8_takes_b46 S19 u20 u21 u22 u23 = some r → ∀ (H : Heap) (locs : List Loc) (ls : Array Slot), Wd D G L A H0 S19 H locs → lv_has ls 3 [(0, .ref u20), (1, .int u21)] → W p l e R s m args below meth c H locs cells slots Q (F0 m 46 ls [.int u23, .ref u22]) := by
    intro S19 u20 u21 u22 u23 h H locs ls w hl
    unfold f_X8_takes_b46 at h
    obtain ⟨S24, hS24, h⟩ := bs h
    refine o_pF C w hS24 fp_X8_71 rfl rfl dX8_takes_46 (fun H locs w => ?_)
    refine lv_aload_n hx hb dX8_takes_49 rfl (lv_at hl 0 rfl) ?_
    refine lv_aload_n hx hb dX8_takes_50 rfl (lv_at hl 0 rfl) ?_
    obtain ⟨x25, hx25, h⟩ := bs h
    refine o_gI C w hx25 fl_X8_74 dX8_takes_51 ?_
    refine lv_if_lt (tgt := 65) hx hb dX8_takes_54 (by decide) (fun cc54 => ?_) (fun cc54 => ?_)
    · have h := it cc54 h
      exact hb65 _ _ _ h H locs ls w (lv_sub hl [1] rfl)
    · have h := ie cc54 h
      refine lv_iload_n hx hb dX8_takes_57 rfl (lv_at hl 1 rfl) ?_
      refine lv_aload_n hx hb dX8_takes_58 rfl (lv_at hl 0 rfl) ?_
      obtain ⟨x26, hx26, h⟩ := bs h
      refine o_gI C w hx26 fl_X8_74 dX8_takes_59 ?_
      refine lv_icmp_ge (tgt := 69) hx hb dX8_takes_62 (by decide) (fun cc62 => ?_) (fun cc62 => ?_)
      · have h := it cc62 h
        refine lv_aload_n hx hb dX8_takes_69 rfl (lv_at hl 0 rfl) ?_
        obtain ⟨x27, hx27, h⟩ := bs h
        refine o_gI C w hx27 fl_X8_74 dX8_takes_70 ?_
        exact hb73 _ _ _ h H locs ls w (lv_sub hl [] rfl)
      · have h := ie cc62 h
        exact hb65 _ _ _ h H locs ls w (lv_sub hl [1] rfl)
  have hb25 : ∀ (S28 : PH) (u29 : Nat) (u30 : Int32) (u31 : Nat) (u32 : Int32) (u33 : Int32), f_X8_takes_b25 S28 u29 u30 u31 u32 u33 = some r → ∀ (H : Heap) (locs : List Loc) (ls : Array Slot), Wd D G L A H0 S28 H locs → lv_has ls 3 [(0, .ref u29), (1, .int u30)] → W p l e R s m args below meth c H locs cells slots Q (F0 m 25 ls [.int u33, .int u32, .ref u31]) := by
    intro S28 u29 u30 u31 u32 u33 h H locs ls w hl
    unfold f_X8_takes_b25 at h
    refine lv_iadd hx hb dX8_takes_25 ?_
    obtain ⟨S34, hS34, h⟩ := bs h
    refine o_pF C w hS34 fp_X8_68 rfl rfl dX8_takes_26 (fun H locs w => ?_)
    refine lv_aload_n hx hb dX8_takes_29 rfl (lv_at hl 0 rfl) ?_
    refine lv_iload_n hx hb dX8_takes_30 rfl (lv_at hl 1 rfl) ?_
    refine lv_aload_n hx hb dX8_takes_31 rfl (lv_at hl 0 rfl) ?_
    obtain ⟨x35, hx35, h⟩ := bs h
    refine o_gI C w hx35 fl_X8_71 dX8_takes_32 ?_
    refine lv_icmp_le (tgt := 42) hx hb dX8_takes_35 (by decide) (fun cc35 => ?_) (fun cc35 => ?_)
    · have h := it cc35 h
      refine lv_aload_n hx hb dX8_takes_42 rfl (lv_at hl 0 rfl) ?_
      obtain ⟨x36, hx36, h⟩ := bs h
      refine o_gI C w hx36 fl_X8_71 dX8_takes_43 ?_
      exact hb46 _ _ _ _ _ h H locs ls w (lv_sub hl [0, 1] rfl)
    · have h := ie cc35 h
      refine lv_iload_n hx hb dX8_takes_38 rfl (lv_at hl 1 rfl) ?_
      refine lv_goto (tgt := 46) hx hb dX8_takes_39 (by decide) ?_
      exact hb46 _ _ _ _ _ h H locs ls w (lv_sub hl [0, 1] rfl)
  intro H locs ls w hl
  refine lv_aload_n hx hb dX8_takes_0 rfl (lv_at hl 0 rfl) ?_
  refine lv_dup hx hb dX8_takes_1 rfl ?_
  obtain ⟨x9, hx9, h⟩ := bs h
  refine o_gI C w hx9 fl_X8_64 dX8_takes_2 ?_
  refine lv_iload_n hx hb dX8_takes_5 rfl (lv_at hl 1 rfl) ?_
  refine lv_iadd hx hb dX8_takes_6 ?_
  obtain ⟨S10, hS10, h⟩ := bs h
  refine o_pF C w hS10 fp_X8_64 rfl rfl dX8_takes_7 (fun H locs w => ?_)
  refine lv_aload_n hx hb dX8_takes_10 rfl (lv_at hl 0 rfl) ?_
  refine lv_dup hx hb dX8_takes_11 rfl ?_
  obtain ⟨x11, hx11, h⟩ := bs h
  refine o_gI C w hx11 fl_X8_68 dX8_takes_12 ?_
  refine lv_iload_n hx hb dX8_takes_15 rfl (lv_at hl 1 rfl) ?_
  refine lv_iload_n hx hb dX8_takes_16 rfl (lv_at hl 2 rfl) ?_
  refine lv_icmp_lt (tgt := 24) hx hb dX8_takes_17 (by decide) (fun cc17 => ?_) (fun cc17 => ?_)
  · have h := it cc17 h
    refine lv_iconst (v := 0) hx hb dX8_takes_24 (by decide) ?_
    exact hb25 _ _ _ _ _ _ h H locs ls w (lv_sub hl [0, 1] rfl)
  · have h := ie cc17 h
    refine lv_iconst (v := 1) hx hb dX8_takes_20 (by decide) ?_
    refine lv_goto (tgt := 25) hx hb dX8_takes_21 (by decide) ?_
    exact hb25 _ _ _ _ _ _ h H locs ls w (lv_sub hl [0, 1] rfl)
set_option maxHeartbeats 4000000 in
set_option maxRecDepth 100000 in
theorem c_X8_takes (l : Launch) (D : va_G) (G : Nat → ClassId) (L : List Nat) (S : PH) (v0 : Nat) (v1 : Int32) (v2 : Int32) (r : PH) (h : f_X8_takes S v0 v1 v2 = some r) : Met l yX8_takes [Cond.code yX8_takes cX8_takes 3 none] ({ frames := 0, cells := 0, slots := 0, locals := 0 }) (va_Pc [.ref v0, .int v1, .int v2] (PreU D G L S)) (Qv D G L r) 0 0 (inL L) := by
  refine Met.ofW (cc := cX8_takes) (maxL := 3) (ret := none) (by decide) rfl ?_
  intro p e s m args below meth c s₁ B hml hv
  obtain ⟨rfl, hpre⟩ := hv
  obtain ⟨C, w⟩ := o_ent (own := RX8) rfl B hml hpre
  have hl := lv_entry ([.ref v0, .int v1, .int v2]) (n := 3) (Nat.le_of_ble_eq_true rfl)
  rw [lg_entry_eq]
  generalize (lg_sl ([.ref v0, .int v1, .int v2]) ++ List.replicate (3 - (lg_sl ([.ref v0, .int v1, .int v2])).length) Slot.unset).toArray = ls at hl ⊢
  exact w_X8_takes C (fun _ h => h) ⟨Nat.zero_le _, Nat.zero_le _⟩  S v0 v1 v2 r h (fun S9 H locs ls pc w hv hd => by subst hv; exact o_vret C w B.returns B.notSynchronized hd) _ _ _ w hl

def f_X8_answer (S : PH) (v0 : Nat) (v1 : Int32) (v2 : Int32) : Option (Int32) :=
if v1 = 0 then (
(gI S v0 8 2).bind fun x1 =>
(dvI x1 v2).bind fun x2 =>
some (x2 * v2))
else if v1 = 1 then (
(gI S v0 8 3).bind fun x3 =>
some x3)
else if v1 = 2 then (
(gI S v0 8 4).bind fun x4 =>
if 0 ≤ x4 then (
(gI S v0 8 4).bind fun x5 =>
some x5)
else (
some (0 : Int32)))
else (
(gI S v0 8 5).bind fun x6 =>
if 0 ≤ x6 then (
(gI S v0 8 5).bind fun x7 =>
some x7)
else (
some (0 : Int32)))
set_option maxHeartbeats 4000000 in
set_option maxRecDepth 100000 in
theorem w_X8_answer {p : Program} {l : Launch} {e : Env} {R : Room} {s : State} {m : MethodId} {args : Array Value} {below : List Frame} {meth : Method} {c : Code} {cells slots : Nat} {Q : State → Prop} {D : va_G} {G : Nat → ClassId} {L : List Nat} {A : Nat → Prop} {H0 : Heap} (C : CX p s m c args D G cX8_answer 3 RX8) (hLA : ∀ q ∈ L, A q) (hcs : cells ≤ R.cells ∧ slots ≤ R.slots)  (S : PH) (v0 : Nat) (v1 : Int32) (v2 : Int32) (r : Int32) (h : f_X8_answer S v0 v1 v2 = some r) (hret : ∀ (v : Int32) (H : Heap) (locs : List Loc) (ls : Array Slot) (pc : Nat), Wd D G L A H0 S H locs → v = r → decode cX8_answer pc = .ok (.ireturn, 1) → W p l e R s m args below meth c H locs cells slots Q (F0 m pc ls [.int v])) : ∀ (H : Heap) (locs : List Loc) (ls : Array Slot), Wd D G L A H0 S H locs → lv_has ls 3 [(0, .ref v0), (1, .int v1), (2, .int v2)] → W p l e R s m args below meth c H locs cells slots Q (F0 m 0 ls []) := by
  have hx := C.1.1
  have hb := C.1.2.1
  unfold f_X8_answer at h
  intro H locs ls w hl
  refine lv_iload_n hx hb dX8_answer_0 rfl (lv_at hl 1 rfl) ?_
  by_cases cw1_0 : v1 = 0
  · have h := it cw1_0 h
    refine o_sw0 C 0 cw1_0 dX8_answer_1 (by decide) (by decide) rfl (tgt := 28) (by decide) ?_
    refine lv_aload_n hx hb dX8_answer_28 rfl (lv_at hl 0 rfl) ?_
    obtain ⟨x1, hx1, h⟩ := bs h
    refine o_gI C w hx1 fl_X8_64 dX8_answer_29 ?_
    refine lv_iload_n hx hb dX8_answer_32 rfl (lv_at hl 2 rfl) ?_
    obtain ⟨x2, hx2, h⟩ := bs h
    refine o_dv C hx2 dX8_answer_33 ?_
    refine lv_iload_n hx hb dX8_answer_34 rfl (lv_at hl 2 rfl) ?_
    refine lv_imul hx hb dX8_answer_35 ?_
    exact hret _ _ _ _ _ w (Option.some.inj h) dX8_answer_36
  have h := ie cw1_0 h
  by_cases cw1_1 : v1 = 1
  · have h := it cw1_1 h
    refine o_sw0 C 1 cw1_1 dX8_answer_1 (by decide) (by decide) rfl (tgt := 37) (by decide) ?_
    refine lv_aload_n hx hb dX8_answer_37 rfl (lv_at hl 0 rfl) ?_
    obtain ⟨x3, hx3, h⟩ := bs h
    refine o_gI C w hx3 fl_X8_68 dX8_answer_38 ?_
    exact hret _ _ _ _ _ w (Option.some.inj h) dX8_answer_41
  have h := ie cw1_1 h
  by_cases cw1_2 : v1 = 2
  · have h := it cw1_2 h
    refine o_sw0 C 2 cw1_2 dX8_answer_1 (by decide) (by decide) rfl (tgt := 42) (by decide) ?_
    refine lv_aload_n hx hb dX8_answer_42 rfl (lv_at hl 0 rfl) ?_
    obtain ⟨x4, hx4, h⟩ := bs h
    refine o_gI C w hx4 fl_X8_71 dX8_answer_43 ?_
    refine lv_if_ge (tgt := 53) hx hb dX8_answer_46 (by decide) (fun cc46 => ?_) (fun cc46 => ?_)
    · have h := it cc46 h
      refine lv_aload_n hx hb dX8_answer_53 rfl (lv_at hl 0 rfl) ?_
      obtain ⟨x5, hx5, h⟩ := bs h
      refine o_gI C w hx5 fl_X8_71 dX8_answer_54 ?_
      exact hret _ _ _ _ _ w (Option.some.inj h) dX8_answer_57
    · have h := ie cc46 h
      refine lv_iconst (v := 0) hx hb dX8_answer_49 (by decide) ?_
      refine lv_goto (tgt := 57) hx hb dX8_answer_50 (by decide) ?_
      exact hret _ _ _ _ _ w (Option.some.inj h) dX8_answer_57
  have h := ie cw1_2 h
  have cx0 := lv_neT (k := 0) (a := 0) cw1_0 (by decide)
  have cx1 := lv_neT (k := 1) (a := 1) cw1_1 (by decide)
  have cx2 := lv_neT (k := 2) (a := 2) cw1_2 (by decide)
  refine lv_tableOut (tgt := 58) hx hb dX8_answer_1 (by omega) (by decide) ?_
  refine lv_aload_n hx hb dX8_answer_58 rfl (lv_at hl 0 rfl) ?_
  obtain ⟨x6, hx6, h⟩ := bs h
  refine o_gI C w hx6 fl_X8_74 dX8_answer_59 ?_
  refine lv_if_ge (tgt := 69) hx hb dX8_answer_62 (by decide) (fun cc62 => ?_) (fun cc62 => ?_)
  · have h := it cc62 h
    refine lv_aload_n hx hb dX8_answer_69 rfl (lv_at hl 0 rfl) ?_
    obtain ⟨x7, hx7, h⟩ := bs h
    refine o_gI C w hx7 fl_X8_74 dX8_answer_70 ?_
    exact hret _ _ _ _ _ w (Option.some.inj h) dX8_answer_73
  · have h := ie cc62 h
    refine lv_iconst (v := 0) hx hb dX8_answer_65 (by decide) ?_
    refine lv_goto (tgt := 73) hx hb dX8_answer_66 (by decide) ?_
    exact hret _ _ _ _ _ w (Option.some.inj h) dX8_answer_73
set_option maxHeartbeats 4000000 in
set_option maxRecDepth 100000 in
theorem c_X8_answer (l : Launch) (D : va_G) (G : Nat → ClassId) (L : List Nat) (S : PH) (v0 : Nat) (v1 : Int32) (v2 : Int32) (r : Int32) (h : f_X8_answer S v0 v1 v2 = some r) : Met l yX8_answer [Cond.code yX8_answer cX8_answer 3 (some .int)] ({ frames := 0, cells := 0, slots := 0, locals := 0 }) (va_Pc [.ref v0, .int v1, .int v2] (PreU D G L S)) (Qi D G L r S) 0 0 (inL L) := by
  refine Met.ofW (cc := cX8_answer) (maxL := 3) (ret := (some .int)) (by decide) rfl ?_
  intro p e s m args below meth c s₁ B hml hv
  obtain ⟨rfl, hpre⟩ := hv
  obtain ⟨C, w⟩ := o_ent (own := RX8) rfl B hml hpre
  have hl := lv_entry ([.ref v0, .int v1, .int v2]) (n := 3) (Nat.le_of_ble_eq_true rfl)
  rw [lg_entry_eq]
  generalize (lg_sl ([.ref v0, .int v1, .int v2]) ++ List.replicate (3 - (lg_sl ([.ref v0, .int v1, .int v2])).length) Slot.unset).toArray = ls at hl ⊢
  exact w_X8_answer C (fun _ h => h) ⟨Nat.zero_le _, Nat.zero_le _⟩  S v0 v1 v2 r h (fun v H locs ls pc w hv hd => by subst hv; exact o_iret C w B.returns B.notSynchronized hd) _ _ _ w hl

def f_X8_answerIn_b41 (S : PH) (v0 : Nat) (v1 : Int32) (v3 : Int32) (v4 : Int32) (v5 : Int32) : Option ((Int32 × PH) ⊕ (PH)) :=
some (.inl ((v5 + 1), S))
def f_X8_answerIn_L7 (S : PH) (v0 : Nat) (v1 : Int32) (v3 : Int32) (v4 : Int32) (v5 : Int32) : Option ((Int32 × PH) ⊕ (PH)) :=
(gR S v0 8 0).bind fun x2 =>
(ldI S x2 (1 : Int32)).bind fun x3 =>
if x3 ≤ v5 then (
some (.inr S))
else (
if ((v3 >>> (v5 &&& 31)) &&& (1 : Int32)) = (1 : Int32) then (
(ckO S v0 8).bind fun _ =>
(f_X8_valueIn S v0 v1 v5).bind fun x4 =>
(ckO S v0 8).bind fun _ =>
(f_X8_takes S v0 x4 v4).bind fun S5 =>
f_X8_answerIn_b41 S5 v0 v1 v3 v4 v5)
else (
f_X8_answerIn_b41 S v0 v1 v3 v4 v5))
def f_X8_answerIn (S : PH) (v0 : Nat) (v1 : Int32) (v2 : Int32) (v3 : Int32) (v4 : Int32) : Option (Int32 × PH) :=
(ckO S v0 8).bind fun _ =>
(f_X8_begins S v0).bind fun S1 =>
(lpo (fun x : Int32 × PH => f_X8_answerIn_L7 x.2 v0 v1 v3 v4 x.1) FU ((0 : Int32), S1)).bind fun S6 =>
(ckO S6 v0 8).bind fun _ =>
(f_X8_answer S6 v0 v2 v4).bind fun x7 =>
some (x7, S6)
set_option maxHeartbeats 4000000 in
set_option maxRecDepth 100000 in
theorem w_X8_answerIn {p : Program} {l : Launch} {e : Env} {R : Room} {s : State} {m : MethodId} {args : Array Value} {below : List Frame} {meth : Method} {c : Code} {cells slots : Nat} {Q : State → Prop} {D : va_G} {G : Nat → ClassId} {L : List Nat} {A : Nat → Prop} {H0 : Heap} (C : CX p s m c args D G cX8_answerIn 6 RX8) (hLA : ∀ q ∈ L, A q) (hcs : cells ≤ R.cells ∧ slots ≤ R.slots) (hR_X8_begins : RoomOk R ({ frames := 0, cells := 0, slots := 0, locals := 0 }) 1) (hR_X8_valueIn : RoomOk R ({ frames := 2, cells := 0, slots := 0, locals := 43 }) 3) (hR_X8_takes : RoomOk R ({ frames := 0, cells := 0, slots := 0, locals := 0 }) 3) (hR_X8_answer : RoomOk R ({ frames := 0, cells := 0, slots := 0, locals := 0 }) 3) (S : PH) (v0 : Nat) (v1 : Int32) (v2 : Int32) (v3 : Int32) (v4 : Int32) (r : Int32 × PH) (h : f_X8_answerIn S v0 v1 v2 v3 v4 = some r) (hret : ∀ (v : Int32) (S9 : PH) (H : Heap) (locs : List Loc) (ls : Array Slot) (pc : Nat), Wd D G L A H0 S9 H locs → (v, S9) = r → decode cX8_answerIn pc = .ok (.ireturn, 1) → W p l e R s m args below meth c H locs cells slots Q (F0 m pc ls [.int v])) : ∀ (H : Heap) (locs : List Loc) (ls : Array Slot), Wd D G L A H0 S H locs → lv_has ls 6 [(0, .ref v0), (1, .int v1), (2, .int v2), (3, .int v3), (4, .int v4)] → W p l e R s m args below meth c H locs cells slots Q (F0 m 0 ls []) := by
  have hx := C.1.1
  have hb := C.1.2.1
  unfold f_X8_answerIn at h
  intro H locs ls w hl
  refine lv_aload_n hx hb dX8_answerIn_0 rfl (lv_at hl 0 rfl) ?_
  obtain ⟨_, ho, h⟩ := bs h
  obtain ⟨S1, hc, h⟩ := bs h
  refine o_backv w hLA (o_runV (As := []) (rest := []) C w (c_X8_begins l D G L S v0 S1 hc) ml_X8_77 mv_X8_begins hR_X8_begins ho rfl hl.1 rfl (Nat.le_of_ble_eq_true rfl) dX8_answerIn_1 hcs) (fun H locs w => ?_)
  refine lv_iconst (v := 0) hx hb dX8_answerIn_4 (by decide) ?_
  refine lv_istore (lv' := [(5, .int (0 : Int32)), (0, .ref v0), (1, .int v1), (2, .int v2), (3, .int v3), (4, .int v4)]) hx hb dX8_answerIn_5 hl (by decide) rfl (fun ls hl => ?_)
  obtain ⟨S6, hL7, h⟩ := bs h
  have hE7 : ∀ (q8 : PH), S6 = q8 → ∀ (H : Heap) (locs : List Loc) (ls : Array Slot), Wd D G L A H0 q8 H locs → lv_has ls 6 [(0, .ref v0), (2, .int v2), (4, .int v4)] → W p l e R s m args below meth c H locs cells slots Q (F0 m 47 ls []) := by
    intro q8 he
    cases he
    intro H locs ls w hl
    refine lv_aload_n hx hb dX8_answerIn_47 rfl (lv_at hl 0 rfl) ?_
    refine lv_iload_n hx hb dX8_answerIn_48 rfl (lv_at hl 1 rfl) ?_
    refine lv_iload hx hb dX8_answerIn_49 (lv_at hl 2 rfl) ?_
    obtain ⟨_, ho, h⟩ := bs h
    obtain ⟨x7, hc, h⟩ := bs h
    refine o_backi w hLA (o_runV (As := [.int v2, .int v4]) (rest := []) C w (c_X8_answer l D G L S6 v0 v2 v4 x7 hc) ml_X8_87 mv_X8_answer hR_X8_answer ho rfl hl.1 rfl (Nat.le_of_ble_eq_true rfl) dX8_answerIn_51 hcs) (fun H locs w => ?_)
    exact hret _ _ _ _ _ _ w (Option.some.inj h) dX8_answerIn_54
  refine lpo_W (P := fun x : Int32 × PH => ∀ (H : Heap) (locs : List Loc) (ls : Array Slot), Wd D G L A H0 x.2 H locs → lv_has ls 6 [(0, .ref v0), (1, .int v1), (2, .int v2), (3, .int v3), (4, .int v4), (5, .int x.1)] → W p l e R s m args below meth c H locs cells slots Q (F0 m 7 ls [])) ?_ FU _ hL7 H locs ls w (lv_sub hl [1, 2, 3, 4, 5, 0] rfl)
  intro x y7 h hnext7 hend7
  obtain ⟨t9, S10⟩ := x
  have h : f_X8_answerIn_L7 S10 v0 v1 v3 v4 t9 = some y7 := h
  unfold f_X8_answerIn_L7 at h
  have hb41 : ∀ (S11 : PH) (u12 : Int32), f_X8_answerIn_b41 S11 v0 v1 v3 v4 u12 = some y7 → ∀ (H : Heap) (locs : List Loc) (ls : Array Slot), Wd D G L A H0 S11 H locs → lv_has ls 6 [(0, .ref v0), (1, .int v1), (2, .int v2), (3, .int v3), (4, .int v4), (5, .int u12)] → W p l e R s m args below meth c H locs cells slots Q (F0 m 41 ls []) := by
    intro S11 u12 h H locs ls w hl
    unfold f_X8_answerIn_b41 at h
    refine lv_iinc (v := (u12 + 1)) (lv' := [(5, .int (u12 + 1)), (0, .ref v0), (1, .int v1), (2, .int v2), (3, .int v3), (4, .int v4)]) hx hb dX8_answerIn_41 hl (k := 5) rfl rfl (by decide) rfl (fun ls hl => ?_)
    refine lv_goto (tgt := 7) hx hb dX8_answerIn_44 (by decide) ?_
    exact hnext7 _ (Option.some.inj h).symm H locs ls w (lv_sub hl [1, 2, 3, 4, 5, 0] rfl)
  intro H locs ls w hl
  have hl : lv_has ls 6 [(0, .ref v0), (1, .int v1), (2, .int v2), (3, .int v3), (4, .int v4), (5, .int t9)] := hl
  have w : Wd D G L A H0 S10 H locs := w
  refine lv_iload hx hb dX8_answerIn_7 (lv_at hl 5 rfl) ?_
  refine lv_aload_n hx hb dX8_answerIn_9 rfl (lv_at hl 0 rfl) ?_
  obtain ⟨x13, hx13, h⟩ := bs h
  refine o_gR C w hx13 fl_X8_8 dX8_answerIn_10 ?_
  refine lv_iconst (v := 1) hx hb dX8_answerIn_13 (by decide) ?_
  obtain ⟨x14, hx14, h⟩ := bs h
  refine o_ldI C w hx14 dX8_answerIn_14 ?_
  refine lv_icmp_ge (tgt := 47) hx hb dX8_answerIn_15 (by decide) (fun cc15 => ?_) (fun cc15 => ?_)
  · have h := it cc15 h
    exact hE7 _ (hend7 _ (Option.some.inj h).symm).symm H locs ls w (lv_sub hl [0, 2, 4] rfl)
  · have h := ie cc15 h
    refine lv_iload_n hx hb dX8_answerIn_18 rfl (lv_at hl 3 rfl) ?_
    refine lv_iload hx hb dX8_answerIn_19 (lv_at hl 5 rfl) ?_
    refine lv_ishr hx hb dX8_answerIn_21 ?_
    refine lv_iconst (v := 1) hx hb dX8_answerIn_22 (by decide) ?_
    refine lv_iand hx hb dX8_answerIn_23 ?_
    refine lv_iconst (v := 1) hx hb dX8_answerIn_24 (by decide) ?_
    refine lv_icmp_ne (tgt := 41) hx hb dX8_answerIn_25 (by decide) (fun cc25 => ?_) (fun cc25 => ?_)
    · have h := ie cc25 h
      exact hb41 _ _ h H locs ls w (lv_sub hl [0, 1, 2, 3, 4, 5] rfl)
    · have h := it cc25 h
      refine lv_aload_n hx hb dX8_answerIn_28 rfl (lv_at hl 0 rfl) ?_
      refine lv_aload_n hx hb dX8_answerIn_29 rfl (lv_at hl 0 rfl) ?_
      refine lv_iload_n hx hb dX8_answerIn_30 rfl (lv_at hl 1 rfl) ?_
      refine lv_iload hx hb dX8_answerIn_31 (lv_at hl 5 rfl) ?_
      obtain ⟨_, ho, h⟩ := bs h
      obtain ⟨x15, hc, h⟩ := bs h
      refine o_backi w hLA (o_runV (As := [.int v1, .int t9]) (rest := [.ref v0]) C w (c_X8_valueIn l D G L S10 v0 v1 t9 x15 hc) ml_X8_80 mv_X8_valueIn hR_X8_valueIn ho rfl hl.1 rfl (Nat.le_of_ble_eq_true rfl) dX8_answerIn_33 hcs) (fun H locs w => ?_)
      refine lv_iload hx hb dX8_answerIn_36 (lv_at hl 4 rfl) ?_
      obtain ⟨_, ho, h⟩ := bs h
      obtain ⟨S16, hc, h⟩ := bs h
      refine o_backv w hLA (o_runV (As := [.int x15, .int v4]) (rest := []) C w (c_X8_takes l D G L S10 v0 x15 v4 S16 hc) ml_X8_83 mv_X8_takes hR_X8_takes ho rfl hl.1 rfl (Nat.le_of_ble_eq_true rfl) dX8_answerIn_38 hcs) (fun H locs w => ?_)
      exact hb41 _ _ h H locs ls w (lv_sub hl [0, 1, 2, 3, 4, 5] rfl)
set_option maxHeartbeats 4000000 in
set_option maxRecDepth 100000 in
theorem c_X8_answerIn (l : Launch) (D : va_G) (G : Nat → ClassId) (L : List Nat) (S : PH) (v0 : Nat) (v1 : Int32) (v2 : Int32) (v3 : Int32) (v4 : Int32) (r : Int32 × PH) (h : f_X8_answerIn S v0 v1 v2 v3 v4 = some r) : Met l yX8_answerIn [Cond.code yX8_answerIn cX8_answerIn 6 (some .int)] ({ frames := 3, cells := 0, slots := 0, locals := 65 }) (va_Pc [.ref v0, .int v1, .int v2, .int v3, .int v4] (PreU D G L S)) (Qi D G L r.1 r.2) 0 0 (inL L) := by
  refine Met.ofW (cc := cX8_answerIn) (maxL := 6) (ret := (some .int)) (by decide) rfl ?_
  intro p e s m args below meth c s₁ B hml hv
  obtain ⟨rfl, hpre⟩ := hv
  obtain ⟨C, w⟩ := o_ent (own := RX8) rfl B hml hpre
  have hl := lv_entry ([.ref v0, .int v1, .int v2, .int v3, .int v4]) (n := 6) (Nat.le_of_ble_eq_true rfl)
  rw [lg_entry_eq]
  generalize (lg_sl ([.ref v0, .int v1, .int v2, .int v3, .int v4]) ++ List.replicate (6 - (lg_sl ([.ref v0, .int v1, .int v2, .int v3, .int v4])).length) Slot.unset).toArray = ls at hl ⊢
  exact w_X8_answerIn C (fun _ h => h) ⟨Nat.zero_le _, Nat.zero_le _⟩ ⟨rfl, rfl, Nat.le_of_ble_eq_true rfl, Nat.le_of_ble_eq_true rfl⟩ ⟨rfl, rfl, Nat.le_of_ble_eq_true rfl, Nat.le_of_ble_eq_true rfl⟩ ⟨rfl, rfl, Nat.le_of_ble_eq_true rfl, Nat.le_of_ble_eq_true rfl⟩ ⟨rfl, rfl, Nat.le_of_ble_eq_true rfl, Nat.le_of_ble_eq_true rfl⟩ S v0 v1 v2 v3 v4 r h (fun v S9 H locs ls pc w hv hd => by subst hv; exact o_iret C w B.returns B.notSynchronized hd) _ _ _ w hl

def f_X8_hiddenAnswer_b40 (S : PH) (v0 : Nat) (v2 : Int32) (v3 : Int32) (v4 : Int32) : Option ((Int32 × PH) ⊕ (PH)) :=
some (.inl ((v4 + 1), S))
def f_X8_hiddenAnswer_L7 (S : PH) (v0 : Nat) (v2 : Int32) (v3 : Int32) (v4 : Int32) : Option ((Int32 × PH) ⊕ (PH)) :=
(gR S v0 8 0).bind fun x2 =>
(ldI S x2 (1 : Int32)).bind fun x3 =>
if x3 ≤ v4 then (
some (.inr S))
else (
if ((v2 >>> (v4 &&& 31)) &&& (1 : Int32)) = (1 : Int32) then (
(ckO S v0 8).bind fun _ =>
(f_X8_of S v0 v4 (4 : Int32)).bind fun x4 =>
(ckO S v0 8).bind fun _ =>
(f_X8_takes S v0 x4 v3).bind fun S5 =>
f_X8_hiddenAnswer_b40 S5 v0 v2 v3 v4)
else (
f_X8_hiddenAnswer_b40 S v0 v2 v3 v4))
def f_X8_hiddenAnswer (S : PH) (v0 : Nat) (v1 : Int32) (v2 : Int32) (v3 : Int32) : Option (Int32 × PH) :=
(ckO S v0 8).bind fun _ =>
(f_X8_begins S v0).bind fun S1 =>
(lpo (fun x : Int32 × PH => f_X8_hiddenAnswer_L7 x.2 v0 v2 v3 x.1) FU ((0 : Int32), S1)).bind fun S6 =>
(ckO S6 v0 8).bind fun _ =>
(f_X8_answer S6 v0 v1 v3).bind fun x7 =>
some (x7, S6)
set_option maxHeartbeats 4000000 in
set_option maxRecDepth 100000 in
theorem w_X8_hiddenAnswer {p : Program} {l : Launch} {e : Env} {R : Room} {s : State} {m : MethodId} {args : Array Value} {below : List Frame} {meth : Method} {c : Code} {cells slots : Nat} {Q : State → Prop} {D : va_G} {G : Nat → ClassId} {L : List Nat} {A : Nat → Prop} {H0 : Heap} (C : CX p s m c args D G cX8_hiddenAnswer 5 RX8) (hLA : ∀ q ∈ L, A q) (hcs : cells ≤ R.cells ∧ slots ≤ R.slots) (hR_X8_begins : RoomOk R ({ frames := 0, cells := 0, slots := 0, locals := 0 }) 1) (hR_X8_of : RoomOk R ({ frames := 0, cells := 0, slots := 0, locals := 0 }) 3) (hR_X8_takes : RoomOk R ({ frames := 0, cells := 0, slots := 0, locals := 0 }) 3) (hR_X8_answer : RoomOk R ({ frames := 0, cells := 0, slots := 0, locals := 0 }) 3) (S : PH) (v0 : Nat) (v1 : Int32) (v2 : Int32) (v3 : Int32) (r : Int32 × PH) (h : f_X8_hiddenAnswer S v0 v1 v2 v3 = some r) (hret : ∀ (v : Int32) (S9 : PH) (H : Heap) (locs : List Loc) (ls : Array Slot) (pc : Nat), Wd D G L A H0 S9 H locs → (v, S9) = r → decode cX8_hiddenAnswer pc = .ok (.ireturn, 1) → W p l e R s m args below meth c H locs cells slots Q (F0 m pc ls [.int v])) : ∀ (H : Heap) (locs : List Loc) (ls : Array Slot), Wd D G L A H0 S H locs → lv_has ls 5 [(0, .ref v0), (1, .int v1), (2, .int v2), (3, .int v3)] → W p l e R s m args below meth c H locs cells slots Q (F0 m 0 ls []) := by
  have hx := C.1.1
  have hb := C.1.2.1
  unfold f_X8_hiddenAnswer at h
  intro H locs ls w hl
  refine lv_aload_n hx hb dX8_hiddenAnswer_0 rfl (lv_at hl 0 rfl) ?_
  obtain ⟨_, ho, h⟩ := bs h
  obtain ⟨S1, hc, h⟩ := bs h
  refine o_backv w hLA (o_runV (As := []) (rest := []) C w (c_X8_begins l D G L S v0 S1 hc) ml_X8_77 mv_X8_begins hR_X8_begins ho rfl hl.1 rfl (Nat.le_of_ble_eq_true rfl) dX8_hiddenAnswer_1 hcs) (fun H locs w => ?_)
  refine lv_iconst (v := 0) hx hb dX8_hiddenAnswer_4 (by decide) ?_
  refine lv_istore (lv' := [(4, .int (0 : Int32)), (0, .ref v0), (1, .int v1), (2, .int v2), (3, .int v3)]) hx hb dX8_hiddenAnswer_5 hl (by decide) rfl (fun ls hl => ?_)
  obtain ⟨S6, hL7, h⟩ := bs h
  have hE7 : ∀ (q8 : PH), S6 = q8 → ∀ (H : Heap) (locs : List Loc) (ls : Array Slot), Wd D G L A H0 q8 H locs → lv_has ls 5 [(0, .ref v0), (1, .int v1), (3, .int v3)] → W p l e R s m args below meth c H locs cells slots Q (F0 m 46 ls []) := by
    intro q8 he
    cases he
    intro H locs ls w hl
    refine lv_aload_n hx hb dX8_hiddenAnswer_46 rfl (lv_at hl 0 rfl) ?_
    refine lv_iload_n hx hb dX8_hiddenAnswer_47 rfl (lv_at hl 1 rfl) ?_
    refine lv_iload_n hx hb dX8_hiddenAnswer_48 rfl (lv_at hl 2 rfl) ?_
    obtain ⟨_, ho, h⟩ := bs h
    obtain ⟨x7, hc, h⟩ := bs h
    refine o_backi w hLA (o_runV (As := [.int v1, .int v3]) (rest := []) C w (c_X8_answer l D G L S6 v0 v1 v3 x7 hc) ml_X8_87 mv_X8_answer hR_X8_answer ho rfl hl.1 rfl (Nat.le_of_ble_eq_true rfl) dX8_hiddenAnswer_49 hcs) (fun H locs w => ?_)
    exact hret _ _ _ _ _ _ w (Option.some.inj h) dX8_hiddenAnswer_52
  refine lpo_W (P := fun x : Int32 × PH => ∀ (H : Heap) (locs : List Loc) (ls : Array Slot), Wd D G L A H0 x.2 H locs → lv_has ls 5 [(0, .ref v0), (1, .int v1), (2, .int v2), (3, .int v3), (4, .int x.1)] → W p l e R s m args below meth c H locs cells slots Q (F0 m 7 ls [])) ?_ FU _ hL7 H locs ls w (lv_sub hl [1, 2, 3, 4, 0] rfl)
  intro x y7 h hnext7 hend7
  obtain ⟨t9, S10⟩ := x
  have h : f_X8_hiddenAnswer_L7 S10 v0 v2 v3 t9 = some y7 := h
  unfold f_X8_hiddenAnswer_L7 at h
  have hb40 : ∀ (S11 : PH) (u12 : Int32), f_X8_hiddenAnswer_b40 S11 v0 v2 v3 u12 = some y7 → ∀ (H : Heap) (locs : List Loc) (ls : Array Slot), Wd D G L A H0 S11 H locs → lv_has ls 5 [(0, .ref v0), (1, .int v1), (2, .int v2), (3, .int v3), (4, .int u12)] → W p l e R s m args below meth c H locs cells slots Q (F0 m 40 ls []) := by
    intro S11 u12 h H locs ls w hl
    unfold f_X8_hiddenAnswer_b40 at h
    refine lv_iinc (v := (u12 + 1)) (lv' := [(4, .int (u12 + 1)), (0, .ref v0), (1, .int v1), (2, .int v2), (3, .int v3)]) hx hb dX8_hiddenAnswer_40 hl (k := 4) rfl rfl (by decide) rfl (fun ls hl => ?_)
    refine lv_goto (tgt := 7) hx hb dX8_hiddenAnswer_43 (by decide) ?_
    exact hnext7 _ (Option.some.inj h).symm H locs ls w (lv_sub hl [1, 2, 3, 4, 0] rfl)
  intro H locs ls w hl
  have hl : lv_has ls 5 [(0, .ref v0), (1, .int v1), (2, .int v2), (3, .int v3), (4, .int t9)] := hl
  have w : Wd D G L A H0 S10 H locs := w
  refine lv_iload hx hb dX8_hiddenAnswer_7 (lv_at hl 4 rfl) ?_
  refine lv_aload_n hx hb dX8_hiddenAnswer_9 rfl (lv_at hl 0 rfl) ?_
  obtain ⟨x13, hx13, h⟩ := bs h
  refine o_gR C w hx13 fl_X8_8 dX8_hiddenAnswer_10 ?_
  refine lv_iconst (v := 1) hx hb dX8_hiddenAnswer_13 (by decide) ?_
  obtain ⟨x14, hx14, h⟩ := bs h
  refine o_ldI C w hx14 dX8_hiddenAnswer_14 ?_
  refine lv_icmp_ge (tgt := 46) hx hb dX8_hiddenAnswer_15 (by decide) (fun cc15 => ?_) (fun cc15 => ?_)
  · have h := it cc15 h
    exact hE7 _ (hend7 _ (Option.some.inj h).symm).symm H locs ls w (lv_sub hl [0, 1, 3] rfl)
  · have h := ie cc15 h
    refine lv_iload_n hx hb dX8_hiddenAnswer_18 rfl (lv_at hl 2 rfl) ?_
    refine lv_iload hx hb dX8_hiddenAnswer_19 (lv_at hl 4 rfl) ?_
    refine lv_ishr hx hb dX8_hiddenAnswer_21 ?_
    refine lv_iconst (v := 1) hx hb dX8_hiddenAnswer_22 (by decide) ?_
    refine lv_iand hx hb dX8_hiddenAnswer_23 ?_
    refine lv_iconst (v := 1) hx hb dX8_hiddenAnswer_24 (by decide) ?_
    refine lv_icmp_ne (tgt := 40) hx hb dX8_hiddenAnswer_25 (by decide) (fun cc25 => ?_) (fun cc25 => ?_)
    · have h := ie cc25 h
      exact hb40 _ _ h H locs ls w (lv_sub hl [0, 1, 2, 3, 4] rfl)
    · have h := it cc25 h
      refine lv_aload_n hx hb dX8_hiddenAnswer_28 rfl (lv_at hl 0 rfl) ?_
      refine lv_aload_n hx hb dX8_hiddenAnswer_29 rfl (lv_at hl 0 rfl) ?_
      refine lv_iload hx hb dX8_hiddenAnswer_30 (lv_at hl 4 rfl) ?_
      refine lv_iconst (v := 4) hx hb dX8_hiddenAnswer_32 (by decide) ?_
      obtain ⟨_, ho, h⟩ := bs h
      obtain ⟨x15, hc, h⟩ := bs h
      refine o_backi w hLA (o_runV (As := [.int t9, .int (4 : Int32)]) (rest := [.ref v0]) C w (c_X8_of l D G L S10 v0 t9 (4 : Int32) x15 hc) ml_X8_44 mv_X8_of hR_X8_of ho rfl hl.1 rfl (Nat.le_of_ble_eq_true rfl) dX8_hiddenAnswer_33 hcs) (fun H locs w => ?_)
      refine lv_iload_n hx hb dX8_hiddenAnswer_36 rfl (lv_at hl 3 rfl) ?_
      obtain ⟨_, ho, h⟩ := bs h
      obtain ⟨S16, hc, h⟩ := bs h
      refine o_backv w hLA (o_runV (As := [.int x15, .int v3]) (rest := []) C w (c_X8_takes l D G L S10 v0 x15 v3 S16 hc) ml_X8_83 mv_X8_takes hR_X8_takes ho rfl hl.1 rfl (Nat.le_of_ble_eq_true rfl) dX8_hiddenAnswer_37 hcs) (fun H locs w => ?_)
      exact hb40 _ _ h H locs ls w (lv_sub hl [0, 1, 2, 3, 4] rfl)
set_option maxHeartbeats 4000000 in
set_option maxRecDepth 100000 in
theorem c_X8_hiddenAnswer (l : Launch) (D : va_G) (G : Nat → ClassId) (L : List Nat) (S : PH) (v0 : Nat) (v1 : Int32) (v2 : Int32) (v3 : Int32) (r : Int32 × PH) (h : f_X8_hiddenAnswer S v0 v1 v2 v3 = some r) : Met l yX8_hiddenAnswer [Cond.code yX8_hiddenAnswer cX8_hiddenAnswer 5 (some .int)] ({ frames := 1, cells := 0, slots := 0, locals := 22 }) (va_Pc [.ref v0, .int v1, .int v2, .int v3] (PreU D G L S)) (Qi D G L r.1 r.2) 0 0 (inL L) := by
  refine Met.ofW (cc := cX8_hiddenAnswer) (maxL := 5) (ret := (some .int)) (by decide) rfl ?_
  intro p e s m args below meth c s₁ B hml hv
  obtain ⟨rfl, hpre⟩ := hv
  obtain ⟨C, w⟩ := o_ent (own := RX8) rfl B hml hpre
  have hl := lv_entry ([.ref v0, .int v1, .int v2, .int v3]) (n := 5) (Nat.le_of_ble_eq_true rfl)
  rw [lg_entry_eq]
  generalize (lg_sl ([.ref v0, .int v1, .int v2, .int v3]) ++ List.replicate (5 - (lg_sl ([.ref v0, .int v1, .int v2, .int v3])).length) Slot.unset).toArray = ls at hl ⊢
  exact w_X8_hiddenAnswer C (fun _ h => h) ⟨Nat.zero_le _, Nat.zero_le _⟩ ⟨rfl, rfl, Nat.le_of_ble_eq_true rfl, Nat.le_of_ble_eq_true rfl⟩ ⟨rfl, rfl, Nat.le_of_ble_eq_true rfl, Nat.le_of_ble_eq_true rfl⟩ ⟨rfl, rfl, Nat.le_of_ble_eq_true rfl, Nat.le_of_ble_eq_true rfl⟩ ⟨rfl, rfl, Nat.le_of_ble_eq_true rfl, Nat.le_of_ble_eq_true rfl⟩ S v0 v1 v2 v3 r h (fun v S9 H locs ls pc w hv hd => by subst hv; exact o_iret C w B.returns B.notSynchronized hd) _ _ _ w hl

def f_X8_isAsk_b39  : Option (Int32) :=
some (1 : Int32)
def f_X8_isAsk (v0 : Int32) (v1 : Int32) : Option (Int32) :=
if v0 = 0 then (
(f_X8_isIn v1 (1 : Int32) (20 : Int32)).bind fun x2 =>
(ckZ x2).bind fun _ =>
some x2)
else (
if v0 = (1 : Int32) then (
(f_X8_isIn v1 (0 : Int32) (20 : Int32)).bind fun x1 =>
(ckZ x1).bind fun _ =>
some x1)
else (
if v0 = (2 : Int32) then (
f_X8_isAsk_b39 )
else (
if v0 = (3 : Int32) then (
f_X8_isAsk_b39 )
else (
some (0 : Int32)))))
set_option maxHeartbeats 4000000 in
set_option maxRecDepth 100000 in
theorem w_X8_isAsk {p : Program} {l : Launch} {e : Env} {R : Room} {s : State} {m : MethodId} {args : Array Value} {below : List Frame} {meth : Method} {c : Code} {cells slots : Nat} {Q : State → Prop} {D : va_G} {G : Nat → ClassId} {L : List Nat} {A : Nat → Prop} {H0 : Heap} (C : CX p s m c args D G cX8_isAsk 2 RX8) (hLA : ∀ q ∈ L, A q) (hcs : cells ≤ R.cells ∧ slots ≤ R.slots) (hR_X8_isIn : RoomOk R ({ frames := 0, cells := 0, slots := 0, locals := 0 }) 3) (S : PH) (v0 : Int32) (v1 : Int32) (r : Int32) (h : f_X8_isAsk v0 v1 = some r) (hret : ∀ (v : Int32) (H : Heap) (locs : List Loc) (ls : Array Slot) (pc : Nat), Wd D G L A H0 S H locs → narrow .boolean (.int v) = .int v → v = r → decode cX8_isAsk pc = .ok (.ireturn, 1) → W p l e R s m args below meth c H locs cells slots Q (F0 m pc ls [.int v])) : ∀ (H : Heap) (locs : List Loc) (ls : Array Slot), Wd D G L A H0 S H locs → lv_has ls 2 [(0, .int v0), (1, .int v1)] → W p l e R s m args below meth c H locs cells slots Q (F0 m 0 ls []) := by
  have hx := C.1.1
  have hb := C.1.2.1
  unfold f_X8_isAsk at h
  have hb39 : f_X8_isAsk_b39  = some r → ∀ (H : Heap) (locs : List Loc) (ls : Array Slot), Wd D G L A H0 S H locs → lv_has ls 2 [] → W p l e R s m args below meth c H locs cells slots Q (F0 m 39 ls []) := by
    intro  h H locs ls w hl
    unfold f_X8_isAsk_b39 at h
    refine lv_iconst (v := 1) hx hb dX8_isAsk_39 (by decide) ?_
    refine lv_goto (tgt := 44) hx hb dX8_isAsk_40 (by decide) ?_
    exact hret _ _ _ _ _ w rfl (Option.some.inj h) dX8_isAsk_44
  intro H locs ls w hl
  refine lv_iload_n hx hb dX8_isAsk_0 rfl (lv_at hl 0 rfl) ?_
  refine lv_if_ne (tgt := 14) hx hb dX8_isAsk_1 (by decide) (fun cc1 => ?_) (fun cc1 => ?_)
  · have h := ie cc1 h
    refine lv_iload_n hx hb dX8_isAsk_14 rfl (lv_at hl 0 rfl) ?_
    refine lv_iconst (v := 1) hx hb dX8_isAsk_15 (by decide) ?_
    refine lv_icmp_ne (tgt := 29) hx hb dX8_isAsk_16 (by decide) (fun cc16 => ?_) (fun cc16 => ?_)
    · have h := ie cc16 h
      refine lv_iload_n hx hb dX8_isAsk_29 rfl (lv_at hl 0 rfl) ?_
      refine lv_iconst (v := 2) hx hb dX8_isAsk_30 (by decide) ?_
      refine lv_icmp_eq (tgt := 39) hx hb dX8_isAsk_31 (by decide) (fun cc31 => ?_) (fun cc31 => ?_)
      · have h := it cc31 h
        exact hb39  h H locs ls w (lv_sub hl [] rfl)
      · have h := ie cc31 h
        refine lv_iload_n hx hb dX8_isAsk_34 rfl (lv_at hl 0 rfl) ?_
        refine lv_iconst (v := 3) hx hb dX8_isAsk_35 (by decide) ?_
        refine lv_icmp_ne (tgt := 43) hx hb dX8_isAsk_36 (by decide) (fun cc36 => ?_) (fun cc36 => ?_)
        · have h := ie cc36 h
          refine lv_iconst (v := 0) hx hb dX8_isAsk_43 (by decide) ?_
          exact hret _ _ _ _ _ w rfl (Option.some.inj h) dX8_isAsk_44
        · have h := it cc36 h
          exact hb39  h H locs ls w (lv_sub hl [] rfl)
    · have h := it cc16 h
      refine lv_iload_n hx hb dX8_isAsk_19 rfl (lv_at hl 1 rfl) ?_
      refine lv_iconst (v := 0) hx hb dX8_isAsk_20 (by decide) ?_
      refine lv_bipush (v := 20) hx hb dX8_isAsk_21 (by decide) ?_
      obtain ⟨x1, hc, h⟩ := bs h
      refine o_backi w hLA (o_runS (As := [.int v1, .int (0 : Int32), .int (20 : Int32)]) (rest := []) C w (c_X8_isIn l D G L S v1 (0 : Int32) (20 : Int32) x1 hc) ml_X8_40 st_X8_isIn hR_X8_isIn rfl hl.1 rfl (Nat.le_of_ble_eq_true rfl) dX8_isAsk_23 hcs) (fun H locs w => ?_)
      refine lv_goto (tgt := 44) hx hb dX8_isAsk_26 (by decide) ?_
      obtain ⟨_, hz, h⟩ := bs h
      exact hret _ _ _ _ _ w (ckZ_some hz) (Option.some.inj h) dX8_isAsk_44
  · have h := it cc1 h
    refine lv_iload_n hx hb dX8_isAsk_4 rfl (lv_at hl 1 rfl) ?_
    refine lv_iconst (v := 1) hx hb dX8_isAsk_5 (by decide) ?_
    refine lv_bipush (v := 20) hx hb dX8_isAsk_6 (by decide) ?_
    obtain ⟨x2, hc, h⟩ := bs h
    refine o_backi w hLA (o_runS (As := [.int v1, .int (1 : Int32), .int (20 : Int32)]) (rest := []) C w (c_X8_isIn l D G L S v1 (1 : Int32) (20 : Int32) x2 hc) ml_X8_40 st_X8_isIn hR_X8_isIn rfl hl.1 rfl (Nat.le_of_ble_eq_true rfl) dX8_isAsk_8 hcs) (fun H locs w => ?_)
    refine lv_goto (tgt := 44) hx hb dX8_isAsk_11 (by decide) ?_
    obtain ⟨_, hz, h⟩ := bs h
    exact hret _ _ _ _ _ w (ckZ_some hz) (Option.some.inj h) dX8_isAsk_44
set_option maxHeartbeats 4000000 in
set_option maxRecDepth 100000 in
theorem c_X8_isAsk (l : Launch) (D : va_G) (G : Nat → ClassId) (L : List Nat) (S : PH) (v0 : Int32) (v1 : Int32) (r : Int32) (h : f_X8_isAsk v0 v1 = some r) : Met l yX8_isAsk [Cond.code yX8_isAsk cX8_isAsk 2 (some .boolean)] ({ frames := 1, cells := 0, slots := 0, locals := 22 }) (va_Pc [.int v0, .int v1] (PreU D G L S)) (Qi D G L r S) 0 0 (inL L) := by
  refine Met.ofW (cc := cX8_isAsk) (maxL := 2) (ret := (some .boolean)) (by decide) rfl ?_
  intro p e s m args below meth c s₁ B hml hv
  obtain ⟨rfl, hpre⟩ := hv
  obtain ⟨C, w⟩ := o_ent (own := RX8) rfl B hml hpre
  have hl := lv_entry ([.int v0, .int v1]) (n := 2) (Nat.le_of_ble_eq_true rfl)
  rw [lg_entry_eq]
  generalize (lg_sl ([.int v0, .int v1]) ++ List.replicate (2 - (lg_sl ([.int v0, .int v1])).length) Slot.unset).toArray = ls at hl ⊢
  exact w_X8_isAsk C (fun _ h => h) ⟨Nat.zero_le _, Nat.zero_le _⟩ ⟨rfl, rfl, Nat.le_of_ble_eq_true rfl, Nat.le_of_ble_eq_true rfl⟩ S v0 v1 r h (fun v H locs ls pc w hz hv hd => by subst hv; exact o_zret C w B.returns B.notSynchronized hz hd) _ _ _ w hl

def f_X8_isLeft (S : PH) (v0 : Nat) (v1 : Int32) (v2 : Int32) : Option (Int32) :=
(gR S v0 8 0).bind fun x1 =>
(ldI S x1 (((1130 : Int32) + ((4096 : Int32) * v1)) + v2)).bind fun x2 =>
if x2 = (1 : Int32) then (
some (1 : Int32))
else (
some (0 : Int32))
set_option maxHeartbeats 4000000 in
set_option maxRecDepth 100000 in
theorem w_X8_isLeft {p : Program} {l : Launch} {e : Env} {R : Room} {s : State} {m : MethodId} {args : Array Value} {below : List Frame} {meth : Method} {c : Code} {cells slots : Nat} {Q : State → Prop} {D : va_G} {G : Nat → ClassId} {L : List Nat} {A : Nat → Prop} {H0 : Heap} (C : CX p s m c args D G cX8_isLeft 3 RX8) (hLA : ∀ q ∈ L, A q) (hcs : cells ≤ R.cells ∧ slots ≤ R.slots)  (S : PH) (v0 : Nat) (v1 : Int32) (v2 : Int32) (r : Int32) (h : f_X8_isLeft S v0 v1 v2 = some r) (hret : ∀ (v : Int32) (H : Heap) (locs : List Loc) (ls : Array Slot) (pc : Nat), Wd D G L A H0 S H locs → narrow .boolean (.int v) = .int v → v = r → decode cX8_isLeft pc = .ok (.ireturn, 1) → W p l e R s m args below meth c H locs cells slots Q (F0 m pc ls [.int v])) : ∀ (H : Heap) (locs : List Loc) (ls : Array Slot), Wd D G L A H0 S H locs → lv_has ls 3 [(0, .ref v0), (1, .int v1), (2, .int v2)] → W p l e R s m args below meth c H locs cells slots Q (F0 m 0 ls []) := by
  have hx := C.1.1
  have hb := C.1.2.1
  unfold f_X8_isLeft at h
  intro H locs ls w hl
  refine lv_aload_n hx hb dX8_isLeft_0 rfl (lv_at hl 0 rfl) ?_
  obtain ⟨x1, hx1, h⟩ := bs h
  refine o_gR C w hx1 fl_X8_8 dX8_isLeft_1 ?_
  refine lv_sipush (v := 1130) hx hb dX8_isLeft_4 (by decide) ?_
  refine lv_sipush (v := 4096) hx hb dX8_isLeft_7 (by decide) ?_
  refine lv_iload_n hx hb dX8_isLeft_10 rfl (lv_at hl 1 rfl) ?_
  refine lv_imul hx hb dX8_isLeft_11 ?_
  refine lv_iadd hx hb dX8_isLeft_12 ?_
  refine lv_iload_n hx hb dX8_isLeft_13 rfl (lv_at hl 2 rfl) ?_
  refine lv_iadd hx hb dX8_isLeft_14 ?_
  obtain ⟨x2, hx2, h⟩ := bs h
  refine o_ldI C w hx2 dX8_isLeft_15 ?_
  refine lv_iconst (v := 1) hx hb dX8_isLeft_16 (by decide) ?_
  refine lv_icmp_ne (tgt := 24) hx hb dX8_isLeft_17 (by decide) (fun cc17 => ?_) (fun cc17 => ?_)
  · have h := ie cc17 h
    refine lv_iconst (v := 0) hx hb dX8_isLeft_24 (by decide) ?_
    exact hret _ _ _ _ _ w rfl (Option.some.inj h) dX8_isLeft_25
  · have h := it cc17 h
    refine lv_iconst (v := 1) hx hb dX8_isLeft_20 (by decide) ?_
    refine lv_goto (tgt := 25) hx hb dX8_isLeft_21 (by decide) ?_
    exact hret _ _ _ _ _ w rfl (Option.some.inj h) dX8_isLeft_25
set_option maxHeartbeats 4000000 in
set_option maxRecDepth 100000 in
theorem c_X8_isLeft (l : Launch) (D : va_G) (G : Nat → ClassId) (L : List Nat) (S : PH) (v0 : Nat) (v1 : Int32) (v2 : Int32) (r : Int32) (h : f_X8_isLeft S v0 v1 v2 = some r) : Met l yX8_isLeft [Cond.code yX8_isLeft cX8_isLeft 3 (some .boolean)] ({ frames := 0, cells := 0, slots := 0, locals := 0 }) (va_Pc [.ref v0, .int v1, .int v2] (PreU D G L S)) (Qi D G L r S) 0 0 (inL L) := by
  refine Met.ofW (cc := cX8_isLeft) (maxL := 3) (ret := (some .boolean)) (by decide) rfl ?_
  intro p e s m args below meth c s₁ B hml hv
  obtain ⟨rfl, hpre⟩ := hv
  obtain ⟨C, w⟩ := o_ent (own := RX8) rfl B hml hpre
  have hl := lv_entry ([.ref v0, .int v1, .int v2]) (n := 3) (Nat.le_of_ble_eq_true rfl)
  rw [lg_entry_eq]
  generalize (lg_sl ([.ref v0, .int v1, .int v2]) ++ List.replicate (3 - (lg_sl ([.ref v0, .int v1, .int v2])).length) Slot.unset).toArray = ls at hl ⊢
  exact w_X8_isLeft C (fun _ h => h) ⟨Nat.zero_le _, Nat.zero_le _⟩  S v0 v1 v2 r h (fun v H locs ls pc w hz hv hd => by subst hv; exact o_zret C w B.returns B.notSynchronized hz hd) _ _ _ w hl

def f_X8_meets_b107 (S : PH) (v0 : Nat) (v1 : Int32) (v2 : Int32) (v3 : Int32) (s0 : Nat) (s1 : Int32) (s2 : Int32) : Option ((Int32 × PH) ⊕ (PH)) :=
(stI S s0 s1 s2).bind fun S1 =>
some (.inl ((v3 + 1), S1))
def f_X8_meets_b95 (S : PH) (v0 : Nat) (v1 : Int32) (v2 : Int32) (v3 : Int32) (v4 : Int32) (s0 : Nat) (s1 : Int32) : Option ((Int32 × PH) ⊕ (PH)) :=
f_X8_meets_b107 S v0 v1 v2 v3 s0 s1 v4
def f_X8_meets_b67 (S : PH) (v0 : Nat) (v1 : Int32) (v2 : Int32) (v3 : Int32) (v4 : Int32) (v5 : Int32) (s0 : Nat) (s1 : Int32) (s2 : Int32) : Option ((Int32 × PH) ⊕ (PH)) :=
(stI S s0 s1 s2).bind fun S2 =>
(gR S2 v0 8 7).bind fun x3 =>
(gR S2 v0 8 8).bind fun x4 =>
(ldZ S2 x4 v1).bind fun x5 =>
if x5 = 0 then (
f_X8_meets_b95 S2 v0 v1 v2 v3 v4 x3 v5)
else (
(gR S2 v0 8 7).bind fun x6 =>
(ldI S2 x6 v5).bind fun x7 =>
if v4 ≤ x7 then (
(gR S2 v0 8 7).bind fun x8 =>
(ldI S2 x8 v5).bind fun x9 =>
f_X8_meets_b107 S2 v0 v1 v2 v3 x3 v5 x9)
else (
f_X8_meets_b95 S2 v0 v1 v2 v3 v4 x3 v5))
def f_X8_meets_b55 (S : PH) (v0 : Nat) (v1 : Int32) (v2 : Int32) (v3 : Int32) (v4 : Int32) (v5 : Int32) (s0 : Nat) (s1 : Int32) : Option ((Int32 × PH) ⊕ (PH)) :=
f_X8_meets_b67 S v0 v1 v2 v3 v4 v5 s0 s1 v4
def f_X8_meets_L2 (S : PH) (v0 : Nat) (v1 : Int32) (v2 : Int32) (v3 : Int32) : Option ((Int32 × PH) ⊕ (PH)) :=
(gR S v0 8 0).bind fun x10 =>
(ldI S x10 (1 : Int32)).bind fun x11 =>
if x11 ≤ v3 then (
some (.inr S))
else (
(ckO S v0 8).bind fun _ =>
(f_X8_valueIn S v0 v2 v3).bind fun x12 =>
(gR S v0 8 6).bind fun x13 =>
(gR S v0 8 8).bind fun x14 =>
(ldZ S x14 v1).bind fun x15 =>
if x15 = 0 then (
f_X8_meets_b55 S v0 v1 v2 v3 x12 (((10 : Int32) * v1) + v3) x13 (((10 : Int32) * v1) + v3))
else (
(gR S v0 8 6).bind fun x16 =>
(ldI S x16 (((10 : Int32) * v1) + v3)).bind fun x17 =>
if x17 ≤ x12 then (
(gR S v0 8 6).bind fun x18 =>
(ldI S x18 (((10 : Int32) * v1) + v3)).bind fun x19 =>
f_X8_meets_b67 S v0 v1 v2 v3 x12 (((10 : Int32) * v1) + v3) x13 (((10 : Int32) * v1) + v3) x19)
else (
f_X8_meets_b55 S v0 v1 v2 v3 x12 (((10 : Int32) * v1) + v3) x13 (((10 : Int32) * v1) + v3))))
def f_X8_meets (S : PH) (v0 : Nat) (v1 : Int32) (v2 : Int32) : Option (PH) :=
(lpo (fun x : Int32 × PH => f_X8_meets_L2 x.2 v0 v1 v2 x.1) FU ((0 : Int32), S)).bind fun S20 =>
(gR S20 v0 8 8).bind fun x21 =>
(stZ S20 x21 v1 (1 : Int32)).bind fun S22 =>
some S22
set_option maxHeartbeats 4000000 in
set_option maxRecDepth 100000 in
theorem w_X8_meets {p : Program} {l : Launch} {e : Env} {R : Room} {s : State} {m : MethodId} {args : Array Value} {below : List Frame} {meth : Method} {c : Code} {cells slots : Nat} {Q : State → Prop} {D : va_G} {G : Nat → ClassId} {L : List Nat} {A : Nat → Prop} {H0 : Heap} (C : CX p s m c args D G cX8_meets 6 RX8) (hLA : ∀ q ∈ L, A q) (hcs : cells ≤ R.cells ∧ slots ≤ R.slots) (hR_X8_valueIn : RoomOk R ({ frames := 2, cells := 0, slots := 0, locals := 43 }) 3) (S : PH) (v0 : Nat) (v1 : Int32) (v2 : Int32) (r : PH) (h : f_X8_meets S v0 v1 v2 = some r) (hret : ∀ (S9 : PH) (H : Heap) (locs : List Loc) (ls : Array Slot) (pc : Nat), Wd D G L A H0 S9 H locs → S9 = r → decode cX8_meets pc = .ok (.return_, 1) → W p l e R s m args below meth c H locs cells slots Q (F0 m pc ls [])) : ∀ (H : Heap) (locs : List Loc) (ls : Array Slot), Wd D G L A H0 S H locs → lv_has ls 6 [(0, .ref v0), (1, .int v1), (2, .int v2)] → W p l e R s m args below meth c H locs cells slots Q (F0 m 0 ls []) := by
  have hx := C.1.1
  have hb := C.1.2.1
  unfold f_X8_meets at h
  intro H locs ls w hl
  refine lv_iconst (v := 0) hx hb dX8_meets_0 (by decide) ?_
  refine lv_istore_n (lv' := [(3, .int (0 : Int32)), (0, .ref v0), (1, .int v1), (2, .int v2)]) hx hb dX8_meets_1 rfl hl (by decide) rfl (fun ls hl => ?_)
  obtain ⟨S20, hL2, h⟩ := bs h
  have hE2 : ∀ (q23 : PH), S20 = q23 → ∀ (H : Heap) (locs : List Loc) (ls : Array Slot), Wd D G L A H0 q23 H locs → lv_has ls 6 [(0, .ref v0), (1, .int v1)] → W p l e R s m args below meth c H locs cells slots Q (F0 m 114 ls []) := by
    intro q23 he
    cases he
    intro H locs ls w hl
    refine lv_aload_n hx hb dX8_meets_114 rfl (lv_at hl 0 rfl) ?_
    obtain ⟨x21, hx21, h⟩ := bs h
    refine o_gR C w hx21 fl_X8_24 dX8_meets_115 ?_
    refine lv_iload_n hx hb dX8_meets_118 rfl (lv_at hl 1 rfl) ?_
    refine lv_iconst (v := 1) hx hb dX8_meets_119 (by decide) ?_
    obtain ⟨S22, hS22, h⟩ := bs h
    refine o_stZ C w hS22 dX8_meets_120 (fun H locs w => ?_)
    exact hret _ _ _ _ _ w (Option.some.inj h) dX8_meets_121
  refine lpo_W (P := fun x : Int32 × PH => ∀ (H : Heap) (locs : List Loc) (ls : Array Slot), Wd D G L A H0 x.2 H locs → lv_has ls 6 [(0, .ref v0), (1, .int v1), (2, .int v2), (3, .int x.1)] → W p l e R s m args below meth c H locs cells slots Q (F0 m 2 ls [])) ?_ FU _ hL2 H locs ls w (lv_sub hl [1, 2, 3, 0] rfl)
  intro x y2 h hnext2 hend2
  obtain ⟨t24, S25⟩ := x
  have h : f_X8_meets_L2 S25 v0 v1 v2 t24 = some y2 := h
  unfold f_X8_meets_L2 at h
  have hb107 : ∀ (S26 : PH) (u27 : Int32) (u28 : Nat) (u29 : Int32) (u30 : Int32), f_X8_meets_b107 S26 v0 v1 v2 u27 u28 u29 u30 = some y2 → ∀ (H : Heap) (locs : List Loc) (ls : Array Slot), Wd D G L A H0 S26 H locs → lv_has ls 6 [(0, .ref v0), (1, .int v1), (2, .int v2), (3, .int u27)] → W p l e R s m args below meth c H locs cells slots Q (F0 m 107 ls [.int u30, .int u29, .ref u28]) := by
    intro S26 u27 u28 u29 u30 h H locs ls w hl
    unfold f_X8_meets_b107 at h
    obtain ⟨S31, hS31, h⟩ := bs h
    refine o_stI C w hS31 dX8_meets_107 (fun H locs w => ?_)
    refine lv_iinc (v := (u27 + 1)) (lv' := [(3, .int (u27 + 1)), (0, .ref v0), (1, .int v1), (2, .int v2)]) hx hb dX8_meets_108 hl (k := 3) rfl rfl (by decide) rfl (fun ls hl => ?_)
    refine lv_goto (tgt := 2) hx hb dX8_meets_111 (by decide) ?_
    exact hnext2 _ (Option.some.inj h).symm H locs ls w (lv_sub hl [1, 2, 3, 0] rfl)
  have hb95 : ∀ (S32 : PH) (u33 : Int32) (u34 : Int32) (u35 : Nat) (u36 : Int32), f_X8_meets_b95 S32 v0 v1 v2 u33 u34 u35 u36 = some y2 → ∀ (H : Heap) (locs : List Loc) (ls : Array Slot), Wd D G L A H0 S32 H locs → lv_has ls 6 [(0, .ref v0), (1, .int v1), (2, .int v2), (3, .int u33), (4, .int u34)] → W p l e R s m args below meth c H locs cells slots Q (F0 m 95 ls [.int u36, .ref u35]) := by
    intro S32 u33 u34 u35 u36 h H locs ls w hl
    unfold f_X8_meets_b95 at h
    refine lv_iload hx hb dX8_meets_95 (lv_at hl 4 rfl) ?_
    refine lv_goto (tgt := 107) hx hb dX8_meets_97 (by decide) ?_
    exact hb107 _ _ _ _ _ h H locs ls w (lv_sub hl [0, 1, 2, 3] rfl)
  have hb67 : ∀ (S37 : PH) (u38 : Int32) (u39 : Int32) (u40 : Int32) (u41 : Nat) (u42 : Int32) (u43 : Int32), f_X8_meets_b67 S37 v0 v1 v2 u38 u39 u40 u41 u42 u43 = some y2 → ∀ (H : Heap) (locs : List Loc) (ls : Array Slot), Wd D G L A H0 S37 H locs → lv_has ls 6 [(0, .ref v0), (1, .int v1), (2, .int v2), (3, .int u38), (4, .int u39), (5, .int u40)] → W p l e R s m args below meth c H locs cells slots Q (F0 m 67 ls [.int u43, .int u42, .ref u41]) := by
    intro S37 u38 u39 u40 u41 u42 u43 h H locs ls w hl
    unfold f_X8_meets_b67 at h
    obtain ⟨S44, hS44, h⟩ := bs h
    refine o_stI C w hS44 dX8_meets_67 (fun H locs w => ?_)
    refine lv_aload_n hx hb dX8_meets_68 rfl (lv_at hl 0 rfl) ?_
    obtain ⟨x45, hx45, h⟩ := bs h
    refine o_gR C w hx45 fl_X8_21 dX8_meets_69 ?_
    refine lv_iload hx hb dX8_meets_72 (lv_at hl 5 rfl) ?_
    refine lv_aload_n hx hb dX8_meets_74 rfl (lv_at hl 0 rfl) ?_
    obtain ⟨x46, hx46, h⟩ := bs h
    refine o_gR C w hx46 fl_X8_24 dX8_meets_75 ?_
    refine lv_iload_n hx hb dX8_meets_78 rfl (lv_at hl 1 rfl) ?_
    obtain ⟨x47, hx47, h⟩ := bs h
    refine o_ldZ C w hx47 dX8_meets_79 ?_
    refine lv_if_eq (tgt := 95) hx hb dX8_meets_80 (by decide) (fun cc80 => ?_) (fun cc80 => ?_)
    · have h := it cc80 h
      exact hb95 _ _ _ _ _ h H locs ls w (lv_sub hl [0, 1, 2, 3, 4] rfl)
    · have h := ie cc80 h
      refine lv_iload hx hb dX8_meets_83 (lv_at hl 4 rfl) ?_
      refine lv_aload_n hx hb dX8_meets_85 rfl (lv_at hl 0 rfl) ?_
      obtain ⟨x48, hx48, h⟩ := bs h
      refine o_gR C w hx48 fl_X8_21 dX8_meets_86 ?_
      refine lv_iload hx hb dX8_meets_89 (lv_at hl 5 rfl) ?_
      obtain ⟨x49, hx49, h⟩ := bs h
      refine o_ldI C w hx49 dX8_meets_91 ?_
      refine lv_icmp_le (tgt := 100) hx hb dX8_meets_92 (by decide) (fun cc92 => ?_) (fun cc92 => ?_)
      · have h := it cc92 h
        refine lv_aload_n hx hb dX8_meets_100 rfl (lv_at hl 0 rfl) ?_
        obtain ⟨x50, hx50, h⟩ := bs h
        refine o_gR C w hx50 fl_X8_21 dX8_meets_101 ?_
        refine lv_iload hx hb dX8_meets_104 (lv_at hl 5 rfl) ?_
        obtain ⟨x51, hx51, h⟩ := bs h
        refine o_ldI C w hx51 dX8_meets_106 ?_
        exact hb107 _ _ _ _ _ h H locs ls w (lv_sub hl [0, 1, 2, 3] rfl)
      · have h := ie cc92 h
        exact hb95 _ _ _ _ _ h H locs ls w (lv_sub hl [0, 1, 2, 3, 4] rfl)
  have hb55 : ∀ (S52 : PH) (u53 : Int32) (u54 : Int32) (u55 : Int32) (u56 : Nat) (u57 : Int32), f_X8_meets_b55 S52 v0 v1 v2 u53 u54 u55 u56 u57 = some y2 → ∀ (H : Heap) (locs : List Loc) (ls : Array Slot), Wd D G L A H0 S52 H locs → lv_has ls 6 [(0, .ref v0), (1, .int v1), (2, .int v2), (3, .int u53), (4, .int u54), (5, .int u55)] → W p l e R s m args below meth c H locs cells slots Q (F0 m 55 ls [.int u57, .ref u56]) := by
    intro S52 u53 u54 u55 u56 u57 h H locs ls w hl
    unfold f_X8_meets_b55 at h
    refine lv_iload hx hb dX8_meets_55 (lv_at hl 4 rfl) ?_
    refine lv_goto (tgt := 67) hx hb dX8_meets_57 (by decide) ?_
    exact hb67 _ _ _ _ _ _ _ h H locs ls w (lv_sub hl [0, 1, 2, 3, 4, 5] rfl)
  intro H locs ls w hl
  have hl : lv_has ls 6 [(0, .ref v0), (1, .int v1), (2, .int v2), (3, .int t24)] := hl
  have w : Wd D G L A H0 S25 H locs := w
  refine lv_iload_n hx hb dX8_meets_2 rfl (lv_at hl 3 rfl) ?_
  refine lv_aload_n hx hb dX8_meets_3 rfl (lv_at hl 0 rfl) ?_
  obtain ⟨x58, hx58, h⟩ := bs h
  refine o_gR C w hx58 fl_X8_8 dX8_meets_4 ?_
  refine lv_iconst (v := 1) hx hb dX8_meets_7 (by decide) ?_
  obtain ⟨x59, hx59, h⟩ := bs h
  refine o_ldI C w hx59 dX8_meets_8 ?_
  refine lv_icmp_ge (tgt := 114) hx hb dX8_meets_9 (by decide) (fun cc9 => ?_) (fun cc9 => ?_)
  · have h := it cc9 h
    exact hE2 _ (hend2 _ (Option.some.inj h).symm).symm H locs ls w (lv_sub hl [0, 1] rfl)
  · have h := ie cc9 h
    refine lv_aload_n hx hb dX8_meets_12 rfl (lv_at hl 0 rfl) ?_
    refine lv_iload_n hx hb dX8_meets_13 rfl (lv_at hl 2 rfl) ?_
    refine lv_iload_n hx hb dX8_meets_14 rfl (lv_at hl 3 rfl) ?_
    obtain ⟨_, ho, h⟩ := bs h
    obtain ⟨x60, hc, h⟩ := bs h
    refine o_backi w hLA (o_runV (As := [.int v2, .int t24]) (rest := []) C w (c_X8_valueIn l D G L S25 v0 v2 t24 x60 hc) ml_X8_80 mv_X8_valueIn hR_X8_valueIn ho rfl hl.1 rfl (Nat.le_of_ble_eq_true rfl) dX8_meets_15 hcs) (fun H locs w => ?_)
    refine lv_istore (lv' := [(4, .int x60), (0, .ref v0), (1, .int v1), (2, .int v2), (3, .int t24)]) hx hb dX8_meets_18 hl (by decide) rfl (fun ls hl => ?_)
    refine lv_bipush (v := 10) hx hb dX8_meets_20 (by decide) ?_
    refine lv_iload_n hx hb dX8_meets_22 rfl (lv_at hl 2 rfl) ?_
    refine lv_imul hx hb dX8_meets_23 ?_
    refine lv_iload_n hx hb dX8_meets_24 rfl (lv_at hl 4 rfl) ?_
    refine lv_iadd hx hb dX8_meets_25 ?_
    refine lv_istore (lv' := [(5, .int (((10 : Int32) * v1) + t24)), (4, .int x60), (0, .ref v0), (1, .int v1), (2, .int v2), (3, .int t24)]) hx hb dX8_meets_26 hl (by decide) rfl (fun ls hl => ?_)
    refine lv_aload_n hx hb dX8_meets_28 rfl (lv_at hl 2 rfl) ?_
    obtain ⟨x61, hx61, h⟩ := bs h
    refine o_gR C w hx61 fl_X8_18 dX8_meets_29 ?_
    refine lv_iload hx hb dX8_meets_32 (lv_at hl 0 rfl) ?_
    refine lv_aload_n hx hb dX8_meets_34 rfl (lv_at hl 2 rfl) ?_
    obtain ⟨x62, hx62, h⟩ := bs h
    refine o_gR C w hx62 fl_X8_24 dX8_meets_35 ?_
    refine lv_iload_n hx hb dX8_meets_38 rfl (lv_at hl 3 rfl) ?_
    obtain ⟨x63, hx63, h⟩ := bs h
    refine o_ldZ C w hx63 dX8_meets_39 ?_
    refine lv_if_eq (tgt := 55) hx hb dX8_meets_40 (by decide) (fun cc40 => ?_) (fun cc40 => ?_)
    · have h := it cc40 h
      exact hb55 _ _ _ _ _ _ h H locs ls w (lv_sub hl [2, 3, 4, 5, 1, 0] rfl)
    · have h := ie cc40 h
      refine lv_iload hx hb dX8_meets_43 (lv_at hl 1 rfl) ?_
      refine lv_aload_n hx hb dX8_meets_45 rfl (lv_at hl 2 rfl) ?_
      obtain ⟨x64, hx64, h⟩ := bs h
      refine o_gR C w hx64 fl_X8_18 dX8_meets_46 ?_
      refine lv_iload hx hb dX8_meets_49 (lv_at hl 0 rfl) ?_
      obtain ⟨x65, hx65, h⟩ := bs h
      refine o_ldI C w hx65 dX8_meets_51 ?_
      refine lv_icmp_ge (tgt := 60) hx hb dX8_meets_52 (by decide) (fun cc52 => ?_) (fun cc52 => ?_)
      · have h := it cc52 h
        refine lv_aload_n hx hb dX8_meets_60 rfl (lv_at hl 2 rfl) ?_
        obtain ⟨x66, hx66, h⟩ := bs h
        refine o_gR C w hx66 fl_X8_18 dX8_meets_61 ?_
        refine lv_iload hx hb dX8_meets_64 (lv_at hl 0 rfl) ?_
        obtain ⟨x67, hx67, h⟩ := bs h
        refine o_ldI C w hx67 dX8_meets_66 ?_
        exact hb67 _ _ _ _ _ _ _ h H locs ls w (lv_sub hl [2, 3, 4, 5, 1, 0] rfl)
      · have h := ie cc52 h
        exact hb55 _ _ _ _ _ _ h H locs ls w (lv_sub hl [2, 3, 4, 5, 1, 0] rfl)
set_option maxHeartbeats 4000000 in
set_option maxRecDepth 100000 in
theorem c_X8_meets (l : Launch) (D : va_G) (G : Nat → ClassId) (L : List Nat) (S : PH) (v0 : Nat) (v1 : Int32) (v2 : Int32) (r : PH) (h : f_X8_meets S v0 v1 v2 = some r) : Met l yX8_meets [Cond.code yX8_meets cX8_meets 6 none] ({ frames := 3, cells := 0, slots := 0, locals := 65 }) (va_Pc [.ref v0, .int v1, .int v2] (PreU D G L S)) (Qv D G L r) 0 0 (inL L) := by
  refine Met.ofW (cc := cX8_meets) (maxL := 6) (ret := none) (by decide) rfl ?_
  intro p e s m args below meth c s₁ B hml hv
  obtain ⟨rfl, hpre⟩ := hv
  obtain ⟨C, w⟩ := o_ent (own := RX8) rfl B hml hpre
  have hl := lv_entry ([.ref v0, .int v1, .int v2]) (n := 6) (Nat.le_of_ble_eq_true rfl)
  rw [lg_entry_eq]
  generalize (lg_sl ([.ref v0, .int v1, .int v2]) ++ List.replicate (6 - (lg_sl ([.ref v0, .int v1, .int v2])).length) Slot.unset).toArray = ls at hl ⊢
  exact w_X8_meets C (fun _ h => h) ⟨Nat.zero_le _, Nat.zero_le _⟩ ⟨rfl, rfl, Nat.le_of_ble_eq_true rfl, Nat.le_of_ble_eq_true rfl⟩ S v0 v1 v2 r h (fun S9 H locs ls pc w hv hd => by subst hv; exact o_vret C w B.returns B.notSynchronized hd) _ _ _ w hl

def f_X8_isClose_b57 (S : PH) (v0 : Nat) (v1 : Int32) (v3 : Int32) (s0 : Int32) : Option ((Int32 × Int32) ⊕ (Int32)) :=
some (.inl (s0, (v3 + 1)))
def f_X8_isClose_b52 (S : PH) (v0 : Nat) (v1 : Int32) (v3 : Int32) : Option ((Int32 × Int32) ⊕ (Int32)) :=
f_X8_isClose_b57 S v0 v1 v3 (1 : Int32)
def f_X8_isClose_L4 (S : PH) (v0 : Nat) (v1 : Int32) (v2 : Int32) (v3 : Int32) : Option ((Int32 × Int32) ⊕ (Int32)) :=
(gR S v0 8 0).bind fun x1 =>
(ldI S x1 (1 : Int32)).bind fun x2 =>
if x2 ≤ v3 then (
some (.inr v2))
else (
if v2 = 0 then (
(gR S v0 8 7).bind fun x3 =>
(ldI S x3 (((10 : Int32) * v1) + v3)).bind fun x4 =>
(gR S v0 8 6).bind fun x5 =>
(ldI S x5 (((10 : Int32) * v1) + v3)).bind fun x6 =>
(ckO S v0 8).bind fun _ =>
(f_X8_of S v0 v3 (3 : Int32)).bind fun x7 =>
if x7 ≤ ((x4 - x6) + (1 : Int32)) then (
f_X8_isClose_b57 S v0 v1 v3 (0 : Int32))
else (
f_X8_isClose_b52 S v0 v1 v3))
else (
f_X8_isClose_b52 S v0 v1 v3))
def f_X8_isClose (S : PH) (v0 : Nat) (v1 : Int32) : Option (Int32) :=
(lpo (fun x : Int32 × Int32 => f_X8_isClose_L4 S v0 v1 x.1 x.2) FU ((0 : Int32), (0 : Int32))).bind fun y8 =>
(ckZ y8).bind fun _ =>
some y8
set_option maxHeartbeats 4000000 in
set_option maxRecDepth 100000 in
theorem w_X8_isClose {p : Program} {l : Launch} {e : Env} {R : Room} {s : State} {m : MethodId} {args : Array Value} {below : List Frame} {meth : Method} {c : Code} {cells slots : Nat} {Q : State → Prop} {D : va_G} {G : Nat → ClassId} {L : List Nat} {A : Nat → Prop} {H0 : Heap} (C : CX p s m c args D G cX8_isClose 4 RX8) (hLA : ∀ q ∈ L, A q) (hcs : cells ≤ R.cells ∧ slots ≤ R.slots) (hR_X8_of : RoomOk R ({ frames := 0, cells := 0, slots := 0, locals := 0 }) 3) (S : PH) (v0 : Nat) (v1 : Int32) (r : Int32) (h : f_X8_isClose S v0 v1 = some r) (hret : ∀ (v : Int32) (H : Heap) (locs : List Loc) (ls : Array Slot) (pc : Nat), Wd D G L A H0 S H locs → narrow .boolean (.int v) = .int v → v = r → decode cX8_isClose pc = .ok (.ireturn, 1) → W p l e R s m args below meth c H locs cells slots Q (F0 m pc ls [.int v])) : ∀ (H : Heap) (locs : List Loc) (ls : Array Slot), Wd D G L A H0 S H locs → lv_has ls 4 [(0, .ref v0), (1, .int v1)] → W p l e R s m args below meth c H locs cells slots Q (F0 m 0 ls []) := by
  have hx := C.1.1
  have hb := C.1.2.1
  unfold f_X8_isClose at h
  intro H locs ls w hl
  refine lv_iconst (v := 0) hx hb dX8_isClose_0 (by decide) ?_
  refine lv_istore_n (lv' := [(2, .int (0 : Int32)), (0, .ref v0), (1, .int v1)]) hx hb dX8_isClose_1 rfl hl (by decide) rfl (fun ls hl => ?_)
  refine lv_iconst (v := 0) hx hb dX8_isClose_2 (by decide) ?_
  refine lv_istore_n (lv' := [(3, .int (0 : Int32)), (2, .int (0 : Int32)), (0, .ref v0), (1, .int v1)]) hx hb dX8_isClose_3 rfl hl (by decide) rfl (fun ls hl => ?_)
  obtain ⟨y8, hL4, h⟩ := bs h
  have hE4 : ∀ (q9 : Int32), y8 = q9 → ∀ (H : Heap) (locs : List Loc) (ls : Array Slot), Wd D G L A H0 S H locs → lv_has ls 4 [(2, .int q9)] → W p l e R s m args below meth c H locs cells slots Q (F0 m 64 ls []) := by
    intro q9 he
    cases he
    intro H locs ls w hl
    refine lv_iload_n hx hb dX8_isClose_64 rfl (lv_at hl 0 rfl) ?_
    obtain ⟨_, hz, h⟩ := bs h
    exact hret _ _ _ _ _ w (ckZ_some hz) (Option.some.inj h) dX8_isClose_65
  refine lpo_W (P := fun x : Int32 × Int32 => ∀ (H : Heap) (locs : List Loc) (ls : Array Slot), Wd D G L A H0 S H locs → lv_has ls 4 [(0, .ref v0), (1, .int v1), (2, .int x.1), (3, .int x.2)] → W p l e R s m args below meth c H locs cells slots Q (F0 m 4 ls [])) ?_ FU _ hL4 H locs ls w (lv_sub hl [2, 3, 1, 0] rfl)
  intro x y4 h hnext4 hend4
  obtain ⟨t10, t11⟩ := x
  have h : f_X8_isClose_L4 S v0 v1 t10 t11 = some y4 := h
  unfold f_X8_isClose_L4 at h
  have hb57 : ∀ (u12 : Int32) (u13 : Int32), f_X8_isClose_b57 S v0 v1 u12 u13 = some y4 → ∀ (H : Heap) (locs : List Loc) (ls : Array Slot), Wd D G L A H0 S H locs → lv_has ls 4 [(0, .ref v0), (1, .int v1), (3, .int u12)] → W p l e R s m args below meth c H locs cells slots Q (F0 m 57 ls [.int u13]) := by
    intro u12 u13 h H locs ls w hl
    unfold f_X8_isClose_b57 at h
    refine lv_istore_n (lv' := [(2, .int u13), (0, .ref v0), (1, .int v1), (3, .int u12)]) hx hb dX8_isClose_57 rfl hl (by decide) rfl (fun ls hl => ?_)
    refine lv_iinc (v := (u12 + 1)) (lv' := [(3, .int (u12 + 1)), (2, .int u13), (0, .ref v0), (1, .int v1)]) hx hb dX8_isClose_58 hl (k := 3) rfl rfl (by decide) rfl (fun ls hl => ?_)
    refine lv_goto (tgt := 4) hx hb dX8_isClose_61 (by decide) ?_
    exact hnext4 _ (Option.some.inj h).symm H locs ls w (lv_sub hl [2, 3, 1, 0] rfl)
  have hb52 : ∀ (u14 : Int32), f_X8_isClose_b52 S v0 v1 u14 = some y4 → ∀ (H : Heap) (locs : List Loc) (ls : Array Slot), Wd D G L A H0 S H locs → lv_has ls 4 [(0, .ref v0), (1, .int v1), (3, .int u14)] → W p l e R s m args below meth c H locs cells slots Q (F0 m 52 ls []) := by
    intro u14 h H locs ls w hl
    unfold f_X8_isClose_b52 at h
    refine lv_iconst (v := 1) hx hb dX8_isClose_52 (by decide) ?_
    refine lv_goto (tgt := 57) hx hb dX8_isClose_53 (by decide) ?_
    exact hb57 _ _ h H locs ls w (lv_sub hl [0, 1, 2] rfl)
  intro H locs ls w hl
  have hl : lv_has ls 4 [(0, .ref v0), (1, .int v1), (2, .int t10), (3, .int t11)] := hl
  refine lv_iload_n hx hb dX8_isClose_4 rfl (lv_at hl 3 rfl) ?_
  refine lv_aload_n hx hb dX8_isClose_5 rfl (lv_at hl 0 rfl) ?_
  obtain ⟨x15, hx15, h⟩ := bs h
  refine o_gR C w hx15 fl_X8_8 dX8_isClose_6 ?_
  refine lv_iconst (v := 1) hx hb dX8_isClose_9 (by decide) ?_
  obtain ⟨x16, hx16, h⟩ := bs h
  refine o_ldI C w hx16 dX8_isClose_10 ?_
  refine lv_icmp_ge (tgt := 64) hx hb dX8_isClose_11 (by decide) (fun cc11 => ?_) (fun cc11 => ?_)
  · have h := it cc11 h
    exact hE4 _ (hend4 _ (Option.some.inj h).symm).symm H locs ls w (lv_sub hl [2] rfl)
  · have h := ie cc11 h
    refine lv_iload_n hx hb dX8_isClose_14 rfl (lv_at hl 2 rfl) ?_
    refine lv_if_ne (tgt := 52) hx hb dX8_isClose_15 (by decide) (fun cc15 => ?_) (fun cc15 => ?_)
    · have h := ie cc15 h
      exact hb52 _ h H locs ls w (lv_sub hl [0, 1, 3] rfl)
    · have h := it cc15 h
      refine lv_aload_n hx hb dX8_isClose_18 rfl (lv_at hl 0 rfl) ?_
      obtain ⟨x17, hx17, h⟩ := bs h
      refine o_gR C w hx17 fl_X8_21 dX8_isClose_19 ?_
      refine lv_bipush (v := 10) hx hb dX8_isClose_22 (by decide) ?_
      refine lv_iload_n hx hb dX8_isClose_24 rfl (lv_at hl 1 rfl) ?_
      refine lv_imul hx hb dX8_isClose_25 ?_
      refine lv_iload_n hx hb dX8_isClose_26 rfl (lv_at hl 3 rfl) ?_
      refine lv_iadd hx hb dX8_isClose_27 ?_
      obtain ⟨x18, hx18, h⟩ := bs h
      refine o_ldI C w hx18 dX8_isClose_28 ?_
      refine lv_aload_n hx hb dX8_isClose_29 rfl (lv_at hl 0 rfl) ?_
      obtain ⟨x19, hx19, h⟩ := bs h
      refine o_gR C w hx19 fl_X8_18 dX8_isClose_30 ?_
      refine lv_bipush (v := 10) hx hb dX8_isClose_33 (by decide) ?_
      refine lv_iload_n hx hb dX8_isClose_35 rfl (lv_at hl 1 rfl) ?_
      refine lv_imul hx hb dX8_isClose_36 ?_
      refine lv_iload_n hx hb dX8_isClose_37 rfl (lv_at hl 3 rfl) ?_
      refine lv_iadd hx hb dX8_isClose_38 ?_
      obtain ⟨x20, hx20, h⟩ := bs h
      refine o_ldI C w hx20 dX8_isClose_39 ?_
      refine lv_isub hx hb dX8_isClose_40 ?_
      refine lv_iconst (v := 1) hx hb dX8_isClose_41 (by decide) ?_
      refine lv_iadd hx hb dX8_isClose_42 ?_
      refine lv_aload_n hx hb dX8_isClose_43 rfl (lv_at hl 0 rfl) ?_
      refine lv_iload_n hx hb dX8_isClose_44 rfl (lv_at hl 3 rfl) ?_
      refine lv_iconst (v := 3) hx hb dX8_isClose_45 (by decide) ?_
      obtain ⟨_, ho, h⟩ := bs h
      obtain ⟨x21, hc, h⟩ := bs h
      refine o_backi w hLA (o_runV (As := [.int t11, .int (3 : Int32)]) (rest := [.int ((x18 - x20) + (1 : Int32))]) C w (c_X8_of l D G L S v0 t11 (3 : Int32) x21 hc) ml_X8_44 mv_X8_of hR_X8_of ho rfl hl.1 rfl (Nat.le_of_ble_eq_true rfl) dX8_isClose_46 hcs) (fun H locs w => ?_)
      refine lv_icmp_ge (tgt := 56) hx hb dX8_isClose_49 (by decide) (fun cc49 => ?_) (fun cc49 => ?_)
      · have h := it cc49 h
        refine lv_iconst (v := 0) hx hb dX8_isClose_56 (by decide) ?_
        exact hb57 _ _ h H locs ls w (lv_sub hl [0, 1, 3] rfl)
      · have h := ie cc49 h
        exact hb52 _ h H locs ls w (lv_sub hl [0, 1, 3] rfl)
set_option maxHeartbeats 4000000 in
set_option maxRecDepth 100000 in
theorem c_X8_isClose (l : Launch) (D : va_G) (G : Nat → ClassId) (L : List Nat) (S : PH) (v0 : Nat) (v1 : Int32) (r : Int32) (h : f_X8_isClose S v0 v1 = some r) : Met l yX8_isClose [Cond.code yX8_isClose cX8_isClose 4 (some .boolean)] ({ frames := 1, cells := 0, slots := 0, locals := 22 }) (va_Pc [.ref v0, .int v1] (PreU D G L S)) (Qi D G L r S) 0 0 (inL L) := by
  refine Met.ofW (cc := cX8_isClose) (maxL := 4) (ret := (some .boolean)) (by decide) rfl ?_
  intro p e s m args below meth c s₁ B hml hv
  obtain ⟨rfl, hpre⟩ := hv
  obtain ⟨C, w⟩ := o_ent (own := RX8) rfl B hml hpre
  have hl := lv_entry ([.ref v0, .int v1]) (n := 4) (Nat.le_of_ble_eq_true rfl)
  rw [lg_entry_eq]
  generalize (lg_sl ([.ref v0, .int v1]) ++ List.replicate (4 - (lg_sl ([.ref v0, .int v1])).length) Slot.unset).toArray = ls at hl ⊢
  exact w_X8_isClose C (fun _ h => h) ⟨Nat.zero_le _, Nat.zero_le _⟩ ⟨rfl, rfl, Nat.le_of_ble_eq_true rfl, Nat.le_of_ble_eq_true rfl⟩ S v0 v1 r h (fun v H locs ls pc w hz hv hd => by subst hv; exact o_zret C w B.returns B.notSynchronized hz hd) _ _ _ w hl

def f_X8_clears_L2 (S : PH) (v0 : Nat) (v1 : Int32) : Option ((Int32 × PH) ⊕ (PH)) :=
if (61 : Int32) ≤ v1 then (
some (.inr S))
else (
(gR S v0 8 8).bind fun x1 =>
(stZ S x1 v1 (0 : Int32)).bind fun S2 =>
some (.inl ((v1 + 1), S2)))
def f_X8_clears (S : PH) (v0 : Nat) : Option (PH) :=
(lpo (fun x : Int32 × PH => f_X8_clears_L2 x.2 v0 x.1) FU ((0 : Int32), S)).bind fun S3 =>
some S3
set_option maxHeartbeats 4000000 in
set_option maxRecDepth 100000 in
theorem w_X8_clears {p : Program} {l : Launch} {e : Env} {R : Room} {s : State} {m : MethodId} {args : Array Value} {below : List Frame} {meth : Method} {c : Code} {cells slots : Nat} {Q : State → Prop} {D : va_G} {G : Nat → ClassId} {L : List Nat} {A : Nat → Prop} {H0 : Heap} (C : CX p s m c args D G cX8_clears 2 RX8) (hLA : ∀ q ∈ L, A q) (hcs : cells ≤ R.cells ∧ slots ≤ R.slots)  (S : PH) (v0 : Nat) (r : PH) (h : f_X8_clears S v0 = some r) (hret : ∀ (S9 : PH) (H : Heap) (locs : List Loc) (ls : Array Slot) (pc : Nat), Wd D G L A H0 S9 H locs → S9 = r → decode cX8_clears pc = .ok (.return_, 1) → W p l e R s m args below meth c H locs cells slots Q (F0 m pc ls [])) : ∀ (H : Heap) (locs : List Loc) (ls : Array Slot), Wd D G L A H0 S H locs → lv_has ls 2 [(0, .ref v0)] → W p l e R s m args below meth c H locs cells slots Q (F0 m 0 ls []) := by
  have hx := C.1.1
  have hb := C.1.2.1
  unfold f_X8_clears at h
  intro H locs ls w hl
  refine lv_iconst (v := 0) hx hb dX8_clears_0 (by decide) ?_
  refine lv_istore_n (lv' := [(1, .int (0 : Int32)), (0, .ref v0)]) hx hb dX8_clears_1 rfl hl (by decide) rfl (fun ls hl => ?_)
  obtain ⟨S3, hL2, h⟩ := bs h
  have hE2 : ∀ (q4 : PH), S3 = q4 → ∀ (H : Heap) (locs : List Loc) (ls : Array Slot), Wd D G L A H0 q4 H locs → lv_has ls 2 [] → W p l e R s m args below meth c H locs cells slots Q (F0 m 21 ls []) := by
    intro q4 he
    cases he
    intro H locs ls w hl
    exact hret _ _ _ _ _ w (Option.some.inj h) dX8_clears_21
  refine lpo_W (P := fun x : Int32 × PH => ∀ (H : Heap) (locs : List Loc) (ls : Array Slot), Wd D G L A H0 x.2 H locs → lv_has ls 2 [(0, .ref v0), (1, .int x.1)] → W p l e R s m args below meth c H locs cells slots Q (F0 m 2 ls [])) ?_ FU _ hL2 H locs ls w (lv_sub hl [1, 0] rfl)
  intro x y2 h hnext2 hend2
  obtain ⟨t5, S6⟩ := x
  have h : f_X8_clears_L2 S6 v0 t5 = some y2 := h
  unfold f_X8_clears_L2 at h
  intro H locs ls w hl
  have hl : lv_has ls 2 [(0, .ref v0), (1, .int t5)] := hl
  have w : Wd D G L A H0 S6 H locs := w
  refine lv_iload_n hx hb dX8_clears_2 rfl (lv_at hl 1 rfl) ?_
  refine lv_bipush (v := 61) hx hb dX8_clears_3 (by decide) ?_
  refine lv_icmp_ge (tgt := 21) hx hb dX8_clears_5 (by decide) (fun cc5 => ?_) (fun cc5 => ?_)
  · have h := it cc5 h
    exact hE2 _ (hend2 _ (Option.some.inj h).symm).symm H locs ls w (lv_sub hl [] rfl)
  · have h := ie cc5 h
    refine lv_aload_n hx hb dX8_clears_8 rfl (lv_at hl 0 rfl) ?_
    obtain ⟨x7, hx7, h⟩ := bs h
    refine o_gR C w hx7 fl_X8_24 dX8_clears_9 ?_
    refine lv_iload_n hx hb dX8_clears_12 rfl (lv_at hl 1 rfl) ?_
    refine lv_iconst (v := 0) hx hb dX8_clears_13 (by decide) ?_
    obtain ⟨S8, hS8, h⟩ := bs h
    refine o_stZ C w hS8 dX8_clears_14 (fun H locs w => ?_)
    refine lv_iinc (v := (t5 + 1)) (lv' := [(1, .int (t5 + 1)), (0, .ref v0)]) hx hb dX8_clears_15 hl (k := 1) rfl rfl (by decide) rfl (fun ls hl => ?_)
    refine lv_goto (tgt := 2) hx hb dX8_clears_18 (by decide) ?_
    exact hnext2 _ (Option.some.inj h).symm H locs ls w (lv_sub hl [1, 0] rfl)
set_option maxHeartbeats 4000000 in
set_option maxRecDepth 100000 in
theorem c_X8_clears (l : Launch) (D : va_G) (G : Nat → ClassId) (L : List Nat) (S : PH) (v0 : Nat) (r : PH) (h : f_X8_clears S v0 = some r) : Met l yX8_clears [Cond.code yX8_clears cX8_clears 2 none] ({ frames := 0, cells := 0, slots := 0, locals := 0 }) (va_Pc [.ref v0] (PreU D G L S)) (Qv D G L r) 0 0 (inL L) := by
  refine Met.ofW (cc := cX8_clears) (maxL := 2) (ret := none) (by decide) rfl ?_
  intro p e s m args below meth c s₁ B hml hv
  obtain ⟨rfl, hpre⟩ := hv
  obtain ⟨C, w⟩ := o_ent (own := RX8) rfl B hml hpre
  have hl := lv_entry ([.ref v0]) (n := 2) (Nat.le_of_ble_eq_true rfl)
  rw [lg_entry_eq]
  generalize (lg_sl ([.ref v0]) ++ List.replicate (2 - (lg_sl ([.ref v0])).length) Slot.unset).toArray = ls at hl ⊢
  exact w_X8_clears C (fun _ h => h) ⟨Nat.zero_le _, Nat.zero_le _⟩  S v0 r h (fun S9 H locs ls pc w hv hd => by subst hv; exact o_vret C w B.returns B.notSynchronized hd) _ _ _ w hl

def f_X8_judged_b74 (S : PH) (v0 : Nat) (v1 : Int32) (v2 : Int32) (v3 : Int32) (v4 : Int32) (v5 : Int32) (v6 : Int32) : Option ((Int32 × Int32 × PH) ⊕ (Int32 × PH)) :=
some (.inl (v5, (v6 + 1), S))
def f_X8_judged_b63 (S : PH) (v0 : Nat) (v1 : Int32) (v2 : Int32) (v3 : Int32) (v4 : Int32) (v6 : Int32) (v7 : Int32) (s0 : Int32) (s1 : Int32) : Option ((Int32 × Int32 × PH) ⊕ (Int32 × PH)) :=
(ckO S v0 8).bind fun _ =>
(f_X8_meets S v0 v7 v6).bind fun S2 =>
f_X8_judged_b74 S2 v0 v1 v2 v3 v4 (s0 + s1) v6
def f_X8_judged_L10 (S : PH) (v0 : Nat) (v1 : Int32) (v2 : Int32) (v3 : Int32) (v4 : Int32) (v5 : Int32) (v6 : Int32) : Option ((Int32 × Int32 × PH) ⊕ (Int32 × PH)) :=
(gR S v0 8 0).bind fun x3 =>
(ldI S x3 (2 : Int32)).bind fun x4 =>
if x4 ≤ v6 then (
some (.inr (v5, S)))
else (
(ckO S v0 8).bind fun _ =>
(f_X8_isLeft S v0 v1 v6).bind fun x5 =>
if x5 = 0 then (
f_X8_judged_b74 S v0 v1 v2 v3 v4 v5 v6)
else (
(ckO S v0 8).bind fun _ =>
bd2 (f_X8_answerIn S v0 v6 v2 v3 v4) fun x6 S7 =>
(gR S7 v0 8 8).bind fun x8 =>
(ldZ S7 x8 x6).bind fun x9 =>
if x9 = 0 then (
f_X8_judged_b63 S7 v0 v1 v2 v3 v4 v6 x6 v5 (1 : Int32))
else (
f_X8_judged_b63 S7 v0 v1 v2 v3 v4 v6 x6 v5 (0 : Int32))))
def f_X8_judged_b119 (S : PH) (v0 : Nat) (v6 : Int32) : Option ((Int32) ⊕ ((Unit) ⊕ (Int32 × PH))) :=
some (.inl (v6 + 1))
def f_X8_judged_L91 (S : PH) (v0 : Nat) (v6 : Int32) : Option ((Int32) ⊕ ((Unit) ⊕ (Int32 × PH))) :=
if (61 : Int32) ≤ v6 then (
some (.inr (.inl ())))
else (
(gR S v0 8 8).bind fun x12 =>
(ldZ S x12 v6).bind fun x13 =>
if x13 = 0 then (
f_X8_judged_b119 S v0 v6)
else (
(ckO S v0 8).bind fun _ =>
(f_X8_isClose S v0 v6).bind fun x14 =>
if x14 = 0 then (
f_X8_judged_b119 S v0 v6)
else (
some (.inr (.inr ((0 : Int32), S))))))
def f_X8_judged (S : PH) (v0 : Nat) (v1 : Int32) (v2 : Int32) (v3 : Int32) (v4 : Int32) : Option (Int32 × PH) :=
(ckO S v0 8).bind fun _ =>
(f_X8_clears S v0).bind fun S1 =>
bd2 (lpo (fun x : Int32 × Int32 × PH => f_X8_judged_L10 x.2.2 v0 v1 v2 v3 v4 x.1 x.2.1) FU ((0 : Int32), (0 : Int32), S1)) fun y10 S11 =>
if y10 = (1 : Int32) then (
some ((2 : Int32), S11))
else (
bdS (lpo (fun x : Int32 => f_X8_judged_L91 S11 v0 x) FU (0 : Int32)) (fun _ =>
some ((1 : Int32), S11)) some)
set_option maxHeartbeats 4000000 in
set_option maxRecDepth 100000 in
theorem w_X8_judged {p : Program} {l : Launch} {e : Env} {R : Room} {s : State} {m : MethodId} {args : Array Value} {below : List Frame} {meth : Method} {c : Code} {cells slots : Nat} {Q : State → Prop} {D : va_G} {G : Nat → ClassId} {L : List Nat} {A : Nat → Prop} {H0 : Heap} (C : CX p s m c args D G cX8_judged 8 RX8) (hLA : ∀ q ∈ L, A q) (hcs : cells ≤ R.cells ∧ slots ≤ R.slots) (hR_X8_clears : RoomOk R ({ frames := 0, cells := 0, slots := 0, locals := 0 }) 2) (hR_X8_isLeft : RoomOk R ({ frames := 0, cells := 0, slots := 0, locals := 0 }) 3) (hR_X8_answerIn : RoomOk R ({ frames := 3, cells := 0, slots := 0, locals := 65 }) 6) (hR_X8_meets : RoomOk R ({ frames := 3, cells := 0, slots := 0, locals := 65 }) 6) (hR_X8_isClose : RoomOk R ({ frames := 1, cells := 0, slots := 0, locals := 22 }) 4) (S : PH) (v0 : Nat) (v1 : Int32) (v2 : Int32) (v3 : Int32) (v4 : Int32) (r : Int32 × PH) (h : f_X8_judged S v0 v1 v2 v3 v4 = some r) (hret : ∀ (v : Int32) (S9 : PH) (H : Heap) (locs : List Loc) (ls : Array Slot) (pc : Nat), Wd D G L A H0 S9 H locs → (v, S9) = r → decode cX8_judged pc = .ok (.ireturn, 1) → W p l e R s m args below meth c H locs cells slots Q (F0 m pc ls [.int v])) : ∀ (H : Heap) (locs : List Loc) (ls : Array Slot), Wd D G L A H0 S H locs → lv_has ls 8 [(0, .ref v0), (1, .int v1), (2, .int v2), (3, .int v3), (4, .int v4)] → W p l e R s m args below meth c H locs cells slots Q (F0 m 0 ls []) := by
  have hx := C.1.1
  have hb := C.1.2.1
  unfold f_X8_judged at h
  intro H locs ls w hl
  refine lv_aload_n hx hb dX8_judged_0 rfl (lv_at hl 0 rfl) ?_
  obtain ⟨_, ho, h⟩ := bs h
  obtain ⟨S1, hc, h⟩ := bs h
  refine o_backv w hLA (o_runV (As := []) (rest := []) C w (c_X8_clears l D G L S v0 S1 hc) ml_X8_90 mv_X8_clears hR_X8_clears ho rfl hl.1 rfl (Nat.le_of_ble_eq_true rfl) dX8_judged_1 hcs) (fun H locs w => ?_)
  refine lv_iconst (v := 0) hx hb dX8_judged_4 (by decide) ?_
  refine lv_istore (lv' := [(5, .int (0 : Int32)), (0, .ref v0), (1, .int v1), (2, .int v2), (3, .int v3), (4, .int v4)]) hx hb dX8_judged_5 hl (by decide) rfl (fun ls hl => ?_)
  refine lv_iconst (v := 0) hx hb dX8_judged_7 (by decide) ?_
  refine lv_istore (lv' := [(6, .int (0 : Int32)), (5, .int (0 : Int32)), (0, .ref v0), (1, .int v1), (2, .int v2), (3, .int v3), (4, .int v4)]) hx hb dX8_judged_8 hl (by decide) rfl (fun ls hl => ?_)
  obtain ⟨y10, S11, hL10, h⟩ := bs2 h
  have hE10 : ∀ (q20 : Int32) (q21 : PH), (y10, S11) = (q20, q21) → ∀ (H : Heap) (locs : List Loc) (ls : Array Slot), Wd D G L A H0 q21 H locs → lv_has ls 8 [(0, .ref v0), (5, .int q20)] → W p l e R s m args below meth c H locs cells slots Q (F0 m 80 ls []) := by
    intro q20 q21 he
    cases he
    intro H locs ls w hl
    refine lv_iload hx hb dX8_judged_80 (lv_at hl 1 rfl) ?_
    refine lv_iconst (v := 1) hx hb dX8_judged_82 (by decide) ?_
    refine lv_icmp_ne (tgt := 88) hx hb dX8_judged_83 (by decide) (fun cc83 => ?_) (fun cc83 => ?_)
    · have h := ie cc83 h
      refine lv_iconst (v := 0) hx hb dX8_judged_88 (by decide) ?_
      refine lv_istore (lv' := [(6, .int (0 : Int32)), (0, .ref v0), (5, .int y10)]) hx hb dX8_judged_89 hl (by decide) rfl (fun ls hl => ?_)
      obtain ⟨e91, hL91, h⟩ := bs h
      have hE91 : e91 = Sum.inl () → ∀ (H : Heap) (locs : List Loc) (ls : Array Slot), Wd D G L A H0 S11 H locs → lv_has ls 8 [] → W p l e R s m args below meth c H locs cells slots Q (F0 m 125 ls []) := by
        intro he
        subst he
        have h : _ = some r := h
        intro H locs ls w hl
        refine lv_iconst (v := 1) hx hb dX8_judged_125 (by decide) ?_
        exact hret _ _ _ _ _ _ w (Option.some.inj h) dX8_judged_126
      have hR91 : ∀ q, e91 = Sum.inr q → q = r := by
        intro q he
        subst he
        exact Option.some.inj h
      refine lpo_W (P := fun x : Int32 => ∀ (H : Heap) (locs : List Loc) (ls : Array Slot), Wd D G L A H0 S11 H locs → lv_has ls 8 [(0, .ref v0), (6, .int x)] → W p l e R s m args below meth c H locs cells slots Q (F0 m 91 ls [])) ?_ FU _ hL91 H locs ls w (lv_sub hl [1, 0] rfl)
      intro t15 y91 h hnext91 hend91
      have h : f_X8_judged_L91 S11 v0 t15 = some y91 := h
      unfold f_X8_judged_L91 at h
      have hb119 : ∀ (u16 : Int32), f_X8_judged_b119 S11 v0 u16 = some y91 → ∀ (H : Heap) (locs : List Loc) (ls : Array Slot), Wd D G L A H0 S11 H locs → lv_has ls 8 [(0, .ref v0), (6, .int u16)] → W p l e R s m args below meth c H locs cells slots Q (F0 m 119 ls []) := by
        intro u16 h H locs ls w hl
        unfold f_X8_judged_b119 at h
        refine lv_iinc (v := (u16 + 1)) (lv' := [(6, .int (u16 + 1)), (0, .ref v0)]) hx hb dX8_judged_119 hl (k := 1) rfl rfl (by decide) rfl (fun ls hl => ?_)
        refine lv_goto (tgt := 91) hx hb dX8_judged_122 (by decide) ?_
        exact hnext91 _ (Option.some.inj h).symm H locs ls w (lv_sub hl [1, 0] rfl)
      intro H locs ls w hl
      have hl : lv_has ls 8 [(0, .ref v0), (6, .int t15)] := hl
      refine lv_iload hx hb dX8_judged_91 (lv_at hl 1 rfl) ?_
      refine lv_bipush (v := 61) hx hb dX8_judged_93 (by decide) ?_
      refine lv_icmp_ge (tgt := 125) hx hb dX8_judged_95 (by decide) (fun cc95 => ?_) (fun cc95 => ?_)
      · have h := it cc95 h
        exact hE91  (hend91 _ (Option.some.inj h).symm).symm H locs ls w (lv_sub hl [] rfl)
      · have h := ie cc95 h
        refine lv_aload_n hx hb dX8_judged_98 rfl (lv_at hl 0 rfl) ?_
        obtain ⟨x17, hx17, h⟩ := bs h
        refine o_gR C w hx17 fl_X8_24 dX8_judged_99 ?_
        refine lv_iload hx hb dX8_judged_102 (lv_at hl 1 rfl) ?_
        obtain ⟨x18, hx18, h⟩ := bs h
        refine o_ldZ C w hx18 dX8_judged_104 ?_
        refine lv_if_eq (tgt := 119) hx hb dX8_judged_105 (by decide) (fun cc105 => ?_) (fun cc105 => ?_)
        · have h := it cc105 h
          exact hb119 _ h H locs ls w (lv_sub hl [0, 1] rfl)
        · have h := ie cc105 h
          refine lv_aload_n hx hb dX8_judged_108 rfl (lv_at hl 0 rfl) ?_
          refine lv_iload hx hb dX8_judged_109 (lv_at hl 1 rfl) ?_
          obtain ⟨_, ho, h⟩ := bs h
          obtain ⟨x19, hc, h⟩ := bs h
          refine o_backi w hLA (o_runV (As := [.int t15]) (rest := []) C w (c_X8_isClose l D G L S11 v0 t15 x19 hc) ml_X8_103 mv_X8_isClose hR_X8_isClose ho rfl hl.1 rfl (Nat.le_of_ble_eq_true rfl) dX8_judged_111 hcs) (fun H locs w => ?_)
          refine lv_if_eq (tgt := 119) hx hb dX8_judged_114 (by decide) (fun cc114 => ?_) (fun cc114 => ?_)
          · have h := it cc114 h
            exact hb119 _ h H locs ls w (lv_sub hl [0, 1] rfl)
          · have h := ie cc114 h
            refine lv_iconst (v := 0) hx hb dX8_judged_117 (by decide) ?_
            exact hret _ _ _ _ _ _ w (hR91 _ (hend91 _ (Option.some.inj h).symm).symm) dX8_judged_118
    · have h := it cc83 h
      refine lv_iconst (v := 2) hx hb dX8_judged_86 (by decide) ?_
      exact hret _ _ _ _ _ _ w (Option.some.inj h) dX8_judged_87
  refine lpo_W (P := fun x : Int32 × Int32 × PH => ∀ (H : Heap) (locs : List Loc) (ls : Array Slot), Wd D G L A H0 x.2.2 H locs → lv_has ls 8 [(0, .ref v0), (1, .int v1), (2, .int v2), (3, .int v3), (4, .int v4), (5, .int x.1), (6, .int x.2.1)] → W p l e R s m args below meth c H locs cells slots Q (F0 m 10 ls [])) ?_ FU _ hL10 H locs ls w (lv_sub hl [2, 3, 4, 5, 6, 1, 0] rfl)
  intro x y10 h hnext10 hend10
  obtain ⟨t22, t23, S24⟩ := x
  have h : f_X8_judged_L10 S24 v0 v1 v2 v3 v4 t22 t23 = some y10 := h
  unfold f_X8_judged_L10 at h
  have hb74 : ∀ (S25 : PH) (u26 : Int32) (u27 : Int32), f_X8_judged_b74 S25 v0 v1 v2 v3 v4 u26 u27 = some y10 → ∀ (H : Heap) (locs : List Loc) (ls : Array Slot), Wd D G L A H0 S25 H locs → lv_has ls 8 [(0, .ref v0), (1, .int v1), (2, .int v2), (3, .int v3), (4, .int v4), (5, .int u26), (6, .int u27)] → W p l e R s m args below meth c H locs cells slots Q (F0 m 74 ls []) := by
    intro S25 u26 u27 h H locs ls w hl
    unfold f_X8_judged_b74 at h
    refine lv_iinc (v := (u27 + 1)) (lv' := [(6, .int (u27 + 1)), (0, .ref v0), (1, .int v1), (2, .int v2), (3, .int v3), (4, .int v4), (5, .int u26)]) hx hb dX8_judged_74 hl (k := 6) rfl rfl (by decide) rfl (fun ls hl => ?_)
    refine lv_goto (tgt := 10) hx hb dX8_judged_77 (by decide) ?_
    exact hnext10 _ (Option.some.inj h).symm H locs ls w (lv_sub hl [1, 2, 3, 4, 5, 6, 0] rfl)
  have hb63 : ∀ (S28 : PH) (u29 : Int32) (u30 : Int32) (u31 : Int32) (u32 : Int32), f_X8_judged_b63 S28 v0 v1 v2 v3 v4 u29 u30 u31 u32 = some y10 → ∀ (H : Heap) (locs : List Loc) (ls : Array Slot), Wd D G L A H0 S28 H locs → lv_has ls 8 [(0, .ref v0), (1, .int v1), (2, .int v2), (3, .int v3), (4, .int v4), (6, .int u29), (7, .int u30)] → W p l e R s m args below meth c H locs cells slots Q (F0 m 63 ls [.int u32, .int u31]) := by
    intro S28 u29 u30 u31 u32 h H locs ls w hl
    unfold f_X8_judged_b63 at h
    refine lv_iadd hx hb dX8_judged_63 ?_
    refine lv_istore (lv' := [(5, .int (u31 + u32)), (0, .ref v0), (1, .int v1), (2, .int v2), (3, .int v3), (4, .int v4), (6, .int u29), (7, .int u30)]) hx hb dX8_judged_64 hl (by decide) rfl (fun ls hl => ?_)
    refine lv_aload_n hx hb dX8_judged_66 rfl (lv_at hl 1 rfl) ?_
    refine lv_iload hx hb dX8_judged_67 (lv_at hl 7 rfl) ?_
    refine lv_iload hx hb dX8_judged_69 (lv_at hl 6 rfl) ?_
    obtain ⟨_, ho, h⟩ := bs h
    obtain ⟨S33, hc, h⟩ := bs h
    refine o_backv w hLA (o_runV (As := [.int u30, .int u29]) (rest := []) C w (c_X8_meets l D G L S28 v0 u30 u29 S33 hc) ml_X8_100 mv_X8_meets hR_X8_meets ho rfl hl.1 rfl (Nat.le_of_ble_eq_true rfl) dX8_judged_71 hcs) (fun H locs w => ?_)
    exact hb74 _ _ _ h H locs ls w (lv_sub hl [1, 2, 3, 4, 5, 0, 6] rfl)
  intro H locs ls w hl
  have hl : lv_has ls 8 [(0, .ref v0), (1, .int v1), (2, .int v2), (3, .int v3), (4, .int v4), (5, .int t22), (6, .int t23)] := hl
  have w : Wd D G L A H0 S24 H locs := w
  refine lv_iload hx hb dX8_judged_10 (lv_at hl 6 rfl) ?_
  refine lv_aload_n hx hb dX8_judged_12 rfl (lv_at hl 0 rfl) ?_
  obtain ⟨x34, hx34, h⟩ := bs h
  refine o_gR C w hx34 fl_X8_8 dX8_judged_13 ?_
  refine lv_iconst (v := 2) hx hb dX8_judged_16 (by decide) ?_
  obtain ⟨x35, hx35, h⟩ := bs h
  refine o_ldI C w hx35 dX8_judged_17 ?_
  refine lv_icmp_ge (tgt := 80) hx hb dX8_judged_18 (by decide) (fun cc18 => ?_) (fun cc18 => ?_)
  · have h := it cc18 h
    exact hE10 _ _ (hend10 _ (Option.some.inj h).symm).symm H locs ls w (lv_sub hl [0, 5] rfl)
  · have h := ie cc18 h
    refine lv_aload_n hx hb dX8_judged_21 rfl (lv_at hl 0 rfl) ?_
    refine lv_iload_n hx hb dX8_judged_22 rfl (lv_at hl 1 rfl) ?_
    refine lv_iload hx hb dX8_judged_23 (lv_at hl 6 rfl) ?_
    obtain ⟨_, ho, h⟩ := bs h
    obtain ⟨x36, hc, h⟩ := bs h
    refine o_backi w hLA (o_runV (As := [.int v1, .int t23]) (rest := []) C w (c_X8_isLeft l D G L S24 v0 v1 t23 x36 hc) ml_X8_93 mv_X8_isLeft hR_X8_isLeft ho rfl hl.1 rfl (Nat.le_of_ble_eq_true rfl) dX8_judged_25 hcs) (fun H locs w => ?_)
    refine lv_if_ne (tgt := 34) hx hb dX8_judged_28 (by decide) (fun cc28 => ?_) (fun cc28 => ?_)
    · have h := ie cc28 h
      refine lv_aload_n hx hb dX8_judged_34 rfl (lv_at hl 0 rfl) ?_
      refine lv_iload hx hb dX8_judged_35 (lv_at hl 6 rfl) ?_
      refine lv_iload_n hx hb dX8_judged_37 rfl (lv_at hl 2 rfl) ?_
      refine lv_iload_n hx hb dX8_judged_38 rfl (lv_at hl 3 rfl) ?_
      refine lv_iload hx hb dX8_judged_39 (lv_at hl 4 rfl) ?_
      obtain ⟨_, ho, h⟩ := bs h
      obtain ⟨x37, S38, hc, h⟩ := bs2 h
      refine o_backi w hLA (o_runV (As := [.int t23, .int v2, .int v3, .int v4]) (rest := []) C w (c_X8_answerIn l D G L S24 v0 t23 v2 v3 v4 (x37, S38) hc) ml_X8_96 mv_X8_answerIn hR_X8_answerIn ho rfl hl.1 rfl (Nat.le_of_ble_eq_true rfl) dX8_judged_41 hcs) (fun H locs w => ?_)
      refine lv_istore (lv' := [(7, .int x37), (0, .ref v0), (1, .int v1), (2, .int v2), (3, .int v3), (4, .int v4), (5, .int t22), (6, .int t23)]) hx hb dX8_judged_44 hl (by decide) rfl (fun ls hl => ?_)
      refine lv_iload hx hb dX8_judged_46 (lv_at hl 6 rfl) ?_
      refine lv_aload_n hx hb dX8_judged_48 rfl (lv_at hl 1 rfl) ?_
      obtain ⟨x39, hx39, h⟩ := bs h
      refine o_gR C w hx39 fl_X8_24 dX8_judged_49 ?_
      refine lv_iload hx hb dX8_judged_52 (lv_at hl 0 rfl) ?_
      obtain ⟨x40, hx40, h⟩ := bs h
      refine o_ldZ C w hx40 dX8_judged_54 ?_
      refine lv_if_eq (tgt := 62) hx hb dX8_judged_55 (by decide) (fun cc55 => ?_) (fun cc55 => ?_)
      · have h := it cc55 h
        refine lv_iconst (v := 1) hx hb dX8_judged_62 (by decide) ?_
        exact hb63 _ _ _ _ _ h H locs ls w (lv_sub hl [1, 2, 3, 4, 5, 7, 0] rfl)
      · have h := ie cc55 h
        refine lv_iconst (v := 0) hx hb dX8_judged_58 (by decide) ?_
        refine lv_goto (tgt := 63) hx hb dX8_judged_59 (by decide) ?_
        exact hb63 _ _ _ _ _ h H locs ls w (lv_sub hl [1, 2, 3, 4, 5, 7, 0] rfl)
    · have h := it cc28 h
      refine lv_goto (tgt := 74) hx hb dX8_judged_31 (by decide) ?_
      exact hb74 _ _ _ h H locs ls w (lv_sub hl [0, 1, 2, 3, 4, 5, 6] rfl)
set_option maxHeartbeats 4000000 in
set_option maxRecDepth 100000 in
theorem c_X8_judged (l : Launch) (D : va_G) (G : Nat → ClassId) (L : List Nat) (S : PH) (v0 : Nat) (v1 : Int32) (v2 : Int32) (v3 : Int32) (v4 : Int32) (r : Int32 × PH) (h : f_X8_judged S v0 v1 v2 v3 v4 = some r) : Met l yX8_judged [Cond.code yX8_judged cX8_judged 8 (some .int)] ({ frames := 4, cells := 0, slots := 0, locals := 90 }) (va_Pc [.ref v0, .int v1, .int v2, .int v3, .int v4] (PreU D G L S)) (Qi D G L r.1 r.2) 0 0 (inL L) := by
  refine Met.ofW (cc := cX8_judged) (maxL := 8) (ret := (some .int)) (by decide) rfl ?_
  intro p e s m args below meth c s₁ B hml hv
  obtain ⟨rfl, hpre⟩ := hv
  obtain ⟨C, w⟩ := o_ent (own := RX8) rfl B hml hpre
  have hl := lv_entry ([.ref v0, .int v1, .int v2, .int v3, .int v4]) (n := 8) (Nat.le_of_ble_eq_true rfl)
  rw [lg_entry_eq]
  generalize (lg_sl ([.ref v0, .int v1, .int v2, .int v3, .int v4]) ++ List.replicate (8 - (lg_sl ([.ref v0, .int v1, .int v2, .int v3, .int v4])).length) Slot.unset).toArray = ls at hl ⊢
  exact w_X8_judged C (fun _ h => h) ⟨Nat.zero_le _, Nat.zero_le _⟩ ⟨rfl, rfl, Nat.le_of_ble_eq_true rfl, Nat.le_of_ble_eq_true rfl⟩ ⟨rfl, rfl, Nat.le_of_ble_eq_true rfl, Nat.le_of_ble_eq_true rfl⟩ ⟨rfl, rfl, Nat.le_of_ble_eq_true rfl, Nat.le_of_ble_eq_true rfl⟩ ⟨rfl, rfl, Nat.le_of_ble_eq_true rfl, Nat.le_of_ble_eq_true rfl⟩ ⟨rfl, rfl, Nat.le_of_ble_eq_true rfl, Nat.le_of_ble_eq_true rfl⟩ S v0 v1 v2 v3 v4 r h (fun v S9 H locs ls pc w hv hd => by subst hv; exact o_iret C w B.returns B.notSynchronized hd) _ _ _ w hl

def f_X8_would (S : PH) (v0 : Nat) (v1 : Int32) (v2 : Int32) (v3 : Int32) (v4 : Int32) : Option (Int32 × PH) :=
(f_X8_isAsker v1).bind fun x1 =>
if x1 = 0 then (
some ((-1 : Int32), S))
else (
(f_X8_isAsk v2 v4).bind fun x2 =>
if x2 = 0 then (
some ((-1 : Int32), S))
else (
(ckO S v0 8).bind fun _ =>
(f_X8_numbersOf S v0 v3).bind fun x3 =>
(ckO S v0 8).bind fun _ =>
bd2 (f_X8_judged S v0 v1 v2 x3 v4) fun x4 S5 =>
some (x4, S5)))
set_option maxHeartbeats 4000000 in
set_option maxRecDepth 100000 in
theorem w_X8_would {p : Program} {l : Launch} {e : Env} {R : Room} {s : State} {m : MethodId} {args : Array Value} {below : List Frame} {meth : Method} {c : Code} {cells slots : Nat} {Q : State → Prop} {D : va_G} {G : Nat → ClassId} {L : List Nat} {A : Nat → Prop} {H0 : Heap} (C : CX p s m c args D G cX8_would 5 RX8) (hLA : ∀ q ∈ L, A q) (hcs : cells ≤ R.cells ∧ slots ≤ R.slots) (hR_X8_isAsker : RoomOk R ({ frames := 1, cells := 0, slots := 0, locals := 22 }) 1) (hR_X8_isAsk : RoomOk R ({ frames := 1, cells := 0, slots := 0, locals := 22 }) 2) (hR_X8_numbersOf : RoomOk R ({ frames := 0, cells := 0, slots := 0, locals := 0 }) 4) (hR_X8_judged : RoomOk R ({ frames := 4, cells := 0, slots := 0, locals := 90 }) 8) (S : PH) (v0 : Nat) (v1 : Int32) (v2 : Int32) (v3 : Int32) (v4 : Int32) (r : Int32 × PH) (h : f_X8_would S v0 v1 v2 v3 v4 = some r) (hret : ∀ (v : Int32) (S9 : PH) (H : Heap) (locs : List Loc) (ls : Array Slot) (pc : Nat), Wd D G L A H0 S9 H locs → (v, S9) = r → decode cX8_would pc = .ok (.ireturn, 1) → W p l e R s m args below meth c H locs cells slots Q (F0 m pc ls [.int v])) : ∀ (H : Heap) (locs : List Loc) (ls : Array Slot), Wd D G L A H0 S H locs → lv_has ls 5 [(0, .ref v0), (1, .int v1), (2, .int v2), (3, .int v3), (4, .int v4)] → W p l e R s m args below meth c H locs cells slots Q (F0 m 0 ls []) := by
  have hx := C.1.1
  have hb := C.1.2.1
  unfold f_X8_would at h
  intro H locs ls w hl
  refine lv_iload_n hx hb dX8_would_0 rfl (lv_at hl 1 rfl) ?_
  obtain ⟨x1, hc, h⟩ := bs h
  refine o_backi w hLA (o_runS (As := [.int v1]) (rest := []) C w (c_X8_isAsker l D G L S v1 x1 hc) ml_X8_106 st_X8_isAsker hR_X8_isAsker rfl hl.1 rfl (Nat.le_of_ble_eq_true rfl) dX8_would_1 hcs) (fun H locs w => ?_)
  refine lv_if_eq (tgt := 32) hx hb dX8_would_4 (by decide) (fun cc4 => ?_) (fun cc4 => ?_)
  · have h := it cc4 h
    refine lv_iconst (v := -1) hx hb dX8_would_32 (by decide) ?_
    exact hret _ _ _ _ _ _ w (Option.some.inj h) dX8_would_33
  · have h := ie cc4 h
    refine lv_iload_n hx hb dX8_would_7 rfl (lv_at hl 2 rfl) ?_
    refine lv_iload hx hb dX8_would_8 (lv_at hl 4 rfl) ?_
    obtain ⟨x2, hc, h⟩ := bs h
    refine o_backi w hLA (o_runS (As := [.int v2, .int v4]) (rest := []) C w (c_X8_isAsk l D G L S v2 v4 x2 hc) ml_X8_109 st_X8_isAsk hR_X8_isAsk rfl hl.1 rfl (Nat.le_of_ble_eq_true rfl) dX8_would_10 hcs) (fun H locs w => ?_)
    refine lv_if_eq (tgt := 32) hx hb dX8_would_13 (by decide) (fun cc13 => ?_) (fun cc13 => ?_)
    · have h := it cc13 h
      refine lv_iconst (v := -1) hx hb dX8_would_32 (by decide) ?_
      exact hret _ _ _ _ _ _ w (Option.some.inj h) dX8_would_33
    · have h := ie cc13 h
      refine lv_aload_n hx hb dX8_would_16 rfl (lv_at hl 0 rfl) ?_
      refine lv_iload_n hx hb dX8_would_17 rfl (lv_at hl 1 rfl) ?_
      refine lv_iload_n hx hb dX8_would_18 rfl (lv_at hl 2 rfl) ?_
      refine lv_aload_n hx hb dX8_would_19 rfl (lv_at hl 0 rfl) ?_
      refine lv_iload_n hx hb dX8_would_20 rfl (lv_at hl 3 rfl) ?_
      obtain ⟨_, ho, h⟩ := bs h
      obtain ⟨x3, hc, h⟩ := bs h
      refine o_backi w hLA (o_runV (As := [.int v3]) (rest := [.int v2, .int v1, .ref v0]) C w (c_X8_numbersOf l D G L S v0 v3 x3 hc) ml_X8_112 mv_X8_numbersOf hR_X8_numbersOf ho rfl hl.1 rfl (Nat.le_of_ble_eq_true rfl) dX8_would_21 hcs) (fun H locs w => ?_)
      refine lv_iload hx hb dX8_would_24 (lv_at hl 4 rfl) ?_
      obtain ⟨_, ho, h⟩ := bs h
      obtain ⟨x4, S5, hc, h⟩ := bs2 h
      refine o_backi w hLA (o_runV (As := [.int v1, .int v2, .int x3, .int v4]) (rest := []) C w (c_X8_judged l D G L S v0 v1 v2 x3 v4 (x4, S5) hc) ml_X8_115 mv_X8_judged hR_X8_judged ho rfl hl.1 rfl (Nat.le_of_ble_eq_true rfl) dX8_would_26 hcs) (fun H locs w => ?_)
      refine lv_goto (tgt := 33) hx hb dX8_would_29 (by decide) ?_
      exact hret _ _ _ _ _ _ w (Option.some.inj h) dX8_would_33
set_option maxHeartbeats 4000000 in
set_option maxRecDepth 100000 in
theorem c_X8_would (l : Launch) (D : va_G) (G : Nat → ClassId) (L : List Nat) (S : PH) (v0 : Nat) (v1 : Int32) (v2 : Int32) (v3 : Int32) (v4 : Int32) (r : Int32 × PH) (h : f_X8_would S v0 v1 v2 v3 v4 = some r) : Met l yX8_would [Cond.code yX8_would cX8_would 5 (some .int)] ({ frames := 5, cells := 0, slots := 0, locals := 117 }) (va_Pc [.ref v0, .int v1, .int v2, .int v3, .int v4] (PreU D G L S)) (Qi D G L r.1 r.2) 0 0 (inL L) := by
  refine Met.ofW (cc := cX8_would) (maxL := 5) (ret := (some .int)) (by decide) rfl ?_
  intro p e s m args below meth c s₁ B hml hv
  obtain ⟨rfl, hpre⟩ := hv
  obtain ⟨C, w⟩ := o_ent (own := RX8) rfl B hml hpre
  have hl := lv_entry ([.ref v0, .int v1, .int v2, .int v3, .int v4]) (n := 5) (Nat.le_of_ble_eq_true rfl)
  rw [lg_entry_eq]
  generalize (lg_sl ([.ref v0, .int v1, .int v2, .int v3, .int v4]) ++ List.replicate (5 - (lg_sl ([.ref v0, .int v1, .int v2, .int v3, .int v4])).length) Slot.unset).toArray = ls at hl ⊢
  exact w_X8_would C (fun _ h => h) ⟨Nat.zero_le _, Nat.zero_le _⟩ ⟨rfl, rfl, Nat.le_of_ble_eq_true rfl, Nat.le_of_ble_eq_true rfl⟩ ⟨rfl, rfl, Nat.le_of_ble_eq_true rfl, Nat.le_of_ble_eq_true rfl⟩ ⟨rfl, rfl, Nat.le_of_ble_eq_true rfl, Nat.le_of_ble_eq_true rfl⟩ ⟨rfl, rfl, Nat.le_of_ble_eq_true rfl, Nat.le_of_ble_eq_true rfl⟩ S v0 v1 v2 v3 v4 r h (fun v S9 H locs ls pc w hv hd => by subst hv; exact o_iret C w B.returns B.notSynchronized hd) _ _ _ w hl

def f_X8_known (S : PH) (v0 : Nat) (v1 : Int32) : Option (Int32) :=
(gR S v0 8 0).bind fun x1 =>
(ldI S x1 (0 : Int32)).bind fun x2 =>
some (v1 &&& (((1 : Int32) <<< (x2 &&& 31)) - (1 : Int32)))
set_option maxHeartbeats 4000000 in
set_option maxRecDepth 100000 in
theorem w_X8_known {p : Program} {l : Launch} {e : Env} {R : Room} {s : State} {m : MethodId} {args : Array Value} {below : List Frame} {meth : Method} {c : Code} {cells slots : Nat} {Q : State → Prop} {D : va_G} {G : Nat → ClassId} {L : List Nat} {A : Nat → Prop} {H0 : Heap} (C : CX p s m c args D G cX8_known 2 RX8) (hLA : ∀ q ∈ L, A q) (hcs : cells ≤ R.cells ∧ slots ≤ R.slots)  (S : PH) (v0 : Nat) (v1 : Int32) (r : Int32) (h : f_X8_known S v0 v1 = some r) (hret : ∀ (v : Int32) (H : Heap) (locs : List Loc) (ls : Array Slot) (pc : Nat), Wd D G L A H0 S H locs → v = r → decode cX8_known pc = .ok (.ireturn, 1) → W p l e R s m args below meth c H locs cells slots Q (F0 m pc ls [.int v])) : ∀ (H : Heap) (locs : List Loc) (ls : Array Slot), Wd D G L A H0 S H locs → lv_has ls 2 [(0, .ref v0), (1, .int v1)] → W p l e R s m args below meth c H locs cells slots Q (F0 m 0 ls []) := by
  have hx := C.1.1
  have hb := C.1.2.1
  unfold f_X8_known at h
  intro H locs ls w hl
  refine lv_iload_n hx hb dX8_known_0 rfl (lv_at hl 1 rfl) ?_
  refine lv_iconst (v := 1) hx hb dX8_known_1 (by decide) ?_
  refine lv_aload_n hx hb dX8_known_2 rfl (lv_at hl 0 rfl) ?_
  obtain ⟨x1, hx1, h⟩ := bs h
  refine o_gR C w hx1 fl_X8_8 dX8_known_3 ?_
  refine lv_iconst (v := 0) hx hb dX8_known_6 (by decide) ?_
  obtain ⟨x2, hx2, h⟩ := bs h
  refine o_ldI C w hx2 dX8_known_7 ?_
  refine lv_ishl hx hb dX8_known_8 ?_
  refine lv_iconst (v := 1) hx hb dX8_known_9 (by decide) ?_
  refine lv_isub hx hb dX8_known_10 ?_
  refine lv_iand hx hb dX8_known_11 ?_
  exact hret _ _ _ _ _ w (Option.some.inj h) dX8_known_12
set_option maxHeartbeats 4000000 in
set_option maxRecDepth 100000 in
theorem c_X8_known (l : Launch) (D : va_G) (G : Nat → ClassId) (L : List Nat) (S : PH) (v0 : Nat) (v1 : Int32) (r : Int32) (h : f_X8_known S v0 v1 = some r) : Met l yX8_known [Cond.code yX8_known cX8_known 2 (some .int)] ({ frames := 0, cells := 0, slots := 0, locals := 0 }) (va_Pc [.ref v0, .int v1] (PreU D G L S)) (Qi D G L r S) 0 0 (inL L) := by
  refine Met.ofW (cc := cX8_known) (maxL := 2) (ret := (some .int)) (by decide) rfl ?_
  intro p e s m args below meth c s₁ B hml hv
  obtain ⟨rfl, hpre⟩ := hv
  obtain ⟨C, w⟩ := o_ent (own := RX8) rfl B hml hpre
  have hl := lv_entry ([.ref v0, .int v1]) (n := 2) (Nat.le_of_ble_eq_true rfl)
  rw [lg_entry_eq]
  generalize (lg_sl ([.ref v0, .int v1]) ++ List.replicate (2 - (lg_sl ([.ref v0, .int v1])).length) Slot.unset).toArray = ls at hl ⊢
  exact w_X8_known C (fun _ h => h) ⟨Nat.zero_le _, Nat.zero_le _⟩  S v0 v1 r h (fun v H locs ls pc w hv hd => by subst hv; exact o_iret C w B.returns B.notSynchronized hd) _ _ _ w hl
end
section
def f_X8_ask_b262 (S : PH) (v0 : Nat) (v1 : Int32) (v2 : Int32) (v4 : Int32) (v5 : Int32) (v6 : Int32) (v8 : Int32) : Option ((Int32 × PH) ⊕ (PH)) :=
some (.inl ((v8 + 1), S))
def f_X8_ask_b256 (S : PH) (v0 : Nat) (v1 : Int32) (v8 : Int32) (v9 : Int32) : Option ((Int32 × PH) ⊕ (PH)) :=
some (.inl ((v9 + 1), S))
def f_X8_ask_L209 (S : PH) (v0 : Nat) (v1 : Int32) (v8 : Int32) (v9 : Int32) : Option ((Int32 × PH) ⊕ (PH)) :=
if (4 : Int32) ≤ v9 then (
some (.inr S))
else (
(gR S v0 8 0).bind fun x22 =>
(ldI S x22 ((6 : Int32) + v9)).bind fun x23 =>
(gR S v0 8 0).bind fun x24 =>
(ldI S x24 ((6 : Int32) + v1)).bind fun x25 =>
if x23 = x25 then (
(gR S v0 8 0).bind fun x26 =>
(stI S x26 (((1130 : Int32) + ((4096 : Int32) * v9)) + v8) (0 : Int32)).bind fun S27 =>
f_X8_ask_b256 S27 v0 v1 v8 v9)
else (
f_X8_ask_b256 S v0 v1 v8 v9))
def f_X8_ask_L166 (S : PH) (v0 : Nat) (v1 : Int32) (v2 : Int32) (v4 : Int32) (v5 : Int32) (v6 : Int32) (v8 : Int32) : Option ((Int32 × PH) ⊕ (PH)) :=
(gR S v0 8 0).bind fun x17 =>
(ldI S x17 (2 : Int32)).bind fun x18 =>
if x18 ≤ v8 then (
some (.inr S))
else (
(ckO S v0 8).bind fun _ =>
(f_X8_isLeft S v0 v1 v8).bind fun x19 =>
if x19 = 0 then (
f_X8_ask_b262 S v0 v1 v2 v4 v5 v6 v8)
else (
(ckO S v0 8).bind fun _ =>
bd2 (f_X8_answerIn S v0 v8 v2 v5 v4) fun x20 S21 =>
if x20 = v6 then (
f_X8_ask_b262 S21 v0 v1 v2 v4 v5 v6 v8)
else (
(lpo (fun x : Int32 × PH => f_X8_ask_L209 x.2 v0 v1 v8 x.1) FU ((0 : Int32), S21)).bind fun S28 =>
f_X8_ask_b262 S28 v0 v1 v2 v4 v5 v6 v8)))
def f_X8_ask_b64 (S : PH) (v0 : Nat) (v1 : Int32) (v2 : Int32) (v3 : Int32) (v4 : Int32) (v5 : Int32) (s0 : Int32) : Option (Int32 × PH) :=
(gR S v0 8 0).bind fun x1 =>
(ldI S x1 (3 : Int32)).bind fun x2 =>
(gR S v0 8 0).bind fun x3 =>
(stI S x3 ((100 : Int32) + ((5 : Int32) * x2)) v1).bind fun S4 =>
(gR S4 v0 8 0).bind fun x5 =>
(stI S4 x5 (((100 : Int32) + ((5 : Int32) * x2)) + (1 : Int32)) v2).bind fun S6 =>
(gR S6 v0 8 0).bind fun x7 =>
(ckO S6 v0 8).bind fun _ =>
(f_X8_known S6 v0 v3).bind fun x8 =>
(stI S6 x7 (((100 : Int32) + ((5 : Int32) * x2)) + (2 : Int32)) x8).bind fun S9 =>
(gR S9 v0 8 0).bind fun x10 =>
(stI S9 x10 (((100 : Int32) + ((5 : Int32) * x2)) + (3 : Int32)) v4).bind fun S11 =>
(gR S11 v0 8 0).bind fun x12 =>
(stI S11 x12 (((100 : Int32) + ((5 : Int32) * x2)) + (4 : Int32)) s0).bind fun S13 =>
(gR S13 v0 8 0).bind fun x14 =>
(ldI S13 x14 (3 : Int32)).bind fun x15 =>
(stI S13 x14 (3 : Int32) (x15 + (1 : Int32))).bind fun S16 =>
if s0 = (-2 : Int32) then (
(gR S16 v0 8 0).bind fun x63 =>
(ldI S16 x63 (4 : Int32)).bind fun x64 =>
(stI S16 x63 (4 : Int32) (x64 + (1 : Int32))).bind fun S65 =>
some (s0, S65))
else (
(lpo (fun x : Int32 × PH => f_X8_ask_L166 x.2 v0 v1 v2 v4 v5 s0 x.1) FU ((0 : Int32), S16)).bind fun S40 =>
some (s0, S40))
def f_X8_ask (S : PH) (v0 : Nat) (v1 : Int32) (v2 : Int32) (v3 : Int32) (v4 : Int32) : Option (Int32 × PH) :=
(f_X8_isAsker v1).bind fun x66 =>
if x66 = 0 then (
some ((-1 : Int32), S))
else (
(f_X8_isAsk v2 v4).bind fun x67 =>
if x67 = 0 then (
some ((-1 : Int32), S))
else (
(gR S v0 8 0).bind fun x68 =>
(ldI S x68 (3 : Int32)).bind fun x69 =>
if x69 = (200 : Int32) then (
some ((-1 : Int32), S))
else (
(ckO S v0 8).bind fun _ =>
(f_X8_numbersOf S v0 v3).bind fun x70 =>
(ckO S v0 8).bind fun _ =>
bd2 (f_X8_judged S v0 v1 v2 x70 v4) fun x71 S72 =>
if x71 = 0 then (
f_X8_ask_b64 S72 v0 v1 v2 v3 v4 x70 (-2 : Int32))
else (
(ckO S72 v0 8).bind fun _ =>
bd2 (f_X8_hiddenAnswer S72 v0 v2 x70 v4) fun x73 S74 =>
f_X8_ask_b64 S74 v0 v1 v2 v3 v4 x70 x73))))
set_option maxHeartbeats 4000000 in
set_option maxRecDepth 100000 in
theorem w_X8_ask {p : Program} {l : Launch} {e : Env} {R : Room} {s : State} {m : MethodId} {args : Array Value} {below : List Frame} {meth : Method} {c : Code} {cells slots : Nat} {Q : State → Prop} {D : va_G} {G : Nat → ClassId} {L : List Nat} {A : Nat → Prop} {H0 : Heap} (C : CX p s m c args D G cX8_ask 10 RX8) (hLA : ∀ q ∈ L, A q) (hcs : cells ≤ R.cells ∧ slots ≤ R.slots) (hR_X8_isAsker : RoomOk R ({ frames := 1, cells := 0, slots := 0, locals := 22 }) 1) (hR_X8_isAsk : RoomOk R ({ frames := 1, cells := 0, slots := 0, locals := 22 }) 2) (hR_X8_numbersOf : RoomOk R ({ frames := 0, cells := 0, slots := 0, locals := 0 }) 4) (hR_X8_judged : RoomOk R ({ frames := 4, cells := 0, slots := 0, locals := 90 }) 8) (hR_X8_hiddenAnswer : RoomOk R ({ frames := 1, cells := 0, slots := 0, locals := 22 }) 5) (hR_X8_known : RoomOk R ({ frames := 0, cells := 0, slots := 0, locals := 0 }) 2) (hR_X8_isLeft : RoomOk R ({ frames := 0, cells := 0, slots := 0, locals := 0 }) 3) (hR_X8_answerIn : RoomOk R ({ frames := 3, cells := 0, slots := 0, locals := 65 }) 6) (S : PH) (v0 : Nat) (v1 : Int32) (v2 : Int32) (v3 : Int32) (v4 : Int32) (r : Int32 × PH) (h : f_X8_ask S v0 v1 v2 v3 v4 = some r) (hret : ∀ (v : Int32) (S9 : PH) (H : Heap) (locs : List Loc) (ls : Array Slot) (pc : Nat), Wd D G L A H0 S9 H locs → (v, S9) = r → decode cX8_ask pc = .ok (.ireturn, 1) → W p l e R s m args below meth c H locs cells slots Q (F0 m pc ls [.int v])) : ∀ (H : Heap) (locs : List Loc) (ls : Array Slot), Wd D G L A H0 S H locs → lv_has ls 10 [(0, .ref v0), (1, .int v1), (2, .int v2), (3, .int v3), (4, .int v4)] → W p l e R s m args below meth c H locs cells slots Q (F0 m 0 ls []) := by
  have hx := C.1.1
  have hb := C.1.2.1
  unfold f_X8_ask at h
  have hb64 : ∀ (S75 : PH) (u76 : Nat) (u77 : Int32) (u78 : Int32) (u79 : Int32) (u80 : Int32) (u81 : Int32) (u82 : Int32), f_X8_ask_b64 S75 u76 u77 u78 u79 u80 u81 u82 = some r → ∀ (H : Heap) (locs : List Loc) (ls : Array Slot), Wd D G L A H0 S75 H locs → lv_has ls 10 [(0, .ref u76), (1, .int u77), (2, .int u78), (3, .int u79), (4, .int u80), (5, .int u81)] → W p l e R s m args below meth c H locs cells slots Q (F0 m 64 ls [.int u82]) := by
    intro S75 u76 u77 u78 u79 u80 u81 u82 h H locs ls w hl
    unfold f_X8_ask_b64 at h
    refine lv_istore (lv' := [(6, .int u82), (0, .ref u76), (1, .int u77), (2, .int u78), (3, .int u79), (4, .int u80), (5, .int u81)]) hx hb dX8_ask_64 hl (by decide) rfl (fun ls hl => ?_)
    refine lv_bipush (v := 100) hx hb dX8_ask_66 (by decide) ?_
    refine lv_iconst (v := 5) hx hb dX8_ask_68 (by decide) ?_
    refine lv_aload_n hx hb dX8_ask_69 rfl (lv_at hl 1 rfl) ?_
    obtain ⟨x83, hx83, h⟩ := bs h
    refine o_gR C w hx83 fl_X8_8 dX8_ask_70 ?_
    refine lv_iconst (v := 3) hx hb dX8_ask_73 (by decide) ?_
    obtain ⟨x84, hx84, h⟩ := bs h
    refine o_ldI C w hx84 dX8_ask_74 ?_
    refine lv_imul hx hb dX8_ask_75 ?_
    refine lv_iadd hx hb dX8_ask_76 ?_
    refine lv_istore (lv' := [(7, .int ((100 : Int32) + ((5 : Int32) * x84))), (6, .int u82), (0, .ref u76), (1, .int u77), (2, .int u78), (3, .int u79), (4, .int u80), (5, .int u81)]) hx hb dX8_ask_77 hl (by decide) rfl (fun ls hl => ?_)
    refine lv_aload_n hx hb dX8_ask_79 rfl (lv_at hl 2 rfl) ?_
    obtain ⟨x85, hx85, h⟩ := bs h
    refine o_gR C w hx85 fl_X8_8 dX8_ask_80 ?_
    refine lv_iload hx hb dX8_ask_83 (lv_at hl 0 rfl) ?_
    refine lv_iload_n hx hb dX8_ask_85 rfl (lv_at hl 3 rfl) ?_
    obtain ⟨S86, hS86, h⟩ := bs h
    refine o_stI C w hS86 dX8_ask_86 (fun H locs w => ?_)
    refine lv_aload_n hx hb dX8_ask_87 rfl (lv_at hl 2 rfl) ?_
    obtain ⟨x87, hx87, h⟩ := bs h
    refine o_gR C w hx87 fl_X8_8 dX8_ask_88 ?_
    refine lv_iload hx hb dX8_ask_91 (lv_at hl 0 rfl) ?_
    refine lv_iconst (v := 1) hx hb dX8_ask_93 (by decide) ?_
    refine lv_iadd hx hb dX8_ask_94 ?_
    refine lv_iload_n hx hb dX8_ask_95 rfl (lv_at hl 4 rfl) ?_
    obtain ⟨S88, hS88, h⟩ := bs h
    refine o_stI C w hS88 dX8_ask_96 (fun H locs w => ?_)
    refine lv_aload_n hx hb dX8_ask_97 rfl (lv_at hl 2 rfl) ?_
    obtain ⟨x89, hx89, h⟩ := bs h
    refine o_gR C w hx89 fl_X8_8 dX8_ask_98 ?_
    refine lv_iload hx hb dX8_ask_101 (lv_at hl 0 rfl) ?_
    refine lv_iconst (v := 2) hx hb dX8_ask_103 (by decide) ?_
    refine lv_iadd hx hb dX8_ask_104 ?_
    refine lv_aload_n hx hb dX8_ask_105 rfl (lv_at hl 2 rfl) ?_
    refine lv_iload_n hx hb dX8_ask_106 rfl (lv_at hl 5 rfl) ?_
    obtain ⟨_, ho, h⟩ := bs h
    obtain ⟨x90, hc, h⟩ := bs h
    refine o_backi w hLA (o_runV (As := [.int u79]) (rest := [.int (((100 : Int32) + ((5 : Int32) * x84)) + (2 : Int32)), .ref x89]) C w (c_X8_known l D G L S88 u76 u79 x90 hc) ml_X8_122 mv_X8_known hR_X8_known ho rfl hl.1 rfl (Nat.le_of_ble_eq_true rfl) dX8_ask_107 hcs) (fun H locs w => ?_)
    obtain ⟨S91, hS91, h⟩ := bs h
    refine o_stI C w hS91 dX8_ask_110 (fun H locs w => ?_)
    refine lv_aload_n hx hb dX8_ask_111 rfl (lv_at hl 2 rfl) ?_
    obtain ⟨x92, hx92, h⟩ := bs h
    refine o_gR C w hx92 fl_X8_8 dX8_ask_112 ?_
    refine lv_iload hx hb dX8_ask_115 (lv_at hl 0 rfl) ?_
    refine lv_iconst (v := 3) hx hb dX8_ask_117 (by decide) ?_
    refine lv_iadd hx hb dX8_ask_118 ?_
    refine lv_iload hx hb dX8_ask_119 (lv_at hl 6 rfl) ?_
    obtain ⟨S93, hS93, h⟩ := bs h
    refine o_stI C w hS93 dX8_ask_121 (fun H locs w => ?_)
    refine lv_aload_n hx hb dX8_ask_122 rfl (lv_at hl 2 rfl) ?_
    obtain ⟨x94, hx94, h⟩ := bs h
    refine o_gR C w hx94 fl_X8_8 dX8_ask_123 ?_
    refine lv_iload hx hb dX8_ask_126 (lv_at hl 0 rfl) ?_
    refine lv_iconst (v := 4) hx hb dX8_ask_128 (by decide) ?_
    refine lv_iadd hx hb dX8_ask_129 ?_
    refine lv_iload hx hb dX8_ask_130 (lv_at hl 1 rfl) ?_
    obtain ⟨S95, hS95, h⟩ := bs h
    refine o_stI C w hS95 dX8_ask_132 (fun H locs w => ?_)
    refine lv_aload_n hx hb dX8_ask_133 rfl (lv_at hl 2 rfl) ?_
    obtain ⟨x96, hx96, h⟩ := bs h
    refine o_gR C w hx96 fl_X8_8 dX8_ask_134 ?_
    refine lv_iconst (v := 3) hx hb dX8_ask_137 (by decide) ?_
    refine lv_dup2_11 hx hb dX8_ask_138 rfl rfl ?_
    obtain ⟨x97, hx97, h⟩ := bs h
    refine o_ldI C w hx97 dX8_ask_139 ?_
    refine lv_iconst (v := 1) hx hb dX8_ask_140 (by decide) ?_
    refine lv_iadd hx hb dX8_ask_141 ?_
    obtain ⟨S98, hS98, h⟩ := bs h
    refine o_stI C w hS98 dX8_ask_142 (fun H locs w => ?_)
    refine lv_iload hx hb dX8_ask_143 (lv_at hl 1 rfl) ?_
    refine lv_bipush (v := -2) hx hb dX8_ask_145 (by decide) ?_
    refine lv_icmp_ne (tgt := 163) hx hb dX8_ask_147 (by decide) (fun cc147 => ?_) (fun cc147 => ?_)
    · have h := ie cc147 h
      refine lv_iconst (v := 0) hx hb dX8_ask_163 (by decide) ?_
      refine lv_istore (lv' := [(8, .int (0 : Int32)), (7, .int ((100 : Int32) + ((5 : Int32) * x84))), (6, .int u82), (0, .ref u76), (1, .int u77), (2, .int u78), (3, .int u79), (4, .int u80), (5, .int u81)]) hx hb dX8_ask_164 hl (by decide) rfl (fun ls hl => ?_)
      obtain ⟨S99, hL166, h⟩ := bs h
      have hE166 : ∀ (q100 : PH), S99 = q100 → ∀ (H : Heap) (locs : List Loc) (ls : Array Slot), Wd D G L A H0 q100 H locs → lv_has ls 10 [(6, .int u82)] → W p l e R s m args below meth c H locs cells slots Q (F0 m 268 ls []) := by
        intro q100 he
        cases he
        intro H locs ls w hl
        refine lv_iload hx hb dX8_ask_268 (lv_at hl 0 rfl) ?_
        exact hret _ _ _ _ _ _ w (Option.some.inj h) dX8_ask_270
      refine lpo_W (P := fun x : Int32 × PH => ∀ (H : Heap) (locs : List Loc) (ls : Array Slot), Wd D G L A H0 x.2 H locs → lv_has ls 10 [(0, .ref u76), (1, .int u77), (2, .int u78), (4, .int u80), (5, .int u81), (6, .int u82), (8, .int x.1)] → W p l e R s m args below meth c H locs cells slots Q (F0 m 166 ls [])) ?_ FU _ hL166 H locs ls w (lv_sub hl [3, 4, 5, 7, 8, 2, 0] rfl)
      intro x y166 h hnext166 hend166
      obtain ⟨t101, S102⟩ := x
      have h : f_X8_ask_L166 S102 u76 u77 u78 u80 u81 u82 t101 = some y166 := h
      unfold f_X8_ask_L166 at h
      have hb262 : ∀ (S103 : PH) (u104 : Int32), f_X8_ask_b262 S103 u76 u77 u78 u80 u81 u82 u104 = some y166 → ∀ (H : Heap) (locs : List Loc) (ls : Array Slot), Wd D G L A H0 S103 H locs → lv_has ls 10 [(0, .ref u76), (1, .int u77), (2, .int u78), (4, .int u80), (5, .int u81), (6, .int u82), (8, .int u104)] → W p l e R s m args below meth c H locs cells slots Q (F0 m 262 ls []) := by
        intro S103 u104 h H locs ls w hl
        unfold f_X8_ask_b262 at h
        refine lv_iinc (v := (u104 + 1)) (lv' := [(8, .int (u104 + 1)), (0, .ref u76), (1, .int u77), (2, .int u78), (4, .int u80), (5, .int u81), (6, .int u82)]) hx hb dX8_ask_262 hl (k := 6) rfl rfl (by decide) rfl (fun ls hl => ?_)
        refine lv_goto (tgt := 166) hx hb dX8_ask_265 (by decide) ?_
        exact hnext166 _ (Option.some.inj h).symm H locs ls w (lv_sub hl [1, 2, 3, 4, 5, 6, 0] rfl)
      intro H locs ls w hl
      have hl : lv_has ls 10 [(0, .ref u76), (1, .int u77), (2, .int u78), (4, .int u80), (5, .int u81), (6, .int u82), (8, .int t101)] := hl
      have w : Wd D G L A H0 S102 H locs := w
      refine lv_iload hx hb dX8_ask_166 (lv_at hl 6 rfl) ?_
      refine lv_aload_n hx hb dX8_ask_168 rfl (lv_at hl 0 rfl) ?_
      obtain ⟨x105, hx105, h⟩ := bs h
      refine o_gR C w hx105 fl_X8_8 dX8_ask_169 ?_
      refine lv_iconst (v := 2) hx hb dX8_ask_172 (by decide) ?_
      obtain ⟨x106, hx106, h⟩ := bs h
      refine o_ldI C w hx106 dX8_ask_173 ?_
      refine lv_icmp_ge (tgt := 268) hx hb dX8_ask_174 (by decide) (fun cc174 => ?_) (fun cc174 => ?_)
      · have h := it cc174 h
        exact hE166 _ (hend166 _ (Option.some.inj h).symm).symm H locs ls w (lv_sub hl [5] rfl)
      · have h := ie cc174 h
        refine lv_aload_n hx hb dX8_ask_177 rfl (lv_at hl 0 rfl) ?_
        refine lv_iload_n hx hb dX8_ask_178 rfl (lv_at hl 1 rfl) ?_
        refine lv_iload hx hb dX8_ask_179 (lv_at hl 6 rfl) ?_
        obtain ⟨_, ho, h⟩ := bs h
        obtain ⟨x107, hc, h⟩ := bs h
        refine o_backi w hLA (o_runV (As := [.int u77, .int t101]) (rest := []) C w (c_X8_isLeft l D G L S102 u76 u77 t101 x107 hc) ml_X8_93 mv_X8_isLeft hR_X8_isLeft ho rfl hl.1 rfl (Nat.le_of_ble_eq_true rfl) dX8_ask_181 hcs) (fun H locs w => ?_)
        refine lv_if_eq (tgt := 262) hx hb dX8_ask_184 (by decide) (fun cc184 => ?_) (fun cc184 => ?_)
        · have h := it cc184 h
          exact hb262 _ _ h H locs ls w (lv_sub hl [0, 1, 2, 3, 4, 5, 6] rfl)
        · have h := ie cc184 h
          refine lv_aload_n hx hb dX8_ask_187 rfl (lv_at hl 0 rfl) ?_
          refine lv_iload hx hb dX8_ask_188 (lv_at hl 6 rfl) ?_
          refine lv_iload_n hx hb dX8_ask_190 rfl (lv_at hl 2 rfl) ?_
          refine lv_iload hx hb dX8_ask_191 (lv_at hl 4 rfl) ?_
          refine lv_iload hx hb dX8_ask_193 (lv_at hl 3 rfl) ?_
          obtain ⟨_, ho, h⟩ := bs h
          obtain ⟨x108, S109, hc, h⟩ := bs2 h
          refine o_backi w hLA (o_runV (As := [.int t101, .int u78, .int u81, .int u80]) (rest := []) C w (c_X8_answerIn l D G L S102 u76 t101 u78 u81 u80 (x108, S109) hc) ml_X8_96 mv_X8_answerIn hR_X8_answerIn ho rfl hl.1 rfl (Nat.le_of_ble_eq_true rfl) dX8_ask_195 hcs) (fun H locs w => ?_)
          refine lv_iload hx hb dX8_ask_198 (lv_at hl 5 rfl) ?_
          refine lv_icmp_ne (tgt := 206) hx hb dX8_ask_200 (by decide) (fun cc200 => ?_) (fun cc200 => ?_)
          · have h := ie cc200 h
            refine lv_iconst (v := 0) hx hb dX8_ask_206 (by decide) ?_
            refine lv_istore (lv' := [(9, .int (0 : Int32)), (0, .ref u76), (1, .int u77), (2, .int u78), (4, .int u80), (5, .int u81), (6, .int u82), (8, .int t101)]) hx hb dX8_ask_207 hl (by decide) rfl (fun ls hl => ?_)
            obtain ⟨S110, hL209, h⟩ := bs h
            have hE209 : ∀ (q111 : PH), S110 = q111 → ∀ (H : Heap) (locs : List Loc) (ls : Array Slot), Wd D G L A H0 q111 H locs → lv_has ls 10 [(0, .ref u76), (1, .int u77), (2, .int u78), (4, .int u80), (5, .int u81), (6, .int u82), (8, .int t101)] → W p l e R s m args below meth c H locs cells slots Q (F0 m 262 ls []) := by
              intro q111 he
              cases he
              intro H locs ls w hl
              exact hb262 _ _ h H locs ls w (lv_sub hl [0, 1, 2, 3, 4, 5, 6] rfl)
            refine lpo_W (P := fun x : Int32 × PH => ∀ (H : Heap) (locs : List Loc) (ls : Array Slot), Wd D G L A H0 x.2 H locs → lv_has ls 10 [(0, .ref u76), (1, .int u77), (2, .int u78), (4, .int u80), (5, .int u81), (6, .int u82), (8, .int t101), (9, .int x.1)] → W p l e R s m args below meth c H locs cells slots Q (F0 m 209 ls [])) ?_ FU _ hL209 H locs ls w (lv_sub hl [1, 2, 3, 4, 5, 6, 7, 0] rfl)
            intro x y209 h hnext209 hend209
            obtain ⟨t112, S113⟩ := x
            have h : f_X8_ask_L209 S113 u76 u77 t101 t112 = some y209 := h
            unfold f_X8_ask_L209 at h
            have hb256 : ∀ (S114 : PH) (u115 : Int32), f_X8_ask_b256 S114 u76 u77 t101 u115 = some y209 → ∀ (H : Heap) (locs : List Loc) (ls : Array Slot), Wd D G L A H0 S114 H locs → lv_has ls 10 [(0, .ref u76), (1, .int u77), (2, .int u78), (4, .int u80), (5, .int u81), (6, .int u82), (8, .int t101), (9, .int u115)] → W p l e R s m args below meth c H locs cells slots Q (F0 m 256 ls []) := by
              intro S114 u115 h H locs ls w hl
              unfold f_X8_ask_b256 at h
              refine lv_iinc (v := (u115 + 1)) (lv' := [(9, .int (u115 + 1)), (0, .ref u76), (1, .int u77), (2, .int u78), (4, .int u80), (5, .int u81), (6, .int u82), (8, .int t101)]) hx hb dX8_ask_256 hl (k := 7) rfl rfl (by decide) rfl (fun ls hl => ?_)
              refine lv_goto (tgt := 209) hx hb dX8_ask_259 (by decide) ?_
              exact hnext209 _ (Option.some.inj h).symm H locs ls w (lv_sub hl [1, 2, 3, 4, 5, 6, 7, 0] rfl)
            intro H locs ls w hl
            have hl : lv_has ls 10 [(0, .ref u76), (1, .int u77), (2, .int u78), (4, .int u80), (5, .int u81), (6, .int u82), (8, .int t101), (9, .int t112)] := hl
            have w : Wd D G L A H0 S113 H locs := w
            refine lv_iload hx hb dX8_ask_209 (lv_at hl 7 rfl) ?_
            refine lv_iconst (v := 4) hx hb dX8_ask_211 (by decide) ?_
            refine lv_icmp_ge (tgt := 262) hx hb dX8_ask_212 (by decide) (fun cc212 => ?_) (fun cc212 => ?_)
            · have h := it cc212 h
              exact hE209 _ (hend209 _ (Option.some.inj h).symm).symm H locs ls w (lv_sub hl [0, 1, 2, 3, 4, 5, 6] rfl)
            · have h := ie cc212 h
              refine lv_aload_n hx hb dX8_ask_215 rfl (lv_at hl 0 rfl) ?_
              obtain ⟨x116, hx116, h⟩ := bs h
              refine o_gR C w hx116 fl_X8_8 dX8_ask_216 ?_
              refine lv_bipush (v := 6) hx hb dX8_ask_219 (by decide) ?_
              refine lv_iload hx hb dX8_ask_221 (lv_at hl 7 rfl) ?_
              refine lv_iadd hx hb dX8_ask_223 ?_
              obtain ⟨x117, hx117, h⟩ := bs h
              refine o_ldI C w hx117 dX8_ask_224 ?_
              refine lv_aload_n hx hb dX8_ask_225 rfl (lv_at hl 0 rfl) ?_
              obtain ⟨x118, hx118, h⟩ := bs h
              refine o_gR C w hx118 fl_X8_8 dX8_ask_226 ?_
              refine lv_bipush (v := 6) hx hb dX8_ask_229 (by decide) ?_
              refine lv_iload_n hx hb dX8_ask_231 rfl (lv_at hl 1 rfl) ?_
              refine lv_iadd hx hb dX8_ask_232 ?_
              obtain ⟨x119, hx119, h⟩ := bs h
              refine o_ldI C w hx119 dX8_ask_233 ?_
              refine lv_icmp_ne (tgt := 256) hx hb dX8_ask_234 (by decide) (fun cc234 => ?_) (fun cc234 => ?_)
              · have h := ie cc234 h
                exact hb256 _ _ h H locs ls w (lv_sub hl [0, 1, 2, 3, 4, 5, 6, 7] rfl)
              · have h := it cc234 h
                refine lv_aload_n hx hb dX8_ask_237 rfl (lv_at hl 0 rfl) ?_
                obtain ⟨x120, hx120, h⟩ := bs h
                refine o_gR C w hx120 fl_X8_8 dX8_ask_238 ?_
                refine lv_sipush (v := 1130) hx hb dX8_ask_241 (by decide) ?_
                refine lv_sipush (v := 4096) hx hb dX8_ask_244 (by decide) ?_
                refine lv_iload hx hb dX8_ask_247 (lv_at hl 7 rfl) ?_
                refine lv_imul hx hb dX8_ask_249 ?_
                refine lv_iadd hx hb dX8_ask_250 ?_
                refine lv_iload hx hb dX8_ask_251 (lv_at hl 6 rfl) ?_
                refine lv_iadd hx hb dX8_ask_253 ?_
                refine lv_iconst (v := 0) hx hb dX8_ask_254 (by decide) ?_
                obtain ⟨S121, hS121, h⟩ := bs h
                refine o_stI C w hS121 dX8_ask_255 (fun H locs w => ?_)
                exact hb256 _ _ h H locs ls w (lv_sub hl [0, 1, 2, 3, 4, 5, 6, 7] rfl)
          · have h := it cc200 h
            refine lv_goto (tgt := 262) hx hb dX8_ask_203 (by decide) ?_
            exact hb262 _ _ h H locs ls w (lv_sub hl [0, 1, 2, 3, 4, 5, 6] rfl)
    · have h := it cc147 h
      refine lv_aload_n hx hb dX8_ask_150 rfl (lv_at hl 2 rfl) ?_
      obtain ⟨x122, hx122, h⟩ := bs h
      refine o_gR C w hx122 fl_X8_8 dX8_ask_151 ?_
      refine lv_iconst (v := 4) hx hb dX8_ask_154 (by decide) ?_
      refine lv_dup2_11 hx hb dX8_ask_155 rfl rfl ?_
      obtain ⟨x123, hx123, h⟩ := bs h
      refine o_ldI C w hx123 dX8_ask_156 ?_
      refine lv_iconst (v := 1) hx hb dX8_ask_157 (by decide) ?_
      refine lv_iadd hx hb dX8_ask_158 ?_
      obtain ⟨S124, hS124, h⟩ := bs h
      refine o_stI C w hS124 dX8_ask_159 (fun H locs w => ?_)
      refine lv_iload hx hb dX8_ask_160 (lv_at hl 1 rfl) ?_
      exact hret _ _ _ _ _ _ w (Option.some.inj h) dX8_ask_162
  intro H locs ls w hl
  refine lv_iload_n hx hb dX8_ask_0 rfl (lv_at hl 1 rfl) ?_
  obtain ⟨x66, hc, h⟩ := bs h
  refine o_backi w hLA (o_runS (As := [.int v1]) (rest := []) C w (c_X8_isAsker l D G L S v1 x66 hc) ml_X8_106 st_X8_isAsker hR_X8_isAsker rfl hl.1 rfl (Nat.le_of_ble_eq_true rfl) dX8_ask_1 hcs) (fun H locs w => ?_)
  refine lv_if_eq (tgt := 28) hx hb dX8_ask_4 (by decide) (fun cc4 => ?_) (fun cc4 => ?_)
  · have h := it cc4 h
    refine lv_iconst (v := -1) hx hb dX8_ask_28 (by decide) ?_
    exact hret _ _ _ _ _ _ w (Option.some.inj h) dX8_ask_29
  · have h := ie cc4 h
    refine lv_iload_n hx hb dX8_ask_7 rfl (lv_at hl 2 rfl) ?_
    refine lv_iload hx hb dX8_ask_8 (lv_at hl 4 rfl) ?_
    obtain ⟨x67, hc, h⟩ := bs h
    refine o_backi w hLA (o_runS (As := [.int v2, .int v4]) (rest := []) C w (c_X8_isAsk l D G L S v2 v4 x67 hc) ml_X8_109 st_X8_isAsk hR_X8_isAsk rfl hl.1 rfl (Nat.le_of_ble_eq_true rfl) dX8_ask_10 hcs) (fun H locs w => ?_)
    refine lv_if_eq (tgt := 28) hx hb dX8_ask_13 (by decide) (fun cc13 => ?_) (fun cc13 => ?_)
    · have h := it cc13 h
      refine lv_iconst (v := -1) hx hb dX8_ask_28 (by decide) ?_
      exact hret _ _ _ _ _ _ w (Option.some.inj h) dX8_ask_29
    · have h := ie cc13 h
      refine lv_aload_n hx hb dX8_ask_16 rfl (lv_at hl 0 rfl) ?_
      obtain ⟨x68, hx68, h⟩ := bs h
      refine o_gR C w hx68 fl_X8_8 dX8_ask_17 ?_
      refine lv_iconst (v := 3) hx hb dX8_ask_20 (by decide) ?_
      obtain ⟨x69, hx69, h⟩ := bs h
      refine o_ldI C w hx69 dX8_ask_21 ?_
      refine lv_sipush (v := 200) hx hb dX8_ask_22 (by decide) ?_
      refine lv_icmp_ne (tgt := 30) hx hb dX8_ask_25 (by decide) (fun cc25 => ?_) (fun cc25 => ?_)
      · have h := ie cc25 h
        refine lv_aload_n hx hb dX8_ask_30 rfl (lv_at hl 0 rfl) ?_
        refine lv_iload_n hx hb dX8_ask_31 rfl (lv_at hl 3 rfl) ?_
        obtain ⟨_, ho, h⟩ := bs h
        obtain ⟨x70, hc, h⟩ := bs h
        refine o_backi w hLA (o_runV (As := [.int v3]) (rest := []) C w (c_X8_numbersOf l D G L S v0 v3 x70 hc) ml_X8_112 mv_X8_numbersOf hR_X8_numbersOf ho rfl hl.1 rfl (Nat.le_of_ble_eq_true rfl) dX8_ask_32 hcs) (fun H locs w => ?_)
        refine lv_istore (lv' := [(5, .int x70), (0, .ref v0), (1, .int v1), (2, .int v2), (3, .int v3), (4, .int v4)]) hx hb dX8_ask_35 hl (by decide) rfl (fun ls hl => ?_)
        refine lv_aload_n hx hb dX8_ask_37 rfl (lv_at hl 1 rfl) ?_
        refine lv_iload_n hx hb dX8_ask_38 rfl (lv_at hl 2 rfl) ?_
        refine lv_iload_n hx hb dX8_ask_39 rfl (lv_at hl 3 rfl) ?_
        refine lv_iload hx hb dX8_ask_40 (lv_at hl 0 rfl) ?_
        refine lv_iload hx hb dX8_ask_42 (lv_at hl 5 rfl) ?_
        obtain ⟨_, ho, h⟩ := bs h
        obtain ⟨x71, S72, hc, h⟩ := bs2 h
        refine o_backi w hLA (o_runV (As := [.int v1, .int v2, .int x70, .int v4]) (rest := []) C w (c_X8_judged l D G L S v0 v1 v2 x70 v4 (x71, S72) hc) ml_X8_115 mv_X8_judged hR_X8_judged ho rfl hl.1 rfl (Nat.le_of_ble_eq_true rfl) dX8_ask_44 hcs) (fun H locs w => ?_)
        refine lv_if_ne (tgt := 55) hx hb dX8_ask_47 (by decide) (fun cc47 => ?_) (fun cc47 => ?_)
        · have h := ie cc47 h
          refine lv_aload_n hx hb dX8_ask_55 rfl (lv_at hl 1 rfl) ?_
          refine lv_iload_n hx hb dX8_ask_56 rfl (lv_at hl 3 rfl) ?_
          refine lv_iload hx hb dX8_ask_57 (lv_at hl 0 rfl) ?_
          refine lv_iload hx hb dX8_ask_59 (lv_at hl 5 rfl) ?_
          obtain ⟨_, ho, h⟩ := bs h
          obtain ⟨x73, S74, hc, h⟩ := bs2 h
          refine o_backi w hLA (o_runV (As := [.int v2, .int x70, .int v4]) (rest := []) C w (c_X8_hiddenAnswer l D G L S72 v0 v2 x70 v4 (x73, S74) hc) ml_X8_118 mv_X8_hiddenAnswer hR_X8_hiddenAnswer ho rfl hl.1 rfl (Nat.le_of_ble_eq_true rfl) dX8_ask_61 hcs) (fun H locs w => ?_)
          exact hb64 _ _ _ _ _ _ _ _ h H locs ls w (lv_sub hl [1, 2, 3, 4, 5, 0] rfl)
        · have h := it cc47 h
          refine lv_bipush (v := -2) hx hb dX8_ask_50 (by decide) ?_
          refine lv_goto (tgt := 64) hx hb dX8_ask_52 (by decide) ?_
          exact hb64 _ _ _ _ _ _ _ _ h H locs ls w (lv_sub hl [1, 2, 3, 4, 5, 0] rfl)
      · have h := it cc25 h
        refine lv_iconst (v := -1) hx hb dX8_ask_28 (by decide) ?_
        exact hret _ _ _ _ _ _ w (Option.some.inj h) dX8_ask_29
set_option maxHeartbeats 4000000 in
set_option maxRecDepth 100000 in
theorem c_X8_ask (l : Launch) (D : va_G) (G : Nat → ClassId) (L : List Nat) (S : PH) (v0 : Nat) (v1 : Int32) (v2 : Int32) (v3 : Int32) (v4 : Int32) (r : Int32 × PH) (h : f_X8_ask S v0 v1 v2 v3 v4 = some r) : Met l yX8_ask [Cond.code yX8_ask cX8_ask 10 (some .int)] ({ frames := 5, cells := 0, slots := 0, locals := 117 }) (va_Pc [.ref v0, .int v1, .int v2, .int v3, .int v4] (PreU D G L S)) (Qi D G L r.1 r.2) 0 0 (inL L) := by
  refine Met.ofW (cc := cX8_ask) (maxL := 10) (ret := (some .int)) (by decide) rfl ?_
  intro p e s m args below meth c s₁ B hml hv
  obtain ⟨rfl, hpre⟩ := hv
  obtain ⟨C, w⟩ := o_ent (own := RX8) rfl B hml hpre
  have hl := lv_entry ([.ref v0, .int v1, .int v2, .int v3, .int v4]) (n := 10) (Nat.le_of_ble_eq_true rfl)
  rw [lg_entry_eq]
  generalize (lg_sl ([.ref v0, .int v1, .int v2, .int v3, .int v4]) ++ List.replicate (10 - (lg_sl ([.ref v0, .int v1, .int v2, .int v3, .int v4])).length) Slot.unset).toArray = ls at hl ⊢
  exact w_X8_ask C (fun _ h => h) ⟨Nat.zero_le _, Nat.zero_le _⟩ ⟨rfl, rfl, Nat.le_of_ble_eq_true rfl, Nat.le_of_ble_eq_true rfl⟩ ⟨rfl, rfl, Nat.le_of_ble_eq_true rfl, Nat.le_of_ble_eq_true rfl⟩ ⟨rfl, rfl, Nat.le_of_ble_eq_true rfl, Nat.le_of_ble_eq_true rfl⟩ ⟨rfl, rfl, Nat.le_of_ble_eq_true rfl, Nat.le_of_ble_eq_true rfl⟩ ⟨rfl, rfl, Nat.le_of_ble_eq_true rfl, Nat.le_of_ble_eq_true rfl⟩ ⟨rfl, rfl, Nat.le_of_ble_eq_true rfl, Nat.le_of_ble_eq_true rfl⟩ ⟨rfl, rfl, Nat.le_of_ble_eq_true rfl, Nat.le_of_ble_eq_true rfl⟩ ⟨rfl, rfl, Nat.le_of_ble_eq_true rfl, Nat.le_of_ble_eq_true rfl⟩ S v0 v1 v2 v3 v4 r h (fun v S9 H locs ls pc w hv hd => by subst hv; exact o_iret C w B.returns B.notSynchronized hd) _ _ _ w hl

def f_X8_join_b181 (S : PH) (v0 : Nat) (v3 : Int32) (v4 : Int32) (v6 : Int32) (v7 : Int32) (v8 : Int32) : Option ((Int32 × PH) ⊕ (PH)) :=
some (.inl ((v8 + 1), S))
def f_X8_join_b161 (S : PH) (v0 : Nat) (v3 : Int32) (v4 : Int32) (v6 : Int32) (v7 : Int32) (v8 : Int32) : Option ((Int32 × PH) ⊕ (PH)) :=
(gR S v0 8 0).bind fun x7 =>
(stI S x7 (((1130 : Int32) + ((4096 : Int32) * v8)) + v6) v7).bind fun S8 =>
f_X8_join_b181 S8 v0 v3 v4 v6 v7 v8
def f_X8_join_L126 (S : PH) (v0 : Nat) (v3 : Int32) (v4 : Int32) (v6 : Int32) (v7 : Int32) (v8 : Int32) : Option ((Int32 × PH) ⊕ (PH)) :=
if (4 : Int32) ≤ v8 then (
some (.inr S))
else (
(gR S v0 8 0).bind fun x9 =>
(ldI S x9 ((6 : Int32) + v8)).bind fun x10 =>
if x10 = v3 then (
f_X8_join_b161 S v0 v3 v4 v6 v7 v8)
else (
(gR S v0 8 0).bind fun x11 =>
(ldI S x11 ((6 : Int32) + v8)).bind fun x12 =>
if x12 = v4 then (
f_X8_join_b161 S v0 v3 v4 v6 v7 v8)
else (
f_X8_join_b181 S v0 v3 v4 v6 v7 v8)))
def f_X8_join_L75 (S : PH) (v0 : Nat) (v1 : Int32) (v2 : Int32) (v3 : Int32) (v4 : Int32) (v6 : Int32) : Option ((Int32 × PH) ⊕ (PH)) :=
(gR S v0 8 0).bind fun x1 =>
(ldI S x1 (2 : Int32)).bind fun x2 =>
if x2 ≤ v6 then (
some (.inr S))
else (
(gR S v0 8 0).bind fun x3 =>
(ldI S x3 (((1130 : Int32) + ((4096 : Int32) * v1)) + v6)).bind fun x4 =>
(gR S v0 8 0).bind fun x5 =>
(ldI S x5 (((1130 : Int32) + ((4096 : Int32) * v2)) + v6)).bind fun x6 =>
(lpo (fun x : Int32 × PH => f_X8_join_L126 x.2 v0 v3 v4 v6 (x4 * x6) x.1) FU ((0 : Int32), S)).bind fun S13 =>
some (.inl ((v6 + 1), S13)))
def f_X8_join_b243 (S : PH) (v0 : Nat) (v3 : Int32) (v4 : Int32) (v5 : Int32) (v6 : Int32) : Option ((Int32 × PH) ⊕ (PH)) :=
some (.inl ((v6 + 1), S))
def f_X8_join_b231 (S : PH) (v0 : Nat) (v3 : Int32) (v4 : Int32) (v5 : Int32) (v6 : Int32) : Option ((Int32 × PH) ⊕ (PH)) :=
(gR S v0 8 0).bind fun x28 =>
(stI S x28 ((6 : Int32) + v6) v5).bind fun S29 =>
f_X8_join_b243 S29 v0 v3 v4 v5 v6
def f_X8_join_L196 (S : PH) (v0 : Nat) (v3 : Int32) (v4 : Int32) (v5 : Int32) (v6 : Int32) : Option ((Int32 × PH) ⊕ (PH)) :=
if (4 : Int32) ≤ v6 then (
some (.inr S))
else (
(gR S v0 8 0).bind fun x30 =>
(ldI S x30 ((6 : Int32) + v6)).bind fun x31 =>
if x31 = v3 then (
f_X8_join_b231 S v0 v3 v4 v5 v6)
else (
(gR S v0 8 0).bind fun x32 =>
(ldI S x32 ((6 : Int32) + v6)).bind fun x33 =>
if x33 = v4 then (
f_X8_join_b231 S v0 v3 v4 v5 v6)
else (
f_X8_join_b243 S v0 v3 v4 v5 v6)))
def f_X8_join_b70 (S : PH) (v0 : Nat) (v1 : Int32) (v2 : Int32) (v3 : Int32) (v4 : Int32) (s0 : Int32) : Option (Int32 × PH) :=
(lpo (fun x : Int32 × PH => f_X8_join_L75 x.2 v0 v1 v2 v3 v4 x.1) FU ((0 : Int32), S)).bind fun S27 =>
(lpo (fun x : Int32 × PH => f_X8_join_L196 x.2 v0 v3 v4 s0 x.1) FU ((0 : Int32), S27)).bind fun S34 =>
some ((1 : Int32), S34)
def f_X8_join (S : PH) (v0 : Nat) (v1 : Int32) (v2 : Int32) : Option (Int32 × PH) :=
(f_X8_isAsker v1).bind fun x71 =>
if x71 = 0 then (
some ((0 : Int32), S))
else (
(f_X8_isAsker v2).bind fun x72 =>
if x72 = 0 then (
some ((0 : Int32), S))
else (
(gR S v0 8 0).bind fun x73 =>
(ldI S x73 ((6 : Int32) + v1)).bind fun x74 =>
(gR S v0 8 0).bind fun x75 =>
(ldI S x75 ((6 : Int32) + v2)).bind fun x76 =>
if x74 = x76 then (
some ((0 : Int32), S))
else (
(gR S v0 8 0).bind fun x77 =>
(ldI S x77 ((6 : Int32) + v1)).bind fun x78 =>
(gR S v0 8 0).bind fun x79 =>
(ldI S x79 ((6 : Int32) + v2)).bind fun x80 =>
if x80 ≤ x78 then (
f_X8_join_b70 S v0 v1 v2 x78 x80 x80)
else (
f_X8_join_b70 S v0 v1 v2 x78 x80 x78))))
set_option maxHeartbeats 4000000 in
set_option maxRecDepth 100000 in
theorem w_X8_join {p : Program} {l : Launch} {e : Env} {R : Room} {s : State} {m : MethodId} {args : Array Value} {below : List Frame} {meth : Method} {c : Code} {cells slots : Nat} {Q : State → Prop} {D : va_G} {G : Nat → ClassId} {L : List Nat} {A : Nat → Prop} {H0 : Heap} (C : CX p s m c args D G cX8_join 9 RX8) (hLA : ∀ q ∈ L, A q) (hcs : cells ≤ R.cells ∧ slots ≤ R.slots) (hR_X8_isAsker : RoomOk R ({ frames := 1, cells := 0, slots := 0, locals := 22 }) 1) (S : PH) (v0 : Nat) (v1 : Int32) (v2 : Int32) (r : Int32 × PH) (h : f_X8_join S v0 v1 v2 = some r) (hret : ∀ (v : Int32) (S9 : PH) (H : Heap) (locs : List Loc) (ls : Array Slot) (pc : Nat), Wd D G L A H0 S9 H locs → narrow .boolean (.int v) = .int v → (v, S9) = r → decode cX8_join pc = .ok (.ireturn, 1) → W p l e R s m args below meth c H locs cells slots Q (F0 m pc ls [.int v])) : ∀ (H : Heap) (locs : List Loc) (ls : Array Slot), Wd D G L A H0 S H locs → lv_has ls 9 [(0, .ref v0), (1, .int v1), (2, .int v2)] → W p l e R s m args below meth c H locs cells slots Q (F0 m 0 ls []) := by
  have hx := C.1.1
  have hb := C.1.2.1
  unfold f_X8_join at h
  have hb70 : ∀ (S81 : PH) (u82 : Nat) (u83 : Int32) (u84 : Int32) (u85 : Int32) (u86 : Int32) (u87 : Int32), f_X8_join_b70 S81 u82 u83 u84 u85 u86 u87 = some r → ∀ (H : Heap) (locs : List Loc) (ls : Array Slot), Wd D G L A H0 S81 H locs → lv_has ls 9 [(0, .ref u82), (1, .int u83), (2, .int u84), (3, .int u85), (4, .int u86)] → W p l e R s m args below meth c H locs cells slots Q (F0 m 70 ls [.int u87]) := by
    intro S81 u82 u83 u84 u85 u86 u87 h H locs ls w hl
    unfold f_X8_join_b70 at h
    refine lv_istore (lv' := [(5, .int u87), (0, .ref u82), (1, .int u83), (2, .int u84), (3, .int u85), (4, .int u86)]) hx hb dX8_join_70 hl (by decide) rfl (fun ls hl => ?_)
    refine lv_iconst (v := 0) hx hb dX8_join_72 (by decide) ?_
    refine lv_istore (lv' := [(6, .int (0 : Int32)), (5, .int u87), (0, .ref u82), (1, .int u83), (2, .int u84), (3, .int u85), (4, .int u86)]) hx hb dX8_join_73 hl (by decide) rfl (fun ls hl => ?_)
    obtain ⟨S88, hL75, h⟩ := bs h
    have hE75 : ∀ (q103 : PH), S88 = q103 → ∀ (H : Heap) (locs : List Loc) (ls : Array Slot), Wd D G L A H0 q103 H locs → lv_has ls 9 [(0, .ref u82), (3, .int u85), (4, .int u86), (5, .int u87)] → W p l e R s m args below meth c H locs cells slots Q (F0 m 193 ls []) := by
      intro q103 he
      cases he
      intro H locs ls w hl
      refine lv_iconst (v := 0) hx hb dX8_join_193 (by decide) ?_
      refine lv_istore (lv' := [(6, .int (0 : Int32)), (0, .ref u82), (3, .int u85), (4, .int u86), (5, .int u87)]) hx hb dX8_join_194 hl (by decide) rfl (fun ls hl => ?_)
      obtain ⟨S89, hL196, h⟩ := bs h
      have hE196 : ∀ (q90 : PH), S89 = q90 → ∀ (H : Heap) (locs : List Loc) (ls : Array Slot), Wd D G L A H0 q90 H locs → lv_has ls 9 [] → W p l e R s m args below meth c H locs cells slots Q (F0 m 249 ls []) := by
        intro q90 he
        cases he
        intro H locs ls w hl
        refine lv_iconst (v := 1) hx hb dX8_join_249 (by decide) ?_
        exact hret _ _ _ _ _ _ w rfl (Option.some.inj h) dX8_join_250
      refine lpo_W (P := fun x : Int32 × PH => ∀ (H : Heap) (locs : List Loc) (ls : Array Slot), Wd D G L A H0 x.2 H locs → lv_has ls 9 [(0, .ref u82), (3, .int u85), (4, .int u86), (5, .int u87), (6, .int x.1)] → W p l e R s m args below meth c H locs cells slots Q (F0 m 196 ls [])) ?_ FU _ hL196 H locs ls w (lv_sub hl [1, 2, 3, 4, 0] rfl)
      intro x y196 h hnext196 hend196
      obtain ⟨t91, S92⟩ := x
      have h : f_X8_join_L196 S92 u82 u85 u86 u87 t91 = some y196 := h
      unfold f_X8_join_L196 at h
      have hb243 : ∀ (S93 : PH) (u94 : Int32), f_X8_join_b243 S93 u82 u85 u86 u87 u94 = some y196 → ∀ (H : Heap) (locs : List Loc) (ls : Array Slot), Wd D G L A H0 S93 H locs → lv_has ls 9 [(0, .ref u82), (3, .int u85), (4, .int u86), (5, .int u87), (6, .int u94)] → W p l e R s m args below meth c H locs cells slots Q (F0 m 243 ls []) := by
        intro S93 u94 h H locs ls w hl
        unfold f_X8_join_b243 at h
        refine lv_iinc (v := (u94 + 1)) (lv' := [(6, .int (u94 + 1)), (0, .ref u82), (3, .int u85), (4, .int u86), (5, .int u87)]) hx hb dX8_join_243 hl (k := 4) rfl rfl (by decide) rfl (fun ls hl => ?_)
        refine lv_goto (tgt := 196) hx hb dX8_join_246 (by decide) ?_
        exact hnext196 _ (Option.some.inj h).symm H locs ls w (lv_sub hl [1, 2, 3, 4, 0] rfl)
      have hb231 : ∀ (S95 : PH) (u96 : Int32), f_X8_join_b231 S95 u82 u85 u86 u87 u96 = some y196 → ∀ (H : Heap) (locs : List Loc) (ls : Array Slot), Wd D G L A H0 S95 H locs → lv_has ls 9 [(0, .ref u82), (3, .int u85), (4, .int u86), (5, .int u87), (6, .int u96)] → W p l e R s m args below meth c H locs cells slots Q (F0 m 231 ls []) := by
        intro S95 u96 h H locs ls w hl
        unfold f_X8_join_b231 at h
        refine lv_aload_n hx hb dX8_join_231 rfl (lv_at hl 0 rfl) ?_
        obtain ⟨x97, hx97, h⟩ := bs h
        refine o_gR C w hx97 fl_X8_8 dX8_join_232 ?_
        refine lv_bipush (v := 6) hx hb dX8_join_235 (by decide) ?_
        refine lv_iload hx hb dX8_join_237 (lv_at hl 4 rfl) ?_
        refine lv_iadd hx hb dX8_join_239 ?_
        refine lv_iload hx hb dX8_join_240 (lv_at hl 3 rfl) ?_
        obtain ⟨S98, hS98, h⟩ := bs h
        refine o_stI C w hS98 dX8_join_242 (fun H locs w => ?_)
        exact hb243 _ _ h H locs ls w (lv_sub hl [0, 1, 2, 3, 4] rfl)
      intro H locs ls w hl
      have hl : lv_has ls 9 [(0, .ref u82), (3, .int u85), (4, .int u86), (5, .int u87), (6, .int t91)] := hl
      have w : Wd D G L A H0 S92 H locs := w
      refine lv_iload hx hb dX8_join_196 (lv_at hl 4 rfl) ?_
      refine lv_iconst (v := 4) hx hb dX8_join_198 (by decide) ?_
      refine lv_icmp_ge (tgt := 249) hx hb dX8_join_199 (by decide) (fun cc199 => ?_) (fun cc199 => ?_)
      · have h := it cc199 h
        exact hE196 _ (hend196 _ (Option.some.inj h).symm).symm H locs ls w (lv_sub hl [] rfl)
      · have h := ie cc199 h
        refine lv_aload_n hx hb dX8_join_202 rfl (lv_at hl 0 rfl) ?_
        obtain ⟨x99, hx99, h⟩ := bs h
        refine o_gR C w hx99 fl_X8_8 dX8_join_203 ?_
        refine lv_bipush (v := 6) hx hb dX8_join_206 (by decide) ?_
        refine lv_iload hx hb dX8_join_208 (lv_at hl 4 rfl) ?_
        refine lv_iadd hx hb dX8_join_210 ?_
        obtain ⟨x100, hx100, h⟩ := bs h
        refine o_ldI C w hx100 dX8_join_211 ?_
        refine lv_iload_n hx hb dX8_join_212 rfl (lv_at hl 1 rfl) ?_
        refine lv_icmp_eq (tgt := 231) hx hb dX8_join_213 (by decide) (fun cc213 => ?_) (fun cc213 => ?_)
        · have h := it cc213 h
          exact hb231 _ _ h H locs ls w (lv_sub hl [0, 1, 2, 3, 4] rfl)
        · have h := ie cc213 h
          refine lv_aload_n hx hb dX8_join_216 rfl (lv_at hl 0 rfl) ?_
          obtain ⟨x101, hx101, h⟩ := bs h
          refine o_gR C w hx101 fl_X8_8 dX8_join_217 ?_
          refine lv_bipush (v := 6) hx hb dX8_join_220 (by decide) ?_
          refine lv_iload hx hb dX8_join_222 (lv_at hl 4 rfl) ?_
          refine lv_iadd hx hb dX8_join_224 ?_
          obtain ⟨x102, hx102, h⟩ := bs h
          refine o_ldI C w hx102 dX8_join_225 ?_
          refine lv_iload hx hb dX8_join_226 (lv_at hl 2 rfl) ?_
          refine lv_icmp_ne (tgt := 243) hx hb dX8_join_228 (by decide) (fun cc228 => ?_) (fun cc228 => ?_)
          · have h := ie cc228 h
            exact hb243 _ _ h H locs ls w (lv_sub hl [0, 1, 2, 3, 4] rfl)
          · have h := it cc228 h
            exact hb231 _ _ h H locs ls w (lv_sub hl [0, 1, 2, 3, 4] rfl)
    refine lpo_W (P := fun x : Int32 × PH => ∀ (H : Heap) (locs : List Loc) (ls : Array Slot), Wd D G L A H0 x.2 H locs → lv_has ls 9 [(0, .ref u82), (1, .int u83), (2, .int u84), (3, .int u85), (4, .int u86), (5, .int u87), (6, .int x.1)] → W p l e R s m args below meth c H locs cells slots Q (F0 m 75 ls [])) ?_ FU _ hL75 H locs ls w (lv_sub hl [2, 3, 4, 5, 6, 1, 0] rfl)
    intro x y75 h hnext75 hend75
    obtain ⟨t104, S105⟩ := x
    have h : f_X8_join_L75 S105 u82 u83 u84 u85 u86 t104 = some y75 := h
    unfold f_X8_join_L75 at h
    intro H locs ls w hl
    have hl : lv_has ls 9 [(0, .ref u82), (1, .int u83), (2, .int u84), (3, .int u85), (4, .int u86), (5, .int u87), (6, .int t104)] := hl
    have w : Wd D G L A H0 S105 H locs := w
    refine lv_iload hx hb dX8_join_75 (lv_at hl 6 rfl) ?_
    refine lv_aload_n hx hb dX8_join_77 rfl (lv_at hl 0 rfl) ?_
    obtain ⟨x106, hx106, h⟩ := bs h
    refine o_gR C w hx106 fl_X8_8 dX8_join_78 ?_
    refine lv_iconst (v := 2) hx hb dX8_join_81 (by decide) ?_
    obtain ⟨x107, hx107, h⟩ := bs h
    refine o_ldI C w hx107 dX8_join_82 ?_
    refine lv_icmp_ge (tgt := 193) hx hb dX8_join_83 (by decide) (fun cc83 => ?_) (fun cc83 => ?_)
    · have h := it cc83 h
      exact hE75 _ (hend75 _ (Option.some.inj h).symm).symm H locs ls w (lv_sub hl [0, 3, 4, 5] rfl)
    · have h := ie cc83 h
      refine lv_aload_n hx hb dX8_join_86 rfl (lv_at hl 0 rfl) ?_
      obtain ⟨x108, hx108, h⟩ := bs h
      refine o_gR C w hx108 fl_X8_8 dX8_join_87 ?_
      refine lv_sipush (v := 1130) hx hb dX8_join_90 (by decide) ?_
      refine lv_sipush (v := 4096) hx hb dX8_join_93 (by decide) ?_
      refine lv_iload_n hx hb dX8_join_96 rfl (lv_at hl 1 rfl) ?_
      refine lv_imul hx hb dX8_join_97 ?_
      refine lv_iadd hx hb dX8_join_98 ?_
      refine lv_iload hx hb dX8_join_99 (lv_at hl 6 rfl) ?_
      refine lv_iadd hx hb dX8_join_101 ?_
      obtain ⟨x109, hx109, h⟩ := bs h
      refine o_ldI C w hx109 dX8_join_102 ?_
      refine lv_aload_n hx hb dX8_join_103 rfl (lv_at hl 0 rfl) ?_
      obtain ⟨x110, hx110, h⟩ := bs h
      refine o_gR C w hx110 fl_X8_8 dX8_join_104 ?_
      refine lv_sipush (v := 1130) hx hb dX8_join_107 (by decide) ?_
      refine lv_sipush (v := 4096) hx hb dX8_join_110 (by decide) ?_
      refine lv_iload_n hx hb dX8_join_113 rfl (lv_at hl 2 rfl) ?_
      refine lv_imul hx hb dX8_join_114 ?_
      refine lv_iadd hx hb dX8_join_115 ?_
      refine lv_iload hx hb dX8_join_116 (lv_at hl 6 rfl) ?_
      refine lv_iadd hx hb dX8_join_118 ?_
      obtain ⟨x111, hx111, h⟩ := bs h
      refine o_ldI C w hx111 dX8_join_119 ?_
      refine lv_imul hx hb dX8_join_120 ?_
      refine lv_istore (lv' := [(7, .int (x109 * x111)), (0, .ref u82), (1, .int u83), (2, .int u84), (3, .int u85), (4, .int u86), (5, .int u87), (6, .int t104)]) hx hb dX8_join_121 hl (by decide) rfl (fun ls hl => ?_)
      refine lv_iconst (v := 0) hx hb dX8_join_123 (by decide) ?_
      refine lv_istore (lv' := [(8, .int (0 : Int32)), (7, .int (x109 * x111)), (0, .ref u82), (1, .int u83), (2, .int u84), (3, .int u85), (4, .int u86), (5, .int u87), (6, .int t104)]) hx hb dX8_join_124 hl (by decide) rfl (fun ls hl => ?_)
      obtain ⟨S112, hL126, h⟩ := bs h
      have hE126 : ∀ (q113 : PH), S112 = q113 → ∀ (H : Heap) (locs : List Loc) (ls : Array Slot), Wd D G L A H0 q113 H locs → lv_has ls 9 [(0, .ref u82), (1, .int u83), (2, .int u84), (3, .int u85), (4, .int u86), (5, .int u87), (6, .int t104)] → W p l e R s m args below meth c H locs cells slots Q (F0 m 187 ls []) := by
        intro q113 he
        cases he
        intro H locs ls w hl
        refine lv_iinc (v := (t104 + 1)) (lv' := [(6, .int (t104 + 1)), (0, .ref u82), (1, .int u83), (2, .int u84), (3, .int u85), (4, .int u86), (5, .int u87)]) hx hb dX8_join_187 hl (k := 6) rfl rfl (by decide) rfl (fun ls hl => ?_)
        refine lv_goto (tgt := 75) hx hb dX8_join_190 (by decide) ?_
        exact hnext75 _ (Option.some.inj h).symm H locs ls w (lv_sub hl [1, 2, 3, 4, 5, 6, 0] rfl)
      refine lpo_W (P := fun x : Int32 × PH => ∀ (H : Heap) (locs : List Loc) (ls : Array Slot), Wd D G L A H0 x.2 H locs → lv_has ls 9 [(0, .ref u82), (1, .int u83), (2, .int u84), (3, .int u85), (4, .int u86), (5, .int u87), (6, .int t104), (7, .int (x109 * x111)), (8, .int x.1)] → W p l e R s m args below meth c H locs cells slots Q (F0 m 126 ls [])) ?_ FU _ hL126 H locs ls w (lv_sub hl [2, 3, 4, 5, 6, 7, 8, 1, 0] rfl)
      intro x y126 h hnext126 hend126
      obtain ⟨t114, S115⟩ := x
      have h : f_X8_join_L126 S115 u82 u85 u86 t104 (x109 * x111) t114 = some y126 := h
      unfold f_X8_join_L126 at h
      have hb181 : ∀ (S116 : PH) (u117 : Int32), f_X8_join_b181 S116 u82 u85 u86 t104 (x109 * x111) u117 = some y126 → ∀ (H : Heap) (locs : List Loc) (ls : Array Slot), Wd D G L A H0 S116 H locs → lv_has ls 9 [(0, .ref u82), (1, .int u83), (2, .int u84), (3, .int u85), (4, .int u86), (5, .int u87), (6, .int t104), (7, .int (x109 * x111)), (8, .int u117)] → W p l e R s m args below meth c H locs cells slots Q (F0 m 181 ls []) := by
        intro S116 u117 h H locs ls w hl
        unfold f_X8_join_b181 at h
        refine lv_iinc (v := (u117 + 1)) (lv' := [(8, .int (u117 + 1)), (0, .ref u82), (1, .int u83), (2, .int u84), (3, .int u85), (4, .int u86), (5, .int u87), (6, .int t104), (7, .int (x109 * x111))]) hx hb dX8_join_181 hl (k := 8) rfl rfl (by decide) rfl (fun ls hl => ?_)
        refine lv_goto (tgt := 126) hx hb dX8_join_184 (by decide) ?_
        exact hnext126 _ (Option.some.inj h).symm H locs ls w (lv_sub hl [1, 2, 3, 4, 5, 6, 7, 8, 0] rfl)
      have hb161 : ∀ (S118 : PH) (u119 : Int32), f_X8_join_b161 S118 u82 u85 u86 t104 (x109 * x111) u119 = some y126 → ∀ (H : Heap) (locs : List Loc) (ls : Array Slot), Wd D G L A H0 S118 H locs → lv_has ls 9 [(0, .ref u82), (1, .int u83), (2, .int u84), (3, .int u85), (4, .int u86), (5, .int u87), (6, .int t104), (7, .int (x109 * x111)), (8, .int u119)] → W p l e R s m args below meth c H locs cells slots Q (F0 m 161 ls []) := by
        intro S118 u119 h H locs ls w hl
        unfold f_X8_join_b161 at h
        refine lv_aload_n hx hb dX8_join_161 rfl (lv_at hl 0 rfl) ?_
        obtain ⟨x120, hx120, h⟩ := bs h
        refine o_gR C w hx120 fl_X8_8 dX8_join_162 ?_
        refine lv_sipush (v := 1130) hx hb dX8_join_165 (by decide) ?_
        refine lv_sipush (v := 4096) hx hb dX8_join_168 (by decide) ?_
        refine lv_iload hx hb dX8_join_171 (lv_at hl 8 rfl) ?_
        refine lv_imul hx hb dX8_join_173 ?_
        refine lv_iadd hx hb dX8_join_174 ?_
        refine lv_iload hx hb dX8_join_175 (lv_at hl 6 rfl) ?_
        refine lv_iadd hx hb dX8_join_177 ?_
        refine lv_iload hx hb dX8_join_178 (lv_at hl 7 rfl) ?_
        obtain ⟨S121, hS121, h⟩ := bs h
        refine o_stI C w hS121 dX8_join_180 (fun H locs w => ?_)
        exact hb181 _ _ h H locs ls w (lv_sub hl [0, 1, 2, 3, 4, 5, 6, 7, 8] rfl)
      intro H locs ls w hl
      have hl : lv_has ls 9 [(0, .ref u82), (1, .int u83), (2, .int u84), (3, .int u85), (4, .int u86), (5, .int u87), (6, .int t104), (7, .int (x109 * x111)), (8, .int t114)] := hl
      have w : Wd D G L A H0 S115 H locs := w
      refine lv_iload hx hb dX8_join_126 (lv_at hl 8 rfl) ?_
      refine lv_iconst (v := 4) hx hb dX8_join_128 (by decide) ?_
      refine lv_icmp_ge (tgt := 187) hx hb dX8_join_129 (by decide) (fun cc129 => ?_) (fun cc129 => ?_)
      · have h := it cc129 h
        exact hE126 _ (hend126 _ (Option.some.inj h).symm).symm H locs ls w (lv_sub hl [0, 1, 2, 3, 4, 5, 6] rfl)
      · have h := ie cc129 h
        refine lv_aload_n hx hb dX8_join_132 rfl (lv_at hl 0 rfl) ?_
        obtain ⟨x122, hx122, h⟩ := bs h
        refine o_gR C w hx122 fl_X8_8 dX8_join_133 ?_
        refine lv_bipush (v := 6) hx hb dX8_join_136 (by decide) ?_
        refine lv_iload hx hb dX8_join_138 (lv_at hl 8 rfl) ?_
        refine lv_iadd hx hb dX8_join_140 ?_
        obtain ⟨x123, hx123, h⟩ := bs h
        refine o_ldI C w hx123 dX8_join_141 ?_
        refine lv_iload_n hx hb dX8_join_142 rfl (lv_at hl 3 rfl) ?_
        refine lv_icmp_eq (tgt := 161) hx hb dX8_join_143 (by decide) (fun cc143 => ?_) (fun cc143 => ?_)
        · have h := it cc143 h
          exact hb161 _ _ h H locs ls w (lv_sub hl [0, 1, 2, 3, 4, 5, 6, 7, 8] rfl)
        · have h := ie cc143 h
          refine lv_aload_n hx hb dX8_join_146 rfl (lv_at hl 0 rfl) ?_
          obtain ⟨x124, hx124, h⟩ := bs h
          refine o_gR C w hx124 fl_X8_8 dX8_join_147 ?_
          refine lv_bipush (v := 6) hx hb dX8_join_150 (by decide) ?_
          refine lv_iload hx hb dX8_join_152 (lv_at hl 8 rfl) ?_
          refine lv_iadd hx hb dX8_join_154 ?_
          obtain ⟨x125, hx125, h⟩ := bs h
          refine o_ldI C w hx125 dX8_join_155 ?_
          refine lv_iload hx hb dX8_join_156 (lv_at hl 4 rfl) ?_
          refine lv_icmp_ne (tgt := 181) hx hb dX8_join_158 (by decide) (fun cc158 => ?_) (fun cc158 => ?_)
          · have h := ie cc158 h
            exact hb181 _ _ h H locs ls w (lv_sub hl [0, 1, 2, 3, 4, 5, 6, 7, 8] rfl)
          · have h := it cc158 h
            exact hb161 _ _ h H locs ls w (lv_sub hl [0, 1, 2, 3, 4, 5, 6, 7, 8] rfl)
  intro H locs ls w hl
  refine lv_iload_n hx hb dX8_join_0 rfl (lv_at hl 1 rfl) ?_
  obtain ⟨x71, hc, h⟩ := bs h
  refine o_backi w hLA (o_runS (As := [.int v1]) (rest := []) C w (c_X8_isAsker l D G L S v1 x71 hc) ml_X8_106 st_X8_isAsker hR_X8_isAsker rfl hl.1 rfl (Nat.le_of_ble_eq_true rfl) dX8_join_1 hcs) (fun H locs w => ?_)
  refine lv_if_eq (tgt := 35) hx hb dX8_join_4 (by decide) (fun cc4 => ?_) (fun cc4 => ?_)
  · have h := it cc4 h
    refine lv_iconst (v := 0) hx hb dX8_join_35 (by decide) ?_
    exact hret _ _ _ _ _ _ w rfl (Option.some.inj h) dX8_join_36
  · have h := ie cc4 h
    refine lv_iload_n hx hb dX8_join_7 rfl (lv_at hl 2 rfl) ?_
    obtain ⟨x72, hc, h⟩ := bs h
    refine o_backi w hLA (o_runS (As := [.int v2]) (rest := []) C w (c_X8_isAsker l D G L S v2 x72 hc) ml_X8_106 st_X8_isAsker hR_X8_isAsker rfl hl.1 rfl (Nat.le_of_ble_eq_true rfl) dX8_join_8 hcs) (fun H locs w => ?_)
    refine lv_if_eq (tgt := 35) hx hb dX8_join_11 (by decide) (fun cc11 => ?_) (fun cc11 => ?_)
    · have h := it cc11 h
      refine lv_iconst (v := 0) hx hb dX8_join_35 (by decide) ?_
      exact hret _ _ _ _ _ _ w rfl (Option.some.inj h) dX8_join_36
    · have h := ie cc11 h
      refine lv_aload_n hx hb dX8_join_14 rfl (lv_at hl 0 rfl) ?_
      obtain ⟨x73, hx73, h⟩ := bs h
      refine o_gR C w hx73 fl_X8_8 dX8_join_15 ?_
      refine lv_bipush (v := 6) hx hb dX8_join_18 (by decide) ?_
      refine lv_iload_n hx hb dX8_join_20 rfl (lv_at hl 1 rfl) ?_
      refine lv_iadd hx hb dX8_join_21 ?_
      obtain ⟨x74, hx74, h⟩ := bs h
      refine o_ldI C w hx74 dX8_join_22 ?_
      refine lv_aload_n hx hb dX8_join_23 rfl (lv_at hl 0 rfl) ?_
      obtain ⟨x75, hx75, h⟩ := bs h
      refine o_gR C w hx75 fl_X8_8 dX8_join_24 ?_
      refine lv_bipush (v := 6) hx hb dX8_join_27 (by decide) ?_
      refine lv_iload_n hx hb dX8_join_29 rfl (lv_at hl 2 rfl) ?_
      refine lv_iadd hx hb dX8_join_30 ?_
      obtain ⟨x76, hx76, h⟩ := bs h
      refine o_ldI C w hx76 dX8_join_31 ?_
      refine lv_icmp_ne (tgt := 37) hx hb dX8_join_32 (by decide) (fun cc32 => ?_) (fun cc32 => ?_)
      · have h := ie cc32 h
        refine lv_aload_n hx hb dX8_join_37 rfl (lv_at hl 0 rfl) ?_
        obtain ⟨x77, hx77, h⟩ := bs h
        refine o_gR C w hx77 fl_X8_8 dX8_join_38 ?_
        refine lv_bipush (v := 6) hx hb dX8_join_41 (by decide) ?_
        refine lv_iload_n hx hb dX8_join_43 rfl (lv_at hl 1 rfl) ?_
        refine lv_iadd hx hb dX8_join_44 ?_
        obtain ⟨x78, hx78, h⟩ := bs h
        refine o_ldI C w hx78 dX8_join_45 ?_
        refine lv_istore_n (lv' := [(3, .int x78), (0, .ref v0), (1, .int v1), (2, .int v2)]) hx hb dX8_join_46 rfl hl (by decide) rfl (fun ls hl => ?_)
        refine lv_aload_n hx hb dX8_join_47 rfl (lv_at hl 1 rfl) ?_
        obtain ⟨x79, hx79, h⟩ := bs h
        refine o_gR C w hx79 fl_X8_8 dX8_join_48 ?_
        refine lv_bipush (v := 6) hx hb dX8_join_51 (by decide) ?_
        refine lv_iload_n hx hb dX8_join_53 rfl (lv_at hl 3 rfl) ?_
        refine lv_iadd hx hb dX8_join_54 ?_
        obtain ⟨x80, hx80, h⟩ := bs h
        refine o_ldI C w hx80 dX8_join_55 ?_
        refine lv_istore (lv' := [(4, .int x80), (3, .int x78), (0, .ref v0), (1, .int v1), (2, .int v2)]) hx hb dX8_join_56 hl (by decide) rfl (fun ls hl => ?_)
        refine lv_iload_n hx hb dX8_join_58 rfl (lv_at hl 1 rfl) ?_
        refine lv_iload hx hb dX8_join_59 (lv_at hl 0 rfl) ?_
        refine lv_icmp_ge (tgt := 68) hx hb dX8_join_61 (by decide) (fun cc61 => ?_) (fun cc61 => ?_)
        · have h := it cc61 h
          refine lv_iload hx hb dX8_join_68 (lv_at hl 0 rfl) ?_
          exact hb70 _ _ _ _ _ _ _ h H locs ls w (lv_sub hl [2, 3, 4, 1, 0] rfl)
        · have h := ie cc61 h
          refine lv_iload_n hx hb dX8_join_64 rfl (lv_at hl 1 rfl) ?_
          refine lv_goto (tgt := 70) hx hb dX8_join_65 (by decide) ?_
          exact hb70 _ _ _ _ _ _ _ h H locs ls w (lv_sub hl [2, 3, 4, 1, 0] rfl)
      · have h := it cc32 h
        refine lv_iconst (v := 0) hx hb dX8_join_35 (by decide) ?_
        exact hret _ _ _ _ _ _ w rfl (Option.some.inj h) dX8_join_36
set_option maxHeartbeats 4000000 in
set_option maxRecDepth 100000 in
theorem c_X8_join (l : Launch) (D : va_G) (G : Nat → ClassId) (L : List Nat) (S : PH) (v0 : Nat) (v1 : Int32) (v2 : Int32) (r : Int32 × PH) (h : f_X8_join S v0 v1 v2 = some r) : Met l yX8_join [Cond.code yX8_join cX8_join 9 (some .boolean)] ({ frames := 2, cells := 0, slots := 0, locals := 42 }) (va_Pc [.ref v0, .int v1, .int v2] (PreU D G L S)) (Qi D G L r.1 r.2) 0 0 (inL L) := by
  refine Met.ofW (cc := cX8_join) (maxL := 9) (ret := (some .boolean)) (by decide) rfl ?_
  intro p e s m args below meth c s₁ B hml hv
  obtain ⟨rfl, hpre⟩ := hv
  obtain ⟨C, w⟩ := o_ent (own := RX8) rfl B hml hpre
  have hl := lv_entry ([.ref v0, .int v1, .int v2]) (n := 9) (Nat.le_of_ble_eq_true rfl)
  rw [lg_entry_eq]
  generalize (lg_sl ([.ref v0, .int v1, .int v2]) ++ List.replicate (9 - (lg_sl ([.ref v0, .int v1, .int v2])).length) Slot.unset).toArray = ls at hl ⊢
  exact w_X8_join C (fun _ h => h) ⟨Nat.zero_le _, Nat.zero_le _⟩ ⟨rfl, rfl, Nat.le_of_ble_eq_true rfl, Nat.le_of_ble_eq_true rfl⟩ S v0 v1 v2 r h (fun v S9 H locs ls pc w hz hv hd => by subst hv; exact o_zret C w B.returns B.notSynchronized hz hd) _ _ _ w hl

def f_X8_knows_b67 (S : PH) (v0 : Nat) (v1 : Int32) (v2 : Int32) (v4 : Int32) (v5 : Int32) : Option ((Int32 × Int32) ⊕ (Int32)) :=
some (.inl (v4, (v5 + 1)))
def f_X8_knows_L32 (S : PH) (v0 : Nat) (v1 : Int32) (v2 : Int32) (v4 : Int32) (v5 : Int32) : Option ((Int32 × Int32) ⊕ (Int32)) :=
(gR S v0 8 0).bind fun x4 =>
(ldI S x4 (2 : Int32)).bind fun x5 =>
if x5 ≤ v5 then (
some (.inr v4))
else (
(ckO S v0 8).bind fun _ =>
(f_X8_isLeft S v0 v1 v5).bind fun x6 =>
if x6 = 0 then (
f_X8_knows_b67 S v0 v1 v2 v4 v5)
else (
(ckO S v0 8).bind fun _ =>
(f_X8_valueIn S v0 v5 v2).bind fun x7 =>
f_X8_knows_b67 S v0 v1 v2 (v4 ||| ((1 : Int32) <<< (x7 &&& 31))) v5))
def f_X8_knows_b126 (S : PH) (v4 : Int32) (v5 : Int32) (v6 : Int32) (v7 : Int32) (v8 : Int32) : Option ((Int32 × Int32 × Int32 × Int32) ⊕ (Int32 × Int32 × Int32)) :=
some (.inl (v5, v6, v7, (v8 + 1)))
def f_X8_knows_b117 (S : PH) (v4 : Int32) (v7 : Int32) (v8 : Int32) (s0 : Int32) : Option ((Int32 × Int32 × Int32 × Int32) ⊕ (Int32 × Int32 × Int32)) :=
f_X8_knows_b126 S v4 s0 v8 (v7 + 1) v8
def f_X8_knows_L85 (S : PH) (v4 : Int32) (v5 : Int32) (v6 : Int32) (v7 : Int32) (v8 : Int32) : Option ((Int32 × Int32 × Int32 × Int32) ⊕ (Int32 × Int32 × Int32)) :=
if (21 : Int32) ≤ v8 then (
some (.inr (v5, v6, v7)))
else (
if ((v4 >>> (v8 &&& 31)) &&& (1 : Int32)) = 0 then (
f_X8_knows_b126 S v4 v5 v6 v7 v8)
else (
if 0 ≤ v5 then (
f_X8_knows_b117 S v4 v7 v8 v5)
else (
f_X8_knows_b117 S v4 v7 v8 v8)))
def f_X8_knows (S : PH) (v0 : Nat) (v1 : Int32) (v2 : Int32) (v3 : Int32) : Option (Int32) :=
(f_X8_isAsker v1).bind fun x1 =>
if x1 = 0 then (
some (-1 : Int32))
else (
(ckO S v0 8).bind fun _ =>
(f_X8_isNumber S v0 v2).bind fun x2 =>
if x2 = 0 then (
some (-1 : Int32))
else (
(f_X8_isIn v3 (0 : Int32) (3 : Int32)).bind fun x3 =>
if x3 = 0 then (
some (-1 : Int32))
else (
(lpo (fun x : Int32 × Int32 => f_X8_knows_L32 S v0 v1 v2 x.1 x.2) FU ((0 : Int32), (0 : Int32))).bind fun y8 =>
bd3 (lpo (fun x : Int32 × Int32 × Int32 × Int32 => f_X8_knows_L85 S y8 x.1 x.2.1 x.2.2.1 x.2.2.2) FU ((-1 : Int32), (-1 : Int32), (0 : Int32), (0 : Int32))) fun y9 y10 y11 =>
if v3 = 0 then (
some y9)
else (
if v3 = (1 : Int32) then (
some y10)
else (
if v3 = (2 : Int32) then (
some y11)
else (
some ((y10 - y9) + (1 : Int32))))))))
set_option maxHeartbeats 4000000 in
set_option maxRecDepth 100000 in
theorem w_X8_knows {p : Program} {l : Launch} {e : Env} {R : Room} {s : State} {m : MethodId} {args : Array Value} {below : List Frame} {meth : Method} {c : Code} {cells slots : Nat} {Q : State → Prop} {D : va_G} {G : Nat → ClassId} {L : List Nat} {A : Nat → Prop} {H0 : Heap} (C : CX p s m c args D G cX8_knows 9 RX8) (hLA : ∀ q ∈ L, A q) (hcs : cells ≤ R.cells ∧ slots ≤ R.slots) (hR_X8_isAsker : RoomOk R ({ frames := 1, cells := 0, slots := 0, locals := 22 }) 1) (hR_X8_isNumber : RoomOk R ({ frames := 1, cells := 0, slots := 0, locals := 22 }) 2) (hR_X8_isIn : RoomOk R ({ frames := 0, cells := 0, slots := 0, locals := 0 }) 3) (hR_X8_isLeft : RoomOk R ({ frames := 0, cells := 0, slots := 0, locals := 0 }) 3) (hR_X8_valueIn : RoomOk R ({ frames := 2, cells := 0, slots := 0, locals := 43 }) 3) (S : PH) (v0 : Nat) (v1 : Int32) (v2 : Int32) (v3 : Int32) (r : Int32) (h : f_X8_knows S v0 v1 v2 v3 = some r) (hret : ∀ (v : Int32) (H : Heap) (locs : List Loc) (ls : Array Slot) (pc : Nat), Wd D G L A H0 S H locs → v = r → decode cX8_knows pc = .ok (.ireturn, 1) → W p l e R s m args below meth c H locs cells slots Q (F0 m pc ls [.int v])) : ∀ (H : Heap) (locs : List Loc) (ls : Array Slot), Wd D G L A H0 S H locs → lv_has ls 9 [(0, .ref v0), (1, .int v1), (2, .int v2), (3, .int v3)] → W p l e R s m args below meth c H locs cells slots Q (F0 m 0 ls []) := by
  have hx := C.1.1
  have hb := C.1.2.1
  unfold f_X8_knows at h
  intro H locs ls w hl
  refine lv_iload_n hx hb dX8_knows_0 rfl (lv_at hl 1 rfl) ?_
  obtain ⟨x1, hc, h⟩ := bs h
  refine o_backi w hLA (o_runS (As := [.int v1]) (rest := []) C w (c_X8_isAsker l D G L S v1 x1 hc) ml_X8_106 st_X8_isAsker hR_X8_isAsker rfl hl.1 rfl (Nat.le_of_ble_eq_true rfl) dX8_knows_1 hcs) (fun H locs w => ?_)
  refine lv_if_eq (tgt := 24) hx hb dX8_knows_4 (by decide) (fun cc4 => ?_) (fun cc4 => ?_)
  · have h := it cc4 h
    refine lv_iconst (v := -1) hx hb dX8_knows_24 (by decide) ?_
    exact hret _ _ _ _ _ w (Option.some.inj h) dX8_knows_25
  · have h := ie cc4 h
    refine lv_aload_n hx hb dX8_knows_7 rfl (lv_at hl 0 rfl) ?_
    refine lv_iload_n hx hb dX8_knows_8 rfl (lv_at hl 2 rfl) ?_
    obtain ⟨_, ho, h⟩ := bs h
    obtain ⟨x2, hc, h⟩ := bs h
    refine o_backi w hLA (o_runV (As := [.int v2]) (rest := []) C w (c_X8_isNumber l D G L S v0 v2 x2 hc) ml_X8_125 mv_X8_isNumber hR_X8_isNumber ho rfl hl.1 rfl (Nat.le_of_ble_eq_true rfl) dX8_knows_9 hcs) (fun H locs w => ?_)
    refine lv_if_eq (tgt := 24) hx hb dX8_knows_12 (by decide) (fun cc12 => ?_) (fun cc12 => ?_)
    · have h := it cc12 h
      refine lv_iconst (v := -1) hx hb dX8_knows_24 (by decide) ?_
      exact hret _ _ _ _ _ w (Option.some.inj h) dX8_knows_25
    · have h := ie cc12 h
      refine lv_iload_n hx hb dX8_knows_15 rfl (lv_at hl 3 rfl) ?_
      refine lv_iconst (v := 0) hx hb dX8_knows_16 (by decide) ?_
      refine lv_iconst (v := 3) hx hb dX8_knows_17 (by decide) ?_
      obtain ⟨x3, hc, h⟩ := bs h
      refine o_backi w hLA (o_runS (As := [.int v3, .int (0 : Int32), .int (3 : Int32)]) (rest := []) C w (c_X8_isIn l D G L S v3 (0 : Int32) (3 : Int32) x3 hc) ml_X8_40 st_X8_isIn hR_X8_isIn rfl hl.1 rfl (Nat.le_of_ble_eq_true rfl) dX8_knows_18 hcs) (fun H locs w => ?_)
      refine lv_if_ne (tgt := 26) hx hb dX8_knows_21 (by decide) (fun cc21 => ?_) (fun cc21 => ?_)
      · have h := ie cc21 h
        refine lv_iconst (v := 0) hx hb dX8_knows_26 (by decide) ?_
        refine lv_istore (lv' := [(4, .int (0 : Int32)), (0, .ref v0), (1, .int v1), (2, .int v2), (3, .int v3)]) hx hb dX8_knows_27 hl (by decide) rfl (fun ls hl => ?_)
        refine lv_iconst (v := 0) hx hb dX8_knows_29 (by decide) ?_
        refine lv_istore (lv' := [(5, .int (0 : Int32)), (4, .int (0 : Int32)), (0, .ref v0), (1, .int v1), (2, .int v2), (3, .int v3)]) hx hb dX8_knows_30 hl (by decide) rfl (fun ls hl => ?_)
        obtain ⟨y8, hL32, h⟩ := bs h
        have hE32 : ∀ (q26 : Int32), y8 = q26 → ∀ (H : Heap) (locs : List Loc) (ls : Array Slot), Wd D G L A H0 S H locs → lv_has ls 9 [(3, .int v3), (4, .int q26)] → W p l e R s m args below meth c H locs cells slots Q (F0 m 73 ls []) := by
          intro q26 he
          cases he
          intro H locs ls w hl
          refine lv_iconst (v := -1) hx hb dX8_knows_73 (by decide) ?_
          refine lv_istore (lv' := [(5, .int (-1 : Int32)), (3, .int v3), (4, .int y8)]) hx hb dX8_knows_74 hl (by decide) rfl (fun ls hl => ?_)
          refine lv_iconst (v := -1) hx hb dX8_knows_76 (by decide) ?_
          refine lv_istore (lv' := [(6, .int (-1 : Int32)), (5, .int (-1 : Int32)), (3, .int v3), (4, .int y8)]) hx hb dX8_knows_77 hl (by decide) rfl (fun ls hl => ?_)
          refine lv_iconst (v := 0) hx hb dX8_knows_79 (by decide) ?_
          refine lv_istore (lv' := [(7, .int (0 : Int32)), (6, .int (-1 : Int32)), (5, .int (-1 : Int32)), (3, .int v3), (4, .int y8)]) hx hb dX8_knows_80 hl (by decide) rfl (fun ls hl => ?_)
          refine lv_iconst (v := 0) hx hb dX8_knows_82 (by decide) ?_
          refine lv_istore (lv' := [(8, .int (0 : Int32)), (7, .int (0 : Int32)), (6, .int (-1 : Int32)), (5, .int (-1 : Int32)), (3, .int v3), (4, .int y8)]) hx hb dX8_knows_83 hl (by decide) rfl (fun ls hl => ?_)
          obtain ⟨y9, y10, y11, hL85, h⟩ := bs3 h
          have hE85 : ∀ (q12 : Int32) (q13 : Int32) (q14 : Int32), (y9, y10, y11) = (q12, q13, q14) → ∀ (H : Heap) (locs : List Loc) (ls : Array Slot), Wd D G L A H0 S H locs → lv_has ls 9 [(3, .int v3), (5, .int q12), (6, .int q13), (7, .int q14)] → W p l e R s m args below meth c H locs cells slots Q (F0 m 132 ls []) := by
            intro q12 q13 q14 he
            cases he
            intro H locs ls w hl
            refine lv_iload_n hx hb dX8_knows_132 rfl (lv_at hl 0 rfl) ?_
            refine lv_if_ne (tgt := 141) hx hb dX8_knows_133 (by decide) (fun cc133 => ?_) (fun cc133 => ?_)
            · have h := ie cc133 h
              refine lv_iload_n hx hb dX8_knows_141 rfl (lv_at hl 0 rfl) ?_
              refine lv_iconst (v := 1) hx hb dX8_knows_142 (by decide) ?_
              refine lv_icmp_ne (tgt := 151) hx hb dX8_knows_143 (by decide) (fun cc143 => ?_) (fun cc143 => ?_)
              · have h := ie cc143 h
                refine lv_iload_n hx hb dX8_knows_151 rfl (lv_at hl 0 rfl) ?_
                refine lv_iconst (v := 2) hx hb dX8_knows_152 (by decide) ?_
                refine lv_icmp_ne (tgt := 161) hx hb dX8_knows_153 (by decide) (fun cc153 => ?_) (fun cc153 => ?_)
                · have h := ie cc153 h
                  refine lv_iload hx hb dX8_knows_161 (lv_at hl 2 rfl) ?_
                  refine lv_iload hx hb dX8_knows_163 (lv_at hl 1 rfl) ?_
                  refine lv_isub hx hb dX8_knows_165 ?_
                  refine lv_iconst (v := 1) hx hb dX8_knows_166 (by decide) ?_
                  refine lv_iadd hx hb dX8_knows_167 ?_
                  exact hret _ _ _ _ _ w (Option.some.inj h) dX8_knows_168
                · have h := it cc153 h
                  refine lv_iload hx hb dX8_knows_156 (lv_at hl 3 rfl) ?_
                  refine lv_goto (tgt := 168) hx hb dX8_knows_158 (by decide) ?_
                  exact hret _ _ _ _ _ w (Option.some.inj h) dX8_knows_168
              · have h := it cc143 h
                refine lv_iload hx hb dX8_knows_146 (lv_at hl 2 rfl) ?_
                refine lv_goto (tgt := 168) hx hb dX8_knows_148 (by decide) ?_
                exact hret _ _ _ _ _ w (Option.some.inj h) dX8_knows_168
            · have h := it cc133 h
              refine lv_iload hx hb dX8_knows_136 (lv_at hl 1 rfl) ?_
              refine lv_goto (tgt := 168) hx hb dX8_knows_138 (by decide) ?_
              exact hret _ _ _ _ _ w (Option.some.inj h) dX8_knows_168
          refine lpo_W (P := fun x : Int32 × Int32 × Int32 × Int32 => ∀ (H : Heap) (locs : List Loc) (ls : Array Slot), Wd D G L A H0 S H locs → lv_has ls 9 [(3, .int v3), (4, .int y8), (5, .int x.1), (6, .int x.2.1), (7, .int x.2.2.1), (8, .int x.2.2.2)] → W p l e R s m args below meth c H locs cells slots Q (F0 m 85 ls [])) ?_ FU _ hL85 H locs ls w (lv_sub hl [4, 5, 3, 2, 1, 0] rfl)
          intro x y85 h hnext85 hend85
          obtain ⟨t15, t16, t17, t18⟩ := x
          have h : f_X8_knows_L85 S y8 t15 t16 t17 t18 = some y85 := h
          unfold f_X8_knows_L85 at h
          have hb126 : ∀ (u19 : Int32) (u20 : Int32) (u21 : Int32) (u22 : Int32), f_X8_knows_b126 S y8 u19 u20 u21 u22 = some y85 → ∀ (H : Heap) (locs : List Loc) (ls : Array Slot), Wd D G L A H0 S H locs → lv_has ls 9 [(3, .int v3), (4, .int y8), (5, .int u19), (6, .int u20), (7, .int u21), (8, .int u22)] → W p l e R s m args below meth c H locs cells slots Q (F0 m 126 ls []) := by
            intro u19 u20 u21 u22 h H locs ls w hl
            unfold f_X8_knows_b126 at h
            refine lv_iinc (v := (u22 + 1)) (lv' := [(8, .int (u22 + 1)), (3, .int v3), (4, .int y8), (5, .int u19), (6, .int u20), (7, .int u21)]) hx hb dX8_knows_126 hl (k := 5) rfl rfl (by decide) rfl (fun ls hl => ?_)
            refine lv_goto (tgt := 85) hx hb dX8_knows_129 (by decide) ?_
            exact hnext85 _ (Option.some.inj h).symm H locs ls w (lv_sub hl [1, 2, 3, 4, 5, 0] rfl)
          have hb117 : ∀ (u23 : Int32) (u24 : Int32) (u25 : Int32), f_X8_knows_b117 S y8 u23 u24 u25 = some y85 → ∀ (H : Heap) (locs : List Loc) (ls : Array Slot), Wd D G L A H0 S H locs → lv_has ls 9 [(3, .int v3), (4, .int y8), (7, .int u23), (8, .int u24)] → W p l e R s m args below meth c H locs cells slots Q (F0 m 117 ls [.int u25]) := by
            intro u23 u24 u25 h H locs ls w hl
            unfold f_X8_knows_b117 at h
            refine lv_istore (lv' := [(5, .int u25), (3, .int v3), (4, .int y8), (7, .int u23), (8, .int u24)]) hx hb dX8_knows_117 hl (by decide) rfl (fun ls hl => ?_)
            refine lv_iload hx hb dX8_knows_119 (lv_at hl 4 rfl) ?_
            refine lv_istore (lv' := [(6, .int u24), (5, .int u25), (3, .int v3), (4, .int y8), (7, .int u23), (8, .int u24)]) hx hb dX8_knows_121 hl (by decide) rfl (fun ls hl => ?_)
            refine lv_iinc (v := (u23 + 1)) (lv' := [(7, .int (u23 + 1)), (6, .int u24), (5, .int u25), (3, .int v3), (4, .int y8), (8, .int u24)]) hx hb dX8_knows_123 hl (k := 4) rfl rfl (by decide) rfl (fun ls hl => ?_)
            exact hb126 _ _ _ _ h H locs ls w (lv_sub hl [3, 4, 2, 1, 0, 5] rfl)
          intro H locs ls w hl
          have hl : lv_has ls 9 [(3, .int v3), (4, .int y8), (5, .int t15), (6, .int t16), (7, .int t17), (8, .int t18)] := hl
          refine lv_iload hx hb dX8_knows_85 (lv_at hl 5 rfl) ?_
          refine lv_bipush (v := 21) hx hb dX8_knows_87 (by decide) ?_
          refine lv_icmp_ge (tgt := 132) hx hb dX8_knows_89 (by decide) (fun cc89 => ?_) (fun cc89 => ?_)
          · have h := it cc89 h
            exact hE85 _ _ _ (hend85 _ (Option.some.inj h).symm).symm H locs ls w (lv_sub hl [0, 2, 3, 4] rfl)
          · have h := ie cc89 h
            refine lv_iload hx hb dX8_knows_92 (lv_at hl 1 rfl) ?_
            refine lv_iload hx hb dX8_knows_94 (lv_at hl 5 rfl) ?_
            refine lv_ishr hx hb dX8_knows_96 ?_
            refine lv_iconst (v := 1) hx hb dX8_knows_97 (by decide) ?_
            refine lv_iand hx hb dX8_knows_98 ?_
            refine lv_if_ne (tgt := 105) hx hb dX8_knows_99 (by decide) (fun cc99 => ?_) (fun cc99 => ?_)
            · have h := ie cc99 h
              refine lv_iload hx hb dX8_knows_105 (lv_at hl 2 rfl) ?_
              refine lv_if_ge (tgt := 115) hx hb dX8_knows_107 (by decide) (fun cc107 => ?_) (fun cc107 => ?_)
              · have h := it cc107 h
                refine lv_iload hx hb dX8_knows_115 (lv_at hl 2 rfl) ?_
                exact hb117 _ _ _ h H locs ls w (lv_sub hl [0, 1, 4, 5] rfl)
              · have h := ie cc107 h
                refine lv_iload hx hb dX8_knows_110 (lv_at hl 5 rfl) ?_
                refine lv_goto (tgt := 117) hx hb dX8_knows_112 (by decide) ?_
                exact hb117 _ _ _ h H locs ls w (lv_sub hl [0, 1, 4, 5] rfl)
            · have h := it cc99 h
              refine lv_goto (tgt := 126) hx hb dX8_knows_102 (by decide) ?_
              exact hb126 _ _ _ _ h H locs ls w (lv_sub hl [0, 1, 2, 3, 4, 5] rfl)
        refine lpo_W (P := fun x : Int32 × Int32 => ∀ (H : Heap) (locs : List Loc) (ls : Array Slot), Wd D G L A H0 S H locs → lv_has ls 9 [(0, .ref v0), (1, .int v1), (2, .int v2), (3, .int v3), (4, .int x.1), (5, .int x.2)] → W p l e R s m args below meth c H locs cells slots Q (F0 m 32 ls [])) ?_ FU _ hL32 H locs ls w (lv_sub hl [2, 3, 4, 5, 1, 0] rfl)
        intro x y32 h hnext32 hend32
        obtain ⟨t27, t28⟩ := x
        have h : f_X8_knows_L32 S v0 v1 v2 t27 t28 = some y32 := h
        unfold f_X8_knows_L32 at h
        have hb67 : ∀ (u29 : Int32) (u30 : Int32), f_X8_knows_b67 S v0 v1 v2 u29 u30 = some y32 → ∀ (H : Heap) (locs : List Loc) (ls : Array Slot), Wd D G L A H0 S H locs → lv_has ls 9 [(0, .ref v0), (1, .int v1), (2, .int v2), (3, .int v3), (4, .int u29), (5, .int u30)] → W p l e R s m args below meth c H locs cells slots Q (F0 m 67 ls []) := by
          intro u29 u30 h H locs ls w hl
          unfold f_X8_knows_b67 at h
          refine lv_iinc (v := (u30 + 1)) (lv' := [(5, .int (u30 + 1)), (0, .ref v0), (1, .int v1), (2, .int v2), (3, .int v3), (4, .int u29)]) hx hb dX8_knows_67 hl (k := 5) rfl rfl (by decide) rfl (fun ls hl => ?_)
          refine lv_goto (tgt := 32) hx hb dX8_knows_70 (by decide) ?_
          exact hnext32 _ (Option.some.inj h).symm H locs ls w (lv_sub hl [1, 2, 3, 4, 5, 0] rfl)
        intro H locs ls w hl
        have hl : lv_has ls 9 [(0, .ref v0), (1, .int v1), (2, .int v2), (3, .int v3), (4, .int t27), (5, .int t28)] := hl
        refine lv_iload hx hb dX8_knows_32 (lv_at hl 5 rfl) ?_
        refine lv_aload_n hx hb dX8_knows_34 rfl (lv_at hl 0 rfl) ?_
        obtain ⟨x31, hx31, h⟩ := bs h
        refine o_gR C w hx31 fl_X8_8 dX8_knows_35 ?_
        refine lv_iconst (v := 2) hx hb dX8_knows_38 (by decide) ?_
        obtain ⟨x32, hx32, h⟩ := bs h
        refine o_ldI C w hx32 dX8_knows_39 ?_
        refine lv_icmp_ge (tgt := 73) hx hb dX8_knows_40 (by decide) (fun cc40 => ?_) (fun cc40 => ?_)
        · have h := it cc40 h
          exact hE32 _ (hend32 _ (Option.some.inj h).symm).symm H locs ls w (lv_sub hl [3, 4] rfl)
        · have h := ie cc40 h
          refine lv_aload_n hx hb dX8_knows_43 rfl (lv_at hl 0 rfl) ?_
          refine lv_iload_n hx hb dX8_knows_44 rfl (lv_at hl 1 rfl) ?_
          refine lv_iload hx hb dX8_knows_45 (lv_at hl 5 rfl) ?_
          obtain ⟨_, ho, h⟩ := bs h
          obtain ⟨x33, hc, h⟩ := bs h
          refine o_backi w hLA (o_runV (As := [.int v1, .int t28]) (rest := []) C w (c_X8_isLeft l D G L S v0 v1 t28 x33 hc) ml_X8_93 mv_X8_isLeft hR_X8_isLeft ho rfl hl.1 rfl (Nat.le_of_ble_eq_true rfl) dX8_knows_47 hcs) (fun H locs w => ?_)
          refine lv_if_eq (tgt := 67) hx hb dX8_knows_50 (by decide) (fun cc50 => ?_) (fun cc50 => ?_)
          · have h := it cc50 h
            exact hb67 _ _ h H locs ls w (lv_sub hl [0, 1, 2, 3, 4, 5] rfl)
          · have h := ie cc50 h
            refine lv_iload hx hb dX8_knows_53 (lv_at hl 4 rfl) ?_
            refine lv_iconst (v := 1) hx hb dX8_knows_55 (by decide) ?_
            refine lv_aload_n hx hb dX8_knows_56 rfl (lv_at hl 0 rfl) ?_
            refine lv_iload hx hb dX8_knows_57 (lv_at hl 5 rfl) ?_
            refine lv_iload_n hx hb dX8_knows_59 rfl (lv_at hl 2 rfl) ?_
            obtain ⟨_, ho, h⟩ := bs h
            obtain ⟨x34, hc, h⟩ := bs h
            refine o_backi w hLA (o_runV (As := [.int t28, .int v2]) (rest := [.int (1 : Int32), .int t27]) C w (c_X8_valueIn l D G L S v0 t28 v2 x34 hc) ml_X8_80 mv_X8_valueIn hR_X8_valueIn ho rfl hl.1 rfl (Nat.le_of_ble_eq_true rfl) dX8_knows_60 hcs) (fun H locs w => ?_)
            refine lv_ishl hx hb dX8_knows_63 ?_
            refine lv_ior hx hb dX8_knows_64 ?_
            refine lv_istore (lv' := [(4, .int (t27 ||| ((1 : Int32) <<< (x34 &&& 31)))), (0, .ref v0), (1, .int v1), (2, .int v2), (3, .int v3), (5, .int t28)]) hx hb dX8_knows_65 hl (by decide) rfl (fun ls hl => ?_)
            exact hb67 _ _ h H locs ls w (lv_sub hl [1, 2, 3, 4, 0, 5] rfl)
      · have h := it cc21 h
        refine lv_iconst (v := -1) hx hb dX8_knows_24 (by decide) ?_
        exact hret _ _ _ _ _ w (Option.some.inj h) dX8_knows_25
set_option maxHeartbeats 4000000 in
set_option maxRecDepth 100000 in
theorem c_X8_knows (l : Launch) (D : va_G) (G : Nat → ClassId) (L : List Nat) (S : PH) (v0 : Nat) (v1 : Int32) (v2 : Int32) (v3 : Int32) (r : Int32) (h : f_X8_knows S v0 v1 v2 v3 = some r) : Met l yX8_knows [Cond.code yX8_knows cX8_knows 9 (some .int)] ({ frames := 3, cells := 0, slots := 0, locals := 65 }) (va_Pc [.ref v0, .int v1, .int v2, .int v3] (PreU D G L S)) (Qi D G L r S) 0 0 (inL L) := by
  refine Met.ofW (cc := cX8_knows) (maxL := 9) (ret := (some .int)) (by decide) rfl ?_
  intro p e s m args below meth c s₁ B hml hv
  obtain ⟨rfl, hpre⟩ := hv
  obtain ⟨C, w⟩ := o_ent (own := RX8) rfl B hml hpre
  have hl := lv_entry ([.ref v0, .int v1, .int v2, .int v3]) (n := 9) (Nat.le_of_ble_eq_true rfl)
  rw [lg_entry_eq]
  generalize (lg_sl ([.ref v0, .int v1, .int v2, .int v3]) ++ List.replicate (9 - (lg_sl ([.ref v0, .int v1, .int v2, .int v3])).length) Slot.unset).toArray = ls at hl ⊢
  exact w_X8_knows C (fun _ h => h) ⟨Nat.zero_le _, Nat.zero_le _⟩ ⟨rfl, rfl, Nat.le_of_ble_eq_true rfl, Nat.le_of_ble_eq_true rfl⟩ ⟨rfl, rfl, Nat.le_of_ble_eq_true rfl, Nat.le_of_ble_eq_true rfl⟩ ⟨rfl, rfl, Nat.le_of_ble_eq_true rfl, Nat.le_of_ble_eq_true rfl⟩ ⟨rfl, rfl, Nat.le_of_ble_eq_true rfl, Nat.le_of_ble_eq_true rfl⟩ ⟨rfl, rfl, Nat.le_of_ble_eq_true rfl, Nat.le_of_ble_eq_true rfl⟩ S v0 v1 v2 v3 r h (fun v H locs ls pc w hv hd => by subst hv; exact o_iret C w B.returns B.notSynchronized hd) _ _ _ w hl

def f_X8_tables_L13 (S : PH) (v0 : Nat) (v1 : Int32) (v2 : Int32) (v3 : Int32) : Option ((Int32 × Int32) ⊕ (Int32)) :=
(gR S v0 8 0).bind fun x2 =>
(ldI S x2 (2 : Int32)).bind fun x3 =>
if x3 ≤ v3 then (
some (.inr v2))
else (
(gR S v0 8 0).bind fun x4 =>
(ldI S x4 (((1130 : Int32) + ((4096 : Int32) * v1)) + v3)).bind fun x5 =>
some (.inl ((v2 + x5), (v3 + 1))))
def f_X8_tables (S : PH) (v0 : Nat) (v1 : Int32) : Option (Int32) :=
(f_X8_isAsker v1).bind fun x1 =>
if x1 = 0 then (
some (-1 : Int32))
else (
(lpo (fun x : Int32 × Int32 => f_X8_tables_L13 S v0 v1 x.1 x.2) FU ((0 : Int32), (0 : Int32))).bind fun y6 =>
some y6)
set_option maxHeartbeats 4000000 in
set_option maxRecDepth 100000 in
theorem w_X8_tables {p : Program} {l : Launch} {e : Env} {R : Room} {s : State} {m : MethodId} {args : Array Value} {below : List Frame} {meth : Method} {c : Code} {cells slots : Nat} {Q : State → Prop} {D : va_G} {G : Nat → ClassId} {L : List Nat} {A : Nat → Prop} {H0 : Heap} (C : CX p s m c args D G cX8_tables 4 RX8) (hLA : ∀ q ∈ L, A q) (hcs : cells ≤ R.cells ∧ slots ≤ R.slots) (hR_X8_isAsker : RoomOk R ({ frames := 1, cells := 0, slots := 0, locals := 22 }) 1) (S : PH) (v0 : Nat) (v1 : Int32) (r : Int32) (h : f_X8_tables S v0 v1 = some r) (hret : ∀ (v : Int32) (H : Heap) (locs : List Loc) (ls : Array Slot) (pc : Nat), Wd D G L A H0 S H locs → v = r → decode cX8_tables pc = .ok (.ireturn, 1) → W p l e R s m args below meth c H locs cells slots Q (F0 m pc ls [.int v])) : ∀ (H : Heap) (locs : List Loc) (ls : Array Slot), Wd D G L A H0 S H locs → lv_has ls 4 [(0, .ref v0), (1, .int v1)] → W p l e R s m args below meth c H locs cells slots Q (F0 m 0 ls []) := by
  have hx := C.1.1
  have hb := C.1.2.1
  unfold f_X8_tables at h
  intro H locs ls w hl
  refine lv_iload_n hx hb dX8_tables_0 rfl (lv_at hl 1 rfl) ?_
  obtain ⟨x1, hc, h⟩ := bs h
  refine o_backi w hLA (o_runS (As := [.int v1]) (rest := []) C w (c_X8_isAsker l D G L S v1 x1 hc) ml_X8_106 st_X8_isAsker hR_X8_isAsker rfl hl.1 rfl (Nat.le_of_ble_eq_true rfl) dX8_tables_1 hcs) (fun H locs w => ?_)
  refine lv_if_ne (tgt := 9) hx hb dX8_tables_4 (by decide) (fun cc4 => ?_) (fun cc4 => ?_)
  · have h := ie cc4 h
    refine lv_iconst (v := 0) hx hb dX8_tables_9 (by decide) ?_
    refine lv_istore_n (lv' := [(2, .int (0 : Int32)), (0, .ref v0), (1, .int v1)]) hx hb dX8_tables_10 rfl hl (by decide) rfl (fun ls hl => ?_)
    refine lv_iconst (v := 0) hx hb dX8_tables_11 (by decide) ?_
    refine lv_istore_n (lv' := [(3, .int (0 : Int32)), (2, .int (0 : Int32)), (0, .ref v0), (1, .int v1)]) hx hb dX8_tables_12 rfl hl (by decide) rfl (fun ls hl => ?_)
    obtain ⟨y6, hL13, h⟩ := bs h
    have hE13 : ∀ (q7 : Int32), y6 = q7 → ∀ (H : Heap) (locs : List Loc) (ls : Array Slot), Wd D G L A H0 S H locs → lv_has ls 4 [(2, .int q7)] → W p l e R s m args below meth c H locs cells slots Q (F0 m 48 ls []) := by
      intro q7 he
      cases he
      intro H locs ls w hl
      refine lv_iload_n hx hb dX8_tables_48 rfl (lv_at hl 0 rfl) ?_
      exact hret _ _ _ _ _ w (Option.some.inj h) dX8_tables_49
    refine lpo_W (P := fun x : Int32 × Int32 => ∀ (H : Heap) (locs : List Loc) (ls : Array Slot), Wd D G L A H0 S H locs → lv_has ls 4 [(0, .ref v0), (1, .int v1), (2, .int x.1), (3, .int x.2)] → W p l e R s m args below meth c H locs cells slots Q (F0 m 13 ls [])) ?_ FU _ hL13 H locs ls w (lv_sub hl [2, 3, 1, 0] rfl)
    intro x y13 h hnext13 hend13
    obtain ⟨t8, t9⟩ := x
    have h : f_X8_tables_L13 S v0 v1 t8 t9 = some y13 := h
    unfold f_X8_tables_L13 at h
    intro H locs ls w hl
    have hl : lv_has ls 4 [(0, .ref v0), (1, .int v1), (2, .int t8), (3, .int t9)] := hl
    refine lv_iload_n hx hb dX8_tables_13 rfl (lv_at hl 3 rfl) ?_
    refine lv_aload_n hx hb dX8_tables_14 rfl (lv_at hl 0 rfl) ?_
    obtain ⟨x10, hx10, h⟩ := bs h
    refine o_gR C w hx10 fl_X8_8 dX8_tables_15 ?_
    refine lv_iconst (v := 2) hx hb dX8_tables_18 (by decide) ?_
    obtain ⟨x11, hx11, h⟩ := bs h
    refine o_ldI C w hx11 dX8_tables_19 ?_
    refine lv_icmp_ge (tgt := 48) hx hb dX8_tables_20 (by decide) (fun cc20 => ?_) (fun cc20 => ?_)
    · have h := it cc20 h
      exact hE13 _ (hend13 _ (Option.some.inj h).symm).symm H locs ls w (lv_sub hl [2] rfl)
    · have h := ie cc20 h
      refine lv_iload_n hx hb dX8_tables_23 rfl (lv_at hl 2 rfl) ?_
      refine lv_aload_n hx hb dX8_tables_24 rfl (lv_at hl 0 rfl) ?_
      obtain ⟨x12, hx12, h⟩ := bs h
      refine o_gR C w hx12 fl_X8_8 dX8_tables_25 ?_
      refine lv_sipush (v := 1130) hx hb dX8_tables_28 (by decide) ?_
      refine lv_sipush (v := 4096) hx hb dX8_tables_31 (by decide) ?_
      refine lv_iload_n hx hb dX8_tables_34 rfl (lv_at hl 1 rfl) ?_
      refine lv_imul hx hb dX8_tables_35 ?_
      refine lv_iadd hx hb dX8_tables_36 ?_
      refine lv_iload_n hx hb dX8_tables_37 rfl (lv_at hl 3 rfl) ?_
      refine lv_iadd hx hb dX8_tables_38 ?_
      obtain ⟨x13, hx13, h⟩ := bs h
      refine o_ldI C w hx13 dX8_tables_39 ?_
      refine lv_iadd hx hb dX8_tables_40 ?_
      refine lv_istore_n (lv' := [(2, .int (t8 + x13)), (0, .ref v0), (1, .int v1), (3, .int t9)]) hx hb dX8_tables_41 rfl hl (by decide) rfl (fun ls hl => ?_)
      refine lv_iinc (v := (t9 + 1)) (lv' := [(3, .int (t9 + 1)), (2, .int (t8 + x13)), (0, .ref v0), (1, .int v1)]) hx hb dX8_tables_42 hl (k := 3) rfl rfl (by decide) rfl (fun ls hl => ?_)
      refine lv_goto (tgt := 13) hx hb dX8_tables_45 (by decide) ?_
      exact hnext13 _ (Option.some.inj h).symm H locs ls w (lv_sub hl [2, 3, 1, 0] rfl)
  · have h := it cc4 h
    refine lv_iconst (v := -1) hx hb dX8_tables_7 (by decide) ?_
    exact hret _ _ _ _ _ w (Option.some.inj h) dX8_tables_8
set_option maxHeartbeats 4000000 in
set_option maxRecDepth 100000 in
theorem c_X8_tables (l : Launch) (D : va_G) (G : Nat → ClassId) (L : List Nat) (S : PH) (v0 : Nat) (v1 : Int32) (r : Int32) (h : f_X8_tables S v0 v1 = some r) : Met l yX8_tables [Cond.code yX8_tables cX8_tables 4 (some .int)] ({ frames := 2, cells := 0, slots := 0, locals := 42 }) (va_Pc [.ref v0, .int v1] (PreU D G L S)) (Qi D G L r S) 0 0 (inL L) := by
  refine Met.ofW (cc := cX8_tables) (maxL := 4) (ret := (some .int)) (by decide) rfl ?_
  intro p e s m args below meth c s₁ B hml hv
  obtain ⟨rfl, hpre⟩ := hv
  obtain ⟨C, w⟩ := o_ent (own := RX8) rfl B hml hpre
  have hl := lv_entry ([.ref v0, .int v1]) (n := 4) (Nat.le_of_ble_eq_true rfl)
  rw [lg_entry_eq]
  generalize (lg_sl ([.ref v0, .int v1]) ++ List.replicate (4 - (lg_sl ([.ref v0, .int v1])).length) Slot.unset).toArray = ls at hl ⊢
  exact w_X8_tables C (fun _ h => h) ⟨Nat.zero_le _, Nat.zero_le _⟩ ⟨rfl, rfl, Nat.le_of_ble_eq_true rfl, Nat.le_of_ble_eq_true rfl⟩ S v0 v1 r h (fun v H locs ls pc w hv hd => by subst hv; exact o_iret C w B.returns B.notSynchronized hd) _ _ _ w hl

def f_X8_broken_b40 (S : PH) (v0 : Nat) (v1 : Int32) (v2 : Int32) : Option ((Int32 × PH) ⊕ (PH)) :=
some (.inl ((v2 + 1), S))
def f_X8_broken_L15 (S : PH) (v0 : Nat) (v1 : Int32) (v2 : Int32) : Option ((Int32 × PH) ⊕ (PH)) :=
(gR S v0 8 0).bind fun x3 =>
(ldI S x3 (2 : Int32)).bind fun x4 =>
if x4 ≤ v2 then (
some (.inr S))
else (
(ckO S v0 8).bind fun _ =>
(f_X8_isLeft S v0 v1 v2).bind fun x5 =>
if x5 = 0 then (
f_X8_broken_b40 S v0 v1 v2)
else (
(ckO S v0 8).bind fun _ =>
(f_X8_meets S v0 (0 : Int32) v2).bind fun S6 =>
f_X8_broken_b40 S6 v0 v1 v2))
def f_X8_broken (S : PH) (v0 : Nat) (v1 : Int32) : Option (Int32 × PH) :=
(f_X8_isAsker v1).bind fun x1 =>
if x1 = 0 then (
some ((0 : Int32), S))
else (
(ckO S v0 8).bind fun _ =>
(f_X8_clears S v0).bind fun S2 =>
(lpo (fun x : Int32 × PH => f_X8_broken_L15 x.2 v0 v1 x.1) FU ((0 : Int32), S2)).bind fun S7 =>
(ckO S7 v0 8).bind fun _ =>
(f_X8_isClose S7 v0 (0 : Int32)).bind fun x8 =>
(ckZ x8).bind fun _ =>
some (x8, S7))
set_option maxHeartbeats 4000000 in
set_option maxRecDepth 100000 in
theorem w_X8_broken {p : Program} {l : Launch} {e : Env} {R : Room} {s : State} {m : MethodId} {args : Array Value} {below : List Frame} {meth : Method} {c : Code} {cells slots : Nat} {Q : State → Prop} {D : va_G} {G : Nat → ClassId} {L : List Nat} {A : Nat → Prop} {H0 : Heap} (C : CX p s m c args D G cX8_broken 3 RX8) (hLA : ∀ q ∈ L, A q) (hcs : cells ≤ R.cells ∧ slots ≤ R.slots) (hR_X8_isAsker : RoomOk R ({ frames := 1, cells := 0, slots := 0, locals := 22 }) 1) (hR_X8_clears : RoomOk R ({ frames := 0, cells := 0, slots := 0, locals := 0 }) 2) (hR_X8_isLeft : RoomOk R ({ frames := 0, cells := 0, slots := 0, locals := 0 }) 3) (hR_X8_meets : RoomOk R ({ frames := 3, cells := 0, slots := 0, locals := 65 }) 6) (hR_X8_isClose : RoomOk R ({ frames := 1, cells := 0, slots := 0, locals := 22 }) 4) (S : PH) (v0 : Nat) (v1 : Int32) (r : Int32 × PH) (h : f_X8_broken S v0 v1 = some r) (hret : ∀ (v : Int32) (S9 : PH) (H : Heap) (locs : List Loc) (ls : Array Slot) (pc : Nat), Wd D G L A H0 S9 H locs → narrow .boolean (.int v) = .int v → (v, S9) = r → decode cX8_broken pc = .ok (.ireturn, 1) → W p l e R s m args below meth c H locs cells slots Q (F0 m pc ls [.int v])) : ∀ (H : Heap) (locs : List Loc) (ls : Array Slot), Wd D G L A H0 S H locs → lv_has ls 3 [(0, .ref v0), (1, .int v1)] → W p l e R s m args below meth c H locs cells slots Q (F0 m 0 ls []) := by
  have hx := C.1.1
  have hb := C.1.2.1
  unfold f_X8_broken at h
  intro H locs ls w hl
  refine lv_iload_n hx hb dX8_broken_0 rfl (lv_at hl 1 rfl) ?_
  obtain ⟨x1, hc, h⟩ := bs h
  refine o_backi w hLA (o_runS (As := [.int v1]) (rest := []) C w (c_X8_isAsker l D G L S v1 x1 hc) ml_X8_106 st_X8_isAsker hR_X8_isAsker rfl hl.1 rfl (Nat.le_of_ble_eq_true rfl) dX8_broken_1 hcs) (fun H locs w => ?_)
  refine lv_if_ne (tgt := 9) hx hb dX8_broken_4 (by decide) (fun cc4 => ?_) (fun cc4 => ?_)
  · have h := ie cc4 h
    refine lv_aload_n hx hb dX8_broken_9 rfl (lv_at hl 0 rfl) ?_
    obtain ⟨_, ho, h⟩ := bs h
    obtain ⟨S2, hc, h⟩ := bs h
    refine o_backv w hLA (o_runV (As := []) (rest := []) C w (c_X8_clears l D G L S v0 S2 hc) ml_X8_90 mv_X8_clears hR_X8_clears ho rfl hl.1 rfl (Nat.le_of_ble_eq_true rfl) dX8_broken_10 hcs) (fun H locs w => ?_)
    refine lv_iconst (v := 0) hx hb dX8_broken_13 (by decide) ?_
    refine lv_istore_n (lv' := [(2, .int (0 : Int32)), (0, .ref v0), (1, .int v1)]) hx hb dX8_broken_14 rfl hl (by decide) rfl (fun ls hl => ?_)
    obtain ⟨S7, hL15, h⟩ := bs h
    have hE15 : ∀ (q9 : PH), S7 = q9 → ∀ (H : Heap) (locs : List Loc) (ls : Array Slot), Wd D G L A H0 q9 H locs → lv_has ls 3 [(0, .ref v0)] → W p l e R s m args below meth c H locs cells slots Q (F0 m 46 ls []) := by
      intro q9 he
      cases he
      intro H locs ls w hl
      refine lv_aload_n hx hb dX8_broken_46 rfl (lv_at hl 0 rfl) ?_
      refine lv_iconst (v := 0) hx hb dX8_broken_47 (by decide) ?_
      obtain ⟨_, ho, h⟩ := bs h
      obtain ⟨x8, hc, h⟩ := bs h
      refine o_backi w hLA (o_runV (As := [.int (0 : Int32)]) (rest := []) C w (c_X8_isClose l D G L S7 v0 (0 : Int32) x8 hc) ml_X8_103 mv_X8_isClose hR_X8_isClose ho rfl hl.1 rfl (Nat.le_of_ble_eq_true rfl) dX8_broken_48 hcs) (fun H locs w => ?_)
      obtain ⟨_, hz, h⟩ := bs h
      exact hret _ _ _ _ _ _ w (ckZ_some hz) (Option.some.inj h) dX8_broken_51
    refine lpo_W (P := fun x : Int32 × PH => ∀ (H : Heap) (locs : List Loc) (ls : Array Slot), Wd D G L A H0 x.2 H locs → lv_has ls 3 [(0, .ref v0), (1, .int v1), (2, .int x.1)] → W p l e R s m args below meth c H locs cells slots Q (F0 m 15 ls [])) ?_ FU _ hL15 H locs ls w (lv_sub hl [1, 2, 0] rfl)
    intro x y15 h hnext15 hend15
    obtain ⟨t10, S11⟩ := x
    have h : f_X8_broken_L15 S11 v0 v1 t10 = some y15 := h
    unfold f_X8_broken_L15 at h
    have hb40 : ∀ (S12 : PH) (u13 : Int32), f_X8_broken_b40 S12 v0 v1 u13 = some y15 → ∀ (H : Heap) (locs : List Loc) (ls : Array Slot), Wd D G L A H0 S12 H locs → lv_has ls 3 [(0, .ref v0), (1, .int v1), (2, .int u13)] → W p l e R s m args below meth c H locs cells slots Q (F0 m 40 ls []) := by
      intro S12 u13 h H locs ls w hl
      unfold f_X8_broken_b40 at h
      refine lv_iinc (v := (u13 + 1)) (lv' := [(2, .int (u13 + 1)), (0, .ref v0), (1, .int v1)]) hx hb dX8_broken_40 hl (k := 2) rfl rfl (by decide) rfl (fun ls hl => ?_)
      refine lv_goto (tgt := 15) hx hb dX8_broken_43 (by decide) ?_
      exact hnext15 _ (Option.some.inj h).symm H locs ls w (lv_sub hl [1, 2, 0] rfl)
    intro H locs ls w hl
    have hl : lv_has ls 3 [(0, .ref v0), (1, .int v1), (2, .int t10)] := hl
    have w : Wd D G L A H0 S11 H locs := w
    refine lv_iload_n hx hb dX8_broken_15 rfl (lv_at hl 2 rfl) ?_
    refine lv_aload_n hx hb dX8_broken_16 rfl (lv_at hl 0 rfl) ?_
    obtain ⟨x14, hx14, h⟩ := bs h
    refine o_gR C w hx14 fl_X8_8 dX8_broken_17 ?_
    refine lv_iconst (v := 2) hx hb dX8_broken_20 (by decide) ?_
    obtain ⟨x15, hx15, h⟩ := bs h
    refine o_ldI C w hx15 dX8_broken_21 ?_
    refine lv_icmp_ge (tgt := 46) hx hb dX8_broken_22 (by decide) (fun cc22 => ?_) (fun cc22 => ?_)
    · have h := it cc22 h
      exact hE15 _ (hend15 _ (Option.some.inj h).symm).symm H locs ls w (lv_sub hl [0] rfl)
    · have h := ie cc22 h
      refine lv_aload_n hx hb dX8_broken_25 rfl (lv_at hl 0 rfl) ?_
      refine lv_iload_n hx hb dX8_broken_26 rfl (lv_at hl 1 rfl) ?_
      refine lv_iload_n hx hb dX8_broken_27 rfl (lv_at hl 2 rfl) ?_
      obtain ⟨_, ho, h⟩ := bs h
      obtain ⟨x16, hc, h⟩ := bs h
      refine o_backi w hLA (o_runV (As := [.int v1, .int t10]) (rest := []) C w (c_X8_isLeft l D G L S11 v0 v1 t10 x16 hc) ml_X8_93 mv_X8_isLeft hR_X8_isLeft ho rfl hl.1 rfl (Nat.le_of_ble_eq_true rfl) dX8_broken_28 hcs) (fun H locs w => ?_)
      refine lv_if_eq (tgt := 40) hx hb dX8_broken_31 (by decide) (fun cc31 => ?_) (fun cc31 => ?_)
      · have h := it cc31 h
        exact hb40 _ _ h H locs ls w (lv_sub hl [0, 1, 2] rfl)
      · have h := ie cc31 h
        refine lv_aload_n hx hb dX8_broken_34 rfl (lv_at hl 0 rfl) ?_
        refine lv_iconst (v := 0) hx hb dX8_broken_35 (by decide) ?_
        refine lv_iload_n hx hb dX8_broken_36 rfl (lv_at hl 2 rfl) ?_
        obtain ⟨_, ho, h⟩ := bs h
        obtain ⟨S17, hc, h⟩ := bs h
        refine o_backv w hLA (o_runV (As := [.int (0 : Int32), .int t10]) (rest := []) C w (c_X8_meets l D G L S11 v0 (0 : Int32) t10 S17 hc) ml_X8_100 mv_X8_meets hR_X8_meets ho rfl hl.1 rfl (Nat.le_of_ble_eq_true rfl) dX8_broken_37 hcs) (fun H locs w => ?_)
        exact hb40 _ _ h H locs ls w (lv_sub hl [0, 1, 2] rfl)
  · have h := it cc4 h
    refine lv_iconst (v := 0) hx hb dX8_broken_7 (by decide) ?_
    exact hret _ _ _ _ _ _ w rfl (Option.some.inj h) dX8_broken_8
set_option maxHeartbeats 4000000 in
set_option maxRecDepth 100000 in
theorem c_X8_broken (l : Launch) (D : va_G) (G : Nat → ClassId) (L : List Nat) (S : PH) (v0 : Nat) (v1 : Int32) (r : Int32 × PH) (h : f_X8_broken S v0 v1 = some r) : Met l yX8_broken [Cond.code yX8_broken cX8_broken 3 (some .boolean)] ({ frames := 4, cells := 0, slots := 0, locals := 90 }) (va_Pc [.ref v0, .int v1] (PreU D G L S)) (Qi D G L r.1 r.2) 0 0 (inL L) := by
  refine Met.ofW (cc := cX8_broken) (maxL := 3) (ret := (some .boolean)) (by decide) rfl ?_
  intro p e s m args below meth c s₁ B hml hv
  obtain ⟨rfl, hpre⟩ := hv
  obtain ⟨C, w⟩ := o_ent (own := RX8) rfl B hml hpre
  have hl := lv_entry ([.ref v0, .int v1]) (n := 3) (Nat.le_of_ble_eq_true rfl)
  rw [lg_entry_eq]
  generalize (lg_sl ([.ref v0, .int v1]) ++ List.replicate (3 - (lg_sl ([.ref v0, .int v1])).length) Slot.unset).toArray = ls at hl ⊢
  exact w_X8_broken C (fun _ h => h) ⟨Nat.zero_le _, Nat.zero_le _⟩ ⟨rfl, rfl, Nat.le_of_ble_eq_true rfl, Nat.le_of_ble_eq_true rfl⟩ ⟨rfl, rfl, Nat.le_of_ble_eq_true rfl, Nat.le_of_ble_eq_true rfl⟩ ⟨rfl, rfl, Nat.le_of_ble_eq_true rfl, Nat.le_of_ble_eq_true rfl⟩ ⟨rfl, rfl, Nat.le_of_ble_eq_true rfl, Nat.le_of_ble_eq_true rfl⟩ ⟨rfl, rfl, Nat.le_of_ble_eq_true rfl, Nat.le_of_ble_eq_true rfl⟩ S v0 v1 r h (fun v S9 H locs ls pc w hz hv hd => by subst hv; exact o_zret C w B.returns B.notSynchronized hz hd) _ _ _ w hl

def f_X8_tell (S : PH) (v0 : Nat) (v1 : Int32) (v2 : Int32) : Option (Int32) :=
if v2 = 0 then (
(ckO S v0 8).bind fun _ =>
(f_X8_isPerson S v0 v1).bind fun x10 =>
if x10 = 0 then (
some (-1 : Int32))
else (
(gR S v0 8 0).bind fun x11 =>
(ldI S x11 ((10 : Int32) + v1)).bind fun x12 =>
some x12))
else (
(ckO S v0 8).bind fun _ =>
(f_X8_isNumber S v0 v1).bind fun x1 =>
if x1 = 0 then (
some (-1 : Int32))
else (
if v2 = 1 then (
(ckO S v0 8).bind fun _ =>
(f_X8_of S v0 v1 (0 : Int32)).bind fun x2 =>
some x2)
else if v2 = 2 then (
(ckO S v0 8).bind fun _ =>
(f_X8_of S v0 v1 (1 : Int32)).bind fun x3 =>
some x3)
else if v2 = 3 then (
(ckO S v0 8).bind fun _ =>
(f_X8_of S v0 v1 (2 : Int32)).bind fun x4 =>
some x4)
else if v2 = 4 then (
(ckO S v0 8).bind fun _ =>
(f_X8_of S v0 v1 (3 : Int32)).bind fun x5 =>
some x5)
else if v2 = 5 then (
(gR S v0 8 0).bind fun x6 =>
(ckO S v0 8).bind fun _ =>
(f_X8_of S v0 v1 (0 : Int32)).bind fun x7 =>
(ldI S x6 ((10 : Int32) + x7)).bind fun x8 =>
if x8 = v1 then (
some (1 : Int32))
else (
some (0 : Int32)))
else if v2 = 6 then (
(ckO S v0 8).bind fun _ =>
(f_X8_of S v0 v1 (4 : Int32)).bind fun x9 =>
some x9)
else (
some (-1 : Int32))))
set_option maxHeartbeats 4000000 in
set_option maxRecDepth 100000 in
theorem w_X8_tell {p : Program} {l : Launch} {e : Env} {R : Room} {s : State} {m : MethodId} {args : Array Value} {below : List Frame} {meth : Method} {c : Code} {cells slots : Nat} {Q : State → Prop} {D : va_G} {G : Nat → ClassId} {L : List Nat} {A : Nat → Prop} {H0 : Heap} (C : CX p s m c args D G cX8_tell 3 RX8) (hLA : ∀ q ∈ L, A q) (hcs : cells ≤ R.cells ∧ slots ≤ R.slots) (hR_X8_isPerson : RoomOk R ({ frames := 1, cells := 0, slots := 0, locals := 22 }) 2) (hR_X8_isNumber : RoomOk R ({ frames := 1, cells := 0, slots := 0, locals := 22 }) 2) (hR_X8_of : RoomOk R ({ frames := 0, cells := 0, slots := 0, locals := 0 }) 3) (S : PH) (v0 : Nat) (v1 : Int32) (v2 : Int32) (r : Int32) (h : f_X8_tell S v0 v1 v2 = some r) (hret : ∀ (v : Int32) (H : Heap) (locs : List Loc) (ls : Array Slot) (pc : Nat), Wd D G L A H0 S H locs → v = r → decode cX8_tell pc = .ok (.ireturn, 1) → W p l e R s m args below meth c H locs cells slots Q (F0 m pc ls [.int v])) : ∀ (H : Heap) (locs : List Loc) (ls : Array Slot), Wd D G L A H0 S H locs → lv_has ls 3 [(0, .ref v0), (1, .int v1), (2, .int v2)] → W p l e R s m args below meth c H locs cells slots Q (F0 m 0 ls []) := by
  have hx := C.1.1
  have hb := C.1.2.1
  unfold f_X8_tell at h
  intro H locs ls w hl
  refine lv_iload_n hx hb dX8_tell_0 rfl (lv_at hl 2 rfl) ?_
  refine lv_if_ne (tgt := 26) hx hb dX8_tell_1 (by decide) (fun cc1 => ?_) (fun cc1 => ?_)
  · have h := ie cc1 h
    refine lv_aload_n hx hb dX8_tell_26 rfl (lv_at hl 0 rfl) ?_
    refine lv_iload_n hx hb dX8_tell_27 rfl (lv_at hl 1 rfl) ?_
    obtain ⟨_, ho, h⟩ := bs h
    obtain ⟨x1, hc, h⟩ := bs h
    refine o_backi w hLA (o_runV (As := [.int v1]) (rest := []) C w (c_X8_isNumber l D G L S v0 v1 x1 hc) ml_X8_125 mv_X8_isNumber hR_X8_isNumber ho rfl hl.1 rfl (Nat.le_of_ble_eq_true rfl) dX8_tell_28 hcs) (fun H locs w => ?_)
    refine lv_if_ne (tgt := 36) hx hb dX8_tell_31 (by decide) (fun cc31 => ?_) (fun cc31 => ?_)
    · have h := ie cc31 h
      refine lv_iload_n hx hb dX8_tell_36 rfl (lv_at hl 2 rfl) ?_
      by_cases cw37_1 : v2 = 1
      · have h := it cw37_1 h
        refine o_sw0 C 1 cw37_1 dX8_tell_37 (by decide) (by decide) rfl (tgt := 76) (by decide) ?_
        refine lv_aload_n hx hb dX8_tell_76 rfl (lv_at hl 0 rfl) ?_
        refine lv_iload_n hx hb dX8_tell_77 rfl (lv_at hl 1 rfl) ?_
        refine lv_iconst (v := 0) hx hb dX8_tell_78 (by decide) ?_
        obtain ⟨_, ho, h⟩ := bs h
        obtain ⟨x2, hc, h⟩ := bs h
        refine o_backi w hLA (o_runV (As := [.int v1, .int (0 : Int32)]) (rest := []) C w (c_X8_of l D G L S v0 v1 (0 : Int32) x2 hc) ml_X8_44 mv_X8_of hR_X8_of ho rfl hl.1 rfl (Nat.le_of_ble_eq_true rfl) dX8_tell_79 hcs) (fun H locs w => ?_)
        exact hret _ _ _ _ _ w (Option.some.inj h) dX8_tell_82
      have h := ie cw37_1 h
      by_cases cw37_2 : v2 = 2
      · have h := it cw37_2 h
        refine o_sw0 C 2 cw37_2 dX8_tell_37 (by decide) (by decide) rfl (tgt := 83) (by decide) ?_
        refine lv_aload_n hx hb dX8_tell_83 rfl (lv_at hl 0 rfl) ?_
        refine lv_iload_n hx hb dX8_tell_84 rfl (lv_at hl 1 rfl) ?_
        refine lv_iconst (v := 1) hx hb dX8_tell_85 (by decide) ?_
        obtain ⟨_, ho, h⟩ := bs h
        obtain ⟨x3, hc, h⟩ := bs h
        refine o_backi w hLA (o_runV (As := [.int v1, .int (1 : Int32)]) (rest := []) C w (c_X8_of l D G L S v0 v1 (1 : Int32) x3 hc) ml_X8_44 mv_X8_of hR_X8_of ho rfl hl.1 rfl (Nat.le_of_ble_eq_true rfl) dX8_tell_86 hcs) (fun H locs w => ?_)
        exact hret _ _ _ _ _ w (Option.some.inj h) dX8_tell_89
      have h := ie cw37_2 h
      by_cases cw37_3 : v2 = 3
      · have h := it cw37_3 h
        refine o_sw0 C 3 cw37_3 dX8_tell_37 (by decide) (by decide) rfl (tgt := 90) (by decide) ?_
        refine lv_aload_n hx hb dX8_tell_90 rfl (lv_at hl 0 rfl) ?_
        refine lv_iload_n hx hb dX8_tell_91 rfl (lv_at hl 1 rfl) ?_
        refine lv_iconst (v := 2) hx hb dX8_tell_92 (by decide) ?_
        obtain ⟨_, ho, h⟩ := bs h
        obtain ⟨x4, hc, h⟩ := bs h
        refine o_backi w hLA (o_runV (As := [.int v1, .int (2 : Int32)]) (rest := []) C w (c_X8_of l D G L S v0 v1 (2 : Int32) x4 hc) ml_X8_44 mv_X8_of hR_X8_of ho rfl hl.1 rfl (Nat.le_of_ble_eq_true rfl) dX8_tell_93 hcs) (fun H locs w => ?_)
        exact hret _ _ _ _ _ w (Option.some.inj h) dX8_tell_96
      have h := ie cw37_3 h
      by_cases cw37_4 : v2 = 4
      · have h := it cw37_4 h
        refine o_sw0 C 4 cw37_4 dX8_tell_37 (by decide) (by decide) rfl (tgt := 97) (by decide) ?_
        refine lv_aload_n hx hb dX8_tell_97 rfl (lv_at hl 0 rfl) ?_
        refine lv_iload_n hx hb dX8_tell_98 rfl (lv_at hl 1 rfl) ?_
        refine lv_iconst (v := 3) hx hb dX8_tell_99 (by decide) ?_
        obtain ⟨_, ho, h⟩ := bs h
        obtain ⟨x5, hc, h⟩ := bs h
        refine o_backi w hLA (o_runV (As := [.int v1, .int (3 : Int32)]) (rest := []) C w (c_X8_of l D G L S v0 v1 (3 : Int32) x5 hc) ml_X8_44 mv_X8_of hR_X8_of ho rfl hl.1 rfl (Nat.le_of_ble_eq_true rfl) dX8_tell_100 hcs) (fun H locs w => ?_)
        exact hret _ _ _ _ _ w (Option.some.inj h) dX8_tell_103
      have h := ie cw37_4 h
      by_cases cw37_5 : v2 = 5
      · have h := it cw37_5 h
        refine o_sw0 C 5 cw37_5 dX8_tell_37 (by decide) (by decide) rfl (tgt := 104) (by decide) ?_
        refine lv_aload_n hx hb dX8_tell_104 rfl (lv_at hl 0 rfl) ?_
        obtain ⟨x6, hx6, h⟩ := bs h
        refine o_gR C w hx6 fl_X8_8 dX8_tell_105 ?_
        refine lv_bipush (v := 10) hx hb dX8_tell_108 (by decide) ?_
        refine lv_aload_n hx hb dX8_tell_110 rfl (lv_at hl 0 rfl) ?_
        refine lv_iload_n hx hb dX8_tell_111 rfl (lv_at hl 1 rfl) ?_
        refine lv_iconst (v := 0) hx hb dX8_tell_112 (by decide) ?_
        obtain ⟨_, ho, h⟩ := bs h
        obtain ⟨x7, hc, h⟩ := bs h
        refine o_backi w hLA (o_runV (As := [.int v1, .int (0 : Int32)]) (rest := [.int (10 : Int32), .ref x6]) C w (c_X8_of l D G L S v0 v1 (0 : Int32) x7 hc) ml_X8_44 mv_X8_of hR_X8_of ho rfl hl.1 rfl (Nat.le_of_ble_eq_true rfl) dX8_tell_113 hcs) (fun H locs w => ?_)
        refine lv_iadd hx hb dX8_tell_116 ?_
        obtain ⟨x8, hx8, h⟩ := bs h
        refine o_ldI C w hx8 dX8_tell_117 ?_
        refine lv_iload_n hx hb dX8_tell_118 rfl (lv_at hl 1 rfl) ?_
        refine lv_icmp_ne (tgt := 126) hx hb dX8_tell_119 (by decide) (fun cc119 => ?_) (fun cc119 => ?_)
        · have h := ie cc119 h
          refine lv_iconst (v := 0) hx hb dX8_tell_126 (by decide) ?_
          exact hret _ _ _ _ _ w (Option.some.inj h) dX8_tell_127
        · have h := it cc119 h
          refine lv_iconst (v := 1) hx hb dX8_tell_122 (by decide) ?_
          refine lv_goto (tgt := 127) hx hb dX8_tell_123 (by decide) ?_
          exact hret _ _ _ _ _ w (Option.some.inj h) dX8_tell_127
      have h := ie cw37_5 h
      by_cases cw37_6 : v2 = 6
      · have h := it cw37_6 h
        refine o_sw0 C 6 cw37_6 dX8_tell_37 (by decide) (by decide) rfl (tgt := 128) (by decide) ?_
        refine lv_aload_n hx hb dX8_tell_128 rfl (lv_at hl 0 rfl) ?_
        refine lv_iload_n hx hb dX8_tell_129 rfl (lv_at hl 1 rfl) ?_
        refine lv_iconst (v := 4) hx hb dX8_tell_130 (by decide) ?_
        obtain ⟨_, ho, h⟩ := bs h
        obtain ⟨x9, hc, h⟩ := bs h
        refine o_backi w hLA (o_runV (As := [.int v1, .int (4 : Int32)]) (rest := []) C w (c_X8_of l D G L S v0 v1 (4 : Int32) x9 hc) ml_X8_44 mv_X8_of hR_X8_of ho rfl hl.1 rfl (Nat.le_of_ble_eq_true rfl) dX8_tell_131 hcs) (fun H locs w => ?_)
        exact hret _ _ _ _ _ w (Option.some.inj h) dX8_tell_134
      have h := ie cw37_6 h
      have cx1 := lv_neT (k := 1) (a := 1) cw37_1 (by decide)
      have cx2 := lv_neT (k := 2) (a := 2) cw37_2 (by decide)
      have cx3 := lv_neT (k := 3) (a := 3) cw37_3 (by decide)
      have cx4 := lv_neT (k := 4) (a := 4) cw37_4 (by decide)
      have cx5 := lv_neT (k := 5) (a := 5) cw37_5 (by decide)
      have cx6 := lv_neT (k := 6) (a := 6) cw37_6 (by decide)
      refine lv_tableOut (tgt := 135) hx hb dX8_tell_37 (by omega) (by decide) ?_
      refine lv_iconst (v := -1) hx hb dX8_tell_135 (by decide) ?_
      exact hret _ _ _ _ _ w (Option.some.inj h) dX8_tell_136
    · have h := it cc31 h
      refine lv_iconst (v := -1) hx hb dX8_tell_34 (by decide) ?_
      exact hret _ _ _ _ _ w (Option.some.inj h) dX8_tell_35
  · have h := it cc1 h
    refine lv_aload_n hx hb dX8_tell_4 rfl (lv_at hl 0 rfl) ?_
    refine lv_iload_n hx hb dX8_tell_5 rfl (lv_at hl 1 rfl) ?_
    obtain ⟨_, ho, h⟩ := bs h
    obtain ⟨x10, hc, h⟩ := bs h
    refine o_backi w hLA (o_runV (As := [.int v1]) (rest := []) C w (c_X8_isPerson l D G L S v0 v1 x10 hc) ml_X8_60 mv_X8_isPerson hR_X8_isPerson ho rfl hl.1 rfl (Nat.le_of_ble_eq_true rfl) dX8_tell_6 hcs) (fun H locs w => ?_)
    refine lv_if_eq (tgt := 24) hx hb dX8_tell_9 (by decide) (fun cc9 => ?_) (fun cc9 => ?_)
    · have h := it cc9 h
      refine lv_iconst (v := -1) hx hb dX8_tell_24 (by decide) ?_
      exact hret _ _ _ _ _ w (Option.some.inj h) dX8_tell_25
    · have h := ie cc9 h
      refine lv_aload_n hx hb dX8_tell_12 rfl (lv_at hl 0 rfl) ?_
      obtain ⟨x11, hx11, h⟩ := bs h
      refine o_gR C w hx11 fl_X8_8 dX8_tell_13 ?_
      refine lv_bipush (v := 10) hx hb dX8_tell_16 (by decide) ?_
      refine lv_iload_n hx hb dX8_tell_18 rfl (lv_at hl 1 rfl) ?_
      refine lv_iadd hx hb dX8_tell_19 ?_
      obtain ⟨x12, hx12, h⟩ := bs h
      refine o_ldI C w hx12 dX8_tell_20 ?_
      refine lv_goto (tgt := 25) hx hb dX8_tell_21 (by decide) ?_
      exact hret _ _ _ _ _ w (Option.some.inj h) dX8_tell_25
set_option maxHeartbeats 4000000 in
set_option maxRecDepth 100000 in
theorem c_X8_tell (l : Launch) (D : va_G) (G : Nat → ClassId) (L : List Nat) (S : PH) (v0 : Nat) (v1 : Int32) (v2 : Int32) (r : Int32) (h : f_X8_tell S v0 v1 v2 = some r) : Met l yX8_tell [Cond.code yX8_tell cX8_tell 3 (some .int)] ({ frames := 2, cells := 0, slots := 0, locals := 43 }) (va_Pc [.ref v0, .int v1, .int v2] (PreU D G L S)) (Qi D G L r S) 0 0 (inL L) := by
  refine Met.ofW (cc := cX8_tell) (maxL := 3) (ret := (some .int)) (by decide) rfl ?_
  intro p e s m args below meth c s₁ B hml hv
  obtain ⟨rfl, hpre⟩ := hv
  obtain ⟨C, w⟩ := o_ent (own := RX8) rfl B hml hpre
  have hl := lv_entry ([.ref v0, .int v1, .int v2]) (n := 3) (Nat.le_of_ble_eq_true rfl)
  rw [lg_entry_eq]
  generalize (lg_sl ([.ref v0, .int v1, .int v2]) ++ List.replicate (3 - (lg_sl ([.ref v0, .int v1, .int v2])).length) Slot.unset).toArray = ls at hl ⊢
  exact w_X8_tell C (fun _ h => h) ⟨Nat.zero_le _, Nat.zero_le _⟩ ⟨rfl, rfl, Nat.le_of_ble_eq_true rfl, Nat.le_of_ble_eq_true rfl⟩ ⟨rfl, rfl, Nat.le_of_ble_eq_true rfl, Nat.le_of_ble_eq_true rfl⟩ ⟨rfl, rfl, Nat.le_of_ble_eq_true rfl, Nat.le_of_ble_eq_true rfl⟩ S v0 v1 v2 r h (fun v H locs ls pc w hv hd => by subst hv; exact o_iret C w B.returns B.notSynchronized hd) _ _ _ w hl

def f_X8_asked (S : PH) (v0 : Nat) (v1 : Int32) (v2 : Int32) : Option (Int32) :=
(gR S v0 8 0).bind fun x1 =>
(ldI S x1 (3 : Int32)).bind fun x2 =>
(f_X8_isIn v1 (0 : Int32) (x2 - (1 : Int32))).bind fun x3 =>
if x3 = 0 then (
some (-1 : Int32))
else (
(f_X8_isIn v2 (0 : Int32) (4 : Int32)).bind fun x4 =>
if x4 = 0 then (
some (-1 : Int32))
else (
(gR S v0 8 0).bind fun x5 =>
(ldI S x5 (((100 : Int32) + ((5 : Int32) * v1)) + v2)).bind fun x6 =>
some x6))
set_option maxHeartbeats 4000000 in
set_option maxRecDepth 100000 in
theorem w_X8_asked {p : Program} {l : Launch} {e : Env} {R : Room} {s : State} {m : MethodId} {args : Array Value} {below : List Frame} {meth : Method} {c : Code} {cells slots : Nat} {Q : State → Prop} {D : va_G} {G : Nat → ClassId} {L : List Nat} {A : Nat → Prop} {H0 : Heap} (C : CX p s m c args D G cX8_asked 3 RX8) (hLA : ∀ q ∈ L, A q) (hcs : cells ≤ R.cells ∧ slots ≤ R.slots) (hR_X8_isIn : RoomOk R ({ frames := 0, cells := 0, slots := 0, locals := 0 }) 3) (S : PH) (v0 : Nat) (v1 : Int32) (v2 : Int32) (r : Int32) (h : f_X8_asked S v0 v1 v2 = some r) (hret : ∀ (v : Int32) (H : Heap) (locs : List Loc) (ls : Array Slot) (pc : Nat), Wd D G L A H0 S H locs → v = r → decode cX8_asked pc = .ok (.ireturn, 1) → W p l e R s m args below meth c H locs cells slots Q (F0 m pc ls [.int v])) : ∀ (H : Heap) (locs : List Loc) (ls : Array Slot), Wd D G L A H0 S H locs → lv_has ls 3 [(0, .ref v0), (1, .int v1), (2, .int v2)] → W p l e R s m args below meth c H locs cells slots Q (F0 m 0 ls []) := by
  have hx := C.1.1
  have hb := C.1.2.1
  unfold f_X8_asked at h
  intro H locs ls w hl
  refine lv_iload_n hx hb dX8_asked_0 rfl (lv_at hl 1 rfl) ?_
  refine lv_iconst (v := 0) hx hb dX8_asked_1 (by decide) ?_
  refine lv_aload_n hx hb dX8_asked_2 rfl (lv_at hl 0 rfl) ?_
  obtain ⟨x1, hx1, h⟩ := bs h
  refine o_gR C w hx1 fl_X8_8 dX8_asked_3 ?_
  refine lv_iconst (v := 3) hx hb dX8_asked_6 (by decide) ?_
  obtain ⟨x2, hx2, h⟩ := bs h
  refine o_ldI C w hx2 dX8_asked_7 ?_
  refine lv_iconst (v := 1) hx hb dX8_asked_8 (by decide) ?_
  refine lv_isub hx hb dX8_asked_9 ?_
  obtain ⟨x3, hc, h⟩ := bs h
  refine o_backi w hLA (o_runS (As := [.int v1, .int (0 : Int32), .int (x2 - (1 : Int32))]) (rest := []) C w (c_X8_isIn l D G L S v1 (0 : Int32) (x2 - (1 : Int32)) x3 hc) ml_X8_40 st_X8_isIn hR_X8_isIn rfl hl.1 rfl (Nat.le_of_ble_eq_true rfl) dX8_asked_10 hcs) (fun H locs w => ?_)
  refine lv_if_eq (tgt := 41) hx hb dX8_asked_13 (by decide) (fun cc13 => ?_) (fun cc13 => ?_)
  · have h := it cc13 h
    refine lv_iconst (v := -1) hx hb dX8_asked_41 (by decide) ?_
    exact hret _ _ _ _ _ w (Option.some.inj h) dX8_asked_42
  · have h := ie cc13 h
    refine lv_iload_n hx hb dX8_asked_16 rfl (lv_at hl 2 rfl) ?_
    refine lv_iconst (v := 0) hx hb dX8_asked_17 (by decide) ?_
    refine lv_iconst (v := 4) hx hb dX8_asked_18 (by decide) ?_
    obtain ⟨x4, hc, h⟩ := bs h
    refine o_backi w hLA (o_runS (As := [.int v2, .int (0 : Int32), .int (4 : Int32)]) (rest := []) C w (c_X8_isIn l D G L S v2 (0 : Int32) (4 : Int32) x4 hc) ml_X8_40 st_X8_isIn hR_X8_isIn rfl hl.1 rfl (Nat.le_of_ble_eq_true rfl) dX8_asked_19 hcs) (fun H locs w => ?_)
    refine lv_if_eq (tgt := 41) hx hb dX8_asked_22 (by decide) (fun cc22 => ?_) (fun cc22 => ?_)
    · have h := it cc22 h
      refine lv_iconst (v := -1) hx hb dX8_asked_41 (by decide) ?_
      exact hret _ _ _ _ _ w (Option.some.inj h) dX8_asked_42
    · have h := ie cc22 h
      refine lv_aload_n hx hb dX8_asked_25 rfl (lv_at hl 0 rfl) ?_
      obtain ⟨x5, hx5, h⟩ := bs h
      refine o_gR C w hx5 fl_X8_8 dX8_asked_26 ?_
      refine lv_bipush (v := 100) hx hb dX8_asked_29 (by decide) ?_
      refine lv_iconst (v := 5) hx hb dX8_asked_31 (by decide) ?_
      refine lv_iload_n hx hb dX8_asked_32 rfl (lv_at hl 1 rfl) ?_
      refine lv_imul hx hb dX8_asked_33 ?_
      refine lv_iadd hx hb dX8_asked_34 ?_
      refine lv_iload_n hx hb dX8_asked_35 rfl (lv_at hl 2 rfl) ?_
      refine lv_iadd hx hb dX8_asked_36 ?_
      obtain ⟨x6, hx6, h⟩ := bs h
      refine o_ldI C w hx6 dX8_asked_37 ?_
      refine lv_goto (tgt := 42) hx hb dX8_asked_38 (by decide) ?_
      exact hret _ _ _ _ _ w (Option.some.inj h) dX8_asked_42
set_option maxHeartbeats 4000000 in
set_option maxRecDepth 100000 in
theorem c_X8_asked (l : Launch) (D : va_G) (G : Nat → ClassId) (L : List Nat) (S : PH) (v0 : Nat) (v1 : Int32) (v2 : Int32) (r : Int32) (h : f_X8_asked S v0 v1 v2 = some r) : Met l yX8_asked [Cond.code yX8_asked cX8_asked 3 (some .int)] ({ frames := 1, cells := 0, slots := 0, locals := 22 }) (va_Pc [.ref v0, .int v1, .int v2] (PreU D G L S)) (Qi D G L r S) 0 0 (inL L) := by
  refine Met.ofW (cc := cX8_asked) (maxL := 3) (ret := (some .int)) (by decide) rfl ?_
  intro p e s m args below meth c s₁ B hml hv
  obtain ⟨rfl, hpre⟩ := hv
  obtain ⟨C, w⟩ := o_ent (own := RX8) rfl B hml hpre
  have hl := lv_entry ([.ref v0, .int v1, .int v2]) (n := 3) (Nat.le_of_ble_eq_true rfl)
  rw [lg_entry_eq]
  generalize (lg_sl ([.ref v0, .int v1, .int v2]) ++ List.replicate (3 - (lg_sl ([.ref v0, .int v1, .int v2])).length) Slot.unset).toArray = ls at hl ⊢
  exact w_X8_asked C (fun _ h => h) ⟨Nat.zero_le _, Nat.zero_le _⟩ ⟨rfl, rfl, Nat.le_of_ble_eq_true rfl, Nat.le_of_ble_eq_true rfl⟩ S v0 v1 v2 r h (fun v H locs ls pc w hv hd => by subst hv; exact o_iret C w B.returns B.notSynchronized hd) _ _ _ w hl

def f_X8_wish (S : PH) (v0 : Nat) (v1 : Int32) (v2 : Int32) (v3 : Int32) : Option (Int32 × PH) :=
(gR S v0 8 0).bind fun x1 =>
(ldI S x1 (5 : Int32)).bind fun x2 =>
if x2 = (8 : Int32) then (
some ((-1 : Int32), S))
else (
(f_X8_isAsk v1 v3).bind fun x3 =>
if x3 = 0 then (
some ((-1 : Int32), S))
else (
(gR S v0 8 0).bind fun x4 =>
(ldI S x4 (5 : Int32)).bind fun x5 =>
(gR S v0 8 0).bind fun x6 =>
(stI S x6 ((1100 : Int32) + ((3 : Int32) * x5)) v1).bind fun S7 =>
(gR S7 v0 8 0).bind fun x8 =>
(ckO S7 v0 8).bind fun _ =>
(f_X8_known S7 v0 v2).bind fun x9 =>
(stI S7 x8 (((1100 : Int32) + ((3 : Int32) * x5)) + (1 : Int32)) x9).bind fun S10 =>
(gR S10 v0 8 0).bind fun x11 =>
(stI S10 x11 (((1100 : Int32) + ((3 : Int32) * x5)) + (2 : Int32)) v3).bind fun S12 =>
(gR S12 v0 8 0).bind fun x13 =>
(ldI S12 x13 (5 : Int32)).bind fun x14 =>
(stI S12 x13 (5 : Int32) (x14 + (1 : Int32))).bind fun S15 =>
(gR S15 v0 8 0).bind fun x16 =>
(ldI S15 x16 (5 : Int32)).bind fun x17 =>
some ((x17 - (1 : Int32)), S15)))
set_option maxHeartbeats 4000000 in
set_option maxRecDepth 100000 in
theorem w_X8_wish {p : Program} {l : Launch} {e : Env} {R : Room} {s : State} {m : MethodId} {args : Array Value} {below : List Frame} {meth : Method} {c : Code} {cells slots : Nat} {Q : State → Prop} {D : va_G} {G : Nat → ClassId} {L : List Nat} {A : Nat → Prop} {H0 : Heap} (C : CX p s m c args D G cX8_wish 5 RX8) (hLA : ∀ q ∈ L, A q) (hcs : cells ≤ R.cells ∧ slots ≤ R.slots) (hR_X8_isAsk : RoomOk R ({ frames := 1, cells := 0, slots := 0, locals := 22 }) 2) (hR_X8_known : RoomOk R ({ frames := 0, cells := 0, slots := 0, locals := 0 }) 2) (S : PH) (v0 : Nat) (v1 : Int32) (v2 : Int32) (v3 : Int32) (r : Int32 × PH) (h : f_X8_wish S v0 v1 v2 v3 = some r) (hret : ∀ (v : Int32) (S9 : PH) (H : Heap) (locs : List Loc) (ls : Array Slot) (pc : Nat), Wd D G L A H0 S9 H locs → (v, S9) = r → decode cX8_wish pc = .ok (.ireturn, 1) → W p l e R s m args below meth c H locs cells slots Q (F0 m pc ls [.int v])) : ∀ (H : Heap) (locs : List Loc) (ls : Array Slot), Wd D G L A H0 S H locs → lv_has ls 5 [(0, .ref v0), (1, .int v1), (2, .int v2), (3, .int v3)] → W p l e R s m args below meth c H locs cells slots Q (F0 m 0 ls []) := by
  have hx := C.1.1
  have hb := C.1.2.1
  unfold f_X8_wish at h
  intro H locs ls w hl
  refine lv_aload_n hx hb dX8_wish_0 rfl (lv_at hl 0 rfl) ?_
  obtain ⟨x1, hx1, h⟩ := bs h
  refine o_gR C w hx1 fl_X8_8 dX8_wish_1 ?_
  refine lv_iconst (v := 5) hx hb dX8_wish_4 (by decide) ?_
  obtain ⟨x2, hx2, h⟩ := bs h
  refine o_ldI C w hx2 dX8_wish_5 ?_
  refine lv_bipush (v := 8) hx hb dX8_wish_6 (by decide) ?_
  refine lv_icmp_eq (tgt := 19) hx hb dX8_wish_8 (by decide) (fun cc8 => ?_) (fun cc8 => ?_)
  · have h := it cc8 h
    refine lv_iconst (v := -1) hx hb dX8_wish_19 (by decide) ?_
    exact hret _ _ _ _ _ _ w (Option.some.inj h) dX8_wish_20
  · have h := ie cc8 h
    refine lv_iload_n hx hb dX8_wish_11 rfl (lv_at hl 1 rfl) ?_
    refine lv_iload_n hx hb dX8_wish_12 rfl (lv_at hl 3 rfl) ?_
    obtain ⟨x3, hc, h⟩ := bs h
    refine o_backi w hLA (o_runS (As := [.int v1, .int v3]) (rest := []) C w (c_X8_isAsk l D G L S v1 v3 x3 hc) ml_X8_109 st_X8_isAsk hR_X8_isAsk rfl hl.1 rfl (Nat.le_of_ble_eq_true rfl) dX8_wish_13 hcs) (fun H locs w => ?_)
    refine lv_if_ne (tgt := 21) hx hb dX8_wish_16 (by decide) (fun cc16 => ?_) (fun cc16 => ?_)
    · have h := ie cc16 h
      refine lv_sipush (v := 1100) hx hb dX8_wish_21 (by decide) ?_
      refine lv_iconst (v := 3) hx hb dX8_wish_24 (by decide) ?_
      refine lv_aload_n hx hb dX8_wish_25 rfl (lv_at hl 0 rfl) ?_
      obtain ⟨x4, hx4, h⟩ := bs h
      refine o_gR C w hx4 fl_X8_8 dX8_wish_26 ?_
      refine lv_iconst (v := 5) hx hb dX8_wish_29 (by decide) ?_
      obtain ⟨x5, hx5, h⟩ := bs h
      refine o_ldI C w hx5 dX8_wish_30 ?_
      refine lv_imul hx hb dX8_wish_31 ?_
      refine lv_iadd hx hb dX8_wish_32 ?_
      refine lv_istore (lv' := [(4, .int ((1100 : Int32) + ((3 : Int32) * x5))), (0, .ref v0), (1, .int v1), (2, .int v2), (3, .int v3)]) hx hb dX8_wish_33 hl (by decide) rfl (fun ls hl => ?_)
      refine lv_aload_n hx hb dX8_wish_35 rfl (lv_at hl 1 rfl) ?_
      obtain ⟨x6, hx6, h⟩ := bs h
      refine o_gR C w hx6 fl_X8_8 dX8_wish_36 ?_
      refine lv_iload hx hb dX8_wish_39 (lv_at hl 0 rfl) ?_
      refine lv_iload_n hx hb dX8_wish_41 rfl (lv_at hl 2 rfl) ?_
      obtain ⟨S7, hS7, h⟩ := bs h
      refine o_stI C w hS7 dX8_wish_42 (fun H locs w => ?_)
      refine lv_aload_n hx hb dX8_wish_43 rfl (lv_at hl 1 rfl) ?_
      obtain ⟨x8, hx8, h⟩ := bs h
      refine o_gR C w hx8 fl_X8_8 dX8_wish_44 ?_
      refine lv_iload hx hb dX8_wish_47 (lv_at hl 0 rfl) ?_
      refine lv_iconst (v := 1) hx hb dX8_wish_49 (by decide) ?_
      refine lv_iadd hx hb dX8_wish_50 ?_
      refine lv_aload_n hx hb dX8_wish_51 rfl (lv_at hl 1 rfl) ?_
      refine lv_iload_n hx hb dX8_wish_52 rfl (lv_at hl 3 rfl) ?_
      obtain ⟨_, ho, h⟩ := bs h
      obtain ⟨x9, hc, h⟩ := bs h
      refine o_backi w hLA (o_runV (As := [.int v2]) (rest := [.int (((1100 : Int32) + ((3 : Int32) * x5)) + (1 : Int32)), .ref x8]) C w (c_X8_known l D G L S7 v0 v2 x9 hc) ml_X8_122 mv_X8_known hR_X8_known ho rfl hl.1 rfl (Nat.le_of_ble_eq_true rfl) dX8_wish_53 hcs) (fun H locs w => ?_)
      obtain ⟨S10, hS10, h⟩ := bs h
      refine o_stI C w hS10 dX8_wish_56 (fun H locs w => ?_)
      refine lv_aload_n hx hb dX8_wish_57 rfl (lv_at hl 1 rfl) ?_
      obtain ⟨x11, hx11, h⟩ := bs h
      refine o_gR C w hx11 fl_X8_8 dX8_wish_58 ?_
      refine lv_iload hx hb dX8_wish_61 (lv_at hl 0 rfl) ?_
      refine lv_iconst (v := 2) hx hb dX8_wish_63 (by decide) ?_
      refine lv_iadd hx hb dX8_wish_64 ?_
      refine lv_iload_n hx hb dX8_wish_65 rfl (lv_at hl 4 rfl) ?_
      obtain ⟨S12, hS12, h⟩ := bs h
      refine o_stI C w hS12 dX8_wish_66 (fun H locs w => ?_)
      refine lv_aload_n hx hb dX8_wish_67 rfl (lv_at hl 1 rfl) ?_
      obtain ⟨x13, hx13, h⟩ := bs h
      refine o_gR C w hx13 fl_X8_8 dX8_wish_68 ?_
      refine lv_iconst (v := 5) hx hb dX8_wish_71 (by decide) ?_
      refine lv_dup2_11 hx hb dX8_wish_72 rfl rfl ?_
      obtain ⟨x14, hx14, h⟩ := bs h
      refine o_ldI C w hx14 dX8_wish_73 ?_
      refine lv_iconst (v := 1) hx hb dX8_wish_74 (by decide) ?_
      refine lv_iadd hx hb dX8_wish_75 ?_
      obtain ⟨S15, hS15, h⟩ := bs h
      refine o_stI C w hS15 dX8_wish_76 (fun H locs w => ?_)
      refine lv_aload_n hx hb dX8_wish_77 rfl (lv_at hl 1 rfl) ?_
      obtain ⟨x16, hx16, h⟩ := bs h
      refine o_gR C w hx16 fl_X8_8 dX8_wish_78 ?_
      refine lv_iconst (v := 5) hx hb dX8_wish_81 (by decide) ?_
      obtain ⟨x17, hx17, h⟩ := bs h
      refine o_ldI C w hx17 dX8_wish_82 ?_
      refine lv_iconst (v := 1) hx hb dX8_wish_83 (by decide) ?_
      refine lv_isub hx hb dX8_wish_84 ?_
      exact hret _ _ _ _ _ _ w (Option.some.inj h) dX8_wish_85
    · have h := it cc16 h
      refine lv_iconst (v := -1) hx hb dX8_wish_19 (by decide) ?_
      exact hret _ _ _ _ _ _ w (Option.some.inj h) dX8_wish_20
set_option maxHeartbeats 4000000 in
set_option maxRecDepth 100000 in
theorem c_X8_wish (l : Launch) (D : va_G) (G : Nat → ClassId) (L : List Nat) (S : PH) (v0 : Nat) (v1 : Int32) (v2 : Int32) (v3 : Int32) (r : Int32 × PH) (h : f_X8_wish S v0 v1 v2 v3 = some r) : Met l yX8_wish [Cond.code yX8_wish cX8_wish 5 (some .int)] ({ frames := 2, cells := 0, slots := 0, locals := 43 }) (va_Pc [.ref v0, .int v1, .int v2, .int v3] (PreU D G L S)) (Qi D G L r.1 r.2) 0 0 (inL L) := by
  refine Met.ofW (cc := cX8_wish) (maxL := 5) (ret := (some .int)) (by decide) rfl ?_
  intro p e s m args below meth c s₁ B hml hv
  obtain ⟨rfl, hpre⟩ := hv
  obtain ⟨C, w⟩ := o_ent (own := RX8) rfl B hml hpre
  have hl := lv_entry ([.ref v0, .int v1, .int v2, .int v3]) (n := 5) (Nat.le_of_ble_eq_true rfl)
  rw [lg_entry_eq]
  generalize (lg_sl ([.ref v0, .int v1, .int v2, .int v3]) ++ List.replicate (5 - (lg_sl ([.ref v0, .int v1, .int v2, .int v3])).length) Slot.unset).toArray = ls at hl ⊢
  exact w_X8_wish C (fun _ h => h) ⟨Nat.zero_le _, Nat.zero_le _⟩ ⟨rfl, rfl, Nat.le_of_ble_eq_true rfl, Nat.le_of_ble_eq_true rfl⟩ ⟨rfl, rfl, Nat.le_of_ble_eq_true rfl, Nat.le_of_ble_eq_true rfl⟩ S v0 v1 v2 v3 r h (fun v S9 H locs ls pc w hv hd => by subst hv; exact o_iret C w B.returns B.notSynchronized hd) _ _ _ w hl

def f_X8_clear (S : PH) (v0 : Nat) : Option (PH) :=
(gR S v0 8 0).bind fun x1 =>
(stI S x1 (5 : Int32) (0 : Int32)).bind fun S2 =>
some S2
set_option maxHeartbeats 4000000 in
set_option maxRecDepth 100000 in
theorem w_X8_clear {p : Program} {l : Launch} {e : Env} {R : Room} {s : State} {m : MethodId} {args : Array Value} {below : List Frame} {meth : Method} {c : Code} {cells slots : Nat} {Q : State → Prop} {D : va_G} {G : Nat → ClassId} {L : List Nat} {A : Nat → Prop} {H0 : Heap} (C : CX p s m c args D G cX8_clear 1 RX8) (hLA : ∀ q ∈ L, A q) (hcs : cells ≤ R.cells ∧ slots ≤ R.slots)  (S : PH) (v0 : Nat) (r : PH) (h : f_X8_clear S v0 = some r) (hret : ∀ (S9 : PH) (H : Heap) (locs : List Loc) (ls : Array Slot) (pc : Nat), Wd D G L A H0 S9 H locs → S9 = r → decode cX8_clear pc = .ok (.return_, 1) → W p l e R s m args below meth c H locs cells slots Q (F0 m pc ls [])) : ∀ (H : Heap) (locs : List Loc) (ls : Array Slot), Wd D G L A H0 S H locs → lv_has ls 1 [(0, .ref v0)] → W p l e R s m args below meth c H locs cells slots Q (F0 m 0 ls []) := by
  have hx := C.1.1
  have hb := C.1.2.1
  unfold f_X8_clear at h
  intro H locs ls w hl
  refine lv_aload_n hx hb dX8_clear_0 rfl (lv_at hl 0 rfl) ?_
  obtain ⟨x1, hx1, h⟩ := bs h
  refine o_gR C w hx1 fl_X8_8 dX8_clear_1 ?_
  refine lv_iconst (v := 5) hx hb dX8_clear_4 (by decide) ?_
  refine lv_iconst (v := 0) hx hb dX8_clear_5 (by decide) ?_
  obtain ⟨S2, hS2, h⟩ := bs h
  refine o_stI C w hS2 dX8_clear_6 (fun H locs w => ?_)
  exact hret _ _ _ _ _ w (Option.some.inj h) dX8_clear_7
set_option maxHeartbeats 4000000 in
set_option maxRecDepth 100000 in
theorem c_X8_clear (l : Launch) (D : va_G) (G : Nat → ClassId) (L : List Nat) (S : PH) (v0 : Nat) (r : PH) (h : f_X8_clear S v0 = some r) : Met l yX8_clear [Cond.code yX8_clear cX8_clear 1 none] ({ frames := 0, cells := 0, slots := 0, locals := 0 }) (va_Pc [.ref v0] (PreU D G L S)) (Qv D G L r) 0 0 (inL L) := by
  refine Met.ofW (cc := cX8_clear) (maxL := 1) (ret := none) (by decide) rfl ?_
  intro p e s m args below meth c s₁ B hml hv
  obtain ⟨rfl, hpre⟩ := hv
  obtain ⟨C, w⟩ := o_ent (own := RX8) rfl B hml hpre
  have hl := lv_entry ([.ref v0]) (n := 1) (Nat.le_of_ble_eq_true rfl)
  rw [lg_entry_eq]
  generalize (lg_sl ([.ref v0]) ++ List.replicate (1 - (lg_sl ([.ref v0])).length) Slot.unset).toArray = ls at hl ⊢
  exact w_X8_clear C (fun _ h => h) ⟨Nat.zero_le _, Nat.zero_le _⟩  S v0 r h (fun S9 H locs ls pc w hv hd => by subst hv; exact o_vret C w B.returns B.notSynchronized hd) _ _ _ w hl

def f_X8_reckons_b135 (S : PH) (v0 : Nat) (v1 : Int32) (v2 : Int32) : Option ((Int32 × PH) ⊕ (PH)) :=
some (.inl ((v2 + 1), S))
def f_X8_reckons_L34 (S : PH) (v0 : Nat) (v2 : Int32) (v3 : Int64) (v5 : Int32) : Option ((Int64 × Int32 × PH) ⊕ (Int64 × PH)) :=
(gR S v0 8 0).bind fun x5 =>
(ldI S x5 (5 : Int32)).bind fun x6 =>
if x6 ≤ v5 then (
some (.inr (v3, S)))
else (
(gR S v0 8 0).bind fun x7 =>
(ldI S x7 ((1100 : Int32) + ((3 : Int32) * v5))).bind fun x8 =>
(gR S v0 8 0).bind fun x9 =>
(ldI S x9 (((1100 : Int32) + ((3 : Int32) * v5)) + (1 : Int32))).bind fun x10 =>
(ckO S v0 8).bind fun _ =>
(f_X8_numbersOf S v0 x10).bind fun x11 =>
(gR S v0 8 0).bind fun x12 =>
(ldI S x12 (((1100 : Int32) + ((3 : Int32) * v5)) + (2 : Int32))).bind fun x13 =>
(ckO S v0 8).bind fun _ =>
bd2 (f_X8_answerIn S v0 v2 x8 x11 x13) fun x14 S15 =>
some (.inl ((v3 ||| (x14.toInt64 <<< (((6 : Int32) * v5).toInt64 &&& 63))), (v5 + 1), S15)))
def f_X8_reckons_L7 (S : PH) (v0 : Nat) (v1 : Int32) (v2 : Int32) : Option ((Int32 × PH) ⊕ (PH)) :=
(gR S v0 8 0).bind fun x2 =>
(ldI S x2 (2 : Int32)).bind fun x3 =>
if x3 ≤ v2 then (
some (.inr S))
else (
(ckO S v0 8).bind fun _ =>
(f_X8_isLeft S v0 v1 v2).bind fun x4 =>
if x4 = 0 then (
f_X8_reckons_b135 S v0 v1 v2)
else (
bd2 (lpo (fun x : Int64 × Int32 × PH => f_X8_reckons_L34 x.2.2 v0 v2 x.1 x.2.1) FU ((0 : Int64), (0 : Int32), S)) fun y16 S17 =>
(gR S17 v0 8 9).bind fun x18 =>
(gI S17 v0 8 13).bind fun x19 =>
(stI S17 x18 x19 v2).bind fun S20 =>
(gR S20 v0 8 10).bind fun x21 =>
(gI S20 v0 8 13).bind fun x22 =>
(stJ S20 x21 x22 y16).bind fun S23 =>
(gI S23 v0 8 13).bind fun x24 =>
(pI S23 v0 8 13 (x24 + (1 : Int32))).bind fun S25 =>
f_X8_reckons_b135 S25 v0 v1 v2))
def f_X8_reckons (S : PH) (v0 : Nat) (v1 : Int32) : Option (PH) :=
(pI S v0 8 13 (0 : Int32)).bind fun S1 =>
(lpo (fun x : Int32 × PH => f_X8_reckons_L7 x.2 v0 v1 x.1) FU ((0 : Int32), S1)).bind fun S42 =>
some S42
set_option maxHeartbeats 4000000 in
set_option maxRecDepth 100000 in
theorem w_X8_reckons {p : Program} {l : Launch} {e : Env} {R : Room} {s : State} {m : MethodId} {args : Array Value} {below : List Frame} {meth : Method} {c : Code} {cells slots : Nat} {Q : State → Prop} {D : va_G} {G : Nat → ClassId} {L : List Nat} {A : Nat → Prop} {H0 : Heap} (C : CX p s m c args D G cX8_reckons 7 RX8) (hLA : ∀ q ∈ L, A q) (hcs : cells ≤ R.cells ∧ slots ≤ R.slots) (hR_X8_isLeft : RoomOk R ({ frames := 0, cells := 0, slots := 0, locals := 0 }) 3) (hR_X8_numbersOf : RoomOk R ({ frames := 0, cells := 0, slots := 0, locals := 0 }) 4) (hR_X8_answerIn : RoomOk R ({ frames := 3, cells := 0, slots := 0, locals := 65 }) 6) (S : PH) (v0 : Nat) (v1 : Int32) (r : PH) (h : f_X8_reckons S v0 v1 = some r) (hret : ∀ (S9 : PH) (H : Heap) (locs : List Loc) (ls : Array Slot) (pc : Nat), Wd D G L A H0 S9 H locs → S9 = r → decode cX8_reckons pc = .ok (.return_, 1) → W p l e R s m args below meth c H locs cells slots Q (F0 m pc ls [])) : ∀ (H : Heap) (locs : List Loc) (ls : Array Slot), Wd D G L A H0 S H locs → lv_has ls 7 [(0, .ref v0), (1, .int v1)] → W p l e R s m args below meth c H locs cells slots Q (F0 m 0 ls []) := by
  have hx := C.1.1
  have hb := C.1.2.1
  unfold f_X8_reckons at h
  intro H locs ls w hl
  refine lv_aload_n hx hb dX8_reckons_0 rfl (lv_at hl 0 rfl) ?_
  refine lv_iconst (v := 0) hx hb dX8_reckons_1 (by decide) ?_
  obtain ⟨S1, hS1, h⟩ := bs h
  refine o_pF C w hS1 fp_X8_128 rfl rfl dX8_reckons_2 (fun H locs w => ?_)
  refine lv_iconst (v := 0) hx hb dX8_reckons_5 (by decide) ?_
  refine lv_istore_n (lv' := [(2, .int (0 : Int32)), (0, .ref v0), (1, .int v1)]) hx hb dX8_reckons_6 rfl hl (by decide) rfl (fun ls hl => ?_)
  obtain ⟨S42, hL7, h⟩ := bs h
  have hE7 : ∀ (q43 : PH), S42 = q43 → ∀ (H : Heap) (locs : List Loc) (ls : Array Slot), Wd D G L A H0 q43 H locs → lv_has ls 7 [] → W p l e R s m args below meth c H locs cells slots Q (F0 m 141 ls []) := by
    intro q43 he
    cases he
    intro H locs ls w hl
    exact hret _ _ _ _ _ w (Option.some.inj h) dX8_reckons_141
  refine lpo_W (P := fun x : Int32 × PH => ∀ (H : Heap) (locs : List Loc) (ls : Array Slot), Wd D G L A H0 x.2 H locs → lv_has ls 7 [(0, .ref v0), (1, .int v1), (2, .int x.1)] → W p l e R s m args below meth c H locs cells slots Q (F0 m 7 ls [])) ?_ FU _ hL7 H locs ls w (lv_sub hl [1, 2, 0] rfl)
  intro x y7 h hnext7 hend7
  obtain ⟨t44, S45⟩ := x
  have h : f_X8_reckons_L7 S45 v0 v1 t44 = some y7 := h
  unfold f_X8_reckons_L7 at h
  have hb135 : ∀ (S46 : PH) (u47 : Int32), f_X8_reckons_b135 S46 v0 v1 u47 = some y7 → ∀ (H : Heap) (locs : List Loc) (ls : Array Slot), Wd D G L A H0 S46 H locs → lv_has ls 7 [(0, .ref v0), (1, .int v1), (2, .int u47)] → W p l e R s m args below meth c H locs cells slots Q (F0 m 135 ls []) := by
    intro S46 u47 h H locs ls w hl
    unfold f_X8_reckons_b135 at h
    refine lv_iinc (v := (u47 + 1)) (lv' := [(2, .int (u47 + 1)), (0, .ref v0), (1, .int v1)]) hx hb dX8_reckons_135 hl (k := 2) rfl rfl (by decide) rfl (fun ls hl => ?_)
    refine lv_goto (tgt := 7) hx hb dX8_reckons_138 (by decide) ?_
    exact hnext7 _ (Option.some.inj h).symm H locs ls w (lv_sub hl [1, 2, 0] rfl)
  intro H locs ls w hl
  have hl : lv_has ls 7 [(0, .ref v0), (1, .int v1), (2, .int t44)] := hl
  have w : Wd D G L A H0 S45 H locs := w
  refine lv_iload_n hx hb dX8_reckons_7 rfl (lv_at hl 2 rfl) ?_
  refine lv_aload_n hx hb dX8_reckons_8 rfl (lv_at hl 0 rfl) ?_
  obtain ⟨x48, hx48, h⟩ := bs h
  refine o_gR C w hx48 fl_X8_8 dX8_reckons_9 ?_
  refine lv_iconst (v := 2) hx hb dX8_reckons_12 (by decide) ?_
  obtain ⟨x49, hx49, h⟩ := bs h
  refine o_ldI C w hx49 dX8_reckons_13 ?_
  refine lv_icmp_ge (tgt := 141) hx hb dX8_reckons_14 (by decide) (fun cc14 => ?_) (fun cc14 => ?_)
  · have h := it cc14 h
    exact hE7 _ (hend7 _ (Option.some.inj h).symm).symm H locs ls w (lv_sub hl [] rfl)
  · have h := ie cc14 h
    refine lv_aload_n hx hb dX8_reckons_17 rfl (lv_at hl 0 rfl) ?_
    refine lv_iload_n hx hb dX8_reckons_18 rfl (lv_at hl 1 rfl) ?_
    refine lv_iload_n hx hb dX8_reckons_19 rfl (lv_at hl 2 rfl) ?_
    obtain ⟨_, ho, h⟩ := bs h
    obtain ⟨x50, hc, h⟩ := bs h
    refine o_backi w hLA (o_runV (As := [.int v1, .int t44]) (rest := []) C w (c_X8_isLeft l D G L S45 v0 v1 t44 x50 hc) ml_X8_93 mv_X8_isLeft hR_X8_isLeft ho rfl hl.1 rfl (Nat.le_of_ble_eq_true rfl) dX8_reckons_20 hcs) (fun H locs w => ?_)
    refine lv_if_ne (tgt := 29) hx hb dX8_reckons_23 (by decide) (fun cc23 => ?_) (fun cc23 => ?_)
    · have h := ie cc23 h
      refine lv_lconst (v := 0) hx hb dX8_reckons_29 (by decide) ?_
      refine lv_lstore_n (lv' := [(3, .long (0 : Int64)), (0, .ref v0), (1, .int v1), (2, .int t44)]) hx hb dX8_reckons_30 rfl hl (by decide) rfl (fun ls hl => ?_)
      refine lv_iconst (v := 0) hx hb dX8_reckons_31 (by decide) ?_
      refine lv_istore (lv' := [(5, .int (0 : Int32)), (3, .long (0 : Int64)), (0, .ref v0), (1, .int v1), (2, .int t44)]) hx hb dX8_reckons_32 hl (by decide) rfl (fun ls hl => ?_)
      obtain ⟨y51, S52, hL34, h⟩ := bs2 h
      have hE34 : ∀ (q61 : Int64) (q62 : PH), (y51, S52) = (q61, q62) → ∀ (H : Heap) (locs : List Loc) (ls : Array Slot), Wd D G L A H0 q62 H locs → lv_has ls 7 [(0, .ref v0), (1, .int v1), (2, .int t44), (3, .long q61)] → W p l e R s m args below meth c H locs cells slots Q (F0 m 105 ls []) := by
        intro q61 q62 he
        cases he
        intro H locs ls w hl
        refine lv_aload_n hx hb dX8_reckons_105 rfl (lv_at hl 0 rfl) ?_
        obtain ⟨x53, hx53, h⟩ := bs h
        refine o_gR C w hx53 fl_X8_27 dX8_reckons_106 ?_
        refine lv_aload_n hx hb dX8_reckons_109 rfl (lv_at hl 0 rfl) ?_
        obtain ⟨x54, hx54, h⟩ := bs h
        refine o_gI C w hx54 fl_X8_128 dX8_reckons_110 ?_
        refine lv_iload_n hx hb dX8_reckons_113 rfl (lv_at hl 2 rfl) ?_
        obtain ⟨S55, hS55, h⟩ := bs h
        refine o_stI C w hS55 dX8_reckons_114 (fun H locs w => ?_)
        refine lv_aload_n hx hb dX8_reckons_115 rfl (lv_at hl 0 rfl) ?_
        obtain ⟨x56, hx56, h⟩ := bs h
        refine o_gR C w hx56 fl_X8_30 dX8_reckons_116 ?_
        refine lv_aload_n hx hb dX8_reckons_119 rfl (lv_at hl 0 rfl) ?_
        obtain ⟨x57, hx57, h⟩ := bs h
        refine o_gI C w hx57 fl_X8_128 dX8_reckons_120 ?_
        refine lv_lload_n hx hb dX8_reckons_123 rfl (lv_at hl 3 rfl) ?_
        obtain ⟨S58, hS58, h⟩ := bs h
        refine o_stJ C w hS58 dX8_reckons_124 (fun H locs w => ?_)
        refine lv_aload_n hx hb dX8_reckons_125 rfl (lv_at hl 0 rfl) ?_
        refine lv_dup hx hb dX8_reckons_126 rfl ?_
        obtain ⟨x59, hx59, h⟩ := bs h
        refine o_gI C w hx59 fl_X8_128 dX8_reckons_127 ?_
        refine lv_iconst (v := 1) hx hb dX8_reckons_130 (by decide) ?_
        refine lv_iadd hx hb dX8_reckons_131 ?_
        obtain ⟨S60, hS60, h⟩ := bs h
        refine o_pF C w hS60 fp_X8_128 rfl rfl dX8_reckons_132 (fun H locs w => ?_)
        exact hb135 _ _ h H locs ls w (lv_sub hl [0, 1, 2] rfl)
      refine lpo_W (P := fun x : Int64 × Int32 × PH => ∀ (H : Heap) (locs : List Loc) (ls : Array Slot), Wd D G L A H0 x.2.2 H locs → lv_has ls 7 [(0, .ref v0), (1, .int v1), (2, .int t44), (3, .long x.1), (5, .int x.2.1)] → W p l e R s m args below meth c H locs cells slots Q (F0 m 34 ls [])) ?_ FU _ hL34 H locs ls w (lv_sub hl [2, 3, 4, 1, 0] rfl)
      intro x y34 h hnext34 hend34
      obtain ⟨t63, t64, S65⟩ := x
      have h : f_X8_reckons_L34 S65 v0 t44 t63 t64 = some y34 := h
      unfold f_X8_reckons_L34 at h
      intro H locs ls w hl
      have hl : lv_has ls 7 [(0, .ref v0), (1, .int v1), (2, .int t44), (3, .long t63), (5, .int t64)] := hl
      have w : Wd D G L A H0 S65 H locs := w
      refine lv_iload hx hb dX8_reckons_34 (lv_at hl 4 rfl) ?_
      refine lv_aload_n hx hb dX8_reckons_36 rfl (lv_at hl 0 rfl) ?_
      obtain ⟨x66, hx66, h⟩ := bs h
      refine o_gR C w hx66 fl_X8_8 dX8_reckons_37 ?_
      refine lv_iconst (v := 5) hx hb dX8_reckons_40 (by decide) ?_
      obtain ⟨x67, hx67, h⟩ := bs h
      refine o_ldI C w hx67 dX8_reckons_41 ?_
      refine lv_icmp_ge (tgt := 105) hx hb dX8_reckons_42 (by decide) (fun cc42 => ?_) (fun cc42 => ?_)
      · have h := it cc42 h
        exact hE34 _ _ (hend34 _ (Option.some.inj h).symm).symm H locs ls w (lv_sub hl [0, 1, 2, 3] rfl)
      · have h := ie cc42 h
        refine lv_sipush (v := 1100) hx hb dX8_reckons_45 (by decide) ?_
        refine lv_iconst (v := 3) hx hb dX8_reckons_48 (by decide) ?_
        refine lv_iload hx hb dX8_reckons_49 (lv_at hl 4 rfl) ?_
        refine lv_imul hx hb dX8_reckons_51 ?_
        refine lv_iadd hx hb dX8_reckons_52 ?_
        refine lv_istore (lv' := [(6, .int ((1100 : Int32) + ((3 : Int32) * t64))), (0, .ref v0), (1, .int v1), (2, .int t44), (3, .long t63), (5, .int t64)]) hx hb dX8_reckons_53 hl (by decide) rfl (fun ls hl => ?_)
        refine lv_lload_n hx hb dX8_reckons_55 rfl (lv_at hl 4 rfl) ?_
        refine lv_aload_n hx hb dX8_reckons_56 rfl (lv_at hl 1 rfl) ?_
        refine lv_iload_n hx hb dX8_reckons_57 rfl (lv_at hl 3 rfl) ?_
        refine lv_aload_n hx hb dX8_reckons_58 rfl (lv_at hl 1 rfl) ?_
        obtain ⟨x68, hx68, h⟩ := bs h
        refine o_gR C w hx68 fl_X8_8 dX8_reckons_59 ?_
        refine lv_iload hx hb dX8_reckons_62 (lv_at hl 0 rfl) ?_
        obtain ⟨x69, hx69, h⟩ := bs h
        refine o_ldI C w hx69 dX8_reckons_64 ?_
        refine lv_aload_n hx hb dX8_reckons_65 rfl (lv_at hl 1 rfl) ?_
        refine lv_aload_n hx hb dX8_reckons_66 rfl (lv_at hl 1 rfl) ?_
        obtain ⟨x70, hx70, h⟩ := bs h
        refine o_gR C w hx70 fl_X8_8 dX8_reckons_67 ?_
        refine lv_iload hx hb dX8_reckons_70 (lv_at hl 0 rfl) ?_
        refine lv_iconst (v := 1) hx hb dX8_reckons_72 (by decide) ?_
        refine lv_iadd hx hb dX8_reckons_73 ?_
        obtain ⟨x71, hx71, h⟩ := bs h
        refine o_ldI C w hx71 dX8_reckons_74 ?_
        obtain ⟨_, ho, h⟩ := bs h
        obtain ⟨x72, hc, h⟩ := bs h
        refine o_backi w hLA (o_runV (As := [.int x71]) (rest := [.int x69, .int t44, .ref v0, .long t63]) C w (c_X8_numbersOf l D G L S65 v0 x71 x72 hc) ml_X8_112 mv_X8_numbersOf hR_X8_numbersOf ho rfl hl.1 rfl (Nat.le_of_ble_eq_true rfl) dX8_reckons_75 hcs) (fun H locs w => ?_)
        refine lv_aload_n hx hb dX8_reckons_78 rfl (lv_at hl 1 rfl) ?_
        obtain ⟨x73, hx73, h⟩ := bs h
        refine o_gR C w hx73 fl_X8_8 dX8_reckons_79 ?_
        refine lv_iload hx hb dX8_reckons_82 (lv_at hl 0 rfl) ?_
        refine lv_iconst (v := 2) hx hb dX8_reckons_84 (by decide) ?_
        refine lv_iadd hx hb dX8_reckons_85 ?_
        obtain ⟨x74, hx74, h⟩ := bs h
        refine o_ldI C w hx74 dX8_reckons_86 ?_
        obtain ⟨_, ho, h⟩ := bs h
        obtain ⟨x75, S76, hc, h⟩ := bs2 h
        refine o_backi w hLA (o_runV (As := [.int t44, .int x69, .int x72, .int x74]) (rest := [.long t63]) C w (c_X8_answerIn l D G L S65 v0 t44 x69 x72 x74 (x75, S76) hc) ml_X8_96 mv_X8_answerIn hR_X8_answerIn ho rfl hl.1 rfl (Nat.le_of_ble_eq_true rfl) dX8_reckons_87 hcs) (fun H locs w => ?_)
        refine lv_i2l hx hb dX8_reckons_90 rfl ?_
        refine lv_bipush (v := 6) hx hb dX8_reckons_91 (by decide) ?_
        refine lv_iload hx hb dX8_reckons_93 (lv_at hl 5 rfl) ?_
        refine lv_imul hx hb dX8_reckons_95 ?_
        refine lv_lshl hx hb dX8_reckons_96 rfl ?_
        refine lv_lor hx hb dX8_reckons_97 ?_
        refine lv_lstore_n (lv' := [(3, .long (t63 ||| (x75.toInt64 <<< (((6 : Int32) * t64).toInt64 &&& 63)))), (6, .int ((1100 : Int32) + ((3 : Int32) * t64))), (0, .ref v0), (1, .int v1), (2, .int t44), (5, .int t64)]) hx hb dX8_reckons_98 rfl hl (by decide) rfl (fun ls hl => ?_)
        refine lv_iinc (v := (t64 + 1)) (lv' := [(5, .int (t64 + 1)), (3, .long (t63 ||| (x75.toInt64 <<< (((6 : Int32) * t64).toInt64 &&& 63)))), (6, .int ((1100 : Int32) + ((3 : Int32) * t64))), (0, .ref v0), (1, .int v1), (2, .int t44)]) hx hb dX8_reckons_99 hl (k := 5) rfl rfl (by decide) rfl (fun ls hl => ?_)
        refine lv_goto (tgt := 34) hx hb dX8_reckons_102 (by decide) ?_
        exact hnext34 _ (Option.some.inj h).symm H locs ls w (lv_sub hl [3, 4, 5, 1, 0] rfl)
    · have h := it cc23 h
      refine lv_goto (tgt := 135) hx hb dX8_reckons_26 (by decide) ?_
      exact hb135 _ _ h H locs ls w (lv_sub hl [0, 1, 2] rfl)
set_option maxHeartbeats 4000000 in
set_option maxRecDepth 100000 in
theorem c_X8_reckons (l : Launch) (D : va_G) (G : Nat → ClassId) (L : List Nat) (S : PH) (v0 : Nat) (v1 : Int32) (r : PH) (h : f_X8_reckons S v0 v1 = some r) : Met l yX8_reckons [Cond.code yX8_reckons cX8_reckons 7 none] ({ frames := 4, cells := 0, slots := 0, locals := 90 }) (va_Pc [.ref v0, .int v1] (PreU D G L S)) (Qv D G L r) 0 0 (inL L) := by
  refine Met.ofW (cc := cX8_reckons) (maxL := 7) (ret := none) (by decide) rfl ?_
  intro p e s m args below meth c s₁ B hml hv
  obtain ⟨rfl, hpre⟩ := hv
  obtain ⟨C, w⟩ := o_ent (own := RX8) rfl B hml hpre
  have hl := lv_entry ([.ref v0, .int v1]) (n := 7) (Nat.le_of_ble_eq_true rfl)
  rw [lg_entry_eq]
  generalize (lg_sl ([.ref v0, .int v1]) ++ List.replicate (7 - (lg_sl ([.ref v0, .int v1])).length) Slot.unset).toArray = ls at hl ⊢
  exact w_X8_reckons C (fun _ h => h) ⟨Nat.zero_le _, Nat.zero_le _⟩ ⟨rfl, rfl, Nat.le_of_ble_eq_true rfl, Nat.le_of_ble_eq_true rfl⟩ ⟨rfl, rfl, Nat.le_of_ble_eq_true rfl, Nat.le_of_ble_eq_true rfl⟩ ⟨rfl, rfl, Nat.le_of_ble_eq_true rfl, Nat.le_of_ble_eq_true rfl⟩ S v0 v1 r h (fun S9 H locs ls pc w hv hd => by subst hv; exact o_vret C w B.returns B.notSynchronized hd) _ _ _ w hl

def f_X8_sorts_b34 (S : PH) (v1 : Int32) (v2 : Int64) (v4 : Int32) : Option ((Int64 × Int32) ⊕ (Int64)) :=
some (.inl (v2, (v4 + 1)))
def f_X8_sorts_L5 (S : PH) (v1 : Int32) (v2 : Int64) (v4 : Int32) : Option ((Int64 × Int32) ⊕ (Int64)) :=
if (8 : Int32) ≤ v4 then (
some (.inr v2))
else (
if ((v1 >>> (v4 &&& 31)) &&& (1 : Int32)) = (1 : Int32) then (
f_X8_sorts_b34 S v1 (v2 ||| ((63 : Int64) <<< (((6 : Int32) * v4).toInt64 &&& 63))) v4)
else (
f_X8_sorts_b34 S v1 v2 v4))
def f_X8_sorts_L43 (S : PH) (v0 : Nat) (v2 : Int64) (v4 : Int32) : Option ((Int32 × PH) ⊕ (PH)) :=
(gI S v0 8 13).bind fun x2 =>
if x2 ≤ v4 then (
some (.inr S))
else (
(gR S v0 8 11).bind fun x3 =>
(gR S v0 8 10).bind fun x4 =>
(ldJ S x4 v4).bind fun x5 =>
(stJ S x3 v4 (x5 &&& v2)).bind fun S6 =>
(gR S6 v0 8 12).bind fun x7 =>
(stI S6 x7 v4 v4).bind fun S8 =>
some (.inl ((v4 + 1), S8)))
def f_X8_sorts_L119 (S : PH) (v0 : Nat) (v4 : Int32) (v6 : Int32) (v7 : Int32) : Option ((Int32 × PH) ⊕ (Int32 × PH)) :=
if v7 < v4 then (
some (.inr (v7, S)))
else (
(gR S v0 8 11).bind fun x13 =>
(gR S v0 8 12).bind fun x14 =>
(ldI S x14 (v7 - v4)).bind fun x15 =>
(ldJ S x13 x15).bind fun x16 =>
(gR S v0 8 11).bind fun x17 =>
(ldJ S x17 v6).bind fun x18 =>
if (lg_cmp x16 x18) ≤ 0 then (
some (.inr (v7, S)))
else (
(gR S v0 8 12).bind fun x19 =>
(gR S v0 8 12).bind fun x20 =>
(ldI S x20 (v7 - v4)).bind fun x21 =>
(stI S x19 v7 x21).bind fun S22 =>
some (.inl ((v7 - v4), S22))))
def f_X8_sorts_L97 (S : PH) (v0 : Nat) (v4 : Int32) (v5 : Int32) : Option ((Int32 × PH) ⊕ (PH)) :=
(gI S v0 8 13).bind fun x10 =>
if x10 ≤ v5 then (
some (.inr S))
else (
(gR S v0 8 12).bind fun x11 =>
(ldI S x11 v5).bind fun x12 =>
bd2 (lpo (fun x : Int32 × PH => f_X8_sorts_L119 x.2 v0 v4 x12 x.1) FU (v5, S)) fun y23 S24 =>
(gR S24 v0 8 12).bind fun x25 =>
(stI S24 x25 y23 x12).bind fun S26 =>
some (.inl ((v5 + 1), S26)))
def f_X8_sorts_L88 (S : PH) (v0 : Nat) (v4 : Int32) : Option ((Int32 × PH) ⊕ (PH)) :=
if v4 ≤ 0 then (
some (.inr S))
else (
(lpo (fun x : Int32 × PH => f_X8_sorts_L97 x.2 v0 v4 x.1) FU (v4, S)).bind fun S41 =>
some (.inl ((v4 / (2 : Int32)), S41)))
def f_X8_sorts (S : PH) (v0 : Nat) (v1 : Int32) : Option (PH) :=
(lpo (fun x : Int64 × Int32 => f_X8_sorts_L5 S v1 x.1 x.2) FU ((0 : Int64), (0 : Int32))).bind fun y1 =>
(lpo (fun x : Int32 × PH => f_X8_sorts_L43 x.2 v0 y1 x.1) FU ((0 : Int32), S)).bind fun S9 =>
(lpo (fun x : Int32 × PH => f_X8_sorts_L88 x.2 v0 x.1) FU ((2048 : Int32), S9)).bind fun S66 =>
some S66
set_option maxHeartbeats 4000000 in
set_option maxRecDepth 100000 in
theorem w_X8_sorts {p : Program} {l : Launch} {e : Env} {R : Room} {s : State} {m : MethodId} {args : Array Value} {below : List Frame} {meth : Method} {c : Code} {cells slots : Nat} {Q : State → Prop} {D : va_G} {G : Nat → ClassId} {L : List Nat} {A : Nat → Prop} {H0 : Heap} (C : CX p s m c args D G cX8_sorts 8 RX8) (hLA : ∀ q ∈ L, A q) (hcs : cells ≤ R.cells ∧ slots ≤ R.slots)  (S : PH) (v0 : Nat) (v1 : Int32) (r : PH) (h : f_X8_sorts S v0 v1 = some r) (hret : ∀ (S9 : PH) (H : Heap) (locs : List Loc) (ls : Array Slot) (pc : Nat), Wd D G L A H0 S9 H locs → S9 = r → decode cX8_sorts pc = .ok (.return_, 1) → W p l e R s m args below meth c H locs cells slots Q (F0 m pc ls [])) : ∀ (H : Heap) (locs : List Loc) (ls : Array Slot), Wd D G L A H0 S H locs → lv_has ls 8 [(0, .ref v0), (1, .int v1)] → W p l e R s m args below meth c H locs cells slots Q (F0 m 0 ls []) := by
  have hx := C.1.1
  have hb := C.1.2.1
  unfold f_X8_sorts at h
  intro H locs ls w hl
  refine lv_lconst (v := 0) hx hb dX8_sorts_0 (by decide) ?_
  refine lv_lstore_n (lv' := [(2, .long (0 : Int64)), (0, .ref v0), (1, .int v1)]) hx hb dX8_sorts_1 rfl hl (by decide) rfl (fun ls hl => ?_)
  refine lv_iconst (v := 0) hx hb dX8_sorts_2 (by decide) ?_
  refine lv_istore (lv' := [(4, .int (0 : Int32)), (2, .long (0 : Int64)), (0, .ref v0), (1, .int v1)]) hx hb dX8_sorts_3 hl (by decide) rfl (fun ls hl => ?_)
  obtain ⟨y1, hL5, h⟩ := bs h
  have hE5 : ∀ (q105 : Int64), y1 = q105 → ∀ (H : Heap) (locs : List Loc) (ls : Array Slot), Wd D G L A H0 S H locs → lv_has ls 8 [(0, .ref v0), (2, .long q105)] → W p l e R s m args below meth c H locs cells slots Q (F0 m 40 ls []) := by
    intro q105 he
    cases he
    intro H locs ls w hl
    refine lv_iconst (v := 0) hx hb dX8_sorts_40 (by decide) ?_
    refine lv_istore (lv' := [(4, .int (0 : Int32)), (0, .ref v0), (2, .long y1)]) hx hb dX8_sorts_41 hl (by decide) rfl (fun ls hl => ?_)
    obtain ⟨S9, hL43, h⟩ := bs h
    have hE43 : ∀ (q95 : PH), S9 = q95 → ∀ (H : Heap) (locs : List Loc) (ls : Array Slot), Wd D G L A H0 q95 H locs → lv_has ls 8 [(0, .ref v0)] → W p l e R s m args below meth c H locs cells slots Q (F0 m 83 ls []) := by
      intro q95 he
      cases he
      intro H locs ls w hl
      refine lv_sipush (v := 2048) hx hb dX8_sorts_83 (by decide) ?_
      refine lv_istore (lv' := [(4, .int (2048 : Int32)), (0, .ref v0)]) hx hb dX8_sorts_86 hl (by decide) rfl (fun ls hl => ?_)
      obtain ⟨S66, hL88, h⟩ := bs h
      have hE88 : ∀ (q67 : PH), S66 = q67 → ∀ (H : Heap) (locs : List Loc) (ls : Array Slot), Wd D G L A H0 q67 H locs → lv_has ls 8 [] → W p l e R s m args below meth c H locs cells slots Q (F0 m 203 ls []) := by
        intro q67 he
        cases he
        intro H locs ls w hl
        exact hret _ _ _ _ _ w (Option.some.inj h) dX8_sorts_203
      refine lpo_W (P := fun x : Int32 × PH => ∀ (H : Heap) (locs : List Loc) (ls : Array Slot), Wd D G L A H0 x.2 H locs → lv_has ls 8 [(0, .ref v0), (4, .int x.1)] → W p l e R s m args below meth c H locs cells slots Q (F0 m 88 ls [])) ?_ FU _ hL88 H locs ls w (lv_sub hl [1, 0] rfl)
      intro x y88 h hnext88 hend88
      obtain ⟨t68, S69⟩ := x
      have h : f_X8_sorts_L88 S69 v0 t68 = some y88 := h
      unfold f_X8_sorts_L88 at h
      intro H locs ls w hl
      have hl : lv_has ls 8 [(0, .ref v0), (4, .int t68)] := hl
      have w : Wd D G L A H0 S69 H locs := w
      refine lv_iload hx hb dX8_sorts_88 (lv_at hl 1 rfl) ?_
      refine lv_if_le (tgt := 203) hx hb dX8_sorts_90 (by decide) (fun cc90 => ?_) (fun cc90 => ?_)
      · have h := it cc90 h
        exact hE88 _ (hend88 _ (Option.some.inj h).symm).symm H locs ls w (lv_sub hl [] rfl)
      · have h := ie cc90 h
        refine lv_iload hx hb dX8_sorts_93 (lv_at hl 1 rfl) ?_
        refine lv_istore (lv' := [(5, .int t68), (0, .ref v0), (4, .int t68)]) hx hb dX8_sorts_95 hl (by decide) rfl (fun ls hl => ?_)
        obtain ⟨S70, hL97, h⟩ := bs h
        have hE97 : ∀ (q71 : PH), S70 = q71 → ∀ (H : Heap) (locs : List Loc) (ls : Array Slot), Wd D G L A H0 q71 H locs → lv_has ls 8 [(0, .ref v0), (4, .int t68)] → W p l e R s m args below meth c H locs cells slots Q (F0 m 194 ls []) := by
          intro q71 he
          cases he
          intro H locs ls w hl
          refine lv_iload hx hb dX8_sorts_194 (lv_at hl 1 rfl) ?_
          refine lv_iconst (v := 2) hx hb dX8_sorts_196 (by decide) ?_
          refine lv_idiv hx hb dX8_sorts_197 (by decide) ?_
          refine lv_istore (lv' := [(4, .int (t68 / (2 : Int32))), (0, .ref v0)]) hx hb dX8_sorts_198 hl (by decide) rfl (fun ls hl => ?_)
          refine lv_goto (tgt := 88) hx hb dX8_sorts_200 (by decide) ?_
          exact hnext88 _ (Option.some.inj h).symm H locs ls w (lv_sub hl [1, 0] rfl)
        refine lpo_W (P := fun x : Int32 × PH => ∀ (H : Heap) (locs : List Loc) (ls : Array Slot), Wd D G L A H0 x.2 H locs → lv_has ls 8 [(0, .ref v0), (4, .int t68), (5, .int x.1)] → W p l e R s m args below meth c H locs cells slots Q (F0 m 97 ls [])) ?_ FU _ hL97 H locs ls w (lv_sub hl [1, 2, 0] rfl)
        intro x y97 h hnext97 hend97
        obtain ⟨t72, S73⟩ := x
        have h : f_X8_sorts_L97 S73 v0 t68 t72 = some y97 := h
        unfold f_X8_sorts_L97 at h
        intro H locs ls w hl
        have hl : lv_has ls 8 [(0, .ref v0), (4, .int t68), (5, .int t72)] := hl
        have w : Wd D G L A H0 S73 H locs := w
        refine lv_iload hx hb dX8_sorts_97 (lv_at hl 2 rfl) ?_
        refine lv_aload_n hx hb dX8_sorts_99 rfl (lv_at hl 0 rfl) ?_
        obtain ⟨x74, hx74, h⟩ := bs h
        refine o_gI C w hx74 fl_X8_128 dX8_sorts_100 ?_
        refine lv_icmp_ge (tgt := 194) hx hb dX8_sorts_103 (by decide) (fun cc103 => ?_) (fun cc103 => ?_)
        · have h := it cc103 h
          exact hE97 _ (hend97 _ (Option.some.inj h).symm).symm H locs ls w (lv_sub hl [0, 1] rfl)
        · have h := ie cc103 h
          refine lv_aload_n hx hb dX8_sorts_106 rfl (lv_at hl 0 rfl) ?_
          obtain ⟨x75, hx75, h⟩ := bs h
          refine o_gR C w hx75 fl_X8_37 dX8_sorts_107 ?_
          refine lv_iload hx hb dX8_sorts_110 (lv_at hl 2 rfl) ?_
          obtain ⟨x76, hx76, h⟩ := bs h
          refine o_ldI C w hx76 dX8_sorts_112 ?_
          refine lv_istore (lv' := [(6, .int x76), (0, .ref v0), (4, .int t68), (5, .int t72)]) hx hb dX8_sorts_113 hl (by decide) rfl (fun ls hl => ?_)
          refine lv_iload hx hb dX8_sorts_115 (lv_at hl 3 rfl) ?_
          refine lv_istore (lv' := [(7, .int t72), (6, .int x76), (0, .ref v0), (4, .int t68), (5, .int t72)]) hx hb dX8_sorts_117 hl (by decide) rfl (fun ls hl => ?_)
          obtain ⟨y77, S78, hL119, h⟩ := bs2 h
          have hE119 : ∀ (q81 : Int32) (q82 : PH), (y77, S78) = (q81, q82) → ∀ (H : Heap) (locs : List Loc) (ls : Array Slot), Wd D G L A H0 q82 H locs → lv_has ls 8 [(0, .ref v0), (4, .int t68), (5, .int t72), (6, .int x76), (7, .int q81)] → W p l e R s m args below meth c H locs cells slots Q (F0 m 179 ls []) := by
            intro q81 q82 he
            cases he
            intro H locs ls w hl
            refine lv_aload_n hx hb dX8_sorts_179 rfl (lv_at hl 0 rfl) ?_
            obtain ⟨x79, hx79, h⟩ := bs h
            refine o_gR C w hx79 fl_X8_37 dX8_sorts_180 ?_
            refine lv_iload hx hb dX8_sorts_183 (lv_at hl 4 rfl) ?_
            refine lv_iload hx hb dX8_sorts_185 (lv_at hl 3 rfl) ?_
            obtain ⟨S80, hS80, h⟩ := bs h
            refine o_stI C w hS80 dX8_sorts_187 (fun H locs w => ?_)
            refine lv_iinc (v := (t72 + 1)) (lv' := [(5, .int (t72 + 1)), (0, .ref v0), (4, .int t68), (6, .int x76), (7, .int y77)]) hx hb dX8_sorts_188 hl (k := 2) rfl rfl (by decide) rfl (fun ls hl => ?_)
            refine lv_goto (tgt := 97) hx hb dX8_sorts_191 (by decide) ?_
            exact hnext97 _ (Option.some.inj h).symm H locs ls w (lv_sub hl [1, 2, 0] rfl)
          refine lpo_W (P := fun x : Int32 × PH => ∀ (H : Heap) (locs : List Loc) (ls : Array Slot), Wd D G L A H0 x.2 H locs → lv_has ls 8 [(0, .ref v0), (4, .int t68), (5, .int t72), (6, .int x76), (7, .int x.1)] → W p l e R s m args below meth c H locs cells slots Q (F0 m 119 ls [])) ?_ FU _ hL119 H locs ls w (lv_sub hl [2, 3, 4, 1, 0] rfl)
          intro x y119 h hnext119 hend119
          obtain ⟨t83, S84⟩ := x
          have h : f_X8_sorts_L119 S84 v0 t68 x76 t83 = some y119 := h
          unfold f_X8_sorts_L119 at h
          intro H locs ls w hl
          have hl : lv_has ls 8 [(0, .ref v0), (4, .int t68), (5, .int t72), (6, .int x76), (7, .int t83)] := hl
          have w : Wd D G L A H0 S84 H locs := w
          refine lv_iload hx hb dX8_sorts_119 (lv_at hl 4 rfl) ?_
          refine lv_iload hx hb dX8_sorts_121 (lv_at hl 1 rfl) ?_
          refine lv_icmp_lt (tgt := 179) hx hb dX8_sorts_123 (by decide) (fun cc123 => ?_) (fun cc123 => ?_)
          · have h := it cc123 h
            exact hE119 _ _ (hend119 _ (Option.some.inj h).symm).symm H locs ls w (lv_sub hl [0, 1, 2, 3, 4] rfl)
          · have h := ie cc123 h
            refine lv_aload_n hx hb dX8_sorts_126 rfl (lv_at hl 0 rfl) ?_
            obtain ⟨x85, hx85, h⟩ := bs h
            refine o_gR C w hx85 fl_X8_34 dX8_sorts_127 ?_
            refine lv_aload_n hx hb dX8_sorts_130 rfl (lv_at hl 0 rfl) ?_
            obtain ⟨x86, hx86, h⟩ := bs h
            refine o_gR C w hx86 fl_X8_37 dX8_sorts_131 ?_
            refine lv_iload hx hb dX8_sorts_134 (lv_at hl 4 rfl) ?_
            refine lv_iload hx hb dX8_sorts_136 (lv_at hl 1 rfl) ?_
            refine lv_isub hx hb dX8_sorts_138 ?_
            obtain ⟨x87, hx87, h⟩ := bs h
            refine o_ldI C w hx87 dX8_sorts_139 ?_
            obtain ⟨x88, hx88, h⟩ := bs h
            refine o_ldJ C w hx88 dX8_sorts_140 ?_
            refine lv_aload_n hx hb dX8_sorts_141 rfl (lv_at hl 0 rfl) ?_
            obtain ⟨x89, hx89, h⟩ := bs h
            refine o_gR C w hx89 fl_X8_34 dX8_sorts_142 ?_
            refine lv_iload hx hb dX8_sorts_145 (lv_at hl 3 rfl) ?_
            obtain ⟨x90, hx90, h⟩ := bs h
            refine o_ldJ C w hx90 dX8_sorts_147 ?_
            refine W.lcmp hx hb dX8_sorts_148 ?_
            refine lv_if_le (tgt := 179) hx hb dX8_sorts_149 (by decide) (fun cc149 => ?_) (fun cc149 => ?_)
            · have h := it cc149 h
              exact hE119 _ _ (hend119 _ (Option.some.inj h).symm).symm H locs ls w (lv_sub hl [0, 1, 2, 3, 4] rfl)
            · have h := ie cc149 h
              refine lv_aload_n hx hb dX8_sorts_152 rfl (lv_at hl 0 rfl) ?_
              obtain ⟨x91, hx91, h⟩ := bs h
              refine o_gR C w hx91 fl_X8_37 dX8_sorts_153 ?_
              refine lv_iload hx hb dX8_sorts_156 (lv_at hl 4 rfl) ?_
              refine lv_aload_n hx hb dX8_sorts_158 rfl (lv_at hl 0 rfl) ?_
              obtain ⟨x92, hx92, h⟩ := bs h
              refine o_gR C w hx92 fl_X8_37 dX8_sorts_159 ?_
              refine lv_iload hx hb dX8_sorts_162 (lv_at hl 4 rfl) ?_
              refine lv_iload hx hb dX8_sorts_164 (lv_at hl 1 rfl) ?_
              refine lv_isub hx hb dX8_sorts_166 ?_
              obtain ⟨x93, hx93, h⟩ := bs h
              refine o_ldI C w hx93 dX8_sorts_167 ?_
              obtain ⟨S94, hS94, h⟩ := bs h
              refine o_stI C w hS94 dX8_sorts_168 (fun H locs w => ?_)
              refine lv_iload hx hb dX8_sorts_169 (lv_at hl 4 rfl) ?_
              refine lv_iload hx hb dX8_sorts_171 (lv_at hl 1 rfl) ?_
              refine lv_isub hx hb dX8_sorts_173 ?_
              refine lv_istore (lv' := [(7, .int (t83 - t68)), (0, .ref v0), (4, .int t68), (5, .int t72), (6, .int x76)]) hx hb dX8_sorts_174 hl (by decide) rfl (fun ls hl => ?_)
              refine lv_goto (tgt := 119) hx hb dX8_sorts_176 (by decide) ?_
              exact hnext119 _ (Option.some.inj h).symm H locs ls w (lv_sub hl [1, 2, 3, 4, 0] rfl)
    refine lpo_W (P := fun x : Int32 × PH => ∀ (H : Heap) (locs : List Loc) (ls : Array Slot), Wd D G L A H0 x.2 H locs → lv_has ls 8 [(0, .ref v0), (2, .long y1), (4, .int x.1)] → W p l e R s m args below meth c H locs cells slots Q (F0 m 43 ls [])) ?_ FU _ hL43 H locs ls w (lv_sub hl [1, 2, 0] rfl)
    intro x y43 h hnext43 hend43
    obtain ⟨t96, S97⟩ := x
    have h : f_X8_sorts_L43 S97 v0 y1 t96 = some y43 := h
    unfold f_X8_sorts_L43 at h
    intro H locs ls w hl
    have hl : lv_has ls 8 [(0, .ref v0), (2, .long y1), (4, .int t96)] := hl
    have w : Wd D G L A H0 S97 H locs := w
    refine lv_iload hx hb dX8_sorts_43 (lv_at hl 2 rfl) ?_
    refine lv_aload_n hx hb dX8_sorts_45 rfl (lv_at hl 0 rfl) ?_
    obtain ⟨x98, hx98, h⟩ := bs h
    refine o_gI C w hx98 fl_X8_128 dX8_sorts_46 ?_
    refine lv_icmp_ge (tgt := 83) hx hb dX8_sorts_49 (by decide) (fun cc49 => ?_) (fun cc49 => ?_)
    · have h := it cc49 h
      exact hE43 _ (hend43 _ (Option.some.inj h).symm).symm H locs ls w (lv_sub hl [0] rfl)
    · have h := ie cc49 h
      refine lv_aload_n hx hb dX8_sorts_52 rfl (lv_at hl 0 rfl) ?_
      obtain ⟨x99, hx99, h⟩ := bs h
      refine o_gR C w hx99 fl_X8_34 dX8_sorts_53 ?_
      refine lv_iload hx hb dX8_sorts_56 (lv_at hl 2 rfl) ?_
      refine lv_aload_n hx hb dX8_sorts_58 rfl (lv_at hl 0 rfl) ?_
      obtain ⟨x100, hx100, h⟩ := bs h
      refine o_gR C w hx100 fl_X8_30 dX8_sorts_59 ?_
      refine lv_iload hx hb dX8_sorts_62 (lv_at hl 2 rfl) ?_
      obtain ⟨x101, hx101, h⟩ := bs h
      refine o_ldJ C w hx101 dX8_sorts_64 ?_
      refine lv_lload_n hx hb dX8_sorts_65 rfl (lv_at hl 1 rfl) ?_
      refine lv_land hx hb dX8_sorts_66 ?_
      obtain ⟨S102, hS102, h⟩ := bs h
      refine o_stJ C w hS102 dX8_sorts_67 (fun H locs w => ?_)
      refine lv_aload_n hx hb dX8_sorts_68 rfl (lv_at hl 0 rfl) ?_
      obtain ⟨x103, hx103, h⟩ := bs h
      refine o_gR C w hx103 fl_X8_37 dX8_sorts_69 ?_
      refine lv_iload hx hb dX8_sorts_72 (lv_at hl 2 rfl) ?_
      refine lv_iload hx hb dX8_sorts_74 (lv_at hl 2 rfl) ?_
      obtain ⟨S104, hS104, h⟩ := bs h
      refine o_stI C w hS104 dX8_sorts_76 (fun H locs w => ?_)
      refine lv_iinc (v := (t96 + 1)) (lv' := [(4, .int (t96 + 1)), (0, .ref v0), (2, .long y1)]) hx hb dX8_sorts_77 hl (k := 2) rfl rfl (by decide) rfl (fun ls hl => ?_)
      refine lv_goto (tgt := 43) hx hb dX8_sorts_80 (by decide) ?_
      exact hnext43 _ (Option.some.inj h).symm H locs ls w (lv_sub hl [1, 2, 0] rfl)
  refine lpo_W (P := fun x : Int64 × Int32 => ∀ (H : Heap) (locs : List Loc) (ls : Array Slot), Wd D G L A H0 S H locs → lv_has ls 8 [(0, .ref v0), (1, .int v1), (2, .long x.1), (4, .int x.2)] → W p l e R s m args below meth c H locs cells slots Q (F0 m 5 ls [])) ?_ FU _ hL5 H locs ls w (lv_sub hl [2, 3, 1, 0] rfl)
  intro x y5 h hnext5 hend5
  obtain ⟨t106, t107⟩ := x
  have h : f_X8_sorts_L5 S v1 t106 t107 = some y5 := h
  unfold f_X8_sorts_L5 at h
  have hb34 : ∀ (u108 : Int64) (u109 : Int32), f_X8_sorts_b34 S v1 u108 u109 = some y5 → ∀ (H : Heap) (locs : List Loc) (ls : Array Slot), Wd D G L A H0 S H locs → lv_has ls 8 [(0, .ref v0), (1, .int v1), (2, .long u108), (4, .int u109)] → W p l e R s m args below meth c H locs cells slots Q (F0 m 34 ls []) := by
    intro u108 u109 h H locs ls w hl
    unfold f_X8_sorts_b34 at h
    refine lv_iinc (v := (u109 + 1)) (lv' := [(4, .int (u109 + 1)), (0, .ref v0), (1, .int v1), (2, .long u108)]) hx hb dX8_sorts_34 hl (k := 3) rfl rfl (by decide) rfl (fun ls hl => ?_)
    refine lv_goto (tgt := 5) hx hb dX8_sorts_37 (by decide) ?_
    exact hnext5 _ (Option.some.inj h).symm H locs ls w (lv_sub hl [1, 2, 3, 0] rfl)
  intro H locs ls w hl
  have hl : lv_has ls 8 [(0, .ref v0), (1, .int v1), (2, .long t106), (4, .int t107)] := hl
  refine lv_iload hx hb dX8_sorts_5 (lv_at hl 3 rfl) ?_
  refine lv_bipush (v := 8) hx hb dX8_sorts_7 (by decide) ?_
  refine lv_icmp_ge (tgt := 40) hx hb dX8_sorts_9 (by decide) (fun cc9 => ?_) (fun cc9 => ?_)
  · have h := it cc9 h
    exact hE5 _ (hend5 _ (Option.some.inj h).symm).symm H locs ls w (lv_sub hl [0, 2] rfl)
  · have h := ie cc9 h
    refine lv_iload_n hx hb dX8_sorts_12 rfl (lv_at hl 1 rfl) ?_
    refine lv_iload hx hb dX8_sorts_13 (lv_at hl 3 rfl) ?_
    refine lv_ishr hx hb dX8_sorts_15 ?_
    refine lv_iconst (v := 1) hx hb dX8_sorts_16 (by decide) ?_
    refine lv_iand hx hb dX8_sorts_17 ?_
    refine lv_iconst (v := 1) hx hb dX8_sorts_18 (by decide) ?_
    refine lv_icmp_ne (tgt := 34) hx hb dX8_sorts_19 (by decide) (fun cc19 => ?_) (fun cc19 => ?_)
    · have h := ie cc19 h
      exact hb34 _ _ h H locs ls w (lv_sub hl [0, 1, 2, 3] rfl)
    · have h := it cc19 h
      refine lv_lload_n hx hb dX8_sorts_22 rfl (lv_at hl 2 rfl) ?_
      refine lv_ldc2 (v := 63) hx hb C.1.2.2.2.1 (C.1.2.2.2.2 _ kc_X8_131) dX8_sorts_23 ?_
      refine lv_bipush (v := 6) hx hb dX8_sorts_26 (by decide) ?_
      refine lv_iload hx hb dX8_sorts_28 (lv_at hl 3 rfl) ?_
      refine lv_imul hx hb dX8_sorts_30 ?_
      refine lv_lshl hx hb dX8_sorts_31 rfl ?_
      refine lv_lor hx hb dX8_sorts_32 ?_
      refine lv_lstore_n (lv' := [(2, .long (t106 ||| ((63 : Int64) <<< (((6 : Int32) * t107).toInt64 &&& 63)))), (0, .ref v0), (1, .int v1), (4, .int t107)]) hx hb dX8_sorts_33 rfl hl (by decide) rfl (fun ls hl => ?_)
      exact hb34 _ _ h H locs ls w (lv_sub hl [1, 2, 0, 3] rfl)
set_option maxHeartbeats 4000000 in
set_option maxRecDepth 100000 in
theorem c_X8_sorts (l : Launch) (D : va_G) (G : Nat → ClassId) (L : List Nat) (S : PH) (v0 : Nat) (v1 : Int32) (r : PH) (h : f_X8_sorts S v0 v1 = some r) : Met l yX8_sorts [Cond.code yX8_sorts cX8_sorts 8 none] ({ frames := 0, cells := 0, slots := 0, locals := 0 }) (va_Pc [.ref v0, .int v1] (PreU D G L S)) (Qv D G L r) 0 0 (inL L) := by
  refine Met.ofW (cc := cX8_sorts) (maxL := 8) (ret := none) (by decide) rfl ?_
  intro p e s m args below meth c s₁ B hml hv
  obtain ⟨rfl, hpre⟩ := hv
  obtain ⟨C, w⟩ := o_ent (own := RX8) rfl B hml hpre
  have hl := lv_entry ([.ref v0, .int v1]) (n := 8) (Nat.le_of_ble_eq_true rfl)
  rw [lg_entry_eq]
  generalize (lg_sl ([.ref v0, .int v1]) ++ List.replicate (8 - (lg_sl ([.ref v0, .int v1])).length) Slot.unset).toArray = ls at hl ⊢
  exact w_X8_sorts C (fun _ h => h) ⟨Nat.zero_le _, Nat.zero_le _⟩  S v0 v1 r h (fun S9 H locs ls pc w hv hd => by subst hv; exact o_vret C w B.returns B.notSynchronized hd) _ _ _ w hl

def f_X8_mayBe_b71 (S : PH) (v0 : Nat) (v2 : Int32) : Option ((Int32 × PH) ⊕ ((PH) ⊕ (Int32 × PH))) :=
(gR S v0 8 9).bind fun x2 =>
(gR S v0 8 12).bind fun x3 =>
(ldI S x3 v2).bind fun x4 =>
(ldI S x2 x4).bind fun x5 =>
(ckO S v0 8).bind fun _ =>
(f_X8_meets S v0 (0 : Int32) x5).bind fun S6 =>
some (.inl ((v2 + 1), S6))
def f_X8_mayBe_b67 (S : PH) (v0 : Nat) (v2 : Int32) : Option ((Int32 × PH) ⊕ ((PH) ⊕ (Int32 × PH))) :=
(ckO S v0 8).bind fun _ =>
(f_X8_clears S v0).bind fun S7 =>
f_X8_mayBe_b71 S7 v0 v2
def f_X8_mayBe_b53 (S : PH) (v0 : Nat) (v2 : Int32) : Option ((Int32 × PH) ⊕ ((PH) ⊕ (Int32 × PH))) :=
if v2 ≤ 0 then (
f_X8_mayBe_b67 S v0 v2)
else (
(ckO S v0 8).bind fun _ =>
(f_X8_isClose S v0 (0 : Int32)).bind fun x8 =>
if x8 = 0 then (
f_X8_mayBe_b67 S v0 v2)
else (
some (.inr (.inr ((0 : Int32), S)))))
def f_X8_mayBe_L13 (S : PH) (v0 : Nat) (v2 : Int32) : Option ((Int32 × PH) ⊕ ((PH) ⊕ (Int32 × PH))) :=
(gI S v0 8 13).bind fun x9 =>
if x9 ≤ v2 then (
some (.inr (.inl S)))
else (
if v2 = 0 then (
f_X8_mayBe_b53 S v0 v2)
else (
(gR S v0 8 11).bind fun x10 =>
(gR S v0 8 12).bind fun x11 =>
(ldI S x11 v2).bind fun x12 =>
(ldJ S x10 x12).bind fun x13 =>
(gR S v0 8 11).bind fun x14 =>
(gR S v0 8 12).bind fun x15 =>
(ldI S x15 (v2 - (1 : Int32))).bind fun x16 =>
(ldJ S x14 x16).bind fun x17 =>
if (lg_cmp x13 x17) = 0 then (
f_X8_mayBe_b71 S v0 v2)
else (
f_X8_mayBe_b53 S v0 v2)))
def f_X8_mayBe (S : PH) (v0 : Nat) (v1 : Int32) : Option (Int32 × PH) :=
if v1 = 0 then (
some ((1 : Int32), S))
else (
(ckO S v0 8).bind fun _ =>
(f_X8_sorts S v0 v1).bind fun S1 =>
bdS (lpo (fun x : Int32 × PH => f_X8_mayBe_L13 x.2 v0 x.1) FU ((0 : Int32), S1)) (fun S18 =>
(ckO S18 v0 8).bind fun _ =>
(f_X8_isClose S18 v0 (0 : Int32)).bind fun x19 =>
if x19 = 0 then (
some ((1 : Int32), S18))
else (
some ((0 : Int32), S18))) some)
set_option maxHeartbeats 4000000 in
set_option maxRecDepth 100000 in
theorem w_X8_mayBe {p : Program} {l : Launch} {e : Env} {R : Room} {s : State} {m : MethodId} {args : Array Value} {below : List Frame} {meth : Method} {c : Code} {cells slots : Nat} {Q : State → Prop} {D : va_G} {G : Nat → ClassId} {L : List Nat} {A : Nat → Prop} {H0 : Heap} (C : CX p s m c args D G cX8_mayBe 3 RX8) (hLA : ∀ q ∈ L, A q) (hcs : cells ≤ R.cells ∧ slots ≤ R.slots) (hR_X8_sorts : RoomOk R ({ frames := 0, cells := 0, slots := 0, locals := 0 }) 8) (hR_X8_isClose : RoomOk R ({ frames := 1, cells := 0, slots := 0, locals := 22 }) 4) (hR_X8_clears : RoomOk R ({ frames := 0, cells := 0, slots := 0, locals := 0 }) 2) (hR_X8_meets : RoomOk R ({ frames := 3, cells := 0, slots := 0, locals := 65 }) 6) (S : PH) (v0 : Nat) (v1 : Int32) (r : Int32 × PH) (h : f_X8_mayBe S v0 v1 = some r) (hret : ∀ (v : Int32) (S9 : PH) (H : Heap) (locs : List Loc) (ls : Array Slot) (pc : Nat), Wd D G L A H0 S9 H locs → narrow .boolean (.int v) = .int v → (v, S9) = r → decode cX8_mayBe pc = .ok (.ireturn, 1) → W p l e R s m args below meth c H locs cells slots Q (F0 m pc ls [.int v])) : ∀ (H : Heap) (locs : List Loc) (ls : Array Slot), Wd D G L A H0 S H locs → lv_has ls 3 [(0, .ref v0), (1, .int v1)] → W p l e R s m args below meth c H locs cells slots Q (F0 m 0 ls []) := by
  have hx := C.1.1
  have hb := C.1.2.1
  unfold f_X8_mayBe at h
  intro H locs ls w hl
  refine lv_iload_n hx hb dX8_mayBe_0 rfl (lv_at hl 1 rfl) ?_
  refine lv_if_ne (tgt := 6) hx hb dX8_mayBe_1 (by decide) (fun cc1 => ?_) (fun cc1 => ?_)
  · have h := ie cc1 h
    refine lv_aload_n hx hb dX8_mayBe_6 rfl (lv_at hl 0 rfl) ?_
    refine lv_iload_n hx hb dX8_mayBe_7 rfl (lv_at hl 1 rfl) ?_
    obtain ⟨_, ho, h⟩ := bs h
    obtain ⟨S1, hc, h⟩ := bs h
    refine o_backv w hLA (o_runV (As := [.int v1]) (rest := []) C w (c_X8_sorts l D G L S v0 v1 S1 hc) ml_X8_133 mv_X8_sorts hR_X8_sorts ho rfl hl.1 rfl (Nat.le_of_ble_eq_true rfl) dX8_mayBe_8 hcs) (fun H locs w => ?_)
    refine lv_iconst (v := 0) hx hb dX8_mayBe_11 (by decide) ?_
    refine lv_istore_n (lv' := [(2, .int (0 : Int32)), (0, .ref v0), (1, .int v1)]) hx hb dX8_mayBe_12 rfl hl (by decide) rfl (fun ls hl => ?_)
    obtain ⟨e13, hL13, h⟩ := bs h
    have hE13 : ∀ (q20 : PH), e13 = Sum.inl q20 → ∀ (H : Heap) (locs : List Loc) (ls : Array Slot), Wd D G L A H0 q20 H locs → lv_has ls 3 [(0, .ref v0)] → W p l e R s m args below meth c H locs cells slots Q (F0 m 93 ls []) := by
      intro S18 he
      subst he
      have h : _ = some r := h
      intro H locs ls w hl
      refine lv_aload_n hx hb dX8_mayBe_93 rfl (lv_at hl 0 rfl) ?_
      refine lv_iconst (v := 0) hx hb dX8_mayBe_94 (by decide) ?_
      obtain ⟨_, ho, h⟩ := bs h
      obtain ⟨x19, hc, h⟩ := bs h
      refine o_backi w hLA (o_runV (As := [.int (0 : Int32)]) (rest := []) C w (c_X8_isClose l D G L S18 v0 (0 : Int32) x19 hc) ml_X8_103 mv_X8_isClose hR_X8_isClose ho rfl hl.1 rfl (Nat.le_of_ble_eq_true rfl) dX8_mayBe_95 hcs) (fun H locs w => ?_)
      refine lv_if_ne (tgt := 105) hx hb dX8_mayBe_98 (by decide) (fun cc98 => ?_) (fun cc98 => ?_)
      · have h := ie cc98 h
        refine lv_iconst (v := 0) hx hb dX8_mayBe_105 (by decide) ?_
        exact hret _ _ _ _ _ _ w rfl (Option.some.inj h) dX8_mayBe_106
      · have h := it cc98 h
        refine lv_iconst (v := 1) hx hb dX8_mayBe_101 (by decide) ?_
        refine lv_goto (tgt := 106) hx hb dX8_mayBe_102 (by decide) ?_
        exact hret _ _ _ _ _ _ w rfl (Option.some.inj h) dX8_mayBe_106
    have hR13 : ∀ q, e13 = Sum.inr q → q = r := by
      intro q he
      subst he
      exact Option.some.inj h
    refine lpo_W (P := fun x : Int32 × PH => ∀ (H : Heap) (locs : List Loc) (ls : Array Slot), Wd D G L A H0 x.2 H locs → lv_has ls 3 [(0, .ref v0), (2, .int x.1)] → W p l e R s m args below meth c H locs cells slots Q (F0 m 13 ls [])) ?_ FU _ hL13 H locs ls w (lv_sub hl [1, 0] rfl)
    intro x y13 h hnext13 hend13
    obtain ⟨t21, S22⟩ := x
    have h : f_X8_mayBe_L13 S22 v0 t21 = some y13 := h
    unfold f_X8_mayBe_L13 at h
    have hb71 : ∀ (S23 : PH) (u24 : Int32), f_X8_mayBe_b71 S23 v0 u24 = some y13 → ∀ (H : Heap) (locs : List Loc) (ls : Array Slot), Wd D G L A H0 S23 H locs → lv_has ls 3 [(0, .ref v0), (2, .int u24)] → W p l e R s m args below meth c H locs cells slots Q (F0 m 71 ls []) := by
      intro S23 u24 h H locs ls w hl
      unfold f_X8_mayBe_b71 at h
      refine lv_aload_n hx hb dX8_mayBe_71 rfl (lv_at hl 0 rfl) ?_
      refine lv_iconst (v := 0) hx hb dX8_mayBe_72 (by decide) ?_
      refine lv_aload_n hx hb dX8_mayBe_73 rfl (lv_at hl 0 rfl) ?_
      obtain ⟨x25, hx25, h⟩ := bs h
      refine o_gR C w hx25 fl_X8_27 dX8_mayBe_74 ?_
      refine lv_aload_n hx hb dX8_mayBe_77 rfl (lv_at hl 0 rfl) ?_
      obtain ⟨x26, hx26, h⟩ := bs h
      refine o_gR C w hx26 fl_X8_37 dX8_mayBe_78 ?_
      refine lv_iload_n hx hb dX8_mayBe_81 rfl (lv_at hl 1 rfl) ?_
      obtain ⟨x27, hx27, h⟩ := bs h
      refine o_ldI C w hx27 dX8_mayBe_82 ?_
      obtain ⟨x28, hx28, h⟩ := bs h
      refine o_ldI C w hx28 dX8_mayBe_83 ?_
      obtain ⟨_, ho, h⟩ := bs h
      obtain ⟨S29, hc, h⟩ := bs h
      refine o_backv w hLA (o_runV (As := [.int (0 : Int32), .int x28]) (rest := []) C w (c_X8_meets l D G L S23 v0 (0 : Int32) x28 S29 hc) ml_X8_100 mv_X8_meets hR_X8_meets ho rfl hl.1 rfl (Nat.le_of_ble_eq_true rfl) dX8_mayBe_84 hcs) (fun H locs w => ?_)
      refine lv_iinc (v := (u24 + 1)) (lv' := [(2, .int (u24 + 1)), (0, .ref v0)]) hx hb dX8_mayBe_87 hl (k := 1) rfl rfl (by decide) rfl (fun ls hl => ?_)
      refine lv_goto (tgt := 13) hx hb dX8_mayBe_90 (by decide) ?_
      exact hnext13 _ (Option.some.inj h).symm H locs ls w (lv_sub hl [1, 0] rfl)
    have hb67 : ∀ (S30 : PH) (u31 : Int32), f_X8_mayBe_b67 S30 v0 u31 = some y13 → ∀ (H : Heap) (locs : List Loc) (ls : Array Slot), Wd D G L A H0 S30 H locs → lv_has ls 3 [(0, .ref v0), (2, .int u31)] → W p l e R s m args below meth c H locs cells slots Q (F0 m 67 ls []) := by
      intro S30 u31 h H locs ls w hl
      unfold f_X8_mayBe_b67 at h
      refine lv_aload_n hx hb dX8_mayBe_67 rfl (lv_at hl 0 rfl) ?_
      obtain ⟨_, ho, h⟩ := bs h
      obtain ⟨S32, hc, h⟩ := bs h
      refine o_backv w hLA (o_runV (As := []) (rest := []) C w (c_X8_clears l D G L S30 v0 S32 hc) ml_X8_90 mv_X8_clears hR_X8_clears ho rfl hl.1 rfl (Nat.le_of_ble_eq_true rfl) dX8_mayBe_68 hcs) (fun H locs w => ?_)
      exact hb71 _ _ h H locs ls w (lv_sub hl [0, 1] rfl)
    have hb53 : ∀ (S33 : PH) (u34 : Int32), f_X8_mayBe_b53 S33 v0 u34 = some y13 → ∀ (H : Heap) (locs : List Loc) (ls : Array Slot), Wd D G L A H0 S33 H locs → lv_has ls 3 [(0, .ref v0), (2, .int u34)] → W p l e R s m args below meth c H locs cells slots Q (F0 m 53 ls []) := by
      intro S33 u34 h H locs ls w hl
      unfold f_X8_mayBe_b53 at h
      refine lv_iload_n hx hb dX8_mayBe_53 rfl (lv_at hl 1 rfl) ?_
      refine lv_if_le (tgt := 67) hx hb dX8_mayBe_54 (by decide) (fun cc54 => ?_) (fun cc54 => ?_)
      · have h := it cc54 h
        exact hb67 _ _ h H locs ls w (lv_sub hl [0, 1] rfl)
      · have h := ie cc54 h
        refine lv_aload_n hx hb dX8_mayBe_57 rfl (lv_at hl 0 rfl) ?_
        refine lv_iconst (v := 0) hx hb dX8_mayBe_58 (by decide) ?_
        obtain ⟨_, ho, h⟩ := bs h
        obtain ⟨x35, hc, h⟩ := bs h
        refine o_backi w hLA (o_runV (As := [.int (0 : Int32)]) (rest := []) C w (c_X8_isClose l D G L S33 v0 (0 : Int32) x35 hc) ml_X8_103 mv_X8_isClose hR_X8_isClose ho rfl hl.1 rfl (Nat.le_of_ble_eq_true rfl) dX8_mayBe_59 hcs) (fun H locs w => ?_)
        refine lv_if_eq (tgt := 67) hx hb dX8_mayBe_62 (by decide) (fun cc62 => ?_) (fun cc62 => ?_)
        · have h := it cc62 h
          exact hb67 _ _ h H locs ls w (lv_sub hl [0, 1] rfl)
        · have h := ie cc62 h
          refine lv_iconst (v := 0) hx hb dX8_mayBe_65 (by decide) ?_
          exact hret _ _ _ _ _ _ w rfl (hR13 _ (hend13 _ (Option.some.inj h).symm).symm) dX8_mayBe_66
    intro H locs ls w hl
    have hl : lv_has ls 3 [(0, .ref v0), (2, .int t21)] := hl
    have w : Wd D G L A H0 S22 H locs := w
    refine lv_iload_n hx hb dX8_mayBe_13 rfl (lv_at hl 1 rfl) ?_
    refine lv_aload_n hx hb dX8_mayBe_14 rfl (lv_at hl 0 rfl) ?_
    obtain ⟨x36, hx36, h⟩ := bs h
    refine o_gI C w hx36 fl_X8_128 dX8_mayBe_15 ?_
    refine lv_icmp_ge (tgt := 93) hx hb dX8_mayBe_18 (by decide) (fun cc18 => ?_) (fun cc18 => ?_)
    · have h := it cc18 h
      exact hE13 _ (hend13 _ (Option.some.inj h).symm).symm H locs ls w (lv_sub hl [0] rfl)
    · have h := ie cc18 h
      refine lv_iload_n hx hb dX8_mayBe_21 rfl (lv_at hl 1 rfl) ?_
      refine lv_if_eq (tgt := 53) hx hb dX8_mayBe_22 (by decide) (fun cc22 => ?_) (fun cc22 => ?_)
      · have h := it cc22 h
        exact hb53 _ _ h H locs ls w (lv_sub hl [0, 1] rfl)
      · have h := ie cc22 h
        refine lv_aload_n hx hb dX8_mayBe_25 rfl (lv_at hl 0 rfl) ?_
        obtain ⟨x37, hx37, h⟩ := bs h
        refine o_gR C w hx37 fl_X8_34 dX8_mayBe_26 ?_
        refine lv_aload_n hx hb dX8_mayBe_29 rfl (lv_at hl 0 rfl) ?_
        obtain ⟨x38, hx38, h⟩ := bs h
        refine o_gR C w hx38 fl_X8_37 dX8_mayBe_30 ?_
        refine lv_iload_n hx hb dX8_mayBe_33 rfl (lv_at hl 1 rfl) ?_
        obtain ⟨x39, hx39, h⟩ := bs h
        refine o_ldI C w hx39 dX8_mayBe_34 ?_
        obtain ⟨x40, hx40, h⟩ := bs h
        refine o_ldJ C w hx40 dX8_mayBe_35 ?_
        refine lv_aload_n hx hb dX8_mayBe_36 rfl (lv_at hl 0 rfl) ?_
        obtain ⟨x41, hx41, h⟩ := bs h
        refine o_gR C w hx41 fl_X8_34 dX8_mayBe_37 ?_
        refine lv_aload_n hx hb dX8_mayBe_40 rfl (lv_at hl 0 rfl) ?_
        obtain ⟨x42, hx42, h⟩ := bs h
        refine o_gR C w hx42 fl_X8_37 dX8_mayBe_41 ?_
        refine lv_iload_n hx hb dX8_mayBe_44 rfl (lv_at hl 1 rfl) ?_
        refine lv_iconst (v := 1) hx hb dX8_mayBe_45 (by decide) ?_
        refine lv_isub hx hb dX8_mayBe_46 ?_
        obtain ⟨x43, hx43, h⟩ := bs h
        refine o_ldI C w hx43 dX8_mayBe_47 ?_
        obtain ⟨x44, hx44, h⟩ := bs h
        refine o_ldJ C w hx44 dX8_mayBe_48 ?_
        refine W.lcmp hx hb dX8_mayBe_49 ?_
        refine lv_if_eq (tgt := 71) hx hb dX8_mayBe_50 (by decide) (fun cc50 => ?_) (fun cc50 => ?_)
        · have h := it cc50 h
          exact hb71 _ _ h H locs ls w (lv_sub hl [0, 1] rfl)
        · have h := ie cc50 h
          exact hb53 _ _ h H locs ls w (lv_sub hl [0, 1] rfl)
  · have h := it cc1 h
    refine lv_iconst (v := 1) hx hb dX8_mayBe_4 (by decide) ?_
    exact hret _ _ _ _ _ _ w rfl (Option.some.inj h) dX8_mayBe_5
set_option maxHeartbeats 4000000 in
set_option maxRecDepth 100000 in
theorem c_X8_mayBe (l : Launch) (D : va_G) (G : Nat → ClassId) (L : List Nat) (S : PH) (v0 : Nat) (v1 : Int32) (r : Int32 × PH) (h : f_X8_mayBe S v0 v1 = some r) : Met l yX8_mayBe [Cond.code yX8_mayBe cX8_mayBe 3 (some .boolean)] ({ frames := 4, cells := 0, slots := 0, locals := 90 }) (va_Pc [.ref v0, .int v1] (PreU D G L S)) (Qi D G L r.1 r.2) 0 0 (inL L) := by
  refine Met.ofW (cc := cX8_mayBe) (maxL := 3) (ret := (some .boolean)) (by decide) rfl ?_
  intro p e s m args below meth c s₁ B hml hv
  obtain ⟨rfl, hpre⟩ := hv
  obtain ⟨C, w⟩ := o_ent (own := RX8) rfl B hml hpre
  have hl := lv_entry ([.ref v0, .int v1]) (n := 3) (Nat.le_of_ble_eq_true rfl)
  rw [lg_entry_eq]
  generalize (lg_sl ([.ref v0, .int v1]) ++ List.replicate (3 - (lg_sl ([.ref v0, .int v1])).length) Slot.unset).toArray = ls at hl ⊢
  exact w_X8_mayBe C (fun _ h => h) ⟨Nat.zero_le _, Nat.zero_le _⟩ ⟨rfl, rfl, Nat.le_of_ble_eq_true rfl, Nat.le_of_ble_eq_true rfl⟩ ⟨rfl, rfl, Nat.le_of_ble_eq_true rfl, Nat.le_of_ble_eq_true rfl⟩ ⟨rfl, rfl, Nat.le_of_ble_eq_true rfl, Nat.le_of_ble_eq_true rfl⟩ ⟨rfl, rfl, Nat.le_of_ble_eq_true rfl, Nat.le_of_ble_eq_true rfl⟩ S v0 v1 r h (fun v S9 H locs ls pc w hz hv hd => by subst hv; exact o_zret C w B.returns B.notSynchronized hz hd) _ _ _ w hl

def f_X8_together (S : PH) (v0 : Nat) (v1 : Int32) (v2 : Int32) : Option (Int32 × PH) :=
(f_X8_isAsker v1).bind fun x1 =>
if x1 = 0 then (
some ((0 : Int32), S))
else (
if v2 < 0 then (
some ((0 : Int32), S))
else (
(gR S v0 8 0).bind fun x2 =>
(ldI S x2 (5 : Int32)).bind fun x3 =>
if v2 < ((1 : Int32) <<< (x3 &&& 31)) then (
(ckO S v0 8).bind fun _ =>
(f_X8_reckons S v0 v1).bind fun S4 =>
(ckO S4 v0 8).bind fun _ =>
bd2 (f_X8_mayBe S4 v0 v2) fun x5 S6 =>
(ckZ x5).bind fun _ =>
some (x5, S6))
else (
some ((0 : Int32), S))))
set_option maxHeartbeats 4000000 in
set_option maxRecDepth 100000 in
theorem w_X8_together {p : Program} {l : Launch} {e : Env} {R : Room} {s : State} {m : MethodId} {args : Array Value} {below : List Frame} {meth : Method} {c : Code} {cells slots : Nat} {Q : State → Prop} {D : va_G} {G : Nat → ClassId} {L : List Nat} {A : Nat → Prop} {H0 : Heap} (C : CX p s m c args D G cX8_together 3 RX8) (hLA : ∀ q ∈ L, A q) (hcs : cells ≤ R.cells ∧ slots ≤ R.slots) (hR_X8_isAsker : RoomOk R ({ frames := 1, cells := 0, slots := 0, locals := 22 }) 1) (hR_X8_reckons : RoomOk R ({ frames := 4, cells := 0, slots := 0, locals := 90 }) 7) (hR_X8_mayBe : RoomOk R ({ frames := 4, cells := 0, slots := 0, locals := 90 }) 3) (S : PH) (v0 : Nat) (v1 : Int32) (v2 : Int32) (r : Int32 × PH) (h : f_X8_together S v0 v1 v2 = some r) (hret : ∀ (v : Int32) (S9 : PH) (H : Heap) (locs : List Loc) (ls : Array Slot) (pc : Nat), Wd D G L A H0 S9 H locs → narrow .boolean (.int v) = .int v → (v, S9) = r → decode cX8_together pc = .ok (.ireturn, 1) → W p l e R s m args below meth c H locs cells slots Q (F0 m pc ls [.int v])) : ∀ (H : Heap) (locs : List Loc) (ls : Array Slot), Wd D G L A H0 S H locs → lv_has ls 3 [(0, .ref v0), (1, .int v1), (2, .int v2)] → W p l e R s m args below meth c H locs cells slots Q (F0 m 0 ls []) := by
  have hx := C.1.1
  have hb := C.1.2.1
  unfold f_X8_together at h
  intro H locs ls w hl
  refine lv_iload_n hx hb dX8_together_0 rfl (lv_at hl 1 rfl) ?_
  obtain ⟨x1, hc, h⟩ := bs h
  refine o_backi w hLA (o_runS (As := [.int v1]) (rest := []) C w (c_X8_isAsker l D G L S v1 x1 hc) ml_X8_106 st_X8_isAsker hR_X8_isAsker rfl hl.1 rfl (Nat.le_of_ble_eq_true rfl) dX8_together_1 hcs) (fun H locs w => ?_)
  refine lv_if_eq (tgt := 23) hx hb dX8_together_4 (by decide) (fun cc4 => ?_) (fun cc4 => ?_)
  · have h := it cc4 h
    refine lv_iconst (v := 0) hx hb dX8_together_23 (by decide) ?_
    exact hret _ _ _ _ _ _ w rfl (Option.some.inj h) dX8_together_24
  · have h := ie cc4 h
    refine lv_iload_n hx hb dX8_together_7 rfl (lv_at hl 2 rfl) ?_
    refine lv_if_lt (tgt := 23) hx hb dX8_together_8 (by decide) (fun cc8 => ?_) (fun cc8 => ?_)
    · have h := it cc8 h
      refine lv_iconst (v := 0) hx hb dX8_together_23 (by decide) ?_
      exact hret _ _ _ _ _ _ w rfl (Option.some.inj h) dX8_together_24
    · have h := ie cc8 h
      refine lv_iload_n hx hb dX8_together_11 rfl (lv_at hl 2 rfl) ?_
      refine lv_iconst (v := 1) hx hb dX8_together_12 (by decide) ?_
      refine lv_aload_n hx hb dX8_together_13 rfl (lv_at hl 0 rfl) ?_
      obtain ⟨x2, hx2, h⟩ := bs h
      refine o_gR C w hx2 fl_X8_8 dX8_together_14 ?_
      refine lv_iconst (v := 5) hx hb dX8_together_17 (by decide) ?_
      obtain ⟨x3, hx3, h⟩ := bs h
      refine o_ldI C w hx3 dX8_together_18 ?_
      refine lv_ishl hx hb dX8_together_19 ?_
      refine lv_icmp_lt (tgt := 25) hx hb dX8_together_20 (by decide) (fun cc20 => ?_) (fun cc20 => ?_)
      · have h := it cc20 h
        refine lv_aload_n hx hb dX8_together_25 rfl (lv_at hl 0 rfl) ?_
        refine lv_iload_n hx hb dX8_together_26 rfl (lv_at hl 1 rfl) ?_
        obtain ⟨_, ho, h⟩ := bs h
        obtain ⟨S4, hc, h⟩ := bs h
        refine o_backv w hLA (o_runV (As := [.int v1]) (rest := []) C w (c_X8_reckons l D G L S v0 v1 S4 hc) ml_X8_137 mv_X8_reckons hR_X8_reckons ho rfl hl.1 rfl (Nat.le_of_ble_eq_true rfl) dX8_together_27 hcs) (fun H locs w => ?_)
        refine lv_aload_n hx hb dX8_together_30 rfl (lv_at hl 0 rfl) ?_
        refine lv_iload_n hx hb dX8_together_31 rfl (lv_at hl 2 rfl) ?_
        obtain ⟨_, ho, h⟩ := bs h
        obtain ⟨x5, S6, hc, h⟩ := bs2 h
        refine o_backi w hLA (o_runV (As := [.int v2]) (rest := []) C w (c_X8_mayBe l D G L S4 v0 v2 (x5, S6) hc) ml_X8_140 mv_X8_mayBe hR_X8_mayBe ho rfl hl.1 rfl (Nat.le_of_ble_eq_true rfl) dX8_together_32 hcs) (fun H locs w => ?_)
        obtain ⟨_, hz, h⟩ := bs h
        exact hret _ _ _ _ _ _ w (ckZ_some hz) (Option.some.inj h) dX8_together_35
      · have h := ie cc20 h
        refine lv_iconst (v := 0) hx hb dX8_together_23 (by decide) ?_
        exact hret _ _ _ _ _ _ w rfl (Option.some.inj h) dX8_together_24
set_option maxHeartbeats 4000000 in
set_option maxRecDepth 100000 in
theorem c_X8_together (l : Launch) (D : va_G) (G : Nat → ClassId) (L : List Nat) (S : PH) (v0 : Nat) (v1 : Int32) (v2 : Int32) (r : Int32 × PH) (h : f_X8_together S v0 v1 v2 = some r) : Met l yX8_together [Cond.code yX8_together cX8_together 3 (some .boolean)] ({ frames := 5, cells := 0, slots := 0, locals := 116 }) (va_Pc [.ref v0, .int v1, .int v2] (PreU D G L S)) (Qi D G L r.1 r.2) 0 0 (inL L) := by
  refine Met.ofW (cc := cX8_together) (maxL := 3) (ret := (some .boolean)) (by decide) rfl ?_
  intro p e s m args below meth c s₁ B hml hv
  obtain ⟨rfl, hpre⟩ := hv
  obtain ⟨C, w⟩ := o_ent (own := RX8) rfl B hml hpre
  have hl := lv_entry ([.ref v0, .int v1, .int v2]) (n := 3) (Nat.le_of_ble_eq_true rfl)
  rw [lg_entry_eq]
  generalize (lg_sl ([.ref v0, .int v1, .int v2]) ++ List.replicate (3 - (lg_sl ([.ref v0, .int v1, .int v2])).length) Slot.unset).toArray = ls at hl ⊢
  exact w_X8_together C (fun _ h => h) ⟨Nat.zero_le _, Nat.zero_le _⟩ ⟨rfl, rfl, Nat.le_of_ble_eq_true rfl, Nat.le_of_ble_eq_true rfl⟩ ⟨rfl, rfl, Nat.le_of_ble_eq_true rfl, Nat.le_of_ble_eq_true rfl⟩ ⟨rfl, rfl, Nat.le_of_ble_eq_true rfl, Nat.le_of_ble_eq_true rfl⟩ S v0 v1 v2 r h (fun v S9 H locs ls pc w hz hv hd => by subst hv; exact o_zret C w B.returns B.notSynchronized hz hd) _ _ _ w hl

def f_X8_bitsOf_L4 (v0 : Int32) (v1 : Int32) (v2 : Int32) : Option ((Int32 × Int32) ⊕ (Int32)) :=
if (8 : Int32) ≤ v2 then (
some (.inr v1))
else (
some (.inl ((v1 + ((v0 >>> (v2 &&& 31)) &&& (1 : Int32))), (v2 + 1))))
def f_X8_bitsOf (v0 : Int32) : Option (Int32) :=
(lpo (fun x : Int32 × Int32 => f_X8_bitsOf_L4 v0 x.1 x.2) FU ((0 : Int32), (0 : Int32))).bind fun y1 =>
some y1
set_option maxHeartbeats 4000000 in
set_option maxRecDepth 100000 in
theorem w_X8_bitsOf {p : Program} {l : Launch} {e : Env} {R : Room} {s : State} {m : MethodId} {args : Array Value} {below : List Frame} {meth : Method} {c : Code} {cells slots : Nat} {Q : State → Prop} {D : va_G} {G : Nat → ClassId} {L : List Nat} {A : Nat → Prop} {H0 : Heap} (C : CX p s m c args D G cX8_bitsOf 3 RX8) (hLA : ∀ q ∈ L, A q) (hcs : cells ≤ R.cells ∧ slots ≤ R.slots)  (S : PH) (v0 : Int32) (r : Int32) (h : f_X8_bitsOf v0 = some r) (hret : ∀ (v : Int32) (H : Heap) (locs : List Loc) (ls : Array Slot) (pc : Nat), Wd D G L A H0 S H locs → v = r → decode cX8_bitsOf pc = .ok (.ireturn, 1) → W p l e R s m args below meth c H locs cells slots Q (F0 m pc ls [.int v])) : ∀ (H : Heap) (locs : List Loc) (ls : Array Slot), Wd D G L A H0 S H locs → lv_has ls 3 [(0, .int v0)] → W p l e R s m args below meth c H locs cells slots Q (F0 m 0 ls []) := by
  have hx := C.1.1
  have hb := C.1.2.1
  unfold f_X8_bitsOf at h
  intro H locs ls w hl
  refine lv_iconst (v := 0) hx hb dX8_bitsOf_0 (by decide) ?_
  refine lv_istore_n (lv' := [(1, .int (0 : Int32)), (0, .int v0)]) hx hb dX8_bitsOf_1 rfl hl (by decide) rfl (fun ls hl => ?_)
  refine lv_iconst (v := 0) hx hb dX8_bitsOf_2 (by decide) ?_
  refine lv_istore_n (lv' := [(2, .int (0 : Int32)), (1, .int (0 : Int32)), (0, .int v0)]) hx hb dX8_bitsOf_3 rfl hl (by decide) rfl (fun ls hl => ?_)
  obtain ⟨y1, hL4, h⟩ := bs h
  have hE4 : ∀ (q2 : Int32), y1 = q2 → ∀ (H : Heap) (locs : List Loc) (ls : Array Slot), Wd D G L A H0 S H locs → lv_has ls 3 [(1, .int q2)] → W p l e R s m args below meth c H locs cells slots Q (F0 m 24 ls []) := by
    intro q2 he
    cases he
    intro H locs ls w hl
    refine lv_iload_n hx hb dX8_bitsOf_24 rfl (lv_at hl 0 rfl) ?_
    exact hret _ _ _ _ _ w (Option.some.inj h) dX8_bitsOf_25
  refine lpo_W (P := fun x : Int32 × Int32 => ∀ (H : Heap) (locs : List Loc) (ls : Array Slot), Wd D G L A H0 S H locs → lv_has ls 3 [(0, .int v0), (1, .int x.1), (2, .int x.2)] → W p l e R s m args below meth c H locs cells slots Q (F0 m 4 ls [])) ?_ FU _ hL4 H locs ls w (lv_sub hl [2, 1, 0] rfl)
  intro x y4 h hnext4 hend4
  obtain ⟨t3, t4⟩ := x
  have h : f_X8_bitsOf_L4 v0 t3 t4 = some y4 := h
  unfold f_X8_bitsOf_L4 at h
  intro H locs ls w hl
  have hl : lv_has ls 3 [(0, .int v0), (1, .int t3), (2, .int t4)] := hl
  refine lv_iload_n hx hb dX8_bitsOf_4 rfl (lv_at hl 2 rfl) ?_
  refine lv_bipush (v := 8) hx hb dX8_bitsOf_5 (by decide) ?_
  refine lv_icmp_ge (tgt := 24) hx hb dX8_bitsOf_7 (by decide) (fun cc7 => ?_) (fun cc7 => ?_)
  · have h := it cc7 h
    exact hE4 _ (hend4 _ (Option.some.inj h).symm).symm H locs ls w (lv_sub hl [1] rfl)
  · have h := ie cc7 h
    refine lv_iload_n hx hb dX8_bitsOf_10 rfl (lv_at hl 1 rfl) ?_
    refine lv_iload_n hx hb dX8_bitsOf_11 rfl (lv_at hl 0 rfl) ?_
    refine lv_iload_n hx hb dX8_bitsOf_12 rfl (lv_at hl 2 rfl) ?_
    refine lv_ishr hx hb dX8_bitsOf_13 ?_
    refine lv_iconst (v := 1) hx hb dX8_bitsOf_14 (by decide) ?_
    refine lv_iand hx hb dX8_bitsOf_15 ?_
    refine lv_iadd hx hb dX8_bitsOf_16 ?_
    refine lv_istore_n (lv' := [(1, .int (t3 + ((v0 >>> (t4 &&& 31)) &&& (1 : Int32)))), (0, .int v0), (2, .int t4)]) hx hb dX8_bitsOf_17 rfl hl (by decide) rfl (fun ls hl => ?_)
    refine lv_iinc (v := (t4 + 1)) (lv' := [(2, .int (t4 + 1)), (1, .int (t3 + ((v0 >>> (t4 &&& 31)) &&& (1 : Int32)))), (0, .int v0)]) hx hb dX8_bitsOf_18 hl (k := 2) rfl rfl (by decide) rfl (fun ls hl => ?_)
    refine lv_goto (tgt := 4) hx hb dX8_bitsOf_21 (by decide) ?_
    exact hnext4 _ (Option.some.inj h).symm H locs ls w (lv_sub hl [2, 1, 0] rfl)
set_option maxHeartbeats 4000000 in
set_option maxRecDepth 100000 in
theorem c_X8_bitsOf (l : Launch) (D : va_G) (G : Nat → ClassId) (L : List Nat) (S : PH) (v0 : Int32) (r : Int32) (h : f_X8_bitsOf v0 = some r) : Met l yX8_bitsOf [Cond.code yX8_bitsOf cX8_bitsOf 3 (some .int)] ({ frames := 0, cells := 0, slots := 0, locals := 0 }) (va_Pc [.int v0] (PreU D G L S)) (Qi D G L r S) 0 0 (inL L) := by
  refine Met.ofW (cc := cX8_bitsOf) (maxL := 3) (ret := (some .int)) (by decide) rfl ?_
  intro p e s m args below meth c s₁ B hml hv
  obtain ⟨rfl, hpre⟩ := hv
  obtain ⟨C, w⟩ := o_ent (own := RX8) rfl B hml hpre
  have hl := lv_entry ([.int v0]) (n := 3) (Nat.le_of_ble_eq_true rfl)
  rw [lg_entry_eq]
  generalize (lg_sl ([.int v0]) ++ List.replicate (3 - (lg_sl ([.int v0])).length) Slot.unset).toArray = ls at hl ⊢
  exact w_X8_bitsOf C (fun _ h => h) ⟨Nat.zero_le _, Nat.zero_le _⟩  S v0 r h (fun v H locs ls pc w hv hd => by subst hv; exact o_iret C w B.returns B.notSynchronized hd) _ _ _ w hl

def f_X8_most_b51 (S : PH) (v0 : Nat) (v2 : Int32) (v3 : Int32) : Option ((Int32 × Int32 × PH) ⊕ (Int32 × PH)) :=
some (.inl (v2, (v3 + 1), S))
def f_X8_most_L18 (S : PH) (v0 : Nat) (v2 : Int32) (v3 : Int32) : Option ((Int32 × Int32 × PH) ⊕ (Int32 × PH)) :=
(gR S v0 8 0).bind fun x3 =>
(ldI S x3 (5 : Int32)).bind fun x4 =>
if ((1 : Int32) <<< (x4 &&& 31)) ≤ v3 then (
some (.inr (v2, S)))
else (
(f_X8_bitsOf v3).bind fun x5 =>
(f_X8_bitsOf v2).bind fun x6 =>
if x5 ≤ x6 then (
f_X8_most_b51 S v0 v2 v3)
else (
(ckO S v0 8).bind fun _ =>
bd2 (f_X8_mayBe S v0 v3) fun x7 S8 =>
if x7 = 0 then (
f_X8_most_b51 S8 v0 v2 v3)
else (
f_X8_most_b51 S8 v0 v3 v3)))
def f_X8_most (S : PH) (v0 : Nat) (v1 : Int32) : Option (Int32 × PH) :=
(f_X8_isAsker v1).bind fun x1 =>
if x1 = 0 then (
some ((-1 : Int32), S))
else (
(ckO S v0 8).bind fun _ =>
(f_X8_reckons S v0 v1).bind fun S2 =>
bd2 (lpo (fun x : Int32 × Int32 × PH => f_X8_most_L18 x.2.2 v0 x.1 x.2.1) FU ((0 : Int32), (1 : Int32), S2)) fun y9 S10 =>
some (y9, S10))
set_option maxHeartbeats 4000000 in
set_option maxRecDepth 100000 in
theorem w_X8_most {p : Program} {l : Launch} {e : Env} {R : Room} {s : State} {m : MethodId} {args : Array Value} {below : List Frame} {meth : Method} {c : Code} {cells slots : Nat} {Q : State → Prop} {D : va_G} {G : Nat → ClassId} {L : List Nat} {A : Nat → Prop} {H0 : Heap} (C : CX p s m c args D G cX8_most 4 RX8) (hLA : ∀ q ∈ L, A q) (hcs : cells ≤ R.cells ∧ slots ≤ R.slots) (hR_X8_isAsker : RoomOk R ({ frames := 1, cells := 0, slots := 0, locals := 22 }) 1) (hR_X8_reckons : RoomOk R ({ frames := 4, cells := 0, slots := 0, locals := 90 }) 7) (hR_X8_bitsOf : RoomOk R ({ frames := 0, cells := 0, slots := 0, locals := 0 }) 3) (hR_X8_mayBe : RoomOk R ({ frames := 4, cells := 0, slots := 0, locals := 90 }) 3) (S : PH) (v0 : Nat) (v1 : Int32) (r : Int32 × PH) (h : f_X8_most S v0 v1 = some r) (hret : ∀ (v : Int32) (S9 : PH) (H : Heap) (locs : List Loc) (ls : Array Slot) (pc : Nat), Wd D G L A H0 S9 H locs → (v, S9) = r → decode cX8_most pc = .ok (.ireturn, 1) → W p l e R s m args below meth c H locs cells slots Q (F0 m pc ls [.int v])) : ∀ (H : Heap) (locs : List Loc) (ls : Array Slot), Wd D G L A H0 S H locs → lv_has ls 4 [(0, .ref v0), (1, .int v1)] → W p l e R s m args below meth c H locs cells slots Q (F0 m 0 ls []) := by
  have hx := C.1.1
  have hb := C.1.2.1
  unfold f_X8_most at h
  intro H locs ls w hl
  refine lv_iload_n hx hb dX8_most_0 rfl (lv_at hl 1 rfl) ?_
  obtain ⟨x1, hc, h⟩ := bs h
  refine o_backi w hLA (o_runS (As := [.int v1]) (rest := []) C w (c_X8_isAsker l D G L S v1 x1 hc) ml_X8_106 st_X8_isAsker hR_X8_isAsker rfl hl.1 rfl (Nat.le_of_ble_eq_true rfl) dX8_most_1 hcs) (fun H locs w => ?_)
  refine lv_if_ne (tgt := 9) hx hb dX8_most_4 (by decide) (fun cc4 => ?_) (fun cc4 => ?_)
  · have h := ie cc4 h
    refine lv_aload_n hx hb dX8_most_9 rfl (lv_at hl 0 rfl) ?_
    refine lv_iload_n hx hb dX8_most_10 rfl (lv_at hl 1 rfl) ?_
    obtain ⟨_, ho, h⟩ := bs h
    obtain ⟨S2, hc, h⟩ := bs h
    refine o_backv w hLA (o_runV (As := [.int v1]) (rest := []) C w (c_X8_reckons l D G L S v0 v1 S2 hc) ml_X8_137 mv_X8_reckons hR_X8_reckons ho rfl hl.1 rfl (Nat.le_of_ble_eq_true rfl) dX8_most_11 hcs) (fun H locs w => ?_)
    refine lv_iconst (v := 0) hx hb dX8_most_14 (by decide) ?_
    refine lv_istore_n (lv' := [(2, .int (0 : Int32)), (0, .ref v0), (1, .int v1)]) hx hb dX8_most_15 rfl hl (by decide) rfl (fun ls hl => ?_)
    refine lv_iconst (v := 1) hx hb dX8_most_16 (by decide) ?_
    refine lv_istore_n (lv' := [(3, .int (1 : Int32)), (2, .int (0 : Int32)), (0, .ref v0), (1, .int v1)]) hx hb dX8_most_17 rfl hl (by decide) rfl (fun ls hl => ?_)
    obtain ⟨y9, S10, hL18, h⟩ := bs2 h
    have hE18 : ∀ (q11 : Int32) (q12 : PH), (y9, S10) = (q11, q12) → ∀ (H : Heap) (locs : List Loc) (ls : Array Slot), Wd D G L A H0 q12 H locs → lv_has ls 4 [(2, .int q11)] → W p l e R s m args below meth c H locs cells slots Q (F0 m 57 ls []) := by
      intro q11 q12 he
      cases he
      intro H locs ls w hl
      refine lv_iload_n hx hb dX8_most_57 rfl (lv_at hl 0 rfl) ?_
      exact hret _ _ _ _ _ _ w (Option.some.inj h) dX8_most_58
    refine lpo_W (P := fun x : Int32 × Int32 × PH => ∀ (H : Heap) (locs : List Loc) (ls : Array Slot), Wd D G L A H0 x.2.2 H locs → lv_has ls 4 [(0, .ref v0), (2, .int x.1), (3, .int x.2.1)] → W p l e R s m args below meth c H locs cells slots Q (F0 m 18 ls [])) ?_ FU _ hL18 H locs ls w (lv_sub hl [2, 1, 0] rfl)
    intro x y18 h hnext18 hend18
    obtain ⟨t13, t14, S15⟩ := x
    have h : f_X8_most_L18 S15 v0 t13 t14 = some y18 := h
    unfold f_X8_most_L18 at h
    have hb51 : ∀ (S16 : PH) (u17 : Int32) (u18 : Int32), f_X8_most_b51 S16 v0 u17 u18 = some y18 → ∀ (H : Heap) (locs : List Loc) (ls : Array Slot), Wd D G L A H0 S16 H locs → lv_has ls 4 [(0, .ref v0), (2, .int u17), (3, .int u18)] → W p l e R s m args below meth c H locs cells slots Q (F0 m 51 ls []) := by
      intro S16 u17 u18 h H locs ls w hl
      unfold f_X8_most_b51 at h
      refine lv_iinc (v := (u18 + 1)) (lv' := [(3, .int (u18 + 1)), (0, .ref v0), (2, .int u17)]) hx hb dX8_most_51 hl (k := 2) rfl rfl (by decide) rfl (fun ls hl => ?_)
      refine lv_goto (tgt := 18) hx hb dX8_most_54 (by decide) ?_
      exact hnext18 _ (Option.some.inj h).symm H locs ls w (lv_sub hl [1, 2, 0] rfl)
    intro H locs ls w hl
    have hl : lv_has ls 4 [(0, .ref v0), (2, .int t13), (3, .int t14)] := hl
    have w : Wd D G L A H0 S15 H locs := w
    refine lv_iload_n hx hb dX8_most_18 rfl (lv_at hl 2 rfl) ?_
    refine lv_iconst (v := 1) hx hb dX8_most_19 (by decide) ?_
    refine lv_aload_n hx hb dX8_most_20 rfl (lv_at hl 0 rfl) ?_
    obtain ⟨x19, hx19, h⟩ := bs h
    refine o_gR C w hx19 fl_X8_8 dX8_most_21 ?_
    refine lv_iconst (v := 5) hx hb dX8_most_24 (by decide) ?_
    obtain ⟨x20, hx20, h⟩ := bs h
    refine o_ldI C w hx20 dX8_most_25 ?_
    refine lv_ishl hx hb dX8_most_26 ?_
    refine lv_icmp_ge (tgt := 57) hx hb dX8_most_27 (by decide) (fun cc27 => ?_) (fun cc27 => ?_)
    · have h := it cc27 h
      exact hE18 _ _ (hend18 _ (Option.some.inj h).symm).symm H locs ls w (lv_sub hl [1] rfl)
    · have h := ie cc27 h
      refine lv_iload_n hx hb dX8_most_30 rfl (lv_at hl 2 rfl) ?_
      obtain ⟨x21, hc, h⟩ := bs h
      refine o_backi w hLA (o_runS (As := [.int t14]) (rest := []) C w (c_X8_bitsOf l D G L S15 t14 x21 hc) ml_X8_143 st_X8_bitsOf hR_X8_bitsOf rfl hl.1 rfl (Nat.le_of_ble_eq_true rfl) dX8_most_31 hcs) (fun H locs w => ?_)
      refine lv_iload_n hx hb dX8_most_34 rfl (lv_at hl 1 rfl) ?_
      obtain ⟨x22, hc, h⟩ := bs h
      refine o_backi w hLA (o_runS (As := [.int t13]) (rest := [.int x21]) C w (c_X8_bitsOf l D G L S15 t13 x22 hc) ml_X8_143 st_X8_bitsOf hR_X8_bitsOf rfl hl.1 rfl (Nat.le_of_ble_eq_true rfl) dX8_most_35 hcs) (fun H locs w => ?_)
      refine lv_icmp_le (tgt := 51) hx hb dX8_most_38 (by decide) (fun cc38 => ?_) (fun cc38 => ?_)
      · have h := it cc38 h
        exact hb51 _ _ _ h H locs ls w (lv_sub hl [0, 1, 2] rfl)
      · have h := ie cc38 h
        refine lv_aload_n hx hb dX8_most_41 rfl (lv_at hl 0 rfl) ?_
        refine lv_iload_n hx hb dX8_most_42 rfl (lv_at hl 2 rfl) ?_
        obtain ⟨_, ho, h⟩ := bs h
        obtain ⟨x23, S24, hc, h⟩ := bs2 h
        refine o_backi w hLA (o_runV (As := [.int t14]) (rest := []) C w (c_X8_mayBe l D G L S15 v0 t14 (x23, S24) hc) ml_X8_140 mv_X8_mayBe hR_X8_mayBe ho rfl hl.1 rfl (Nat.le_of_ble_eq_true rfl) dX8_most_43 hcs) (fun H locs w => ?_)
        refine lv_if_eq (tgt := 51) hx hb dX8_most_46 (by decide) (fun cc46 => ?_) (fun cc46 => ?_)
        · have h := it cc46 h
          exact hb51 _ _ _ h H locs ls w (lv_sub hl [0, 1, 2] rfl)
        · have h := ie cc46 h
          refine lv_iload_n hx hb dX8_most_49 rfl (lv_at hl 2 rfl) ?_
          refine lv_istore_n (lv' := [(2, .int t14), (0, .ref v0), (3, .int t14)]) hx hb dX8_most_50 rfl hl (by decide) rfl (fun ls hl => ?_)
          exact hb51 _ _ _ h H locs ls w (lv_sub hl [1, 0, 2] rfl)
  · have h := it cc4 h
    refine lv_iconst (v := -1) hx hb dX8_most_7 (by decide) ?_
    exact hret _ _ _ _ _ _ w (Option.some.inj h) dX8_most_8
set_option maxHeartbeats 4000000 in
set_option maxRecDepth 100000 in
theorem c_X8_most (l : Launch) (D : va_G) (G : Nat → ClassId) (L : List Nat) (S : PH) (v0 : Nat) (v1 : Int32) (r : Int32 × PH) (h : f_X8_most S v0 v1 = some r) : Met l yX8_most [Cond.code yX8_most cX8_most 4 (some .int)] ({ frames := 5, cells := 0, slots := 0, locals := 116 }) (va_Pc [.ref v0, .int v1] (PreU D G L S)) (Qi D G L r.1 r.2) 0 0 (inL L) := by
  refine Met.ofW (cc := cX8_most) (maxL := 4) (ret := (some .int)) (by decide) rfl ?_
  intro p e s m args below meth c s₁ B hml hv
  obtain ⟨rfl, hpre⟩ := hv
  obtain ⟨C, w⟩ := o_ent (own := RX8) rfl B hml hpre
  have hl := lv_entry ([.ref v0, .int v1]) (n := 4) (Nat.le_of_ble_eq_true rfl)
  rw [lg_entry_eq]
  generalize (lg_sl ([.ref v0, .int v1]) ++ List.replicate (4 - (lg_sl ([.ref v0, .int v1])).length) Slot.unset).toArray = ls at hl ⊢
  exact w_X8_most C (fun _ h => h) ⟨Nat.zero_le _, Nat.zero_le _⟩ ⟨rfl, rfl, Nat.le_of_ble_eq_true rfl, Nat.le_of_ble_eq_true rfl⟩ ⟨rfl, rfl, Nat.le_of_ble_eq_true rfl, Nat.le_of_ble_eq_true rfl⟩ ⟨rfl, rfl, Nat.le_of_ble_eq_true rfl, Nat.le_of_ble_eq_true rfl⟩ ⟨rfl, rfl, Nat.le_of_ble_eq_true rfl, Nat.le_of_ble_eq_true rfl⟩ S v0 v1 r h (fun v S9 H locs ls pc w hv hd => by subst hv; exact o_iret C w B.returns B.notSynchronized hd) _ _ _ w hl

def f_X8_count_b28 (S : PH) (v0 : Nat) (v3 : Int32) (s0 : Int32) (s1 : Int32) : Option ((Int32 × Int32) ⊕ (Int32)) :=
some (.inl ((s0 + s1), (v3 + 1)))
def f_X8_count_L4 (S : PH) (v0 : Nat) (v2 : Int32) (v3 : Int32) : Option ((Int32 × Int32) ⊕ (Int32)) :=
if (4 : Int32) ≤ v3 then (
some (.inr v2))
else (
(gR S v0 8 0).bind fun x1 =>
(ldI S x1 ((6 : Int32) + v3)).bind fun x2 =>
if x2 = v3 then (
f_X8_count_b28 S v0 v3 v2 (1 : Int32))
else (
f_X8_count_b28 S v0 v3 v2 (0 : Int32)))
def f_X8_count (S : PH) (v0 : Nat) (v1 : Int32) : Option (Int32) :=
(lpo (fun x : Int32 × Int32 => f_X8_count_L4 S v0 x.1 x.2) FU ((0 : Int32), (0 : Int32))).bind fun y3 =>
if v1 = 0 then (
(gR S v0 8 0).bind fun x4 =>
(ldI S x4 (0 : Int32)).bind fun x5 =>
some x5)
else if v1 = 1 then (
(gR S v0 8 0).bind fun x6 =>
(ldI S x6 (1 : Int32)).bind fun x7 =>
some x7)
else if v1 = 2 then (
(gR S v0 8 0).bind fun x8 =>
(ldI S x8 (2 : Int32)).bind fun x9 =>
some x9)
else if v1 = 3 then (
(gR S v0 8 0).bind fun x10 =>
(ldI S x10 (3 : Int32)).bind fun x11 =>
some x11)
else if v1 = 4 then (
(gR S v0 8 0).bind fun x12 =>
(ldI S x12 (4 : Int32)).bind fun x13 =>
some x13)
else if v1 = 5 then (
(gR S v0 8 0).bind fun x14 =>
(ldI S x14 (5 : Int32)).bind fun x15 =>
some x15)
else if v1 = 6 then (
some y3)
else (
some (-1 : Int32))
set_option maxHeartbeats 4000000 in
set_option maxRecDepth 100000 in
theorem w_X8_count {p : Program} {l : Launch} {e : Env} {R : Room} {s : State} {m : MethodId} {args : Array Value} {below : List Frame} {meth : Method} {c : Code} {cells slots : Nat} {Q : State → Prop} {D : va_G} {G : Nat → ClassId} {L : List Nat} {A : Nat → Prop} {H0 : Heap} (C : CX p s m c args D G cX8_count 4 RX8) (hLA : ∀ q ∈ L, A q) (hcs : cells ≤ R.cells ∧ slots ≤ R.slots)  (S : PH) (v0 : Nat) (v1 : Int32) (r : Int32) (h : f_X8_count S v0 v1 = some r) (hret : ∀ (v : Int32) (H : Heap) (locs : List Loc) (ls : Array Slot) (pc : Nat), Wd D G L A H0 S H locs → v = r → decode cX8_count pc = .ok (.ireturn, 1) → W p l e R s m args below meth c H locs cells slots Q (F0 m pc ls [.int v])) : ∀ (H : Heap) (locs : List Loc) (ls : Array Slot), Wd D G L A H0 S H locs → lv_has ls 4 [(0, .ref v0), (1, .int v1)] → W p l e R s m args below meth c H locs cells slots Q (F0 m 0 ls []) := by
  have hx := C.1.1
  have hb := C.1.2.1
  unfold f_X8_count at h
  intro H locs ls w hl
  refine lv_iconst (v := 0) hx hb dX8_count_0 (by decide) ?_
  refine lv_istore_n (lv' := [(2, .int (0 : Int32)), (0, .ref v0), (1, .int v1)]) hx hb dX8_count_1 rfl hl (by decide) rfl (fun ls hl => ?_)
  refine lv_iconst (v := 0) hx hb dX8_count_2 (by decide) ?_
  refine lv_istore_n (lv' := [(3, .int (0 : Int32)), (2, .int (0 : Int32)), (0, .ref v0), (1, .int v1)]) hx hb dX8_count_3 rfl hl (by decide) rfl (fun ls hl => ?_)
  obtain ⟨y3, hL4, h⟩ := bs h
  have hE4 : ∀ (q16 : Int32), y3 = q16 → ∀ (H : Heap) (locs : List Loc) (ls : Array Slot), Wd D G L A H0 S H locs → lv_has ls 4 [(0, .ref v0), (1, .int v1), (2, .int q16)] → W p l e R s m args below meth c H locs cells slots Q (F0 m 36 ls []) := by
    intro q16 he
    cases he
    intro H locs ls w hl
    refine lv_iload_n hx hb dX8_count_36 rfl (lv_at hl 1 rfl) ?_
    by_cases cw37_0 : v1 = 0
    · have h := it cw37_0 h
      refine o_sw0 C 0 cw37_0 dX8_count_37 (by decide) (by decide) rfl (tgt := 80) (by decide) ?_
      refine lv_aload_n hx hb dX8_count_80 rfl (lv_at hl 0 rfl) ?_
      obtain ⟨x4, hx4, h⟩ := bs h
      refine o_gR C w hx4 fl_X8_8 dX8_count_81 ?_
      refine lv_iconst (v := 0) hx hb dX8_count_84 (by decide) ?_
      obtain ⟨x5, hx5, h⟩ := bs h
      refine o_ldI C w hx5 dX8_count_85 ?_
      exact hret _ _ _ _ _ w (Option.some.inj h) dX8_count_86
    have h := ie cw37_0 h
    by_cases cw37_1 : v1 = 1
    · have h := it cw37_1 h
      refine o_sw0 C 1 cw37_1 dX8_count_37 (by decide) (by decide) rfl (tgt := 87) (by decide) ?_
      refine lv_aload_n hx hb dX8_count_87 rfl (lv_at hl 0 rfl) ?_
      obtain ⟨x6, hx6, h⟩ := bs h
      refine o_gR C w hx6 fl_X8_8 dX8_count_88 ?_
      refine lv_iconst (v := 1) hx hb dX8_count_91 (by decide) ?_
      obtain ⟨x7, hx7, h⟩ := bs h
      refine o_ldI C w hx7 dX8_count_92 ?_
      exact hret _ _ _ _ _ w (Option.some.inj h) dX8_count_93
    have h := ie cw37_1 h
    by_cases cw37_2 : v1 = 2
    · have h := it cw37_2 h
      refine o_sw0 C 2 cw37_2 dX8_count_37 (by decide) (by decide) rfl (tgt := 94) (by decide) ?_
      refine lv_aload_n hx hb dX8_count_94 rfl (lv_at hl 0 rfl) ?_
      obtain ⟨x8, hx8, h⟩ := bs h
      refine o_gR C w hx8 fl_X8_8 dX8_count_95 ?_
      refine lv_iconst (v := 2) hx hb dX8_count_98 (by decide) ?_
      obtain ⟨x9, hx9, h⟩ := bs h
      refine o_ldI C w hx9 dX8_count_99 ?_
      exact hret _ _ _ _ _ w (Option.some.inj h) dX8_count_100
    have h := ie cw37_2 h
    by_cases cw37_3 : v1 = 3
    · have h := it cw37_3 h
      refine o_sw0 C 3 cw37_3 dX8_count_37 (by decide) (by decide) rfl (tgt := 101) (by decide) ?_
      refine lv_aload_n hx hb dX8_count_101 rfl (lv_at hl 0 rfl) ?_
      obtain ⟨x10, hx10, h⟩ := bs h
      refine o_gR C w hx10 fl_X8_8 dX8_count_102 ?_
      refine lv_iconst (v := 3) hx hb dX8_count_105 (by decide) ?_
      obtain ⟨x11, hx11, h⟩ := bs h
      refine o_ldI C w hx11 dX8_count_106 ?_
      exact hret _ _ _ _ _ w (Option.some.inj h) dX8_count_107
    have h := ie cw37_3 h
    by_cases cw37_4 : v1 = 4
    · have h := it cw37_4 h
      refine o_sw0 C 4 cw37_4 dX8_count_37 (by decide) (by decide) rfl (tgt := 108) (by decide) ?_
      refine lv_aload_n hx hb dX8_count_108 rfl (lv_at hl 0 rfl) ?_
      obtain ⟨x12, hx12, h⟩ := bs h
      refine o_gR C w hx12 fl_X8_8 dX8_count_109 ?_
      refine lv_iconst (v := 4) hx hb dX8_count_112 (by decide) ?_
      obtain ⟨x13, hx13, h⟩ := bs h
      refine o_ldI C w hx13 dX8_count_113 ?_
      exact hret _ _ _ _ _ w (Option.some.inj h) dX8_count_114
    have h := ie cw37_4 h
    by_cases cw37_5 : v1 = 5
    · have h := it cw37_5 h
      refine o_sw0 C 5 cw37_5 dX8_count_37 (by decide) (by decide) rfl (tgt := 115) (by decide) ?_
      refine lv_aload_n hx hb dX8_count_115 rfl (lv_at hl 0 rfl) ?_
      obtain ⟨x14, hx14, h⟩ := bs h
      refine o_gR C w hx14 fl_X8_8 dX8_count_116 ?_
      refine lv_iconst (v := 5) hx hb dX8_count_119 (by decide) ?_
      obtain ⟨x15, hx15, h⟩ := bs h
      refine o_ldI C w hx15 dX8_count_120 ?_
      exact hret _ _ _ _ _ w (Option.some.inj h) dX8_count_121
    have h := ie cw37_5 h
    by_cases cw37_6 : v1 = 6
    · have h := it cw37_6 h
      refine o_sw0 C 6 cw37_6 dX8_count_37 (by decide) (by decide) rfl (tgt := 122) (by decide) ?_
      refine lv_iload_n hx hb dX8_count_122 rfl (lv_at hl 2 rfl) ?_
      exact hret _ _ _ _ _ w (Option.some.inj h) dX8_count_123
    have h := ie cw37_6 h
    have cx0 := lv_neT (k := 0) (a := 0) cw37_0 (by decide)
    have cx1 := lv_neT (k := 1) (a := 1) cw37_1 (by decide)
    have cx2 := lv_neT (k := 2) (a := 2) cw37_2 (by decide)
    have cx3 := lv_neT (k := 3) (a := 3) cw37_3 (by decide)
    have cx4 := lv_neT (k := 4) (a := 4) cw37_4 (by decide)
    have cx5 := lv_neT (k := 5) (a := 5) cw37_5 (by decide)
    have cx6 := lv_neT (k := 6) (a := 6) cw37_6 (by decide)
    refine lv_tableOut (tgt := 124) hx hb dX8_count_37 (by omega) (by decide) ?_
    refine lv_iconst (v := -1) hx hb dX8_count_124 (by decide) ?_
    exact hret _ _ _ _ _ w (Option.some.inj h) dX8_count_125
  refine lpo_W (P := fun x : Int32 × Int32 => ∀ (H : Heap) (locs : List Loc) (ls : Array Slot), Wd D G L A H0 S H locs → lv_has ls 4 [(0, .ref v0), (1, .int v1), (2, .int x.1), (3, .int x.2)] → W p l e R s m args below meth c H locs cells slots Q (F0 m 4 ls [])) ?_ FU _ hL4 H locs ls w (lv_sub hl [2, 3, 1, 0] rfl)
  intro x y4 h hnext4 hend4
  obtain ⟨t17, t18⟩ := x
  have h : f_X8_count_L4 S v0 t17 t18 = some y4 := h
  unfold f_X8_count_L4 at h
  have hb28 : ∀ (u19 : Int32) (u20 : Int32) (u21 : Int32), f_X8_count_b28 S v0 u19 u20 u21 = some y4 → ∀ (H : Heap) (locs : List Loc) (ls : Array Slot), Wd D G L A H0 S H locs → lv_has ls 4 [(0, .ref v0), (1, .int v1), (3, .int u19)] → W p l e R s m args below meth c H locs cells slots Q (F0 m 28 ls [.int u21, .int u20]) := by
    intro u19 u20 u21 h H locs ls w hl
    unfold f_X8_count_b28 at h
    refine lv_iadd hx hb dX8_count_28 ?_
    refine lv_istore_n (lv' := [(2, .int (u20 + u21)), (0, .ref v0), (1, .int v1), (3, .int u19)]) hx hb dX8_count_29 rfl hl (by decide) rfl (fun ls hl => ?_)
    refine lv_iinc (v := (u19 + 1)) (lv' := [(3, .int (u19 + 1)), (2, .int (u20 + u21)), (0, .ref v0), (1, .int v1)]) hx hb dX8_count_30 hl (k := 3) rfl rfl (by decide) rfl (fun ls hl => ?_)
    refine lv_goto (tgt := 4) hx hb dX8_count_33 (by decide) ?_
    exact hnext4 _ (Option.some.inj h).symm H locs ls w (lv_sub hl [2, 3, 1, 0] rfl)
  intro H locs ls w hl
  have hl : lv_has ls 4 [(0, .ref v0), (1, .int v1), (2, .int t17), (3, .int t18)] := hl
  refine lv_iload_n hx hb dX8_count_4 rfl (lv_at hl 3 rfl) ?_
  refine lv_iconst (v := 4) hx hb dX8_count_5 (by decide) ?_
  refine lv_icmp_ge (tgt := 36) hx hb dX8_count_6 (by decide) (fun cc6 => ?_) (fun cc6 => ?_)
  · have h := it cc6 h
    exact hE4 _ (hend4 _ (Option.some.inj h).symm).symm H locs ls w (lv_sub hl [0, 1, 2] rfl)
  · have h := ie cc6 h
    refine lv_iload_n hx hb dX8_count_9 rfl (lv_at hl 2 rfl) ?_
    refine lv_aload_n hx hb dX8_count_10 rfl (lv_at hl 0 rfl) ?_
    obtain ⟨x22, hx22, h⟩ := bs h
    refine o_gR C w hx22 fl_X8_8 dX8_count_11 ?_
    refine lv_bipush (v := 6) hx hb dX8_count_14 (by decide) ?_
    refine lv_iload_n hx hb dX8_count_16 rfl (lv_at hl 3 rfl) ?_
    refine lv_iadd hx hb dX8_count_17 ?_
    obtain ⟨x23, hx23, h⟩ := bs h
    refine o_ldI C w hx23 dX8_count_18 ?_
    refine lv_iload_n hx hb dX8_count_19 rfl (lv_at hl 3 rfl) ?_
    refine lv_icmp_ne (tgt := 27) hx hb dX8_count_20 (by decide) (fun cc20 => ?_) (fun cc20 => ?_)
    · have h := ie cc20 h
      refine lv_iconst (v := 0) hx hb dX8_count_27 (by decide) ?_
      exact hb28 _ _ _ h H locs ls w (lv_sub hl [0, 1, 3] rfl)
    · have h := it cc20 h
      refine lv_iconst (v := 1) hx hb dX8_count_23 (by decide) ?_
      refine lv_goto (tgt := 28) hx hb dX8_count_24 (by decide) ?_
      exact hb28 _ _ _ h H locs ls w (lv_sub hl [0, 1, 3] rfl)
set_option maxHeartbeats 4000000 in
set_option maxRecDepth 100000 in
theorem c_X8_count (l : Launch) (D : va_G) (G : Nat → ClassId) (L : List Nat) (S : PH) (v0 : Nat) (v1 : Int32) (r : Int32) (h : f_X8_count S v0 v1 = some r) : Met l yX8_count [Cond.code yX8_count cX8_count 4 (some .int)] ({ frames := 0, cells := 0, slots := 0, locals := 0 }) (va_Pc [.ref v0, .int v1] (PreU D G L S)) (Qi D G L r S) 0 0 (inL L) := by
  refine Met.ofW (cc := cX8_count) (maxL := 4) (ret := (some .int)) (by decide) rfl ?_
  intro p e s m args below meth c s₁ B hml hv
  obtain ⟨rfl, hpre⟩ := hv
  obtain ⟨C, w⟩ := o_ent (own := RX8) rfl B hml hpre
  have hl := lv_entry ([.ref v0, .int v1]) (n := 4) (Nat.le_of_ble_eq_true rfl)
  rw [lg_entry_eq]
  generalize (lg_sl ([.ref v0, .int v1]) ++ List.replicate (4 - (lg_sl ([.ref v0, .int v1])).length) Slot.unset).toArray = ls at hl ⊢
  exact w_X8_count C (fun _ h => h) ⟨Nat.zero_le _, Nat.zero_le _⟩  S v0 v1 r h (fun v H locs ls pc w hv hd => by subst hv; exact o_iret C w B.returns B.notSynchronized hd) _ _ _ w hl

def f_X8_image_L20 (S : PH) (v0 : Nat) (v1 : Int32) (v2 : Int32) : Option ((Int32 × PH) ⊕ (PH)) :=
if (17514 : Int32) ≤ v2 then (
some (.inr S))
else (
(gR S v0 8 0).bind fun x4 =>
(gR S v0 8 0).bind fun x5 =>
(ldI S x5 v2).bind fun x6 =>
(stI S x4 (((17514 : Int32) * (v1 + (1 : Int32))) + v2) x6).bind fun S7 =>
some (.inl ((v2 + 1), S7)))
def f_X8_image (S : PH) (v0 : Nat) (v1 : Int32) : Option (Int32 × PH) :=
(f_X8_isIn v1 (0 : Int32) (2 : Int32)).bind fun x1 =>
if x1 = 0 then (
some ((0 : Int32), S))
else (
(gR S v0 8 1).bind fun x2 =>
(stZ S x2 v1 (1 : Int32)).bind fun S3 =>
(lpo (fun x : Int32 × PH => f_X8_image_L20 x.2 v0 v1 x.1) FU ((0 : Int32), S3)).bind fun S8 =>
some ((1 : Int32), S8))
set_option maxHeartbeats 4000000 in
set_option maxRecDepth 100000 in
theorem w_X8_image {p : Program} {l : Launch} {e : Env} {R : Room} {s : State} {m : MethodId} {args : Array Value} {below : List Frame} {meth : Method} {c : Code} {cells slots : Nat} {Q : State → Prop} {D : va_G} {G : Nat → ClassId} {L : List Nat} {A : Nat → Prop} {H0 : Heap} (C : CX p s m c args D G cX8_image 3 RX8) (hLA : ∀ q ∈ L, A q) (hcs : cells ≤ R.cells ∧ slots ≤ R.slots) (hR_X8_isIn : RoomOk R ({ frames := 0, cells := 0, slots := 0, locals := 0 }) 3) (S : PH) (v0 : Nat) (v1 : Int32) (r : Int32 × PH) (h : f_X8_image S v0 v1 = some r) (hret : ∀ (v : Int32) (S9 : PH) (H : Heap) (locs : List Loc) (ls : Array Slot) (pc : Nat), Wd D G L A H0 S9 H locs → narrow .boolean (.int v) = .int v → (v, S9) = r → decode cX8_image pc = .ok (.ireturn, 1) → W p l e R s m args below meth c H locs cells slots Q (F0 m pc ls [.int v])) : ∀ (H : Heap) (locs : List Loc) (ls : Array Slot), Wd D G L A H0 S H locs → lv_has ls 3 [(0, .ref v0), (1, .int v1)] → W p l e R s m args below meth c H locs cells slots Q (F0 m 0 ls []) := by
  have hx := C.1.1
  have hb := C.1.2.1
  unfold f_X8_image at h
  intro H locs ls w hl
  refine lv_iload_n hx hb dX8_image_0 rfl (lv_at hl 1 rfl) ?_
  refine lv_iconst (v := 0) hx hb dX8_image_1 (by decide) ?_
  refine lv_iconst (v := 2) hx hb dX8_image_2 (by decide) ?_
  obtain ⟨x1, hc, h⟩ := bs h
  refine o_backi w hLA (o_runS (As := [.int v1, .int (0 : Int32), .int (2 : Int32)]) (rest := []) C w (c_X8_isIn l D G L S v1 (0 : Int32) (2 : Int32) x1 hc) ml_X8_40 st_X8_isIn hR_X8_isIn rfl hl.1 rfl (Nat.le_of_ble_eq_true rfl) dX8_image_3 hcs) (fun H locs w => ?_)
  refine lv_if_ne (tgt := 11) hx hb dX8_image_6 (by decide) (fun cc6 => ?_) (fun cc6 => ?_)
  · have h := ie cc6 h
    refine lv_aload_n hx hb dX8_image_11 rfl (lv_at hl 0 rfl) ?_
    obtain ⟨x2, hx2, h⟩ := bs h
    refine o_gR C w hx2 fl_X8_14 dX8_image_12 ?_
    refine lv_iload_n hx hb dX8_image_15 rfl (lv_at hl 1 rfl) ?_
    refine lv_iconst (v := 1) hx hb dX8_image_16 (by decide) ?_
    obtain ⟨S3, hS3, h⟩ := bs h
    refine o_stZ C w hS3 dX8_image_17 (fun H locs w => ?_)
    refine lv_iconst (v := 0) hx hb dX8_image_18 (by decide) ?_
    refine lv_istore_n (lv' := [(2, .int (0 : Int32)), (0, .ref v0), (1, .int v1)]) hx hb dX8_image_19 rfl hl (by decide) rfl (fun ls hl => ?_)
    obtain ⟨S8, hL20, h⟩ := bs h
    have hE20 : ∀ (q9 : PH), S8 = q9 → ∀ (H : Heap) (locs : List Loc) (ls : Array Slot), Wd D G L A H0 q9 H locs → lv_has ls 3 [] → W p l e R s m args below meth c H locs cells slots Q (F0 m 53 ls []) := by
      intro q9 he
      cases he
      intro H locs ls w hl
      refine lv_iconst (v := 1) hx hb dX8_image_53 (by decide) ?_
      exact hret _ _ _ _ _ _ w rfl (Option.some.inj h) dX8_image_54
    refine lpo_W (P := fun x : Int32 × PH => ∀ (H : Heap) (locs : List Loc) (ls : Array Slot), Wd D G L A H0 x.2 H locs → lv_has ls 3 [(0, .ref v0), (1, .int v1), (2, .int x.1)] → W p l e R s m args below meth c H locs cells slots Q (F0 m 20 ls [])) ?_ FU _ hL20 H locs ls w (lv_sub hl [1, 2, 0] rfl)
    intro x y20 h hnext20 hend20
    obtain ⟨t10, S11⟩ := x
    have h : f_X8_image_L20 S11 v0 v1 t10 = some y20 := h
    unfold f_X8_image_L20 at h
    intro H locs ls w hl
    have hl : lv_has ls 3 [(0, .ref v0), (1, .int v1), (2, .int t10)] := hl
    have w : Wd D G L A H0 S11 H locs := w
    refine lv_iload_n hx hb dX8_image_20 rfl (lv_at hl 2 rfl) ?_
    refine lv_sipush (v := 17514) hx hb dX8_image_21 (by decide) ?_
    refine lv_icmp_ge (tgt := 53) hx hb dX8_image_24 (by decide) (fun cc24 => ?_) (fun cc24 => ?_)
    · have h := it cc24 h
      exact hE20 _ (hend20 _ (Option.some.inj h).symm).symm H locs ls w (lv_sub hl [] rfl)
    · have h := ie cc24 h
      refine lv_aload_n hx hb dX8_image_27 rfl (lv_at hl 0 rfl) ?_
      obtain ⟨x12, hx12, h⟩ := bs h
      refine o_gR C w hx12 fl_X8_8 dX8_image_28 ?_
      refine lv_sipush (v := 17514) hx hb dX8_image_31 (by decide) ?_
      refine lv_iload_n hx hb dX8_image_34 rfl (lv_at hl 1 rfl) ?_
      refine lv_iconst (v := 1) hx hb dX8_image_35 (by decide) ?_
      refine lv_iadd hx hb dX8_image_36 ?_
      refine lv_imul hx hb dX8_image_37 ?_
      refine lv_iload_n hx hb dX8_image_38 rfl (lv_at hl 2 rfl) ?_
      refine lv_iadd hx hb dX8_image_39 ?_
      refine lv_aload_n hx hb dX8_image_40 rfl (lv_at hl 0 rfl) ?_
      obtain ⟨x13, hx13, h⟩ := bs h
      refine o_gR C w hx13 fl_X8_8 dX8_image_41 ?_
      refine lv_iload_n hx hb dX8_image_44 rfl (lv_at hl 2 rfl) ?_
      obtain ⟨x14, hx14, h⟩ := bs h
      refine o_ldI C w hx14 dX8_image_45 ?_
      obtain ⟨S15, hS15, h⟩ := bs h
      refine o_stI C w hS15 dX8_image_46 (fun H locs w => ?_)
      refine lv_iinc (v := (t10 + 1)) (lv' := [(2, .int (t10 + 1)), (0, .ref v0), (1, .int v1)]) hx hb dX8_image_47 hl (k := 2) rfl rfl (by decide) rfl (fun ls hl => ?_)
      refine lv_goto (tgt := 20) hx hb dX8_image_50 (by decide) ?_
      exact hnext20 _ (Option.some.inj h).symm H locs ls w (lv_sub hl [1, 2, 0] rfl)
  · have h := it cc6 h
    refine lv_iconst (v := 0) hx hb dX8_image_9 (by decide) ?_
    exact hret _ _ _ _ _ _ w rfl (Option.some.inj h) dX8_image_10
set_option maxHeartbeats 4000000 in
set_option maxRecDepth 100000 in
theorem c_X8_image (l : Launch) (D : va_G) (G : Nat → ClassId) (L : List Nat) (S : PH) (v0 : Nat) (v1 : Int32) (r : Int32 × PH) (h : f_X8_image S v0 v1 = some r) : Met l yX8_image [Cond.code yX8_image cX8_image 3 (some .boolean)] ({ frames := 1, cells := 0, slots := 0, locals := 22 }) (va_Pc [.ref v0, .int v1] (PreU D G L S)) (Qi D G L r.1 r.2) 0 0 (inL L) := by
  refine Met.ofW (cc := cX8_image) (maxL := 3) (ret := (some .boolean)) (by decide) rfl ?_
  intro p e s m args below meth c s₁ B hml hv
  obtain ⟨rfl, hpre⟩ := hv
  obtain ⟨C, w⟩ := o_ent (own := RX8) rfl B hml hpre
  have hl := lv_entry ([.ref v0, .int v1]) (n := 3) (Nat.le_of_ble_eq_true rfl)
  rw [lg_entry_eq]
  generalize (lg_sl ([.ref v0, .int v1]) ++ List.replicate (3 - (lg_sl ([.ref v0, .int v1])).length) Slot.unset).toArray = ls at hl ⊢
  exact w_X8_image C (fun _ h => h) ⟨Nat.zero_le _, Nat.zero_le _⟩ ⟨rfl, rfl, Nat.le_of_ble_eq_true rfl, Nat.le_of_ble_eq_true rfl⟩ S v0 v1 r h (fun v S9 H locs ls pc w hz hv hd => by subst hv; exact o_zret C w B.returns B.notSynchronized hz hd) _ _ _ w hl

def f_X8_again_L22 (S : PH) (v0 : Nat) (v1 : Int32) (v2 : Int32) : Option ((Int32 × PH) ⊕ (PH)) :=
if (17514 : Int32) ≤ v2 then (
some (.inr S))
else (
(gR S v0 8 0).bind fun x4 =>
(gR S v0 8 0).bind fun x5 =>
(ldI S x5 (((17514 : Int32) * (v1 + (1 : Int32))) + v2)).bind fun x6 =>
(stI S x4 v2 x6).bind fun S7 =>
some (.inl ((v2 + 1), S7)))
def f_X8_again (S : PH) (v0 : Nat) (v1 : Int32) : Option (Int32 × PH) :=
(f_X8_isIn v1 (0 : Int32) (2 : Int32)).bind fun x1 =>
if x1 = 0 then (
some ((0 : Int32), S))
else (
(gR S v0 8 1).bind fun x2 =>
(ldZ S x2 v1).bind fun x3 =>
if x3 = 0 then (
some ((0 : Int32), S))
else (
(lpo (fun x : Int32 × PH => f_X8_again_L22 x.2 v0 v1 x.1) FU ((0 : Int32), S)).bind fun S8 =>
some ((1 : Int32), S8)))
set_option maxHeartbeats 4000000 in
set_option maxRecDepth 100000 in
theorem w_X8_again {p : Program} {l : Launch} {e : Env} {R : Room} {s : State} {m : MethodId} {args : Array Value} {below : List Frame} {meth : Method} {c : Code} {cells slots : Nat} {Q : State → Prop} {D : va_G} {G : Nat → ClassId} {L : List Nat} {A : Nat → Prop} {H0 : Heap} (C : CX p s m c args D G cX8_again 3 RX8) (hLA : ∀ q ∈ L, A q) (hcs : cells ≤ R.cells ∧ slots ≤ R.slots) (hR_X8_isIn : RoomOk R ({ frames := 0, cells := 0, slots := 0, locals := 0 }) 3) (S : PH) (v0 : Nat) (v1 : Int32) (r : Int32 × PH) (h : f_X8_again S v0 v1 = some r) (hret : ∀ (v : Int32) (S9 : PH) (H : Heap) (locs : List Loc) (ls : Array Slot) (pc : Nat), Wd D G L A H0 S9 H locs → narrow .boolean (.int v) = .int v → (v, S9) = r → decode cX8_again pc = .ok (.ireturn, 1) → W p l e R s m args below meth c H locs cells slots Q (F0 m pc ls [.int v])) : ∀ (H : Heap) (locs : List Loc) (ls : Array Slot), Wd D G L A H0 S H locs → lv_has ls 3 [(0, .ref v0), (1, .int v1)] → W p l e R s m args below meth c H locs cells slots Q (F0 m 0 ls []) := by
  have hx := C.1.1
  have hb := C.1.2.1
  unfold f_X8_again at h
  intro H locs ls w hl
  refine lv_iload_n hx hb dX8_again_0 rfl (lv_at hl 1 rfl) ?_
  refine lv_iconst (v := 0) hx hb dX8_again_1 (by decide) ?_
  refine lv_iconst (v := 2) hx hb dX8_again_2 (by decide) ?_
  obtain ⟨x1, hc, h⟩ := bs h
  refine o_backi w hLA (o_runS (As := [.int v1, .int (0 : Int32), .int (2 : Int32)]) (rest := []) C w (c_X8_isIn l D G L S v1 (0 : Int32) (2 : Int32) x1 hc) ml_X8_40 st_X8_isIn hR_X8_isIn rfl hl.1 rfl (Nat.le_of_ble_eq_true rfl) dX8_again_3 hcs) (fun H locs w => ?_)
  refine lv_if_eq (tgt := 18) hx hb dX8_again_6 (by decide) (fun cc6 => ?_) (fun cc6 => ?_)
  · have h := it cc6 h
    refine lv_iconst (v := 0) hx hb dX8_again_18 (by decide) ?_
    exact hret _ _ _ _ _ _ w rfl (Option.some.inj h) dX8_again_19
  · have h := ie cc6 h
    refine lv_aload_n hx hb dX8_again_9 rfl (lv_at hl 0 rfl) ?_
    obtain ⟨x2, hx2, h⟩ := bs h
    refine o_gR C w hx2 fl_X8_14 dX8_again_10 ?_
    refine lv_iload_n hx hb dX8_again_13 rfl (lv_at hl 1 rfl) ?_
    obtain ⟨x3, hx3, h⟩ := bs h
    refine o_ldZ C w hx3 dX8_again_14 ?_
    refine lv_if_ne (tgt := 20) hx hb dX8_again_15 (by decide) (fun cc15 => ?_) (fun cc15 => ?_)
    · have h := ie cc15 h
      refine lv_iconst (v := 0) hx hb dX8_again_20 (by decide) ?_
      refine lv_istore_n (lv' := [(2, .int (0 : Int32)), (0, .ref v0), (1, .int v1)]) hx hb dX8_again_21 rfl hl (by decide) rfl (fun ls hl => ?_)
      obtain ⟨S8, hL22, h⟩ := bs h
      have hE22 : ∀ (q9 : PH), S8 = q9 → ∀ (H : Heap) (locs : List Loc) (ls : Array Slot), Wd D G L A H0 q9 H locs → lv_has ls 3 [] → W p l e R s m args below meth c H locs cells slots Q (F0 m 55 ls []) := by
        intro q9 he
        cases he
        intro H locs ls w hl
        refine lv_iconst (v := 1) hx hb dX8_again_55 (by decide) ?_
        exact hret _ _ _ _ _ _ w rfl (Option.some.inj h) dX8_again_56
      refine lpo_W (P := fun x : Int32 × PH => ∀ (H : Heap) (locs : List Loc) (ls : Array Slot), Wd D G L A H0 x.2 H locs → lv_has ls 3 [(0, .ref v0), (1, .int v1), (2, .int x.1)] → W p l e R s m args below meth c H locs cells slots Q (F0 m 22 ls [])) ?_ FU _ hL22 H locs ls w (lv_sub hl [1, 2, 0] rfl)
      intro x y22 h hnext22 hend22
      obtain ⟨t10, S11⟩ := x
      have h : f_X8_again_L22 S11 v0 v1 t10 = some y22 := h
      unfold f_X8_again_L22 at h
      intro H locs ls w hl
      have hl : lv_has ls 3 [(0, .ref v0), (1, .int v1), (2, .int t10)] := hl
      have w : Wd D G L A H0 S11 H locs := w
      refine lv_iload_n hx hb dX8_again_22 rfl (lv_at hl 2 rfl) ?_
      refine lv_sipush (v := 17514) hx hb dX8_again_23 (by decide) ?_
      refine lv_icmp_ge (tgt := 55) hx hb dX8_again_26 (by decide) (fun cc26 => ?_) (fun cc26 => ?_)
      · have h := it cc26 h
        exact hE22 _ (hend22 _ (Option.some.inj h).symm).symm H locs ls w (lv_sub hl [] rfl)
      · have h := ie cc26 h
        refine lv_aload_n hx hb dX8_again_29 rfl (lv_at hl 0 rfl) ?_
        obtain ⟨x12, hx12, h⟩ := bs h
        refine o_gR C w hx12 fl_X8_8 dX8_again_30 ?_
        refine lv_iload_n hx hb dX8_again_33 rfl (lv_at hl 2 rfl) ?_
        refine lv_aload_n hx hb dX8_again_34 rfl (lv_at hl 0 rfl) ?_
        obtain ⟨x13, hx13, h⟩ := bs h
        refine o_gR C w hx13 fl_X8_8 dX8_again_35 ?_
        refine lv_sipush (v := 17514) hx hb dX8_again_38 (by decide) ?_
        refine lv_iload_n hx hb dX8_again_41 rfl (lv_at hl 1 rfl) ?_
        refine lv_iconst (v := 1) hx hb dX8_again_42 (by decide) ?_
        refine lv_iadd hx hb dX8_again_43 ?_
        refine lv_imul hx hb dX8_again_44 ?_
        refine lv_iload_n hx hb dX8_again_45 rfl (lv_at hl 2 rfl) ?_
        refine lv_iadd hx hb dX8_again_46 ?_
        obtain ⟨x14, hx14, h⟩ := bs h
        refine o_ldI C w hx14 dX8_again_47 ?_
        obtain ⟨S15, hS15, h⟩ := bs h
        refine o_stI C w hS15 dX8_again_48 (fun H locs w => ?_)
        refine lv_iinc (v := (t10 + 1)) (lv' := [(2, .int (t10 + 1)), (0, .ref v0), (1, .int v1)]) hx hb dX8_again_49 hl (k := 2) rfl rfl (by decide) rfl (fun ls hl => ?_)
        refine lv_goto (tgt := 22) hx hb dX8_again_52 (by decide) ?_
        exact hnext22 _ (Option.some.inj h).symm H locs ls w (lv_sub hl [1, 2, 0] rfl)
    · have h := it cc15 h
      refine lv_iconst (v := 0) hx hb dX8_again_18 (by decide) ?_
      exact hret _ _ _ _ _ _ w rfl (Option.some.inj h) dX8_again_19
set_option maxHeartbeats 4000000 in
set_option maxRecDepth 100000 in
theorem c_X8_again (l : Launch) (D : va_G) (G : Nat → ClassId) (L : List Nat) (S : PH) (v0 : Nat) (v1 : Int32) (r : Int32 × PH) (h : f_X8_again S v0 v1 = some r) : Met l yX8_again [Cond.code yX8_again cX8_again 3 (some .boolean)] ({ frames := 1, cells := 0, slots := 0, locals := 22 }) (va_Pc [.ref v0, .int v1] (PreU D G L S)) (Qi D G L r.1 r.2) 0 0 (inL L) := by
  refine Met.ofW (cc := cX8_again) (maxL := 3) (ret := (some .boolean)) (by decide) rfl ?_
  intro p e s m args below meth c s₁ B hml hv
  obtain ⟨rfl, hpre⟩ := hv
  obtain ⟨C, w⟩ := o_ent (own := RX8) rfl B hml hpre
  have hl := lv_entry ([.ref v0, .int v1]) (n := 3) (Nat.le_of_ble_eq_true rfl)
  rw [lg_entry_eq]
  generalize (lg_sl ([.ref v0, .int v1]) ++ List.replicate (3 - (lg_sl ([.ref v0, .int v1])).length) Slot.unset).toArray = ls at hl ⊢
  exact w_X8_again C (fun _ h => h) ⟨Nat.zero_le _, Nat.zero_le _⟩ ⟨rfl, rfl, Nat.le_of_ble_eq_true rfl, Nat.le_of_ble_eq_true rfl⟩ S v0 v1 r h (fun v S9 H locs ls pc w hz hv hd => by subst hv; exact o_zret C w B.returns B.notSynchronized hz hd) _ _ _ w hl
end
