section
-- ===== PART A: goes FIRST, ahead of the names: the tables' words, and 'selects' of the private methods out of them =====
/-- a private method of a class that the tables say can be made, by its rows of tables_1 -/
def lw_okq (q : MethodName × Nat) : Prop := (q.1.cls ≠ "java/lang/invoke/MethodHandle" ∧ q.1.cls ≠ "java/lang/invoke/VarHandle") ∧ Cond.instantiable q.1.cls q.2 ∈ tables_1 ∧ Cond.privateMethod q.1 ∈ tables_1 ∧ Cond.instanceMethod q.1 ∈ tables_1
theorem lw_p0 : lw_okq (⟨"BunchNotes", "readText", "()I"⟩, 11) := ⟨⟨by decide +kernel, by decide +kernel⟩, List.mem_of_getElem? (i := 21) (by decide +kernel), List.mem_of_getElem? (i := 320) (by decide +kernel), List.mem_of_getElem? (i := 321) (by decide +kernel)⟩
theorem lw_p1 : lw_okq (⟨"BunchNotes$Text", "pass", "()V"⟩, 7) := ⟨⟨by decide +kernel, by decide +kernel⟩, List.mem_of_getElem? (i := 64) (by decide +kernel), List.mem_of_getElem? (i := 335) (by decide +kernel), List.mem_of_getElem? (i := 336) (by decide +kernel)⟩
theorem lw_p2 : lw_okq (⟨"BunchNotes$Text", "kindAt", "(I)I"⟩, 7) := ⟨⟨by decide +kernel, by decide +kernel⟩, List.mem_of_getElem? (i := 64) (by decide +kernel), List.mem_of_getElem? (i := 339) (by decide +kernel), List.mem_of_getElem? (i := 340) (by decide +kernel)⟩
theorem lw_p3 : lw_okq (⟨"BunchNotes$Text", "readClause", "(LBunchNotes$Net;)Z"⟩, 7) := ⟨⟨by decide +kernel, by decide +kernel⟩, List.mem_of_getElem? (i := 64) (by decide +kernel), List.mem_of_getElem? (i := 343) (by decide +kernel), List.mem_of_getElem? (i := 344) (by decide +kernel)⟩
theorem lw_p4 : lw_okq (⟨"BunchNotes$Text", "isWord", "(Ljava/lang/String;)Z"⟩, 7) := ⟨⟨by decide +kernel, by decide +kernel⟩, List.mem_of_getElem? (i := 64) (by decide +kernel), List.mem_of_getElem? (i := 348) (by decide +kernel), List.mem_of_getElem? (i := 349) (by decide +kernel)⟩
theorem lw_p5 : lw_okq (⟨"BunchNotes$Text", "readNet", "(LBunchNotes$Net;)Z"⟩, 7) := ⟨⟨by decide +kernel, by decide +kernel⟩, List.mem_of_getElem? (i := 64) (by decide +kernel), List.mem_of_getElem? (i := 400) (by decide +kernel), List.mem_of_getElem? (i := 401) (by decide +kernel)⟩
theorem lw_p6 : lw_okq (⟨"BunchNotes$Text", "number", "(II)I"⟩, 7) := ⟨⟨by decide +kernel, by decide +kernel⟩, List.mem_of_getElem? (i := 64) (by decide +kernel), List.mem_of_getElem? (i := 404) (by decide +kernel), List.mem_of_getElem? (i := 405) (by decide +kernel)⟩
theorem lw_p7 : lw_okq (⟨"BunchNotes$Text", "readLink", "(LBunchNotes$Net;)Z"⟩, 7) := ⟨⟨by decide +kernel, by decide +kernel⟩, List.mem_of_getElem? (i := 64) (by decide +kernel), List.mem_of_getElem? (i := 416) (by decide +kernel), List.mem_of_getElem? (i := 417) (by decide +kernel)⟩
theorem lw_p8 : lw_okq (⟨"BunchNotes$Text", "readLevel", "(LBunchNotes$Net;)Z"⟩, 7) := ⟨⟨by decide +kernel, by decide +kernel⟩, List.mem_of_getElem? (i := 64) (by decide +kernel), List.mem_of_getElem? (i := 436) (by decide +kernel), List.mem_of_getElem? (i := 437) (by decide +kernel)⟩
theorem lw_p9 : lw_okq (⟨"BunchNotes$Text", "isSemicolon", "()Z"⟩, 7) := ⟨⟨by decide +kernel, by decide +kernel⟩, List.mem_of_getElem? (i := 64) (by decide +kernel), List.mem_of_getElem? (i := 444) (by decide +kernel), List.mem_of_getElem? (i := 445) (by decide +kernel)⟩
theorem lw_p10 : lw_okq (⟨"BunchNotes", "blankAll", "()V"⟩, 11) := ⟨⟨by decide +kernel, by decide +kernel⟩, List.mem_of_getElem? (i := 21) (by decide +kernel), List.mem_of_getElem? (i := 453) (by decide +kernel), List.mem_of_getElem? (i := 454) (by decide +kernel)⟩
theorem lw_p11 : lw_okq (⟨"BunchNotes", "forgetSlots", "()V"⟩, 11) := ⟨⟨by decide +kernel, by decide +kernel⟩, List.mem_of_getElem? (i := 21) (by decide +kernel), List.mem_of_getElem? (i := 457) (by decide +kernel), List.mem_of_getElem? (i := 458) (by decide +kernel)⟩
theorem lw_p12 : lw_okq (⟨"BunchNotes", "bothThere", "(II)Z"⟩, 11) := ⟨⟨by decide +kernel, by decide +kernel⟩, List.mem_of_getElem? (i := 21) (by decide +kernel), List.mem_of_getElem? (i := 486) (by decide +kernel), List.mem_of_getElem? (i := 487) (by decide +kernel)⟩
theorem lw_p13 : lw_okq (⟨"BunchNotes$Thinning", "sortLinks", "(LBunchNotes$Net;)V"⟩, 7) := ⟨⟨by decide +kernel, by decide +kernel⟩, List.mem_of_getElem? (i := 184) (by decide +kernel), List.mem_of_getElem? (i := 530) (by decide +kernel), List.mem_of_getElem? (i := 531) (by decide +kernel)⟩
theorem lw_p14 : lw_okq (⟨"BunchNotes$Thinning", "insert", "(LBunchNotes$Net;II)V"⟩, 7) := ⟨⟨by decide +kernel, by decide +kernel⟩, List.mem_of_getElem? (i := 184) (by decide +kernel), List.mem_of_getElem? (i := 535) (by decide +kernel), List.mem_of_getElem? (i := 536) (by decide +kernel)⟩
theorem lw_p15 : lw_okq (⟨"BunchNotes$Thinning", "lengthAt", "(LBunchNotes$Net;I)I"⟩, 7) := ⟨⟨by decide +kernel, by decide +kernel⟩, List.mem_of_getElem? (i := 184) (by decide +kernel), List.mem_of_getElem? (i := 539) (by decide +kernel), List.mem_of_getElem? (i := 540) (by decide +kernel)⟩
def lw_privs_1 : List (MethodName × Nat) := [(⟨"BunchNotes", "readText", "()I"⟩, 11), (⟨"BunchNotes$Text", "pass", "()V"⟩, 7), (⟨"BunchNotes$Text", "kindAt", "(I)I"⟩, 7), (⟨"BunchNotes$Text", "readClause", "(LBunchNotes$Net;)Z"⟩, 7), (⟨"BunchNotes$Text", "isWord", "(Ljava/lang/String;)Z"⟩, 7), (⟨"BunchNotes$Text", "readNet", "(LBunchNotes$Net;)Z"⟩, 7), (⟨"BunchNotes$Text", "number", "(II)I"⟩, 7), (⟨"BunchNotes$Text", "readLink", "(LBunchNotes$Net;)Z"⟩, 7), (⟨"BunchNotes$Text", "readLevel", "(LBunchNotes$Net;)Z"⟩, 7), (⟨"BunchNotes$Text", "isSemicolon", "()Z"⟩, 7), (⟨"BunchNotes", "blankAll", "()V"⟩, 11), (⟨"BunchNotes", "forgetSlots", "()V"⟩, 11), (⟨"BunchNotes", "bothThere", "(II)Z"⟩, 11), (⟨"BunchNotes$Thinning", "sortLinks", "(LBunchNotes$Net;)V"⟩, 7), (⟨"BunchNotes$Thinning", "insert", "(LBunchNotes$Net;II)V"⟩, 7), (⟨"BunchNotes$Thinning", "lengthAt", "(LBunchNotes$Net;I)I"⟩, 7)]
theorem lw_r1 : ∀ q ∈ lw_privs_1, lw_okq q := List.forall_mem_cons.mpr ⟨lw_p0, List.forall_mem_cons.mpr ⟨lw_p1, List.forall_mem_cons.mpr ⟨lw_p2, List.forall_mem_cons.mpr ⟨lw_p3, List.forall_mem_cons.mpr ⟨lw_p4, List.forall_mem_cons.mpr ⟨lw_p5, List.forall_mem_cons.mpr ⟨lw_p6, List.forall_mem_cons.mpr ⟨lw_p7, List.forall_mem_cons.mpr ⟨lw_p8, List.forall_mem_cons.mpr ⟨lw_p9, List.forall_mem_cons.mpr ⟨lw_p10, List.forall_mem_cons.mpr ⟨lw_p11, List.forall_mem_cons.mpr ⟨lw_p12, List.forall_mem_cons.mpr ⟨lw_p13, List.forall_mem_cons.mpr ⟨lw_p14, List.forall_mem_cons.mpr ⟨lw_p15, fun _ h => absurd h List.not_mem_nil⟩⟩⟩⟩⟩⟩⟩⟩⟩⟩⟩⟩⟩⟩⟩⟩
theorem lw_p16 : lw_okq (⟨"BunchNotes$Thinning", "clear", "(I)V"⟩, 7) := ⟨⟨by decide +kernel, by decide +kernel⟩, List.mem_of_getElem? (i := 184) (by decide +kernel), List.mem_of_getElem? (i := 544) (by decide +kernel), List.mem_of_getElem? (i := 545) (by decide +kernel)⟩
theorem lw_p17 : lw_okq (⟨"BunchNotes$Thinning", "take", "(III)V"⟩, 7) := ⟨⟨by decide +kernel, by decide +kernel⟩, List.mem_of_getElem? (i := 184) (by decide +kernel), List.mem_of_getElem? (i := 560) (by decide +kernel), List.mem_of_getElem? (i := 561) (by decide +kernel)⟩
theorem lw_p18 : lw_okq (⟨"BunchNotes", "writtenNotes", "()I"⟩, 11) := ⟨⟨by decide +kernel, by decide +kernel⟩, List.mem_of_getElem? (i := 21) (by decide +kernel), List.mem_of_getElem? (i := 592) (by decide +kernel), List.mem_of_getElem? (i := 593) (by decide +kernel)⟩
theorem lw_p19 : lw_okq (⟨"BunchNotes", "writeDraft", "(I)V"⟩, 11) := ⟨⟨by decide +kernel, by decide +kernel⟩, List.mem_of_getElem? (i := 21) (by decide +kernel), List.mem_of_getElem? (i := 616) (by decide +kernel), List.mem_of_getElem? (i := 617) (by decide +kernel)⟩
theorem lw_p20 : lw_okq (⟨"BunchNotes$Note", "findNearest", "(LBunchNotes$Net;LBunchNotes$Far;II)V"⟩, 5) := ⟨⟨by decide +kernel, by decide +kernel⟩, List.mem_of_getElem? (i := 119) (by decide +kernel), List.mem_of_getElem? (i := 624) (by decide +kernel), List.mem_of_getElem? (i := 625) (by decide +kernel)⟩
theorem lw_p21 : lw_okq (⟨"BunchNotes$Note", "isNear", "(II)Z"⟩, 5) := ⟨⟨by decide +kernel, by decide +kernel⟩, List.mem_of_getElem? (i := 119) (by decide +kernel), List.mem_of_getElem? (i := 630) (by decide +kernel), List.mem_of_getElem? (i := 631) (by decide +kernel)⟩
theorem lw_p22 : lw_okq (⟨"BunchNotes", "clusterOf", "(I)I"⟩, 11) := ⟨⟨by decide +kernel, by decide +kernel⟩, List.mem_of_getElem? (i := 21) (by decide +kernel), List.mem_of_getElem? (i := 647) (by decide +kernel), List.mem_of_getElem? (i := 648) (by decide +kernel)⟩
theorem lw_p23 : lw_okq (⟨"BunchNotes", "stepTowards", "(II)I"⟩, 11) := ⟨⟨by decide +kernel, by decide +kernel⟩, List.mem_of_getElem? (i := 21) (by decide +kernel), List.mem_of_getElem? (i := 663) (by decide +kernel), List.mem_of_getElem? (i := 664) (by decide +kernel)⟩
theorem lw_p24 : lw_okq (⟨"BunchNotes", "weighThinned", "(I)V"⟩, 11) := ⟨⟨by decide +kernel, by decide +kernel⟩, List.mem_of_getElem? (i := 21) (by decide +kernel), List.mem_of_getElem? (i := 675) (by decide +kernel), List.mem_of_getElem? (i := 676) (by decide +kernel)⟩
theorem lw_p25 : lw_okq (⟨"BunchNotes", "isFresh", "(I)Z"⟩, 11) := ⟨⟨by decide +kernel, by decide +kernel⟩, List.mem_of_getElem? (i := 21) (by decide +kernel), List.mem_of_getElem? (i := 704) (by decide +kernel), List.mem_of_getElem? (i := 705) (by decide +kernel)⟩
theorem lw_p26 : lw_okq (⟨"BunchNotes$Telling", "look", "([LBunchNotes$Note;II)I"⟩, 5) := ⟨⟨by decide +kernel, by decide +kernel⟩, List.mem_of_getElem? (i := 216) (by decide +kernel), List.mem_of_getElem? (i := 733) (by decide +kernel), List.mem_of_getElem? (i := 734) (by decide +kernel)⟩
theorem lw_p27 : lw_okq (⟨"BunchNotes", "stepsBetween", "(II)I"⟩, 11) := ⟨⟨by decide +kernel, by decide +kernel⟩, List.mem_of_getElem? (i := 21) (by decide +kernel), List.mem_of_getElem? (i := 749) (by decide +kernel), List.mem_of_getElem? (i := 750) (by decide +kernel)⟩
theorem lw_p28 : lw_okq (⟨"BunchNotes", "nodeAfter", "(III)I"⟩, 11) := ⟨⟨by decide +kernel, by decide +kernel⟩, List.mem_of_getElem? (i := 21) (by decide +kernel), List.mem_of_getElem? (i := 753) (by decide +kernel), List.mem_of_getElem? (i := 754) (by decide +kernel)⟩
theorem lw_p29 : lw_okq (⟨"BunchNotes", "weighTold", "()I"⟩, 11) := ⟨⟨by decide +kernel, by decide +kernel⟩, List.mem_of_getElem? (i := 21) (by decide +kernel), List.mem_of_getElem? (i := 761) (by decide +kernel), List.mem_of_getElem? (i := 762) (by decide +kernel)⟩
theorem lw_p30 : lw_okq (⟨"BunchNotes", "parts", "()I"⟩, 11) := ⟨⟨by decide +kernel, by decide +kernel⟩, List.mem_of_getElem? (i := 21) (by decide +kernel), List.mem_of_getElem? (i := 769) (by decide +kernel), List.mem_of_getElem? (i := 770) (by decide +kernel)⟩
theorem lw_p31 : lw_okq (⟨"BunchNotes", "freshNotes", "()I"⟩, 11) := ⟨⟨by decide +kernel, by decide +kernel⟩, List.mem_of_getElem? (i := 21) (by decide +kernel), List.mem_of_getElem? (i := 773) (by decide +kernel), List.mem_of_getElem? (i := 774) (by decide +kernel)⟩
def lw_privs_2 : List (MethodName × Nat) := [(⟨"BunchNotes$Thinning", "clear", "(I)V"⟩, 7), (⟨"BunchNotes$Thinning", "take", "(III)V"⟩, 7), (⟨"BunchNotes", "writtenNotes", "()I"⟩, 11), (⟨"BunchNotes", "writeDraft", "(I)V"⟩, 11), (⟨"BunchNotes$Note", "findNearest", "(LBunchNotes$Net;LBunchNotes$Far;II)V"⟩, 5), (⟨"BunchNotes$Note", "isNear", "(II)Z"⟩, 5), (⟨"BunchNotes", "clusterOf", "(I)I"⟩, 11), (⟨"BunchNotes", "stepTowards", "(II)I"⟩, 11), (⟨"BunchNotes", "weighThinned", "(I)V"⟩, 11), (⟨"BunchNotes", "isFresh", "(I)Z"⟩, 11), (⟨"BunchNotes$Telling", "look", "([LBunchNotes$Note;II)I"⟩, 5), (⟨"BunchNotes", "stepsBetween", "(II)I"⟩, 11), (⟨"BunchNotes", "nodeAfter", "(III)I"⟩, 11), (⟨"BunchNotes", "weighTold", "()I"⟩, 11), (⟨"BunchNotes", "parts", "()I"⟩, 11), (⟨"BunchNotes", "freshNotes", "()I"⟩, 11)]
theorem lw_r2 : ∀ q ∈ lw_privs_2, lw_okq q := List.forall_mem_cons.mpr ⟨lw_p16, List.forall_mem_cons.mpr ⟨lw_p17, List.forall_mem_cons.mpr ⟨lw_p18, List.forall_mem_cons.mpr ⟨lw_p19, List.forall_mem_cons.mpr ⟨lw_p20, List.forall_mem_cons.mpr ⟨lw_p21, List.forall_mem_cons.mpr ⟨lw_p22, List.forall_mem_cons.mpr ⟨lw_p23, List.forall_mem_cons.mpr ⟨lw_p24, List.forall_mem_cons.mpr ⟨lw_p25, List.forall_mem_cons.mpr ⟨lw_p26, List.forall_mem_cons.mpr ⟨lw_p27, List.forall_mem_cons.mpr ⟨lw_p28, List.forall_mem_cons.mpr ⟨lw_p29, List.forall_mem_cons.mpr ⟨lw_p30, List.forall_mem_cons.mpr ⟨lw_p31, fun _ h => absurd h List.not_mem_nil⟩⟩⟩⟩⟩⟩⟩⟩⟩⟩⟩⟩⟩⟩⟩⟩
theorem lw_p32 : lw_okq (⟨"BunchNotes", "nodesInNotes", "()I"⟩, 11) := ⟨⟨by decide +kernel, by decide +kernel⟩, List.mem_of_getElem? (i := 21) (by decide +kernel), List.mem_of_getElem? (i := 777) (by decide +kernel), List.mem_of_getElem? (i := 778) (by decide +kernel)⟩
theorem lw_p33 : lw_okq (⟨"BunchNotesModel", "reads", "(Z)Z"⟩, 25) := ⟨⟨by decide +kernel, by decide +kernel⟩, List.mem_of_getElem? (i := 781) (by decide +kernel), List.mem_of_getElem? (i := 880) (by decide +kernel), List.mem_of_getElem? (i := 881) (by decide +kernel)⟩
theorem lw_p34 : lw_okq (⟨"BunchNotesModel", "links", "()I"⟩, 25) := ⟨⟨by decide +kernel, by decide +kernel⟩, List.mem_of_getElem? (i := 781) (by decide +kernel), List.mem_of_getElem? (i := 884) (by decide +kernel), List.mem_of_getElem? (i := 885) (by decide +kernel)⟩
theorem lw_p35 : lw_okq (⟨"BunchNotesModel", "nextToken", "()V"⟩, 25) := ⟨⟨by decide +kernel, by decide +kernel⟩, List.mem_of_getElem? (i := 781) (by decide +kernel), List.mem_of_getElem? (i := 888) (by decide +kernel), List.mem_of_getElem? (i := 889) (by decide +kernel)⟩
theorem lw_p36 : lw_okq (⟨"BunchNotesModel", "readsClause", "()Z"⟩, 25) := ⟨⟨by decide +kernel, by decide +kernel⟩, List.mem_of_getElem? (i := 781) (by decide +kernel), List.mem_of_getElem? (i := 902) (by decide +kernel), List.mem_of_getElem? (i := 903) (by decide +kernel)⟩
theorem lw_p37 : lw_okq (⟨"BunchNotesModel", "wordHere", "()I"⟩, 25) := ⟨⟨by decide +kernel, by decide +kernel⟩, List.mem_of_getElem? (i := 781) (by decide +kernel), List.mem_of_getElem? (i := 906) (by decide +kernel), List.mem_of_getElem? (i := 907) (by decide +kernel)⟩
theorem lw_p38 : lw_okq (⟨"BunchNotesModel", "number", "(III)Z"⟩, 25) := ⟨⟨by decide +kernel, by decide +kernel⟩, List.mem_of_getElem? (i := 781) (by decide +kernel), List.mem_of_getElem? (i := 910) (by decide +kernel), List.mem_of_getElem? (i := 911) (by decide +kernel)⟩
theorem lw_p39 : lw_okq (⟨"BunchNotesModel", "numberHere", "()I"⟩, 25) := ⟨⟨by decide +kernel, by decide +kernel⟩, List.mem_of_getElem? (i := 781) (by decide +kernel), List.mem_of_getElem? (i := 914) (by decide +kernel), List.mem_of_getElem? (i := 915) (by decide +kernel)⟩
theorem lw_p40 : lw_okq (⟨"BunchNotesModel", "otherNode", "()Z"⟩, 25) := ⟨⟨by decide +kernel, by decide +kernel⟩, List.mem_of_getElem? (i := 781) (by decide +kernel), List.mem_of_getElem? (i := 918) (by decide +kernel), List.mem_of_getElem? (i := 919) (by decide +kernel)⟩
theorem lw_p41 : lw_okq (⟨"BunchNotesModel", "tellsNet", "()V"⟩, 25) := ⟨⟨by decide +kernel, by decide +kernel⟩, List.mem_of_getElem? (i := 781) (by decide +kernel), List.mem_of_getElem? (i := 922) (by decide +kernel), List.mem_of_getElem? (i := 923) (by decide +kernel)⟩
theorem lw_p42 : lw_okq (⟨"BunchNotesModel", "tellsLink", "()V"⟩, 25) := ⟨⟨by decide +kernel, by decide +kernel⟩, List.mem_of_getElem? (i := 781) (by decide +kernel), List.mem_of_getElem? (i := 926) (by decide +kernel), List.mem_of_getElem? (i := 927) (by decide +kernel)⟩
theorem lw_p43 : lw_okq (⟨"BunchNotesModel", "does", "(I)V"⟩, 25) := ⟨⟨by decide +kernel, by decide +kernel⟩, List.mem_of_getElem? (i := 781) (by decide +kernel), List.mem_of_getElem? (i := 930) (by decide +kernel), List.mem_of_getElem? (i := 931) (by decide +kernel)⟩
theorem lw_p44 : lw_okq (⟨"BunchNotesModel", "lies", "(III)V"⟩, 25) := ⟨⟨by decide +kernel, by decide +kernel⟩, List.mem_of_getElem? (i := 781) (by decide +kernel), List.mem_of_getElem? (i := 934) (by decide +kernel), List.mem_of_getElem? (i := 935) (by decide +kernel)⟩
theorem lw_p45 : lw_okq (⟨"BunchNotesModel", "pairOf", "(I)I"⟩, 25) := ⟨⟨by decide +kernel, by decide +kernel⟩, List.mem_of_getElem? (i := 781) (by decide +kernel), List.mem_of_getElem? (i := 946) (by decide +kernel), List.mem_of_getElem? (i := 947) (by decide +kernel)⟩
theorem lw_p46 : lw_okq (⟨"BunchNotesModel", "isNode", "(I)Z"⟩, 25) := ⟨⟨by decide +kernel, by decide +kernel⟩, List.mem_of_getElem? (i := 781) (by decide +kernel), List.mem_of_getElem? (i := 954) (by decide +kernel), List.mem_of_getElem? (i := 955) (by decide +kernel)⟩
theorem lw_p47 : lw_okq (⟨"BunchNotesModel", "finds", "(Z)V"⟩, 25) := ⟨⟨by decide +kernel, by decide +kernel⟩, List.mem_of_getElem? (i := 781) (by decide +kernel), List.mem_of_getElem? (i := 962) (by decide +kernel), List.mem_of_getElem? (i := 963) (by decide +kernel)⟩
def lw_privs_3 : List (MethodName × Nat) := [(⟨"BunchNotes", "nodesInNotes", "()I"⟩, 11), (⟨"BunchNotesModel", "reads", "(Z)Z"⟩, 25), (⟨"BunchNotesModel", "links", "()I"⟩, 25), (⟨"BunchNotesModel", "nextToken", "()V"⟩, 25), (⟨"BunchNotesModel", "readsClause", "()Z"⟩, 25), (⟨"BunchNotesModel", "wordHere", "()I"⟩, 25), (⟨"BunchNotesModel", "number", "(III)Z"⟩, 25), (⟨"BunchNotesModel", "numberHere", "()I"⟩, 25), (⟨"BunchNotesModel", "otherNode", "()Z"⟩, 25), (⟨"BunchNotesModel", "tellsNet", "()V"⟩, 25), (⟨"BunchNotesModel", "tellsLink", "()V"⟩, 25), (⟨"BunchNotesModel", "does", "(I)V"⟩, 25), (⟨"BunchNotesModel", "lies", "(III)V"⟩, 25), (⟨"BunchNotesModel", "pairOf", "(I)I"⟩, 25), (⟨"BunchNotesModel", "isNode", "(I)Z"⟩, 25), (⟨"BunchNotesModel", "finds", "(Z)V"⟩, 25)]
theorem lw_r3 : ∀ q ∈ lw_privs_3, lw_okq q := List.forall_mem_cons.mpr ⟨lw_p32, List.forall_mem_cons.mpr ⟨lw_p33, List.forall_mem_cons.mpr ⟨lw_p34, List.forall_mem_cons.mpr ⟨lw_p35, List.forall_mem_cons.mpr ⟨lw_p36, List.forall_mem_cons.mpr ⟨lw_p37, List.forall_mem_cons.mpr ⟨lw_p38, List.forall_mem_cons.mpr ⟨lw_p39, List.forall_mem_cons.mpr ⟨lw_p40, List.forall_mem_cons.mpr ⟨lw_p41, List.forall_mem_cons.mpr ⟨lw_p42, List.forall_mem_cons.mpr ⟨lw_p43, List.forall_mem_cons.mpr ⟨lw_p44, List.forall_mem_cons.mpr ⟨lw_p45, List.forall_mem_cons.mpr ⟨lw_p46, List.forall_mem_cons.mpr ⟨lw_p47, fun _ h => absurd h List.not_mem_nil⟩⟩⟩⟩⟩⟩⟩⟩⟩⟩⟩⟩⟩⟩⟩⟩
theorem lw_p48 : lw_okq (⟨"BunchNotesModel", "isWay", "(II)Z"⟩, 25) := ⟨⟨by decide +kernel, by decide +kernel⟩, List.mem_of_getElem? (i := 781) (by decide +kernel), List.mem_of_getElem? (i := 967) (by decide +kernel), List.mem_of_getElem? (i := 968) (by decide +kernel)⟩
theorem lw_p49 : lw_okq (⟨"BunchNotesModel", "nearestOf", "(II)I"⟩, 25) := ⟨⟨by decide +kernel, by decide +kernel⟩, List.mem_of_getElem? (i := 781) (by decide +kernel), List.mem_of_getElem? (i := 976) (by decide +kernel), List.mem_of_getElem? (i := 977) (by decide +kernel)⟩
theorem lw_p50 : lw_okq (⟨"BunchNotesModel", "bunchOf", "(I)I"⟩, 25) := ⟨⟨by decide +kernel, by decide +kernel⟩, List.mem_of_getElem? (i := 781) (by decide +kernel), List.mem_of_getElem? (i := 984) (by decide +kernel), List.mem_of_getElem? (i := 985) (by decide +kernel)⟩
theorem lw_p51 : lw_okq (⟨"BunchNotesModel", "isInBunch", "(II)Z"⟩, 25) := ⟨⟨by decide +kernel, by decide +kernel⟩, List.mem_of_getElem? (i := 781) (by decide +kernel), List.mem_of_getElem? (i := 988) (by decide +kernel), List.mem_of_getElem? (i := 989) (by decide +kernel)⟩
theorem lw_p52 : lw_okq (⟨"BunchNotesModel", "nextOf", "(II)I"⟩, 25) := ⟨⟨by decide +kernel, by decide +kernel⟩, List.mem_of_getElem? (i := 781) (by decide +kernel), List.mem_of_getElem? (i := 996) (by decide +kernel), List.mem_of_getElem? (i := 997) (by decide +kernel)⟩
theorem lw_p53 : lw_okq (⟨"BunchNotesModel", "length", "(II)I"⟩, 25) := ⟨⟨by decide +kernel, by decide +kernel⟩, List.mem_of_getElem? (i := 781) (by decide +kernel), List.mem_of_getElem? (i := 1000) (by decide +kernel), List.mem_of_getElem? (i := 1001) (by decide +kernel)⟩
theorem lw_p54 : lw_okq (⟨"BunchNotesModel", "thins", "(I)V"⟩, 25) := ⟨⟨by decide +kernel, by decide +kernel⟩, List.mem_of_getElem? (i := 781) (by decide +kernel), List.mem_of_getElem? (i := 1009) (by decide +kernel), List.mem_of_getElem? (i := 1010) (by decide +kernel)⟩
theorem lw_p55 : lw_okq (⟨"BunchNotesModel", "takes", "(II)V"⟩, 25) := ⟨⟨by decide +kernel, by decide +kernel⟩, List.mem_of_getElem? (i := 781) (by decide +kernel), List.mem_of_getElem? (i := 1013) (by decide +kernel), List.mem_of_getElem? (i := 1014) (by decide +kernel)⟩
theorem lw_p56 : lw_okq (⟨"BunchNotesModel", "keepPast", "()V"⟩, 25) := ⟨⟨by decide +kernel, by decide +kernel⟩, List.mem_of_getElem? (i := 781) (by decide +kernel), List.mem_of_getElem? (i := 1029) (by decide +kernel), List.mem_of_getElem? (i := 1030) (by decide +kernel)⟩
theorem lw_p57 : lw_okq (⟨"BunchNotesModel", "copyRow", "(II)V"⟩, 25) := ⟨⟨by decide +kernel, by decide +kernel⟩, List.mem_of_getElem? (i := 781) (by decide +kernel), List.mem_of_getElem? (i := 1033) (by decide +kernel), List.mem_of_getElem? (i := 1034) (by decide +kernel)⟩
theorem lw_p58 : lw_okq (⟨"BunchNotesModel", "written", "()I"⟩, 25) := ⟨⟨by decide +kernel, by decide +kernel⟩, List.mem_of_getElem? (i := 781) (by decide +kernel), List.mem_of_getElem? (i := 1062) (by decide +kernel), List.mem_of_getElem? (i := 1063) (by decide +kernel)⟩
theorem lw_p59 : lw_okq (⟨"BunchNotesModel", "isWritten", "(I)Z"⟩, 25) := ⟨⟨by decide +kernel, by decide +kernel⟩, List.mem_of_getElem? (i := 781) (by decide +kernel), List.mem_of_getElem? (i := 1066) (by decide +kernel), List.mem_of_getElem? (i := 1067) (by decide +kernel)⟩
theorem lw_p60 : lw_okq (⟨"BunchNotesModel", "writes", "(I)V"⟩, 25) := ⟨⟨by decide +kernel, by decide +kernel⟩, List.mem_of_getElem? (i := 781) (by decide +kernel), List.mem_of_getElem? (i := 1078) (by decide +kernel), List.mem_of_getElem? (i := 1079) (by decide +kernel)⟩
theorem lw_p61 : lw_okq (⟨"BunchNotesModel", "freshens", "(I)V"⟩, 25) := ⟨⟨by decide +kernel, by decide +kernel⟩, List.mem_of_getElem? (i := 781) (by decide +kernel), List.mem_of_getElem? (i := 1082) (by decide +kernel), List.mem_of_getElem? (i := 1083) (by decide +kernel)⟩
theorem lw_p62 : lw_okq (⟨"BunchNotesModel", "isFresh", "(I)Z"⟩, 25) := ⟨⟨by decide +kernel, by decide +kernel⟩, List.mem_of_getElem? (i := 781) (by decide +kernel), List.mem_of_getElem? (i := 1096) (by decide +kernel), List.mem_of_getElem? (i := 1097) (by decide +kernel)⟩
theorem lw_p63 : lw_okq (⟨"BunchNotesModel", "tells", "(II)Z"⟩, 25) := ⟨⟨by decide +kernel, by decide +kernel⟩, List.mem_of_getElem? (i := 781) (by decide +kernel), List.mem_of_getElem? (i := 1117) (by decide +kernel), List.mem_of_getElem? (i := 1118) (by decide +kernel)⟩
def lw_privs_4 : List (MethodName × Nat) := [(⟨"BunchNotesModel", "isWay", "(II)Z"⟩, 25), (⟨"BunchNotesModel", "nearestOf", "(II)I"⟩, 25), (⟨"BunchNotesModel", "bunchOf", "(I)I"⟩, 25), (⟨"BunchNotesModel", "isInBunch", "(II)Z"⟩, 25), (⟨"BunchNotesModel", "nextOf", "(II)I"⟩, 25), (⟨"BunchNotesModel", "length", "(II)I"⟩, 25), (⟨"BunchNotesModel", "thins", "(I)V"⟩, 25), (⟨"BunchNotesModel", "takes", "(II)V"⟩, 25), (⟨"BunchNotesModel", "keepPast", "()V"⟩, 25), (⟨"BunchNotesModel", "copyRow", "(II)V"⟩, 25), (⟨"BunchNotesModel", "written", "()I"⟩, 25), (⟨"BunchNotesModel", "isWritten", "(I)Z"⟩, 25), (⟨"BunchNotesModel", "writes", "(I)V"⟩, 25), (⟨"BunchNotesModel", "freshens", "(I)V"⟩, 25), (⟨"BunchNotesModel", "isFresh", "(I)Z"⟩, 25), (⟨"BunchNotesModel", "tells", "(II)Z"⟩, 25)]
theorem lw_r4 : ∀ q ∈ lw_privs_4, lw_okq q := List.forall_mem_cons.mpr ⟨lw_p48, List.forall_mem_cons.mpr ⟨lw_p49, List.forall_mem_cons.mpr ⟨lw_p50, List.forall_mem_cons.mpr ⟨lw_p51, List.forall_mem_cons.mpr ⟨lw_p52, List.forall_mem_cons.mpr ⟨lw_p53, List.forall_mem_cons.mpr ⟨lw_p54, List.forall_mem_cons.mpr ⟨lw_p55, List.forall_mem_cons.mpr ⟨lw_p56, List.forall_mem_cons.mpr ⟨lw_p57, List.forall_mem_cons.mpr ⟨lw_p58, List.forall_mem_cons.mpr ⟨lw_p59, List.forall_mem_cons.mpr ⟨lw_p60, List.forall_mem_cons.mpr ⟨lw_p61, List.forall_mem_cons.mpr ⟨lw_p62, List.forall_mem_cons.mpr ⟨lw_p63, fun _ h => absurd h List.not_mem_nil⟩⟩⟩⟩⟩⟩⟩⟩⟩⟩⟩⟩⟩⟩⟩⟩
theorem lw_p64 : lw_okq (⟨"BunchNotesModel", "untold", "(II)Z"⟩, 25) := ⟨⟨by decide +kernel, by decide +kernel⟩, List.mem_of_getElem? (i := 781) (by decide +kernel), List.mem_of_getElem? (i := 1121) (by decide +kernel), List.mem_of_getElem? (i := 1122) (by decide +kernel)⟩
theorem lw_p65 : lw_okq (⟨"BunchNotesModel", "parts", "()I"⟩, 25) := ⟨⟨by decide +kernel, by decide +kernel⟩, List.mem_of_getElem? (i := 781) (by decide +kernel), List.mem_of_getElem? (i := 1142) (by decide +kernel), List.mem_of_getElem? (i := 1143) (by decide +kernel)⟩
theorem lw_p66 : lw_okq (⟨"BunchNotesModel", "freshNotes", "()I"⟩, 25) := ⟨⟨by decide +kernel, by decide +kernel⟩, List.mem_of_getElem? (i := 781) (by decide +kernel), List.mem_of_getElem? (i := 1146) (by decide +kernel), List.mem_of_getElem? (i := 1147) (by decide +kernel)⟩
theorem lw_p67 : lw_okq (⟨"BunchNotesModel", "inBunches", "()I"⟩, 25) := ⟨⟨by decide +kernel, by decide +kernel⟩, List.mem_of_getElem? (i := 781) (by decide +kernel), List.mem_of_getElem? (i := 1150) (by decide +kernel), List.mem_of_getElem? (i := 1151) (by decide +kernel)⟩
theorem lw_p68 : lw_okq (⟨"BunchNotesModel", "ofLevel", "(I)I"⟩, 25) := ⟨⟨by decide +kernel, by decide +kernel⟩, List.mem_of_getElem? (i := 781) (by decide +kernel), List.mem_of_getElem? (i := 1154) (by decide +kernel), List.mem_of_getElem? (i := 1155) (by decide +kernel)⟩
def lw_privs_5 : List (MethodName × Nat) := [(⟨"BunchNotesModel", "untold", "(II)Z"⟩, 25), (⟨"BunchNotesModel", "parts", "()I"⟩, 25), (⟨"BunchNotesModel", "freshNotes", "()I"⟩, 25), (⟨"BunchNotesModel", "inBunches", "()I"⟩, 25), (⟨"BunchNotesModel", "ofLevel", "(I)I"⟩, 25)]
theorem lw_r5 : ∀ q ∈ lw_privs_5, lw_okq q := List.forall_mem_cons.mpr ⟨lw_p64, List.forall_mem_cons.mpr ⟨lw_p65, List.forall_mem_cons.mpr ⟨lw_p66, List.forall_mem_cons.mpr ⟨lw_p67, List.forall_mem_cons.mpr ⟨lw_p68, fun _ h => absurd h List.not_mem_nil⟩⟩⟩⟩⟩
def lw_privs : List (MethodName × Nat) := lw_privs_1 ++ (lw_privs_2 ++ (lw_privs_3 ++ (lw_privs_4 ++ (lw_privs_5))))
def lw_tbl : List Cond := k2_sels lw_privs ++ tables_1
theorem lw_privs_ok : ∀ q ∈ lw_privs, lw_okq q := by
  show ∀ q ∈ lw_privs_1 ++ (lw_privs_2 ++ (lw_privs_3 ++ (lw_privs_4 ++ (lw_privs_5)))), lw_okq q
  exact List.forall_mem_append.mpr ⟨lw_r1, List.forall_mem_append.mpr ⟨lw_r2, List.forall_mem_append.mpr ⟨lw_r3, List.forall_mem_append.mpr ⟨lw_r4, lw_r5⟩⟩⟩⟩
end
section
def va_AOA (ty : FieldType) (U : State) : Prop := (Cond.arrayOver (.array ty)).before #[] U = true
theorem va_AOA.of {ty : FieldType} {A : Array Value} {U : State} (h : (Cond.arrayOver (.array ty)).before A U = true) : va_AOA ty U := h
theorem va_AOA.use {ty : FieldType} {A : Array Value} {U : State} (h : va_AOA ty U) : (Cond.arrayOver (.array ty)).before A U = true := h
/-! ===== BEGIN new T[n][m]: the outer array a place, the inner ones among the pooled ===== -/
/-- f, but v at every address of l -/
def vr_up {α : Type} (f : Nat → α) (l : List Nat) (v : α) : Nat → α := fun a => if a ∈ l then v else f a
theorem vr_up_in {α : Type} {f : Nat → α} {l : List Nat} {v : α} {a : Nat} (h : a ∈ l) : vr_up f l v a = v := if_pos h
theorem vr_up_ne {α : Type} {f : Nat → α} {l : List Nat} {v : α} {a : Nat} (h : a ∉ l) : vr_up f l v a = f a := if_neg h
theorem vr_rows {L l : List Nat} {f : Nat → va_E} {e : va_E} (h : ∀ a, a ∈ l → a ∉ L) : va_pl L f ++ l.map (fun a => (a, e)) = va_pl (L ++ l) (vr_up f l e) := by
  unfold va_pl
  rw [List.map_append]
  congr 1
  · apply List.map_congr_left
    intro a ha
    rw [vr_up_ne (fun q => h a q ha)]
  · apply List.map_congr_left
    intro a ha
    rw [vr_up_in ha]
theorem vr_lay {X rows : va_W} {x : Nat × va_E} {pl : va_W} {D : va_G} {cl : List vw_C} {H : Heap} (hP : va_P D cl (((X ++ pl) ++ [x]) ++ rows) H) : va_P D cl ((X ++ [x]) ++ (pl ++ rows)) H := by
  rw [List.append_assoc (X ++ pl)] at hP
  have h := va_P.swap hP
  rw [← List.append_assoc X] at h
  have h2 := va_P.swap h
  rw [List.append_assoc (X ++ [x])] at h2
  exact h2
theorem vr_layD {X rows : va_W} {x : Nat × va_E} {pl : va_W} {A : Nat → Prop} (hD : va_D A (((X ++ pl) ++ [x]) ++ rows)) : va_D A ((X ++ [x]) ++ (pl ++ rows)) := by
  rw [List.append_assoc (X ++ pl)] at hD
  have h := va_D.swap hD
  rw [← List.append_assoc X] at h
  have h2 := va_D.swap h
  rw [List.append_assoc (X ++ [x])] at h2
  exact h2
theorem vr_outer (c : ClassId) (N h0 : Nat) : ∀ i : Nat, Jvm.Free.Multi.outerC c N h0 i = arrV c N (fun j => va_rf (if j < i then some (h0 + 1 + j) else none))
  | 0 => by
    show ({ cls := c, slots := Array.replicate N .null, vm := .none } : Cell) = _
    rw [arrV_new]
    refine congrArg (arrV c N) (funext fun j => ?_)
    simp [va_rf]
  | i + 1 => by
    show (Jvm.Free.Multi.outerC c N h0 i).setSlot i (.ref (h0 + 1 + i)) = _
    rw [vr_outer c N h0 i, arrV_store]
    refine congrArg (arrV c N) (funext fun j => ?_)
    by_cases e : j = i
    · subst e
      simp [updV, va_rf]
    · by_cases h : j < i
      · simp [updV, e, h, Nat.lt_succ_of_lt h]
      · simp [updV, e, h, show ¬ j < i + 1 by omega]
section VGM
variable {p : Program} {l : Launch} {e : Env} {R : Room} {s : State} {m : MethodId} {args : Array Value} {below : List Frame} {meth : Method} {c : Code} {H : Heap} {locs : List Loc} {cells slots : Nat} {Q : State → Prop}
variable {cc : ByteArray} {pc : Nat} {ls : Array Slot} {rest : List Value} {D : va_G} {cl : List vw_C} {A : Nat → Prop} {a : Nat} {tys : List (ClassId × FieldType)} {ws : va_W} {H0 : Heap}
theorem va_mna {X : va_W} {L : List Nat} {f : Nat → va_E} {cc : ByteArray} (hexec : p.tables.exec = Jvm.exec) (hb : c.code = cc) {own : String} {index : Nat} {ty : FieldType} {cy : ClassId} (hown : s.vm.findClass own = some m.cls) (hclink : (Cond.classLink own index ("[" ++ (FieldType.array ty).toString)).before args s = true) (hover : va_AOA ty s) (harr : (Cond.arrayClass ty).before args s = true) (hcy : s.vm.findClass (FieldType.array ty).toString = some cy)
    (hK : va_K D cl tys s) (hP : va_P D cl (X ++ va_pl L f) H) (hD : va_D A (X ++ va_pl L f)) (hS : va_S A H0 H locs) (hA : ∀ q, H0.size ≤ q → A q) {n k : Int32} {N' K' : Nat} {z : vp_A} (hn : ¬ n < 0) (hk : ¬ k < 0) (hN : n.toNatClampNeg = N') (hM : k.toNatClampNeg = K')
    (hb1 : N' * 4 ≤ 536870912) (hb2 : K' * componentBytes ty ≤ 536870912) (hb3 : K' ≤ 536870912) (hdf : fits ty (defaultValue ty) = true) (hdd : (defaultValue ty).isDefault = true) (hcells : cells + (1 + N') ≤ R.cells) (hslots : slots + (N' + N' * K') ≤ R.slots) (hz : ∀ c : ClassId, Jvm.Free.Multi.innerC c K' (defaultValue ty) = vp_cell c z) (hdg : decode cc pc = .ok (.multianewarray index 2, 4))
    (kk : ∀ (q : Nat) (r : Nat → Nat) (cA : ClassId) (H1 : Heap), (∀ i j : Nat, i < N' → j < N' → r i = r j → i = j) → (∀ i : Nat, i < N' → r i ∉ L) → va_K D cl (tys ++ [(cA, .array ty)]) s →
      va_P D cl ((X ++ [(q, .inl (cA, N', .inr (.inr (.inr (.inr (fun i => if i < N' then some (r i) else none))))))]) ++ va_pl (L ++ (List.range N').map r) (vr_up f ((List.range N').map r) (.inl (cy, z)))) H1 → va_D A ((X ++ [(q, .inl (cA, N', .inr (.inr (.inr (.inr (fun i => if i < N' then some (r i) else none))))))]) ++ va_pl (L ++ (List.range N').map r) (vr_up f ((List.range N').map r) (.inl (cy, z)))) → va_S A H0 H1 locs →
      W p l e R s m args below meth c H1 locs (cells + 1 + N') (slots + N' + N' * K') Q (F0 m (pc + 4) ls (.ref q :: rest))) : W p l e R s m args below meth c H locs cells slots Q (F0 m pc ls (.int k :: .int n :: rest)) := by
  subst hN
  subst hM
  intro T hT Xs
  obtain ⟨vm₁, cA, comp, -, fA, fC, hO, -, X', step⟩ := Xs.multianewarray2F hexec hown hclink (va_AOA.use hover) harr (g := F0 m pc ls (.int k :: .int n :: rest)) rfl (by rw [hb]; exact hdg) rfl hn hk hb1 hb2 hb3 hdf hdd hcells hslots
  have ec : some cy = some comp := hcy.symm.trans fC
  cases ec
  generalize hF : Jvm.Free.Multi.fill (T.setVm vm₁) cA cy n.toNatClampNeg k.toNatClampNeg (defaultValue ty) n.toNatClampNeg = F at X' step
  have hTh : (T.setVm vm₁).heap = H := hT
  obtain ⟨f1, f2, -, -⟩ := Jvm.Free.Multi.fill_facts (T.setVm vm₁) cA cy n.toNatClampNeg k.toNatClampNeg (defaultValue ty) n.toNatClampNeg
  rw [hF, hTh] at f1 f2
  have hold : ∀ x : Nat, x < H.size → F.heap[x]? = H[x]? := fun x hx => by
    have := Jvm.Free.Multi.fill_old (T.setVm vm₁) cA cy n.toNatClampNeg k.toNatClampNeg (defaultValue ty) (a := x) (by rw [hTh]; exact hx) n.toNatClampNeg
    rw [hF, hTh] at this
    exact this
  have hrow : ∀ j : Nat, j < n.toNatClampNeg → F.heap[H.size + 1 + j]? = some (vp_cell cy z) := fun j hj => by
    have := Jvm.Free.Multi.fill_inner (T.setVm vm₁) cA cy n.toNatClampNeg k.toNatClampNeg (defaultValue ty) n.toNatClampNeg j hj
    rw [hF, hTh, hz] at this
    exact this
  have hout : Jvm.Free.Multi.outerC cA n.toNatClampNeg H.size n.toNatClampNeg = vp_cell cA (n.toNatClampNeg, .inr (.inr (.inr (.inr (fun i => if i < n.toNatClampNeg then some (H.size + 1 + i) else none))))) := by
    rw [vp_cell_q]
    exact vr_outer cA n.toNatClampNeg H.size n.toNatClampNeg
  rw [hout] at f2
  have hlt : ∀ a, a ∈ L → a < H.size := fun a ha => by
    obtain ⟨k9, hk9⟩ := va_pl_get (X := X) (f := f) ha
    exact (hP k9 _ hk9).lt
  have hnl : ∀ i : Nat, i < n.toNatClampNeg → H.size + 1 + i ∉ L := fun i _ h => by
    have := hlt _ h
    omega
  have hnm : ∀ a, a ∈ (List.range n.toNatClampNeg).map (fun i => H.size + 1 + i) → a ∉ L := fun a ha h => by
    obtain ⟨i, -, rfl⟩ := List.mem_map.mp ha
    have := hlt _ h
    omega
  have hP0 : va_P D cl (X ++ va_pl L f) F.heap := hP.kept (fun k9 x hx => hold x.1 ((hP k9 x hx).lt))
  have hP1 : va_P D cl ((X ++ va_pl L f) ++ [(H.size, .inl (cA, n.toNatClampNeg, .inr (.inr (.inr (.inr (fun i => if i < n.toNatClampNeg then some (H.size + 1 + i) else none))))))]) F.heap := hP0.app (fun k9 x hx => by
    have h0 : k9 < 1 := (List.getElem?_eq_some_iff.mp hx).1
    rw [show k9 = 0 by omega] at hx
    cases hx
    exact f2)
  have hP2 : va_P D cl (((X ++ va_pl L f) ++ [(H.size, .inl (cA, n.toNatClampNeg, .inr (.inr (.inr (.inr (fun i => if i < n.toNatClampNeg then some (H.size + 1 + i) else none))))))]) ++ ((List.range n.toNatClampNeg).map (fun i => H.size + 1 + i)).map (fun a => (a, .inl (cy, z)))) F.heap := hP1.app (fun k9 x hx => by
    obtain ⟨a, ha, rfl⟩ := List.mem_map.mp (List.mem_of_getElem? hx)
    obtain ⟨i, hi, rfl⟩ := List.mem_map.mp ha
    exact hrow i (List.mem_range.mp hi))
  have hD2 : va_D A (((X ++ va_pl L f) ++ [(H.size, .inl (cA, n.toNatClampNeg, .inr (.inr (.inr (.inr (fun i => if i < n.toNatClampNeg then some (H.size + 1 + i) else none))))))]) ++ ((List.range n.toNatClampNeg).map (fun i => H.size + 1 + i)).map (fun a => (a, .inl (cy, z)))) := by
    have hD1 := hD.push (e := .inl (cA, n.toNatClampNeg, .inr (.inr (.inr (.inr (fun i => if i < n.toNatClampNeg then some (H.size + 1 + i) else none)))))) hP rfl (hA _ hS.1)
    generalize hW1 : (X ++ va_pl L f) ++ [(H.size, .inl (cA, n.toNatClampNeg, .inr (.inr (.inr (.inr (fun i => if i < n.toNatClampNeg then some (H.size + 1 + i) else none))))))] = W1 at hD1 hP1 ⊢
    have hle : ∀ (k9 : Nat) (x : Nat × va_E), W1[k9]? = some x → x.1 ≤ H.size := fun k9 x hx => by
      rw [← hW1] at hx
      by_cases hl : k9 < (X ++ va_pl L f).length
      · rw [List.getElem?_append_left hl] at hx
        exact Nat.le_of_lt ((hP k9 x hx).lt)
      · rw [List.getElem?_append_right (by omega)] at hx
        have h0 : k9 - (X ++ va_pl L f).length < 1 := (List.getElem?_eq_some_iff.mp hx).1
        rw [show k9 - (X ++ va_pl L f).length = 0 by omega] at hx
        cases hx
        exact Nat.le_refl _
    have hr : ∀ (k9 : Nat) (x : Nat × va_E), (((List.range n.toNatClampNeg).map (fun i => H.size + 1 + i)).map (fun a => ((a, .inl (cy, z)) : Nat × va_E)))[k9]? = some x → x.1 = H.size + 1 + k9 := fun k9 x hx => by
      rw [List.getElem?_map, List.getElem?_map] at hx
      by_cases h9 : k9 < n.toNatClampNeg
      · rw [List.getElem?_range h9] at hx
        cases hx
        rfl
      · have hn0 : (List.range n.toNatClampNeg)[k9]? = none := List.getElem?_eq_none (by rw [List.length_range]; omega)
        rw [hn0] at hx
        cases hx
    refine ⟨fun i j x y hi hj hxy => ?_, fun k9 x hx => ?_⟩
    · by_cases h1 : i < W1.length <;> by_cases h2 : j < W1.length
      · rw [List.getElem?_append_left h1] at hi
        rw [List.getElem?_append_left h2] at hj
        exact hD1.1 i j x y hi hj hxy
      · rw [List.getElem?_append_left h1] at hi
        rw [List.getElem?_append_right (by omega)] at hj
        have := hle _ _ hi
        have := hr _ _ hj
        omega
      · rw [List.getElem?_append_right (by omega)] at hi
        rw [List.getElem?_append_left h2] at hj
        have := hle _ _ hj
        have := hr _ _ hi
        omega
      · rw [List.getElem?_append_right (by omega)] at hi hj
        have := hr _ _ hi
        have := hr _ _ hj
        omega
    · by_cases h1 : k9 < W1.length
      · rw [List.getElem?_append_left h1] at hx
        exact hD1.2 k9 x hx
      · rw [List.getElem?_append_right (by omega)] at hx
        have := hr _ _ hx
        exact hA _ (by have := hS.1; omega)
  have hAr : ArrOfT s cA (.array ty) := fun N9 z9 => by
    obtain ⟨-, k9, hk9, cm9, hkk9⟩ := (hO 0 0 0).1
    exact ⟨(fun q hq => by cases hq), k9, hk9, cm9, hkk9⟩
  have hK2 : va_K D cl (tys ++ [(cA, .array ty)]) s := ⟨hK.1, fun k9 x hx => by
    by_cases hl : k9 < tys.length
    · rw [List.getElem?_append_left hl] at hx
      exact hK.2 k9 x hx
    · rw [List.getElem?_append_right (by omega)] at hx
      have h0 : k9 - tys.length < 1 := (List.getElem?_eq_some_iff.mp hx).1
      rw [show k9 - tys.length = 0 by omega] at hx
      cases hx
      exact ⟨hAr, fA⟩⟩
  obtain ⟨t, a1, b1⟩ := kk H.size (fun i => H.size + 1 + i) cA F.heap (fun i j _ _ h => by have h9 : H.size + 1 + i = H.size + 1 + j := h; omega) hnl hK2 (by rw [← vr_rows hnm]; exact vr_lay hP2) (by rw [← vr_rows hnm]; exact vr_layD hD2) ⟨by rw [f1]; have := hS.1; omega, fun x h1 h2 => (hold x (Nat.lt_of_lt_of_le h1 hS.1)).trans (hS.2.1 x h1 h2), hS.2.2⟩ F rfl X'
  refine ⟨t, step t ?_, b1⟩
  have e : T.heap.size = H.size := by rw [hT]
  rw [e]
  exact a1
end VGM
/-! ===== END ===== -/

/-! ===== BEGIN printed: names, fields, word lists, decode rows ===== -/
def RX0 : String := "BunchNotes$Far"
def TX0 : u_T := fun k => match k with
  | 0 => ("BunchNotes$Far", "nodes", "I", false)
  | 1 => ("BunchNotes$Far", "seen", "I", false)
  | _ => ("BunchNotes$Far", "table", "[[I", true)
def tyX0 : Nat → FieldType := fun k => match k with
  | 0 => .int
  | 1 => .int
  | _ => .array (.array .int)
abbrev wsX00 : List Cond := u_ws RX0 TX0 3
theorem nmX0 : ∀ a, a < 3 → ∀ b, b < 3 → a ≠ b → (TX0 a).2.1 ≠ (TX0 b).2.1 := by decide +kernel
theorem tyX0_ok : ∀ k, k < 3 → parseFieldDescriptor (TX0 k).2.2.1 = some (tyX0 k) := by decide +kernel
abbrev cX0_init : ByteArray := prog_2_method_1_code
def yX0_init : MethodName := ⟨RX0, "<init>", "()V"⟩
abbrev cX0_follow : ByteArray := prog_2_method_2_code
def yX0_follow : MethodName := ⟨RX0, "follow", "(LBunchNotes$Net;)V"⟩
abbrev cX0_clear : ByteArray := prog_2_method_3_code
def yX0_clear : MethodName := ⟨RX0, "clear", "(I)V"⟩
abbrev cX0_between : ByteArray := prog_2_method_4_code
def yX0_between : MethodName := ⟨RX0, "between", "(II)I"⟩
abbrev cX0_add : ByteArray := prog_2_method_5_code
def yX0_add : MethodName := ⟨RX0, "add", "(III)V"⟩
def RX1 : String := "BunchNotes$Net"
def TX1 : u_T := fun k => match k with
  | 0 => ("BunchNotes$Net", "nodes", "I", false)
  | 1 => ("BunchNotes$Net", "links", "I", false)
  | 2 => ("BunchNotes$Net", "draw", "I", false)
  | 3 => ("BunchNotes$Net", "version", "I", false)
  | 4 => ("BunchNotes$Net", "lengths", "[I", true)
  | _ => ("BunchNotes$Net", "levels", "[I", true)
def tyX1 : Nat → FieldType := fun k => match k with
  | 0 => .int
  | 1 => .int
  | 2 => .int
  | 3 => .int
  | 4 => .array .int
  | _ => .array .int
abbrev wsX10 : List Cond := u_ws RX1 TX1 6
theorem nmX1 : ∀ a, a < 6 → ∀ b, b < 6 → a ≠ b → (TX1 a).2.1 ≠ (TX1 b).2.1 := by decide +kernel
theorem tyX1_ok : ∀ k, k < 6 → parseFieldDescriptor (TX1 k).2.2.1 = some (tyX1 k) := by decide +kernel
abbrev cX1_init : ByteArray := prog_3_method_1_code
def yX1_init : MethodName := ⟨RX1, "<init>", "()V"⟩
abbrev cX1_has : ByteArray := prog_3_method_2_code
def yX1_has : MethodName := ⟨RX1, "has", "(I)Z"⟩
abbrev cX1_lengthOf : ByteArray := prog_3_method_3_code
def yX1_lengthOf : MethodName := ⟨RX1, "lengthOf", "(II)I"⟩
abbrev cX1_levelOf : ByteArray := prog_3_method_4_code
def yX1_levelOf : MethodName := ⟨RX1, "levelOf", "(I)I"⟩
abbrev cX1_hasRoomFor : ByteArray := prog_3_method_5_code
def yX1_hasRoomFor : MethodName := ⟨RX1, "hasRoomFor", "(II)Z"⟩
abbrev cX1_setLength : ByteArray := prog_3_method_6_code
def yX1_setLength : MethodName := ⟨RX1, "setLength", "(III)V"⟩
abbrev cX1_setLevel : ByteArray := prog_3_method_7_code
def yX1_setLevel : MethodName := ⟨RX1, "setLevel", "(II)V"⟩
abbrev cX1_cellOfLink : ByteArray := prog_3_method_8_code
def yX1_cellOfLink : MethodName := ⟨RX1, "cellOfLink", "(I)I"⟩
abbrev cX1_nodesOfLevel : ByteArray := prog_3_method_9_code
def yX1_nodesOfLevel : MethodName := ⟨RX1, "nodesOfLevel", "(I)I"⟩
abbrev cX1_drawLevels : ByteArray := prog_3_method_10_code
def yX1_drawLevels : MethodName := ⟨RX1, "drawLevels", "(I)V"⟩
abbrev cX1_startWith : ByteArray := prog_3_method_11_code
def yX1_startWith : MethodName := ⟨RX1, "startWith", "(I)V"⟩
abbrev cX1_copyFrom : ByteArray := prog_3_method_12_code
def yX1_copyFrom : MethodName := ⟨RX1, "copyFrom", "(LBunchNotes$Net;)V"⟩
def RX2 : String := "BunchNotes$Note"
def TX2 : u_T := fun k => match k with
  | 0 => ("BunchNotes$Note", "written", "Z", false)
  | 1 => ("BunchNotes$Note", "bunch", "I", false)
  | 2 => ("BunchNotes$Note", "nearestNodes", "[I", true)
  | 3 => ("BunchNotes$Note", "nearestFars", "[I", true)
  | _ => ("BunchNotes$Note", "fars", "[I", true)
def tyX2 : Nat → FieldType := fun k => match k with
  | 0 => .boolean
  | 1 => .int
  | 2 => .array .int
  | 3 => .array .int
  | _ => .array .int
abbrev wsX20 : List Cond := u_ws RX2 TX2 5
theorem nmX2 : ∀ a, a < 5 → ∀ b, b < 5 → a ≠ b → (TX2 a).2.1 ≠ (TX2 b).2.1 := by decide +kernel
theorem tyX2_ok : ∀ k, k < 5 → parseFieldDescriptor (TX2 k).2.2.1 = some (tyX2 k) := by decide +kernel
abbrev cX2_init : ByteArray := prog_4_method_1_code
def yX2_init : MethodName := ⟨RX2, "<init>", "()V"⟩
abbrev cX2_nearestAt : ByteArray := prog_4_method_2_code
def yX2_nearestAt : MethodName := ⟨RX2, "nearestAt", "(I)I"⟩
abbrev cX2_nearestFarAt : ByteArray := prog_4_method_3_code
def yX2_nearestFarAt : MethodName := ⟨RX2, "nearestFarAt", "(I)I"⟩
abbrev cX2_holds : ByteArray := prog_4_method_4_code
def yX2_holds : MethodName := ⟨RX2, "holds", "(I)Z"⟩
abbrev cX2_farOf : ByteArray := prog_4_method_5_code
def yX2_farOf : MethodName := ⟨RX2, "farOf", "(I)I"⟩
abbrev cX2_write : ByteArray := prog_4_method_6_code
def yX2_write : MethodName := ⟨RX2, "write", "(LBunchNotes$Net;LBunchNotes$Far;I)V"⟩
abbrev cX2_findNearest : ByteArray := prog_4_method_7_code
def yX2_findNearest : MethodName := ⟨RX2, "findNearest", "(LBunchNotes$Net;LBunchNotes$Far;II)V"⟩
abbrev cX2_isNear : ByteArray := prog_4_method_8_code
def yX2_isNear : MethodName := ⟨RX2, "isNear", "(II)Z"⟩
abbrev cX2_bearsSameAs : ByteArray := prog_4_method_9_code
def yX2_bearsSameAs : MethodName := ⟨RX2, "bearsSameAs", "(LBunchNotes$Note;)Z"⟩
abbrev cX2_copyFrom : ByteArray := prog_4_method_10_code
def yX2_copyFrom : MethodName := ⟨RX2, "copyFrom", "(LBunchNotes$Note;)V"⟩
def RX3 : String := "BunchNotes$Past"
def TX3 : u_T := fun k => match k with
  | 0 => ("BunchNotes$Past", "size", "I", false)
  | 1 => ("BunchNotes$Past", "top", "I", false)
  | _ => ("BunchNotes$Past", "ring", "[LBunchNotes$Net;", true)
def tyX3 : Nat → FieldType := fun k => match k with
  | 0 => .int
  | 1 => .int
  | _ => .array (.object "BunchNotes$Net")
abbrev wsX30 : List Cond := u_ws RX3 TX3 3
theorem nmX3 : ∀ a, a < 3 → ∀ b, b < 3 → a ≠ b → (TX3 a).2.1 ≠ (TX3 b).2.1 := by decide +kernel
theorem tyX3_ok : ∀ k, k < 3 → parseFieldDescriptor (TX3 k).2.2.1 = some (tyX3 k) := by decide +kernel
abbrev cX3_init : ByteArray := prog_5_method_1_code
def yX3_init : MethodName := ⟨RX3, "<init>", "()V"⟩
abbrev cX3_push : ByteArray := prog_5_method_2_code
def yX3_push : MethodName := ⟨RX3, "push", "(LBunchNotes$Net;)V"⟩
abbrev cX3_pop : ByteArray := prog_5_method_3_code
def yX3_pop : MethodName := ⟨RX3, "pop", "(LBunchNotes$Net;)V"⟩
def RX4 : String := "BunchNotes$Peak"
def TX4 : u_T := fun k => match k with
  | 0 => ("BunchNotes$Peak", "above", "I", false)
  | 1 => ("BunchNotes$Peak", "below", "I", false)
  | 2 => ("BunchNotes$Peak", "u", "I", false)
  | 3 => ("BunchNotes$Peak", "v", "I", false)
  | _ => ("BunchNotes$Peak", "met", "I", false)
def tyX4 : Nat → FieldType := fun k => match k with
  | 0 => .int
  | 1 => .int
  | 2 => .int
  | 3 => .int
  | _ => .int
abbrev wsX40 : List Cond := u_ws RX4 TX4 5
theorem nmX4 : ∀ a, a < 5 → ∀ b, b < 5 → a ≠ b → (TX4 a).2.1 ≠ (TX4 b).2.1 := by decide +kernel
theorem tyX4_ok : ∀ k, k < 5 → parseFieldDescriptor (TX4 k).2.2.1 = some (tyX4 k) := by decide +kernel
abbrev cX4_init : ByteArray := prog_6_method_1_code
def yX4_init : MethodName := ⟨RX4, "<init>", "()V"⟩
abbrev cX4_clear : ByteArray := prog_6_method_2_code
def yX4_clear : MethodName := ⟨RX4, "clear", "()V"⟩
abbrev cX4_offer : ByteArray := prog_6_method_3_code
def yX4_offer : MethodName := ⟨RX4, "offer", "(IIII)V"⟩
def RX5 : String := "BunchNotes$Slot"
def TX5 : u_T := fun k => match k with
  | 0 => ("BunchNotes$Slot", "filled", "Z", false)
  | 1 => ("BunchNotes$Slot", "net", "LBunchNotes$Net;", true)
  | _ => ("BunchNotes$Slot", "notes", "[LBunchNotes$Note;", true)
def tyX5 : Nat → FieldType := fun k => match k with
  | 0 => .boolean
  | 1 => .object "BunchNotes$Net"
  | _ => .array (.object "BunchNotes$Note")
abbrev wsX50 : List Cond := u_ws RX5 TX5 3
theorem nmX5 : ∀ a, a < 3 → ∀ b, b < 3 → a ≠ b → (TX5 a).2.1 ≠ (TX5 b).2.1 := by decide +kernel
theorem tyX5_ok : ∀ k, k < 3 → parseFieldDescriptor (TX5 k).2.2.1 = some (tyX5 k) := by decide +kernel
abbrev cX5_init : ByteArray := prog_7_method_1_code
def yX5_init : MethodName := ⟨RX5, "<init>", "()V"⟩
def RX6 : String := "BunchNotes$Telling"
def TX6 : u_T := fun k => match k with
  | 0 => ("BunchNotes$Telling", "reason", "I", false)
  | 1 => ("BunchNotes$Telling", "far", "I", false)
  | 2 => ("BunchNotes$Telling", "by", "I", false)
  | 3 => ("BunchNotes$Telling", "level", "I", false)
  | _ => ("BunchNotes$Telling", "last", "I", false)
def tyX6 : Nat → FieldType := fun k => match k with
  | 0 => .int
  | 1 => .int
  | 2 => .int
  | 3 => .int
  | _ => .int
abbrev wsX60 : List Cond := u_ws RX6 TX6 5
theorem nmX6 : ∀ a, a < 5 → ∀ b, b < 5 → a ≠ b → (TX6 a).2.1 ≠ (TX6 b).2.1 := by decide +kernel
theorem tyX6_ok : ∀ k, k < 5 → parseFieldDescriptor (TX6 k).2.2.1 = some (tyX6 k) := by decide +kernel
abbrev cX6_init : ByteArray := prog_8_method_1_code
def yX6_init : MethodName := ⟨RX6, "<init>", "()V"⟩
abbrev cX6_tell : ByteArray := prog_8_method_2_code
def yX6_tell : MethodName := ⟨RX6, "tell", "([LBunchNotes$Note;II)V"⟩
abbrev cX6_look : ByteArray := prog_8_method_3_code
def yX6_look : MethodName := ⟨RX6, "look", "([LBunchNotes$Note;II)I"⟩
def RX7 : String := "BunchNotes$Text"
def TX7 : u_T := fun k => match k with
  | 0 => ("BunchNotes$Text", "size", "I", false)
  | 1 => ("BunchNotes$Text", "clauses", "I", false)
  | 2 => ("BunchNotes$Text", "startsAnew", "Z", false)
  | 3 => ("BunchNotes$Text", "kind", "I", false)
  | 4 => ("BunchNotes$Text", "begin", "I", false)
  | 5 => ("BunchNotes$Text", "end", "I", false)
  | _ => ("BunchNotes$Text", "letters", "[I", true)
def tyX7 : Nat → FieldType := fun k => match k with
  | 0 => .int
  | 1 => .int
  | 2 => .boolean
  | 3 => .int
  | 4 => .int
  | 5 => .int
  | _ => .array .int
abbrev wsX70 : List Cond := u_ws RX7 TX7 7
theorem nmX7 : ∀ a, a < 7 → ∀ b, b < 7 → a ≠ b → (TX7 a).2.1 ≠ (TX7 b).2.1 := by decide +kernel
theorem tyX7_ok : ∀ k, k < 7 → parseFieldDescriptor (TX7 k).2.2.1 = some (tyX7 k) := by decide +kernel
abbrev cX7_init : ByteArray := prog_9_method_1_code
def yX7_init : MethodName := ⟨RX7, "<init>", "()V"⟩
abbrev cX7_append : ByteArray := prog_9_method_2_code
def yX7_append : MethodName := ⟨RX7, "append", "(I)V"⟩
abbrev cX7_readInto : ByteArray := prog_9_method_3_code
def yX7_readInto : MethodName := ⟨RX7, "readInto", "(LBunchNotes$Net;)I"⟩
abbrev cX7_readClause : ByteArray := prog_9_method_4_code
def yX7_readClause : MethodName := ⟨RX7, "readClause", "(LBunchNotes$Net;)Z"⟩
abbrev cX7_readNet : ByteArray := prog_9_method_5_code
def yX7_readNet : MethodName := ⟨RX7, "readNet", "(LBunchNotes$Net;)Z"⟩
abbrev cX7_readLink : ByteArray := prog_9_method_6_code
def yX7_readLink : MethodName := ⟨RX7, "readLink", "(LBunchNotes$Net;)Z"⟩
abbrev cX7_readLevel : ByteArray := prog_9_method_7_code
def yX7_readLevel : MethodName := ⟨RX7, "readLevel", "(LBunchNotes$Net;)Z"⟩
abbrev cX7_pass : ByteArray := prog_9_method_8_code
def yX7_pass : MethodName := ⟨RX7, "pass", "()V"⟩
abbrev cX7_kindAt : ByteArray := prog_9_method_9_code
def yX7_kindAt : MethodName := ⟨RX7, "kindAt", "(I)I"⟩
abbrev cX7_isSemicolon : ByteArray := prog_9_method_10_code
def yX7_isSemicolon : MethodName := ⟨RX7, "isSemicolon", "()Z"⟩
abbrev cX7_isWord : ByteArray := prog_9_method_11_code
def yX7_isWord : MethodName := ⟨RX7, "isWord", "(Ljava/lang/String;)Z"⟩
abbrev cX7_number : ByteArray := prog_9_method_12_code
def yX7_number : MethodName := ⟨RX7, "number", "(II)I"⟩
def RX8 : String := "BunchNotes$Thinning"
def TX8 : u_T := fun k => match k with
  | 0 => ("BunchNotes$Thinning", "size", "I", false)
  | 1 => ("BunchNotes$Thinning", "far", "LBunchNotes$Far;", true)
  | 2 => ("BunchNotes$Thinning", "seen", "I", false)
  | 3 => ("BunchNotes$Thinning", "times", "I", false)
  | 4 => ("BunchNotes$Thinning", "links", "I", false)
  | 5 => ("BunchNotes$Thinning", "order", "[I", true)
  | _ => ("BunchNotes$Thinning", "taken", "[I", true)
def tyX8 : Nat → FieldType := fun k => match k with
  | 0 => .int
  | 1 => .object "BunchNotes$Far"
  | 2 => .int
  | 3 => .int
  | 4 => .int
  | 5 => .array .int
  | _ => .array .int
abbrev wsX80 : List Cond := u_ws RX8 TX8 7
theorem nmX8 : ∀ a, a < 7 → ∀ b, b < 7 → a ≠ b → (TX8 a).2.1 ≠ (TX8 b).2.1 := by decide +kernel
theorem tyX8_ok : ∀ k, k < 7 → parseFieldDescriptor (TX8 k).2.2.1 = some (tyX8 k) := by decide +kernel
abbrev cX8_init : ByteArray := prog_10_method_1_code
def yX8_init : MethodName := ⟨RX8, "<init>", "()V"⟩
abbrev cX8_takes : ByteArray := prog_10_method_2_code
def yX8_takes : MethodName := ⟨RX8, "takes", "(II)Z"⟩
abbrev cX8_follow : ByteArray := prog_10_method_3_code
def yX8_follow : MethodName := ⟨RX8, "follow", "(LBunchNotes$Net;I)V"⟩
abbrev cX8_take : ByteArray := prog_10_method_4_code
def yX8_take : MethodName := ⟨RX8, "take", "(III)V"⟩
abbrev cX8_clear : ByteArray := prog_10_method_5_code
def yX8_clear : MethodName := ⟨RX8, "clear", "(I)V"⟩
abbrev cX8_sortLinks : ByteArray := prog_10_method_6_code
def yX8_sortLinks : MethodName := ⟨RX8, "sortLinks", "(LBunchNotes$Net;)V"⟩
abbrev cX8_insert : ByteArray := prog_10_method_7_code
def yX8_insert : MethodName := ⟨RX8, "insert", "(LBunchNotes$Net;II)V"⟩
abbrev cX8_lengthAt : ByteArray := prog_10_method_8_code
def yX8_lengthAt : MethodName := ⟨RX8, "lengthAt", "(LBunchNotes$Net;I)I"⟩
def RX9 : String := "BunchNotes"
def TX9 : u_T := fun k => match k with
  | 0 => ("BunchNotes", "now", "LBunchNotes$Net;", true)
  | 1 => ("BunchNotes", "trial", "LBunchNotes$Net;", true)
  | 2 => ("BunchNotes", "text", "LBunchNotes$Text;", true)
  | 3 => ("BunchNotes", "past", "LBunchNotes$Past;", true)
  | 4 => ("BunchNotes", "notes", "[LBunchNotes$Note;", true)
  | 5 => ("BunchNotes", "draft", "LBunchNotes$Note;", true)
  | 6 => ("BunchNotes", "slots", "[LBunchNotes$Slot;", true)
  | 7 => ("BunchNotes", "far", "LBunchNotes$Far;", true)
  | 8 => ("BunchNotes", "thinning", "LBunchNotes$Thinning;", true)
  | 9 => ("BunchNotes", "telling", "LBunchNotes$Telling;", true)
  | _ => ("BunchNotes", "peak", "LBunchNotes$Peak;", true)
def tyX9 : Nat → FieldType := fun k => match k with
  | 0 => .object "BunchNotes$Net"
  | 1 => .object "BunchNotes$Net"
  | 2 => .object "BunchNotes$Text"
  | 3 => .object "BunchNotes$Past"
  | 4 => .array (.object "BunchNotes$Note")
  | 5 => .object "BunchNotes$Note"
  | 6 => .array (.object "BunchNotes$Slot")
  | 7 => .object "BunchNotes$Far"
  | 8 => .object "BunchNotes$Thinning"
  | 9 => .object "BunchNotes$Telling"
  | _ => .object "BunchNotes$Peak"
abbrev wsX90 : List Cond := u_ws RX9 TX9 11
theorem nmX9 : ∀ a, a < 11 → ∀ b, b < 11 → a ≠ b → (TX9 a).2.1 ≠ (TX9 b).2.1 := by decide +kernel
theorem tyX9_ok : ∀ k, k < 11 → parseFieldDescriptor (TX9 k).2.2.1 = some (tyX9 k) := by decide +kernel
abbrev cX9_init : ByteArray := prog_1_method_1_code
def yX9_init : MethodName := ⟨RX9, "<init>", "()V"⟩
abbrev cX9_type : ByteArray := prog_1_method_2_code
def yX9_type : MethodName := ⟨RX9, "type", "(I)I"⟩
abbrev cX9_erase : ByteArray := prog_1_method_3_code
def yX9_erase : MethodName := ⟨RX9, "erase", "()I"⟩
abbrev cX9_fault : ByteArray := prog_1_method_4_code
def yX9_fault : MethodName := ⟨RX9, "fault", "()I"⟩
abbrev cX9_net : ByteArray := prog_1_method_5_code
def yX9_net : MethodName := ⟨RX9, "net", "()I"⟩
abbrev cX9_link : ByteArray := prog_1_method_6_code
def yX9_link : MethodName := ⟨RX9, "link", "(II)I"⟩
abbrev cX9_level : ByteArray := prog_1_method_7_code
def yX9_level : MethodName := ⟨RX9, "level", "(I)I"⟩
abbrev cX9_join : ByteArray := prog_1_method_8_code
def yX9_join : MethodName := ⟨RX9, "join", "(III)I"⟩
abbrev cX9_cut : ByteArray := prog_1_method_9_code
def yX9_cut : MethodName := ⟨RX9, "cut", "(II)I"⟩
abbrev cX9_lift : ByteArray := prog_1_method_10_code
def yX9_lift : MethodName := ⟨RX9, "lift", "(II)I"⟩
abbrev cX9_draw : ByteArray := prog_1_method_11_code
def yX9_draw : MethodName := ⟨RX9, "draw", "(I)I"⟩
abbrev cX9_thin : ByteArray := prog_1_method_12_code
def yX9_thin : MethodName := ⟨RX9, "thin", "(I)I"⟩
abbrev cX9_undo : ByteArray := prog_1_method_13_code
def yX9_undo : MethodName := ⟨RX9, "undo", "()I"⟩
abbrev cX9_keep : ByteArray := prog_1_method_14_code
def yX9_keep : MethodName := ⟨RX9, "keep", "(I)I"⟩
abbrev cX9_back : ByteArray := prog_1_method_15_code
def yX9_back : MethodName := ⟨RX9, "back", "(I)I"⟩
abbrev cX9_distance : ByteArray := prog_1_method_16_code
def yX9_distance : MethodName := ⟨RX9, "distance", "(II)I"⟩
abbrev cX9_nearest : ByteArray := prog_1_method_17_code
def yX9_nearest : MethodName := ⟨RX9, "nearest", "(III)I"⟩
abbrev cX9_bunch : ByteArray := prog_1_method_18_code
def yX9_bunch : MethodName := ⟨RX9, "bunch", "(II)I"⟩
abbrev cX9_next : ByteArray := prog_1_method_19_code
def yX9_next : MethodName := ⟨RX9, "next", "(II)I"⟩
abbrev cX9_thinned : ByteArray := prog_1_method_20_code
def yX9_thinned : MethodName := ⟨RX9, "thinned", "(II)I"⟩
abbrev cX9_worst : ByteArray := prog_1_method_21_code
def yX9_worst : MethodName := ⟨RX9, "worst", "(II)I"⟩
abbrev cX9_note : ByteArray := prog_1_method_22_code
def yX9_note : MethodName := ⟨RX9, "note", "(I)I"⟩
abbrev cX9_mend : ByteArray := prog_1_method_23_code
def yX9_mend : MethodName := ⟨RX9, "mend", "()I"⟩
abbrev cX9_tear : ByteArray := prog_1_method_24_code
def yX9_tear : MethodName := ⟨RX9, "tear", "(I)I"⟩
abbrev cX9_noted : ByteArray := prog_1_method_25_code
def yX9_noted : MethodName := ⟨RX9, "noted", "(II)I"⟩
abbrev cX9_notedFar : ByteArray := prog_1_method_26_code
def yX9_notedFar : MethodName := ⟨RX9, "notedFar", "(II)I"⟩
abbrev cX9_told : ByteArray := prog_1_method_27_code
def yX9_told : MethodName := ⟨RX9, "told", "(III)I"⟩
abbrev cX9_why : ByteArray := prog_1_method_28_code
def yX9_why : MethodName := ⟨RX9, "why", "(III)I"⟩
abbrev cX9_route : ByteArray := prog_1_method_29_code
def yX9_route : MethodName := ⟨RX9, "route", "(III)I"⟩
abbrev cX9_pairs : ByteArray := prog_1_method_30_code
def yX9_pairs : MethodName := ⟨RX9, "pairs", "(I)I"⟩
abbrev cX9_count : ByteArray := prog_1_method_31_code
def yX9_count : MethodName := ⟨RX9, "count", "(I)I"⟩
abbrev cX9_blankNotes : ByteArray := prog_1_method_32_code
def yX9_blankNotes : MethodName := ⟨RX9, "blankNotes", "()[LBunchNotes$Note;"⟩
abbrev cX9_copyNotes : ByteArray := prog_1_method_33_code
def yX9_copyNotes : MethodName := ⟨RX9, "copyNotes", "([LBunchNotes$Note;[LBunchNotes$Note;)V"⟩
abbrev cX9_cell : ByteArray := prog_1_method_34_code
def yX9_cell : MethodName := ⟨RX9, "cell", "(II)I"⟩
abbrev cX9_commonPart : ByteArray := prog_1_method_35_code
def yX9_commonPart : MethodName := ⟨RX9, "commonPart", "(II)I"⟩
abbrev cX9_bothThere : ByteArray := prog_1_method_36_code
def yX9_bothThere : MethodName := ⟨RX9, "bothThere", "(II)Z"⟩
abbrev cX9_readText : ByteArray := prog_1_method_37_code
def yX9_readText : MethodName := ⟨RX9, "readText", "()I"⟩
abbrev cX9_blankAll : ByteArray := prog_1_method_38_code
def yX9_blankAll : MethodName := ⟨RX9, "blankAll", "()V"⟩
abbrev cX9_forgetSlots : ByteArray := prog_1_method_39_code
def yX9_forgetSlots : MethodName := ⟨RX9, "forgetSlots", "()V"⟩
abbrev cX9_writeDraft : ByteArray := prog_1_method_40_code
def yX9_writeDraft : MethodName := ⟨RX9, "writeDraft", "(I)V"⟩
abbrev cX9_isFresh : ByteArray := prog_1_method_41_code
def yX9_isFresh : MethodName := ⟨RX9, "isFresh", "(I)Z"⟩
abbrev cX9_clusterOf : ByteArray := prog_1_method_42_code
def yX9_clusterOf : MethodName := ⟨RX9, "clusterOf", "(I)I"⟩
abbrev cX9_stepTowards : ByteArray := prog_1_method_43_code
def yX9_stepTowards : MethodName := ⟨RX9, "stepTowards", "(II)I"⟩
abbrev cX9_stepsBetween : ByteArray := prog_1_method_44_code
def yX9_stepsBetween : MethodName := ⟨RX9, "stepsBetween", "(II)I"⟩
abbrev cX9_nodeAfter : ByteArray := prog_1_method_45_code
def yX9_nodeAfter : MethodName := ⟨RX9, "nodeAfter", "(III)I"⟩
abbrev cX9_weighThinned : ByteArray := prog_1_method_46_code
def yX9_weighThinned : MethodName := ⟨RX9, "weighThinned", "(I)V"⟩
abbrev cX9_weighTold : ByteArray := prog_1_method_47_code
def yX9_weighTold : MethodName := ⟨RX9, "weighTold", "()I"⟩
abbrev cX9_parts : ByteArray := prog_1_method_48_code
def yX9_parts : MethodName := ⟨RX9, "parts", "()I"⟩
abbrev cX9_writtenNotes : ByteArray := prog_1_method_49_code
def yX9_writtenNotes : MethodName := ⟨RX9, "writtenNotes", "()I"⟩
abbrev cX9_freshNotes : ByteArray := prog_1_method_50_code
def yX9_freshNotes : MethodName := ⟨RX9, "freshNotes", "()I"⟩
abbrev cX9_nodesInNotes : ByteArray := prog_1_method_51_code
def yX9_nodesInNotes : MethodName := ⟨RX9, "nodesInNotes", "()I"⟩
def RX10 : String := "BunchNotesModel"
def TX10 : u_T := fun k => match k with
  | 0 => ("BunchNotesModel", "row", "[I", true)
  | 1 => ("BunchNotesModel", "undos", "I", false)
  | 2 => ("BunchNotesModel", "nodes", "I", false)
  | 3 => ("BunchNotesModel", "notes", "[I", true)
  | 4 => ("BunchNotesModel", "isKept", "[Z", true)
  | 5 => ("BunchNotesModel", "text", "[I", true)
  | 6 => ("BunchNotesModel", "length", "I", false)
  | 7 => ("BunchNotesModel", "first", "I", false)
  | 8 => ("BunchNotesModel", "behind", "I", false)
  | 9 => ("BunchNotesModel", "told", "I", false)
  | 10 => ("BunchNotesModel", "toldPairs", "[Z", true)
  | 11 => ("BunchNotesModel", "toldLinks", "I", false)
  | 12 => ("BunchNotesModel", "clauses", "I", false)
  | 13 => ("BunchNotesModel", "doing", "Z", false)
  | 14 => ("BunchNotesModel", "numbers", "[I", true)
  | 15 => ("BunchNotesModel", "words", "[I", true)
  | 16 => ("BunchNotesModel", "far", "[I", true)
  | 17 => ("BunchNotesModel", "taken", "[Z", true)
  | 18 => ("BunchNotesModel", "whole", "[I", true)
  | 19 => ("BunchNotesModel", "fresh", "[I", true)
  | 20 => ("BunchNotesModel", "toldFar", "I", false)
  | 21 => ("BunchNotesModel", "toldBy", "I", false)
  | 22 => ("BunchNotesModel", "toldLevel", "I", false)
  | 23 => ("BunchNotesModel", "reason", "I", false)
  | _ => ("BunchNotesModel", "looked", "I", false)
def tyX10 : Nat → FieldType := fun k => match k with
  | 0 => .array .int
  | 1 => .int
  | 2 => .int
  | 3 => .array .int
  | 4 => .array .boolean
  | 5 => .array .int
  | 6 => .int
  | 7 => .int
  | 8 => .int
  | 9 => .int
  | 10 => .array .boolean
  | 11 => .int
  | 12 => .int
  | 13 => .boolean
  | 14 => .array .int
  | 15 => .array .int
  | 16 => .array .int
  | 17 => .array .boolean
  | 18 => .array .int
  | 19 => .array .int
  | 20 => .int
  | 21 => .int
  | 22 => .int
  | 23 => .int
  | _ => .int
abbrev wsX100 : List Cond := u_ws RX10 TX10 25
theorem nmX10 : ∀ a, a < 25 → ∀ b, b < 25 → a ≠ b → (TX10 a).2.1 ≠ (TX10 b).2.1 := by decide +kernel
theorem tyX10_ok : ∀ k, k < 25 → parseFieldDescriptor (TX10 k).2.2.1 = some (tyX10 k) := by decide +kernel
abbrev cX10_init : ByteArray := prog_12_method_1_code
def yX10_init : MethodName := ⟨RX10, "<init>", "()V"⟩
abbrev cX10_in : ByteArray := prog_12_method_2_code
def yX10_in : MethodName := ⟨RX10, "in", "(JJJ)Z"⟩
abbrev cX10_isNode : ByteArray := prog_12_method_3_code
def yX10_isNode : MethodName := ⟨RX10, "isNode", "(I)Z"⟩
abbrev cX10_has : ByteArray := prog_12_method_4_code
def yX10_has : MethodName := ⟨RX10, "has", "(II)Z"⟩
abbrev cX10_ones : ByteArray := prog_12_method_5_code
def yX10_ones : MethodName := ⟨RX10, "ones", "(I)I"⟩
abbrev cX10_length : ByteArray := prog_12_method_6_code
def yX10_length : MethodName := ⟨RX10, "length", "(II)I"⟩
abbrev cX10_lies : ByteArray := prog_12_method_7_code
def yX10_lies : MethodName := ⟨RX10, "lies", "(III)V"⟩
abbrev cX10_links : ByteArray := prog_12_method_8_code
def yX10_links : MethodName := ⟨RX10, "links", "()I"⟩
abbrev cX10_pairOf : ByteArray := prog_12_method_9_code
def yX10_pairOf : MethodName := ⟨RX10, "pairOf", "(I)I"⟩
abbrev cX10_type : ByteArray := prog_12_method_10_code
def yX10_type : MethodName := ⟨RX10, "type", "(I)I"⟩
abbrev cX10_erase : ByteArray := prog_12_method_11_code
def yX10_erase : MethodName := ⟨RX10, "erase", "()I"⟩
abbrev cX10_isSmall : ByteArray := prog_12_method_12_code
def yX10_isSmall : MethodName := ⟨RX10, "isSmall", "(I)Z"⟩
abbrev cX10_isDigit : ByteArray := prog_12_method_13_code
def yX10_isDigit : MethodName := ⟨RX10, "isDigit", "(I)Z"⟩
abbrev cX10_nextToken : ByteArray := prog_12_method_14_code
def yX10_nextToken : MethodName := ⟨RX10, "nextToken", "()V"⟩
abbrev cX10_wordHere : ByteArray := prog_12_method_15_code
def yX10_wordHere : MethodName := ⟨RX10, "wordHere", "()I"⟩
abbrev cX10_numberHere : ByteArray := prog_12_method_16_code
def yX10_numberHere : MethodName := ⟨RX10, "numberHere", "()I"⟩
abbrev cX10_number : ByteArray := prog_12_method_17_code
def yX10_number : MethodName := ⟨RX10, "number", "(III)Z"⟩
abbrev cX10_otherNode : ByteArray := prog_12_method_18_code
def yX10_otherNode : MethodName := ⟨RX10, "otherNode", "()Z"⟩
abbrev cX10_tellsNet : ByteArray := prog_12_method_19_code
def yX10_tellsNet : MethodName := ⟨RX10, "tellsNet", "()V"⟩
abbrev cX10_tellsLink : ByteArray := prog_12_method_20_code
def yX10_tellsLink : MethodName := ⟨RX10, "tellsLink", "()V"⟩
abbrev cX10_does : ByteArray := prog_12_method_21_code
def yX10_does : MethodName := ⟨RX10, "does", "(I)V"⟩
abbrev cX10_readsClause : ByteArray := prog_12_method_22_code
def yX10_readsClause : MethodName := ⟨RX10, "readsClause", "()Z"⟩
abbrev cX10_reads : ByteArray := prog_12_method_23_code
def yX10_reads : MethodName := ⟨RX10, "reads", "(Z)Z"⟩
abbrev cX10_fault : ByteArray := prog_12_method_24_code
def yX10_fault : MethodName := ⟨RX10, "fault", "()I"⟩
abbrev cX10_net : ByteArray := prog_12_method_25_code
def yX10_net : MethodName := ⟨RX10, "net", "()I"⟩
abbrev cX10_link : ByteArray := prog_12_method_26_code
def yX10_link : MethodName := ⟨RX10, "link", "(II)I"⟩
abbrev cX10_level : ByteArray := prog_12_method_27_code
def yX10_level : MethodName := ⟨RX10, "level", "(I)I"⟩
abbrev cX10_finds : ByteArray := prog_12_method_28_code
def yX10_finds : MethodName := ⟨RX10, "finds", "(Z)V"⟩
abbrev cX10_isWay : ByteArray := prog_12_method_29_code
def yX10_isWay : MethodName := ⟨RX10, "isWay", "(II)Z"⟩
abbrev cX10_distance : ByteArray := prog_12_method_30_code
def yX10_distance : MethodName := ⟨RX10, "distance", "(II)I"⟩
abbrev cX10_nearestOf : ByteArray := prog_12_method_31_code
def yX10_nearestOf : MethodName := ⟨RX10, "nearestOf", "(II)I"⟩
abbrev cX10_isInBunch : ByteArray := prog_12_method_32_code
def yX10_isInBunch : MethodName := ⟨RX10, "isInBunch", "(II)Z"⟩
abbrev cX10_bunchOf : ByteArray := prog_12_method_33_code
def yX10_bunchOf : MethodName := ⟨RX10, "bunchOf", "(I)I"⟩
abbrev cX10_nearest : ByteArray := prog_12_method_34_code
def yX10_nearest : MethodName := ⟨RX10, "nearest", "(III)I"⟩
abbrev cX10_bunch : ByteArray := prog_12_method_35_code
def yX10_bunch : MethodName := ⟨RX10, "bunch", "(II)I"⟩
abbrev cX10_nextOf : ByteArray := prog_12_method_36_code
def yX10_nextOf : MethodName := ⟨RX10, "nextOf", "(II)I"⟩
abbrev cX10_next : ByteArray := prog_12_method_37_code
def yX10_next : MethodName := ⟨RX10, "next", "(II)I"⟩
abbrev cX10_takes : ByteArray := prog_12_method_38_code
def yX10_takes : MethodName := ⟨RX10, "takes", "(II)V"⟩
abbrev cX10_thins : ByteArray := prog_12_method_39_code
def yX10_thins : MethodName := ⟨RX10, "thins", "(I)V"⟩
abbrev cX10_thinned : ByteArray := prog_12_method_40_code
def yX10_thinned : MethodName := ⟨RX10, "thinned", "(II)I"⟩
abbrev cX10_divisor : ByteArray := prog_12_method_41_code
def yX10_divisor : MethodName := ⟨RX10, "divisor", "(II)I"⟩
abbrev cX10_worst : ByteArray := prog_12_method_42_code
def yX10_worst : MethodName := ⟨RX10, "worst", "(II)I"⟩
abbrev cX10_keepPast : ByteArray := prog_12_method_43_code
def yX10_keepPast : MethodName := ⟨RX10, "keepPast", "()V"⟩
abbrev cX10_copyRow : ByteArray := prog_12_method_44_code
def yX10_copyRow : MethodName := ⟨RX10, "copyRow", "(II)V"⟩
abbrev cX10_join : ByteArray := prog_12_method_45_code
def yX10_join : MethodName := ⟨RX10, "join", "(III)I"⟩
abbrev cX10_cut : ByteArray := prog_12_method_46_code
def yX10_cut : MethodName := ⟨RX10, "cut", "(II)I"⟩
abbrev cX10_lift : ByteArray := prog_12_method_47_code
def yX10_lift : MethodName := ⟨RX10, "lift", "(II)I"⟩
abbrev cX10_draw : ByteArray := prog_12_method_48_code
def yX10_draw : MethodName := ⟨RX10, "draw", "(I)I"⟩
abbrev cX10_thin : ByteArray := prog_12_method_49_code
def yX10_thin : MethodName := ⟨RX10, "thin", "(I)I"⟩
abbrev cX10_undo : ByteArray := prog_12_method_50_code
def yX10_undo : MethodName := ⟨RX10, "undo", "()I"⟩
abbrev cX10_isWritten : ByteArray := prog_12_method_51_code
def yX10_isWritten : MethodName := ⟨RX10, "isWritten", "(I)Z"⟩
abbrev cX10_written : ByteArray := prog_12_method_52_code
def yX10_written : MethodName := ⟨RX10, "written", "()I"⟩
abbrev cX10_keep : ByteArray := prog_12_method_53_code
def yX10_keep : MethodName := ⟨RX10, "keep", "(I)I"⟩
abbrev cX10_back : ByteArray := prog_12_method_54_code
def yX10_back : MethodName := ⟨RX10, "back", "(I)I"⟩
abbrev cX10_freshens : ByteArray := prog_12_method_55_code
def yX10_freshens : MethodName := ⟨RX10, "freshens", "(I)V"⟩
abbrev cX10_isFresh : ByteArray := prog_12_method_56_code
def yX10_isFresh : MethodName := ⟨RX10, "isFresh", "(I)Z"⟩
abbrev cX10_writes : ByteArray := prog_12_method_57_code
def yX10_writes : MethodName := ⟨RX10, "writes", "(I)V"⟩
abbrev cX10_note : ByteArray := prog_12_method_58_code
def yX10_note : MethodName := ⟨RX10, "note", "(I)I"⟩
abbrev cX10_mend : ByteArray := prog_12_method_59_code
def yX10_mend : MethodName := ⟨RX10, "mend", "()I"⟩
abbrev cX10_tear : ByteArray := prog_12_method_60_code
def yX10_tear : MethodName := ⟨RX10, "tear", "(I)I"⟩
abbrev cX10_noted : ByteArray := prog_12_method_61_code
def yX10_noted : MethodName := ⟨RX10, "noted", "(II)I"⟩
abbrev cX10_notedFar : ByteArray := prog_12_method_62_code
def yX10_notedFar : MethodName := ⟨RX10, "notedFar", "(II)I"⟩
abbrev cX10_untold : ByteArray := prog_12_method_63_code
def yX10_untold : MethodName := ⟨RX10, "untold", "(II)Z"⟩
abbrev cX10_tells : ByteArray := prog_12_method_64_code
def yX10_tells : MethodName := ⟨RX10, "tells", "(II)Z"⟩
abbrev cX10_told : ByteArray := prog_12_method_65_code
def yX10_told : MethodName := ⟨RX10, "told", "(III)I"⟩
abbrev cX10_why : ByteArray := prog_12_method_66_code
def yX10_why : MethodName := ⟨RX10, "why", "(III)I"⟩
abbrev cX10_route : ByteArray := prog_12_method_67_code
def yX10_route : MethodName := ⟨RX10, "route", "(III)I"⟩
abbrev cX10_pairs : ByteArray := prog_12_method_68_code
def yX10_pairs : MethodName := ⟨RX10, "pairs", "(I)I"⟩
abbrev cX10_parts : ByteArray := prog_12_method_69_code
def yX10_parts : MethodName := ⟨RX10, "parts", "()I"⟩
abbrev cX10_freshNotes : ByteArray := prog_12_method_70_code
def yX10_freshNotes : MethodName := ⟨RX10, "freshNotes", "()I"⟩
abbrev cX10_inBunches : ByteArray := prog_12_method_71_code
def yX10_inBunches : MethodName := ⟨RX10, "inBunches", "()I"⟩
abbrev cX10_ofLevel : ByteArray := prog_12_method_72_code
def yX10_ofLevel : MethodName := ⟨RX10, "ofLevel", "(I)I"⟩
abbrev cX10_count : ByteArray := prog_12_method_73_code
def yX10_count : MethodName := ⟨RX10, "count", "(I)I"⟩
def RJx145de : String := "java/io/Serializable"
def TJx145de : u_T := fun k => match k with
  | _ => ("", "", "", false)
def tyJx145de : Nat → FieldType := fun k => match k with
  | _ => .int
abbrev wsJx145de0 : List Cond := u_ws RJx145de TJx145de 0
theorem nmJx145de : ∀ a, a < 0 → ∀ b, b < 0 → a ≠ b → (TJx145de a).2.1 ≠ (TJx145de b).2.1 := by decide +kernel
theorem tyJx145de_ok : ∀ k, k < 0 → parseFieldDescriptor (TJx145de k).2.2.1 = some (tyJx145de k) := by decide +kernel
def RJx9f9b0 : String := "java/lang/CharSequence"
def TJx9f9b0 : u_T := fun k => match k with
  | _ => ("", "", "", false)
def tyJx9f9b0 : Nat → FieldType := fun k => match k with
  | _ => .int
abbrev wsJx9f9b00 : List Cond := u_ws RJx9f9b0 TJx9f9b0 0
theorem nmJx9f9b0 : ∀ a, a < 0 → ∀ b, b < 0 → a ≠ b → (TJx9f9b0 a).2.1 ≠ (TJx9f9b0 b).2.1 := by decide +kernel
theorem tyJx9f9b0_ok : ∀ k, k < 0 → parseFieldDescriptor (TJx9f9b0 k).2.2.1 = some (tyJx9f9b0 k) := by decide +kernel
def RJxb160c : String := "java/lang/Comparable"
def TJxb160c : u_T := fun k => match k with
  | _ => ("", "", "", false)
def tyJxb160c : Nat → FieldType := fun k => match k with
  | _ => .int
abbrev wsJxb160c0 : List Cond := u_ws RJxb160c TJxb160c 0
theorem nmJxb160c : ∀ a, a < 0 → ∀ b, b < 0 → a ≠ b → (TJxb160c a).2.1 ≠ (TJxb160c b).2.1 := by decide +kernel
theorem tyJxb160c_ok : ∀ k, k < 0 → parseFieldDescriptor (TJxb160c k).2.2.1 = some (tyJxb160c k) := by decide +kernel
def RJ6 : String := "java/lang/Integer"
def TJ6 : u_T := fun k => match k with
  | _ => ("", "", "", false)
def tyJ6 : Nat → FieldType := fun k => match k with
  | _ => .int
abbrev wsJ60 : List Cond := u_ws RJ6 TJ6 0
theorem nmJ6 : ∀ a, a < 0 → ∀ b, b < 0 → a ≠ b → (TJ6 a).2.1 ≠ (TJ6 b).2.1 := by decide +kernel
theorem tyJ6_ok : ∀ k, k < 0 → parseFieldDescriptor (TJ6 k).2.2.1 = some (tyJ6 k) := by decide +kernel
abbrev cJ6_bitCount_0f7a4 : ByteArray := prog_13_method_49_code
def yJ6_bitCount_0f7a4 : MethodName := ⟨RJ6, "bitCount", "(I)I"⟩
def RJ9 : String := "java/lang/Math"
def TJ9 : u_T := fun k => match k with
  | _ => ("", "", "", false)
def tyJ9 : Nat → FieldType := fun k => match k with
  | _ => .int
abbrev wsJ90 : List Cond := u_ws RJ9 TJ9 0
theorem nmJ9 : ∀ a, a < 0 → ∀ b, b < 0 → a ≠ b → (TJ9 a).2.1 ≠ (TJ9 b).2.1 := by decide +kernel
theorem tyJ9_ok : ∀ k, k < 0 → parseFieldDescriptor (TJ9 k).2.2.1 = some (tyJ9 k) := by decide +kernel
abbrev cJ9_min_7cf53 : ByteArray := prog_14_method_69_code
def yJ9_min_7cf53 : MethodName := ⟨RJ9, "min", "(II)I"⟩
def RJ0 : String := "java/lang/String"
def TJ0 : u_T := fun k => match k with
  | _ => ("", "", "", false)
def tyJ0 : Nat → FieldType := fun k => match k with
  | _ => .int
abbrev wsJ00 : List Cond := u_ws RJ0 TJ0 0
theorem nmJ0 : ∀ a, a < 0 → ∀ b, b < 0 → a ≠ b → (TJ0 a).2.1 ≠ (TJ0 b).2.1 := by decide +kernel
theorem tyJ0_ok : ∀ k, k < 0 → parseFieldDescriptor (TJ0 k).2.2.1 = some (tyJ0 k) := by decide +kernel
abbrev cJ0_length_8abf5 : ByteArray := prog_15_method_54_code
def yJ0_length_8abf5 : MethodName := ⟨RJ0, "length", "()I"⟩
abbrev cJ0_charAt_5068e : ByteArray := prog_15_method_56_code
def yJ0_charAt_5068e : MethodName := ⟨RJ0, "charAt", "(I)C"⟩
abbrev cJ0_coder_7d493 : ByteArray := prog_15_method_152_code
def yJ0_coder_7d493 : MethodName := ⟨RJ0, "coder", "()B"⟩
abbrev cJ0_isLatin1_aae02 : ByteArray := prog_15_method_154_code
def yJ0_isLatin1_aae02 : MethodName := ⟨RJ0, "isLatin1", "()Z"⟩
abbrev cJ0_checkIndex_df160 : ByteArray := prog_15_method_155_code
def yJ0_checkIndex_df160 : MethodName := ⟨RJ0, "checkIndex", "(II)V"⟩
def RJ1 : String := "java/lang/StringLatin1"
def TJ1 : u_T := fun k => match k with
  | _ => ("", "", "", false)
def tyJ1 : Nat → FieldType := fun k => match k with
  | _ => .int
abbrev wsJ10 : List Cond := u_ws RJ1 TJ1 0
theorem nmJ1 : ∀ a, a < 0 → ∀ b, b < 0 → a ≠ b → (TJ1 a).2.1 ≠ (TJ1 b).2.1 := by decide +kernel
theorem tyJ1_ok : ∀ k, k < 0 → parseFieldDescriptor (TJ1 k).2.2.1 = some (tyJ1 k) := by decide +kernel
abbrev cJ1_charAt_3b067 : ByteArray := prog_16_method_2_code
def yJ1_charAt_3b067 : MethodName := ⟨RJ1, "charAt", "([BI)C"⟩
def RJ2 : String := "java/lang/StringUTF16"
def TJ2 : u_T := fun k => match k with
  | _ => ("", "", "", false)
def tyJ2 : Nat → FieldType := fun k => match k with
  | _ => .int
abbrev wsJ20 : List Cond := u_ws RJ2 TJ2 0
theorem nmJ2 : ∀ a, a < 0 → ∀ b, b < 0 → a ≠ b → (TJ2 a).2.1 ≠ (TJ2 b).2.1 := by decide +kernel
theorem tyJ2_ok : ∀ k, k < 0 → parseFieldDescriptor (TJ2 k).2.2.1 = some (tyJ2 k) := by decide +kernel
abbrev cJ2_getChar_3b067 : ByteArray := prog_17_method_5_code
def yJ2_getChar_3b067 : MethodName := ⟨RJ2, "getChar", "([BI)C"⟩
abbrev cJ2_length_9d52b : ByteArray := prog_17_method_6_code
def yJ2_length_9d52b : MethodName := ⟨RJ2, "length", "([B)I"⟩
abbrev cJ2_charAt_3b067 : ByteArray := prog_17_method_83_code
def yJ2_charAt_3b067 : MethodName := ⟨RJ2, "charAt", "([BI)C"⟩
abbrev cJ2_checkIndex_2214a : ByteArray := prog_17_method_91_code
def yJ2_checkIndex_2214a : MethodName := ⟨RJ2, "checkIndex", "(I[B)V"⟩
def RJ10 : String := "java/lang/System"
def TJ10 : u_T := fun k => match k with
  | _ => ("", "", "", false)
def tyJ10 : Nat → FieldType := fun k => match k with
  | _ => .int
abbrev wsJ100 : List Cond := u_ws RJ10 TJ10 0
theorem nmJ10 : ∀ a, a < 0 → ∀ b, b < 0 → a ≠ b → (TJ10 a).2.1 ≠ (TJ10 b).2.1 := by decide +kernel
theorem tyJ10_ok : ∀ k, k < 0 → parseFieldDescriptor (TJ10 k).2.2.1 = some (tyJ10 k) := by decide +kernel
def RJxfd54e : String := "java/lang/constant/Constable"
def TJxfd54e : u_T := fun k => match k with
  | _ => ("", "", "", false)
def tyJxfd54e : Nat → FieldType := fun k => match k with
  | _ => .int
abbrev wsJxfd54e0 : List Cond := u_ws RJxfd54e TJxfd54e 0
theorem nmJxfd54e : ∀ a, a < 0 → ∀ b, b < 0 → a ≠ b → (TJxfd54e a).2.1 ≠ (TJxfd54e b).2.1 := by decide +kernel
theorem tyJxfd54e_ok : ∀ k, k < 0 → parseFieldDescriptor (TJxfd54e k).2.2.1 = some (tyJxfd54e k) := by decide +kernel
def RJx3cf43 : String := "java/lang/constant/ConstantDesc"
def TJx3cf43 : u_T := fun k => match k with
  | _ => ("", "", "", false)
def tyJx3cf43 : Nat → FieldType := fun k => match k with
  | _ => .int
abbrev wsJx3cf430 : List Cond := u_ws RJx3cf43 TJx3cf43 0
theorem nmJx3cf43 : ∀ a, a < 0 → ∀ b, b < 0 → a ≠ b → (TJx3cf43 a).2.1 ≠ (TJx3cf43 b).2.1 := by decide +kernel
theorem tyJx3cf43_ok : ∀ k, k < 0 → parseFieldDescriptor (TJx3cf43 k).2.2.1 = some (tyJx3cf43 k) := by decide +kernel
def RJ7 : String := "java/util/Arrays"
def TJ7 : u_T := fun k => match k with
  | _ => ("", "", "", false)
def tyJ7 : Nat → FieldType := fun k => match k with
  | _ => .int
abbrev wsJ70 : List Cond := u_ws RJ7 TJ7 0
theorem nmJ7 : ∀ a, a < 0 → ∀ b, b < 0 → a ≠ b → (TJ7 a).2.1 ≠ (TJ7 b).2.1 := by decide +kernel
theorem tyJ7_ok : ∀ k, k < 0 → parseFieldDescriptor (TJ7 k).2.2.1 = some (tyJ7 k) := by decide +kernel
abbrev cJ7_fill_53178 : ByteArray := prog_19_method_103_code
def yJ7_fill_53178 : MethodName := ⟨RJ7, "fill", "([II)V"⟩
def RJ3 : String := "jdk/internal/util/Preconditions"
def TJ3 : u_T := fun k => match k with
  | _ => ("", "", "", false)
def tyJ3 : Nat → FieldType := fun k => match k with
  | _ => .int
abbrev wsJ30 : List Cond := u_ws RJ3 TJ3 0
theorem nmJ3 : ∀ a, a < 0 → ∀ b, b < 0 → a ≠ b → (TJ3 a).2.1 ≠ (TJ3 b).2.1 := by decide +kernel
theorem tyJ3_ok : ∀ k, k < 0 → parseFieldDescriptor (TJ3 k).2.2.1 = some (tyJ3 k) := by decide +kernel
abbrev cJ3_checkIndex_8e157 : ByteArray := prog_20_method_11_code
def yJ3_checkIndex_8e157 : MethodName := ⟨RJ3, "checkIndex", "(IILjava/util/function/BiFunction;)I"⟩
def RL : String := "BunchNotesLaw"
abbrev cL_law : ByteArray := code
def yL_law : MethodName := ⟨RL, "law", "([I)Z"⟩
abbrev vwCl : List vw_C := [(RX0, TX0, 3), (RX1, TX1, 6), (RX2, TX2, 5), (RX3, TX3, 3), (RX4, TX4, 5), (RX5, TX5, 3), (RX6, TX6, 5), (RX7, TX7, 7), (RX8, TX8, 7), (RX9, TX9, 11), (RX10, TX10, 25)]
end
section
theorem dX0_init_0 : decode cX0_init 0 = .ok (.aload_n 0, 1) := by decide +kernel
theorem dX0_init_1 : decode cX0_init 1 = .ok (.invokespecial 3, 3) := by decide +kernel
theorem dX0_init_4 : decode cX0_init 4 = .ok (.aload_n 0, 1) := by decide +kernel
theorem dX0_init_5 : decode cX0_init 5 = .ok (.bipush 12, 2) := by decide +kernel
theorem dX0_init_7 : decode cX0_init 7 = .ok (.bipush 12, 2) := by decide +kernel
theorem dX0_init_9 : decode cX0_init 9 = .ok (.multianewarray 9 2, 4) := by decide +kernel
theorem dX0_init_13 : decode cX0_init 13 = .ok (.putfield 11, 3) := by decide +kernel
theorem dX0_init_16 : decode cX0_init 16 = .ok (.return_, 1) := by decide +kernel
theorem dX0_follow_0 : decode cX0_follow 0 = .ok (.aload_n 0, 1) := by decide +kernel
theorem dX0_follow_1 : decode cX0_follow 1 = .ok (.getfield 16, 3) := by decide +kernel
theorem dX0_follow_4 : decode cX0_follow 4 = .ok (.aload_n 1, 1) := by decide +kernel
theorem dX0_follow_5 : decode cX0_follow 5 = .ok (.getfield 20, 3) := by decide +kernel
theorem dX0_follow_8 : decode cX0_follow 8 = .ok (.if_icmp .ne 4, 3) := by decide +kernel
theorem dX0_follow_11 : decode cX0_follow 11 = .ok (.return_, 1) := by decide +kernel
theorem dX0_follow_12 : decode cX0_follow 12 = .ok (.aload_n 0, 1) := by decide +kernel
theorem dX0_follow_13 : decode cX0_follow 13 = .ok (.aload_n 1, 1) := by decide +kernel
theorem dX0_follow_14 : decode cX0_follow 14 = .ok (.getfield 25, 3) := by decide +kernel
theorem dX0_follow_17 : decode cX0_follow 17 = .ok (.invokevirtual 28, 3) := by decide +kernel
theorem dX0_follow_20 : decode cX0_follow 20 = .ok (.iconst 0, 1) := by decide +kernel
theorem dX0_follow_21 : decode cX0_follow 21 = .ok (.istore_n 2, 1) := by decide +kernel
theorem dX0_follow_22 : decode cX0_follow 22 = .ok (.iload_n 2, 1) := by decide +kernel
theorem dX0_follow_23 : decode cX0_follow 23 = .ok (.aload_n 0, 1) := by decide +kernel
theorem dX0_follow_24 : decode cX0_follow 24 = .ok (.getfield 32, 3) := by decide +kernel
theorem dX0_follow_27 : decode cX0_follow 27 = .ok (.if_icmp .ge 48, 3) := by decide +kernel
theorem dX0_follow_30 : decode cX0_follow 30 = .ok (.iload_n 2, 1) := by decide +kernel
theorem dX0_follow_31 : decode cX0_follow 31 = .ok (.iconst 1, 1) := by decide +kernel
theorem dX0_follow_32 : decode cX0_follow 32 = .ok (.iadd, 1) := by decide +kernel
theorem dX0_follow_33 : decode cX0_follow 33 = .ok (.istore_n 3, 1) := by decide +kernel
theorem dX0_follow_34 : decode cX0_follow 34 = .ok (.iload_n 3, 1) := by decide +kernel
theorem dX0_follow_35 : decode cX0_follow 35 = .ok (.aload_n 0, 1) := by decide +kernel
theorem dX0_follow_36 : decode cX0_follow 36 = .ok (.getfield 32, 3) := by decide +kernel
theorem dX0_follow_39 : decode cX0_follow 39 = .ok (.if_icmp .ge 30, 3) := by decide +kernel
theorem dX0_follow_42 : decode cX0_follow 42 = .ok (.aload_n 1, 1) := by decide +kernel
theorem dX0_follow_43 : decode cX0_follow 43 = .ok (.iload_n 2, 1) := by decide +kernel
theorem dX0_follow_44 : decode cX0_follow 44 = .ok (.iload_n 3, 1) := by decide +kernel
theorem dX0_follow_45 : decode cX0_follow 45 = .ok (.invokevirtual 33, 3) := by decide +kernel
theorem dX0_follow_48 : decode cX0_follow 48 = .ok (.istore 4, 2) := by decide +kernel
theorem dX0_follow_50 : decode cX0_follow 50 = .ok (.iload 4, 2) := by decide +kernel
theorem dX0_follow_52 : decode cX0_follow 52 = .ok (.ifCond .le 11, 3) := by decide +kernel
theorem dX0_follow_55 : decode cX0_follow 55 = .ok (.aload_n 0, 1) := by decide +kernel
theorem dX0_follow_56 : decode cX0_follow 56 = .ok (.iload_n 2, 1) := by decide +kernel
theorem dX0_follow_57 : decode cX0_follow 57 = .ok (.iload_n 3, 1) := by decide +kernel
theorem dX0_follow_58 : decode cX0_follow 58 = .ok (.iload 4, 2) := by decide +kernel
theorem dX0_follow_60 : decode cX0_follow 60 = .ok (.invokevirtual 37, 3) := by decide +kernel
theorem dX0_follow_63 : decode cX0_follow 63 = .ok (.iinc 3 1, 3) := by decide +kernel
theorem dX0_follow_66 : decode cX0_follow 66 = .ok (.goto (-32), 3) := by decide +kernel
theorem dX0_follow_69 : decode cX0_follow 69 = .ok (.iinc 2 1, 3) := by decide +kernel
theorem dX0_follow_72 : decode cX0_follow 72 = .ok (.goto (-50), 3) := by decide +kernel
theorem dX0_follow_75 : decode cX0_follow 75 = .ok (.aload_n 0, 1) := by decide +kernel
theorem dX0_follow_76 : decode cX0_follow 76 = .ok (.aload_n 1, 1) := by decide +kernel
theorem dX0_follow_77 : decode cX0_follow 77 = .ok (.getfield 20, 3) := by decide +kernel
theorem dX0_follow_80 : decode cX0_follow 80 = .ok (.putfield 16, 3) := by decide +kernel
theorem dX0_follow_83 : decode cX0_follow 83 = .ok (.return_, 1) := by decide +kernel
theorem dX0_clear_0 : decode cX0_clear 0 = .ok (.aload_n 0, 1) := by decide +kernel
theorem dX0_clear_1 : decode cX0_clear 1 = .ok (.iload_n 1, 1) := by decide +kernel
theorem dX0_clear_2 : decode cX0_clear 2 = .ok (.bipush 12, 2) := by decide +kernel
theorem dX0_clear_4 : decode cX0_clear 4 = .ok (.invokestatic 41, 3) := by decide +kernel
theorem dX0_clear_7 : decode cX0_clear 7 = .ok (.putfield 32, 3) := by decide +kernel
theorem dX0_clear_10 : decode cX0_clear 10 = .ok (.iconst 0, 1) := by decide +kernel
theorem dX0_clear_11 : decode cX0_clear 11 = .ok (.istore_n 2, 1) := by decide +kernel
theorem dX0_clear_12 : decode cX0_clear 12 = .ok (.iload_n 2, 1) := by decide +kernel
theorem dX0_clear_13 : decode cX0_clear 13 = .ok (.aload_n 0, 1) := by decide +kernel
theorem dX0_clear_14 : decode cX0_clear 14 = .ok (.getfield 32, 3) := by decide +kernel
theorem dX0_clear_17 : decode cX0_clear 17 = .ok (.if_icmp .ge 29, 3) := by decide +kernel
theorem dX0_clear_20 : decode cX0_clear 20 = .ok (.aload_n 0, 1) := by decide +kernel
theorem dX0_clear_21 : decode cX0_clear 21 = .ok (.getfield 11, 3) := by decide +kernel
theorem dX0_clear_24 : decode cX0_clear 24 = .ok (.iload_n 2, 1) := by decide +kernel
theorem dX0_clear_25 : decode cX0_clear 25 = .ok (.aaload, 1) := by decide +kernel
theorem dX0_clear_26 : decode cX0_clear 26 = .ok (.ldc 46, 2) := by decide +kernel
theorem dX0_clear_28 : decode cX0_clear 28 = .ok (.invokestatic 47, 3) := by decide +kernel
theorem dX0_clear_31 : decode cX0_clear 31 = .ok (.aload_n 0, 1) := by decide +kernel
theorem dX0_clear_32 : decode cX0_clear 32 = .ok (.getfield 11, 3) := by decide +kernel
theorem dX0_clear_35 : decode cX0_clear 35 = .ok (.iload_n 2, 1) := by decide +kernel
theorem dX0_clear_36 : decode cX0_clear 36 = .ok (.aaload, 1) := by decide +kernel
theorem dX0_clear_37 : decode cX0_clear 37 = .ok (.iload_n 2, 1) := by decide +kernel
theorem dX0_clear_38 : decode cX0_clear 38 = .ok (.iconst 0, 1) := by decide +kernel
theorem dX0_clear_39 : decode cX0_clear 39 = .ok (.iastore, 1) := by decide +kernel
theorem dX0_clear_40 : decode cX0_clear 40 = .ok (.iinc 2 1, 3) := by decide +kernel
theorem dX0_clear_43 : decode cX0_clear 43 = .ok (.goto (-31), 3) := by decide +kernel
theorem dX0_clear_46 : decode cX0_clear 46 = .ok (.return_, 1) := by decide +kernel
theorem dX0_between_0 : decode cX0_between 0 = .ok (.iload_n 1, 1) := by decide +kernel
theorem dX0_between_1 : decode cX0_between 1 = .ok (.ifCond .lt 23, 3) := by decide +kernel
theorem dX0_between_4 : decode cX0_between 4 = .ok (.iload_n 1, 1) := by decide +kernel
theorem dX0_between_5 : decode cX0_between 5 = .ok (.aload_n 0, 1) := by decide +kernel
theorem dX0_between_6 : decode cX0_between 6 = .ok (.getfield 32, 3) := by decide +kernel
theorem dX0_between_9 : decode cX0_between 9 = .ok (.if_icmp .ge 15, 3) := by decide +kernel
theorem dX0_between_12 : decode cX0_between 12 = .ok (.iload_n 2, 1) := by decide +kernel
theorem dX0_between_13 : decode cX0_between 13 = .ok (.ifCond .lt 11, 3) := by decide +kernel
theorem dX0_between_16 : decode cX0_between 16 = .ok (.iload_n 2, 1) := by decide +kernel
theorem dX0_between_17 : decode cX0_between 17 = .ok (.aload_n 0, 1) := by decide +kernel
theorem dX0_between_18 : decode cX0_between 18 = .ok (.getfield 32, 3) := by decide +kernel
theorem dX0_between_21 : decode cX0_between 21 = .ok (.if_icmp .lt 5, 3) := by decide +kernel
theorem dX0_between_24 : decode cX0_between 24 = .ok (.iconst (-1), 1) := by decide +kernel
theorem dX0_between_25 : decode cX0_between 25 = .ok (.ireturn, 1) := by decide +kernel
theorem dX0_between_26 : decode cX0_between 26 = .ok (.aload_n 0, 1) := by decide +kernel
theorem dX0_between_27 : decode cX0_between 27 = .ok (.getfield 11, 3) := by decide +kernel
theorem dX0_between_30 : decode cX0_between 30 = .ok (.iload_n 1, 1) := by decide +kernel
theorem dX0_between_31 : decode cX0_between 31 = .ok (.aaload, 1) := by decide +kernel
theorem dX0_between_32 : decode cX0_between 32 = .ok (.iload_n 2, 1) := by decide +kernel
theorem dX0_between_33 : decode cX0_between 33 = .ok (.iaload, 1) := by decide +kernel
theorem dX0_between_34 : decode cX0_between 34 = .ok (.ldc 46, 2) := by decide +kernel
theorem dX0_between_36 : decode cX0_between 36 = .ok (.if_icmp .ge 14, 3) := by decide +kernel
theorem dX0_between_39 : decode cX0_between 39 = .ok (.aload_n 0, 1) := by decide +kernel
theorem dX0_between_40 : decode cX0_between 40 = .ok (.getfield 11, 3) := by decide +kernel
theorem dX0_between_43 : decode cX0_between 43 = .ok (.iload_n 1, 1) := by decide +kernel
theorem dX0_between_44 : decode cX0_between 44 = .ok (.aaload, 1) := by decide +kernel
theorem dX0_between_45 : decode cX0_between 45 = .ok (.iload_n 2, 1) := by decide +kernel
theorem dX0_between_46 : decode cX0_between 46 = .ok (.iaload, 1) := by decide +kernel
theorem dX0_between_47 : decode cX0_between 47 = .ok (.goto 4, 3) := by decide +kernel
theorem dX0_between_50 : decode cX0_between 50 = .ok (.iconst (-1), 1) := by decide +kernel
theorem dX0_between_51 : decode cX0_between 51 = .ok (.ireturn, 1) := by decide +kernel
theorem dX0_add_0 : decode cX0_add 0 = .ok (.iload_n 1, 1) := by decide +kernel
theorem dX0_add_1 : decode cX0_add 1 = .ok (.ifCond .lt 23, 3) := by decide +kernel
theorem dX0_add_4 : decode cX0_add 4 = .ok (.iload_n 1, 1) := by decide +kernel
theorem dX0_add_5 : decode cX0_add 5 = .ok (.aload_n 0, 1) := by decide +kernel
theorem dX0_add_6 : decode cX0_add 6 = .ok (.getfield 32, 3) := by decide +kernel
theorem dX0_add_9 : decode cX0_add 9 = .ok (.if_icmp .ge 15, 3) := by decide +kernel
theorem dX0_add_12 : decode cX0_add 12 = .ok (.iload_n 2, 1) := by decide +kernel
theorem dX0_add_13 : decode cX0_add 13 = .ok (.ifCond .lt 11, 3) := by decide +kernel
theorem dX0_add_16 : decode cX0_add 16 = .ok (.iload_n 2, 1) := by decide +kernel
theorem dX0_add_17 : decode cX0_add 17 = .ok (.aload_n 0, 1) := by decide +kernel
theorem dX0_add_18 : decode cX0_add 18 = .ok (.getfield 32, 3) := by decide +kernel
theorem dX0_add_21 : decode cX0_add 21 = .ok (.if_icmp .lt 4, 3) := by decide +kernel
theorem dX0_add_24 : decode cX0_add 24 = .ok (.return_, 1) := by decide +kernel
theorem dX0_add_25 : decode cX0_add 25 = .ok (.iconst 0, 1) := by decide +kernel
theorem dX0_add_26 : decode cX0_add 26 = .ok (.istore 4, 2) := by decide +kernel
theorem dX0_add_28 : decode cX0_add 28 = .ok (.iload 4, 2) := by decide +kernel
theorem dX0_add_30 : decode cX0_add 30 = .ok (.aload_n 0, 1) := by decide +kernel
theorem dX0_add_31 : decode cX0_add 31 = .ok (.getfield 32, 3) := by decide +kernel
theorem dX0_add_34 : decode cX0_add 34 = .ok (.if_icmp .ge 96, 3) := by decide +kernel
theorem dX0_add_37 : decode cX0_add 37 = .ok (.aload_n 0, 1) := by decide +kernel
theorem dX0_add_38 : decode cX0_add 38 = .ok (.getfield 11, 3) := by decide +kernel
theorem dX0_add_41 : decode cX0_add 41 = .ok (.iload 4, 2) := by decide +kernel
theorem dX0_add_43 : decode cX0_add 43 = .ok (.aaload, 1) := by decide +kernel
theorem dX0_add_44 : decode cX0_add 44 = .ok (.astore 5, 2) := by decide +kernel
theorem dX0_add_46 : decode cX0_add 46 = .ok (.aload 5, 2) := by decide +kernel
theorem dX0_add_48 : decode cX0_add 48 = .ok (.iload_n 1, 1) := by decide +kernel
theorem dX0_add_49 : decode cX0_add 49 = .ok (.iaload, 1) := by decide +kernel
theorem dX0_add_50 : decode cX0_add 50 = .ok (.iload_n 3, 1) := by decide +kernel
theorem dX0_add_51 : decode cX0_add 51 = .ok (.iadd, 1) := by decide +kernel
theorem dX0_add_52 : decode cX0_add 52 = .ok (.istore 6, 2) := by decide +kernel
theorem dX0_add_54 : decode cX0_add 54 = .ok (.aload 5, 2) := by decide +kernel
theorem dX0_add_56 : decode cX0_add 56 = .ok (.iload_n 2, 1) := by decide +kernel
theorem dX0_add_57 : decode cX0_add 57 = .ok (.iaload, 1) := by decide +kernel
theorem dX0_add_58 : decode cX0_add 58 = .ok (.iload_n 3, 1) := by decide +kernel
theorem dX0_add_59 : decode cX0_add 59 = .ok (.iadd, 1) := by decide +kernel
theorem dX0_add_60 : decode cX0_add 60 = .ok (.istore 7, 2) := by decide +kernel
theorem dX0_add_62 : decode cX0_add 62 = .ok (.iconst 0, 1) := by decide +kernel
theorem dX0_add_63 : decode cX0_add 63 = .ok (.istore 8, 2) := by decide +kernel
theorem dX0_add_65 : decode cX0_add 65 = .ok (.iload 8, 2) := by decide +kernel
theorem dX0_add_67 : decode cX0_add 67 = .ok (.aload_n 0, 1) := by decide +kernel
theorem dX0_add_68 : decode cX0_add 68 = .ok (.getfield 32, 3) := by decide +kernel
theorem dX0_add_71 : decode cX0_add 71 = .ok (.if_icmp .ge 53, 3) := by decide +kernel
theorem dX0_add_74 : decode cX0_add 74 = .ok (.iload 6, 2) := by decide +kernel
theorem dX0_add_76 : decode cX0_add 76 = .ok (.aload_n 0, 1) := by decide +kernel
theorem dX0_add_77 : decode cX0_add 77 = .ok (.getfield 11, 3) := by decide +kernel
theorem dX0_add_80 : decode cX0_add 80 = .ok (.iload_n 2, 1) := by decide +kernel
theorem dX0_add_81 : decode cX0_add 81 = .ok (.aaload, 1) := by decide +kernel
theorem dX0_add_82 : decode cX0_add 82 = .ok (.iload 8, 2) := by decide +kernel
theorem dX0_add_84 : decode cX0_add 84 = .ok (.iaload, 1) := by decide +kernel
theorem dX0_add_85 : decode cX0_add 85 = .ok (.iadd, 1) := by decide +kernel
theorem dX0_add_86 : decode cX0_add 86 = .ok (.iload 7, 2) := by decide +kernel
theorem dX0_add_88 : decode cX0_add 88 = .ok (.aload_n 0, 1) := by decide +kernel
theorem dX0_add_89 : decode cX0_add 89 = .ok (.getfield 11, 3) := by decide +kernel
theorem dX0_add_92 : decode cX0_add 92 = .ok (.iload_n 1, 1) := by decide +kernel
theorem dX0_add_93 : decode cX0_add 93 = .ok (.aaload, 1) := by decide +kernel
theorem dX0_add_94 : decode cX0_add 94 = .ok (.iload 8, 2) := by decide +kernel
theorem dX0_add_96 : decode cX0_add 96 = .ok (.iaload, 1) := by decide +kernel
theorem dX0_add_97 : decode cX0_add 97 = .ok (.iadd, 1) := by decide +kernel
theorem dX0_add_98 : decode cX0_add 98 = .ok (.invokestatic 41, 3) := by decide +kernel
theorem dX0_add_101 : decode cX0_add 101 = .ok (.istore 9, 2) := by decide +kernel
theorem dX0_add_103 : decode cX0_add 103 = .ok (.aload 5, 2) := by decide +kernel
theorem dX0_add_105 : decode cX0_add 105 = .ok (.iload 8, 2) := by decide +kernel
theorem dX0_add_107 : decode cX0_add 107 = .ok (.aload 5, 2) := by decide +kernel
theorem dX0_add_109 : decode cX0_add 109 = .ok (.iload 8, 2) := by decide +kernel
theorem dX0_add_111 : decode cX0_add 111 = .ok (.iaload, 1) := by decide +kernel
theorem dX0_add_112 : decode cX0_add 112 = .ok (.iload 9, 2) := by decide +kernel
theorem dX0_add_114 : decode cX0_add 114 = .ok (.invokestatic 41, 3) := by decide +kernel
theorem dX0_add_117 : decode cX0_add 117 = .ok (.iastore, 1) := by decide +kernel
theorem dX0_add_118 : decode cX0_add 118 = .ok (.iinc 8 1, 3) := by decide +kernel
theorem dX0_add_121 : decode cX0_add 121 = .ok (.goto (-56), 3) := by decide +kernel
theorem dX0_add_124 : decode cX0_add 124 = .ok (.iinc 4 1, 3) := by decide +kernel
theorem dX0_add_127 : decode cX0_add 127 = .ok (.goto (-99), 3) := by decide +kernel
theorem dX0_add_130 : decode cX0_add 130 = .ok (.return_, 1) := by decide +kernel
theorem dX1_init_0 : decode cX1_init 0 = .ok (.aload_n 0, 1) := by decide +kernel
theorem dX1_init_1 : decode cX1_init 1 = .ok (.invokespecial 3, 3) := by decide +kernel
theorem dX1_init_4 : decode cX1_init 4 = .ok (.aload_n 0, 1) := by decide +kernel
theorem dX1_init_5 : decode cX1_init 5 = .ok (.iconst 2, 1) := by decide +kernel
theorem dX1_init_6 : decode cX1_init 6 = .ok (.putfield 9, 3) := by decide +kernel
theorem dX1_init_9 : decode cX1_init 9 = .ok (.aload_n 0, 1) := by decide +kernel
theorem dX1_init_10 : decode cX1_init 10 = .ok (.iconst 1, 1) := by decide +kernel
theorem dX1_init_11 : decode cX1_init 11 = .ok (.putfield 15, 3) := by decide +kernel
theorem dX1_init_14 : decode cX1_init 14 = .ok (.aload_n 0, 1) := by decide +kernel
theorem dX1_init_15 : decode cX1_init 15 = .ok (.iconst 1, 1) := by decide +kernel
theorem dX1_init_16 : decode cX1_init 16 = .ok (.putfield 18, 3) := by decide +kernel
theorem dX1_init_19 : decode cX1_init 19 = .ok (.aload_n 0, 1) := by decide +kernel
theorem dX1_init_20 : decode cX1_init 20 = .ok (.sipush 144, 3) := by decide +kernel
theorem dX1_init_23 : decode cX1_init 23 = .ok (.newarray .int, 2) := by decide +kernel
theorem dX1_init_25 : decode cX1_init 25 = .ok (.putfield 21, 3) := by decide +kernel
theorem dX1_init_28 : decode cX1_init 28 = .ok (.aload_n 0, 1) := by decide +kernel
theorem dX1_init_29 : decode cX1_init 29 = .ok (.bipush 12, 2) := by decide +kernel
theorem dX1_init_31 : decode cX1_init 31 = .ok (.newarray .int, 2) := by decide +kernel
theorem dX1_init_33 : decode cX1_init 33 = .ok (.putfield 25, 3) := by decide +kernel
theorem dX1_init_36 : decode cX1_init 36 = .ok (.return_, 1) := by decide +kernel
theorem dX1_has_0 : decode cX1_has 0 = .ok (.iload_n 1, 1) := by decide +kernel
theorem dX1_has_1 : decode cX1_has 1 = .ok (.ifCond .lt 15, 3) := by decide +kernel
theorem dX1_has_4 : decode cX1_has 4 = .ok (.iload_n 1, 1) := by decide +kernel
theorem dX1_has_5 : decode cX1_has 5 = .ok (.aload_n 0, 1) := by decide +kernel
theorem dX1_has_6 : decode cX1_has 6 = .ok (.getfield 9, 3) := by decide +kernel
theorem dX1_has_9 : decode cX1_has 9 = .ok (.if_icmp .ge 7, 3) := by decide +kernel
theorem dX1_has_12 : decode cX1_has 12 = .ok (.iconst 1, 1) := by decide +kernel
theorem dX1_has_13 : decode cX1_has 13 = .ok (.goto 4, 3) := by decide +kernel
theorem dX1_has_16 : decode cX1_has 16 = .ok (.iconst 0, 1) := by decide +kernel
theorem dX1_has_17 : decode cX1_has 17 = .ok (.ireturn, 1) := by decide +kernel
theorem dX1_lengthOf_0 : decode cX1_lengthOf 0 = .ok (.aload_n 0, 1) := by decide +kernel
theorem dX1_lengthOf_1 : decode cX1_lengthOf 1 = .ok (.iload_n 1, 1) := by decide +kernel
theorem dX1_lengthOf_2 : decode cX1_lengthOf 2 = .ok (.invokevirtual 28, 3) := by decide +kernel
theorem dX1_lengthOf_5 : decode cX1_lengthOf 5 = .ok (.ifCond .eq 24, 3) := by decide +kernel
theorem dX1_lengthOf_8 : decode cX1_lengthOf 8 = .ok (.aload_n 0, 1) := by decide +kernel
theorem dX1_lengthOf_9 : decode cX1_lengthOf 9 = .ok (.iload_n 2, 1) := by decide +kernel
theorem dX1_lengthOf_10 : decode cX1_lengthOf 10 = .ok (.invokevirtual 28, 3) := by decide +kernel
theorem dX1_lengthOf_13 : decode cX1_lengthOf 13 = .ok (.ifCond .eq 16, 3) := by decide +kernel
theorem dX1_lengthOf_16 : decode cX1_lengthOf 16 = .ok (.aload_n 0, 1) := by decide +kernel
theorem dX1_lengthOf_17 : decode cX1_lengthOf 17 = .ok (.getfield 21, 3) := by decide +kernel
theorem dX1_lengthOf_20 : decode cX1_lengthOf 20 = .ok (.iload_n 1, 1) := by decide +kernel
theorem dX1_lengthOf_21 : decode cX1_lengthOf 21 = .ok (.iload_n 2, 1) := by decide +kernel
theorem dX1_lengthOf_22 : decode cX1_lengthOf 22 = .ok (.invokestatic 32, 3) := by decide +kernel
theorem dX1_lengthOf_25 : decode cX1_lengthOf 25 = .ok (.iaload, 1) := by decide +kernel
theorem dX1_lengthOf_26 : decode cX1_lengthOf 26 = .ok (.goto 4, 3) := by decide +kernel
theorem dX1_lengthOf_29 : decode cX1_lengthOf 29 = .ok (.iconst 0, 1) := by decide +kernel
theorem dX1_lengthOf_30 : decode cX1_lengthOf 30 = .ok (.ireturn, 1) := by decide +kernel
theorem dX1_levelOf_0 : decode cX1_levelOf 0 = .ok (.iload_n 1, 1) := by decide +kernel
theorem dX1_levelOf_1 : decode cX1_levelOf 1 = .ok (.ifCond .lt 20, 3) := by decide +kernel
theorem dX1_levelOf_4 : decode cX1_levelOf 4 = .ok (.iload_n 1, 1) := by decide +kernel
theorem dX1_levelOf_5 : decode cX1_levelOf 5 = .ok (.aload_n 0, 1) := by decide +kernel
theorem dX1_levelOf_6 : decode cX1_levelOf 6 = .ok (.getfield 9, 3) := by decide +kernel
theorem dX1_levelOf_9 : decode cX1_levelOf 9 = .ok (.if_icmp .ge 12, 3) := by decide +kernel
theorem dX1_levelOf_12 : decode cX1_levelOf 12 = .ok (.aload_n 0, 1) := by decide +kernel
theorem dX1_levelOf_13 : decode cX1_levelOf 13 = .ok (.getfield 25, 3) := by decide +kernel
theorem dX1_levelOf_16 : decode cX1_levelOf 16 = .ok (.iload_n 1, 1) := by decide +kernel
theorem dX1_levelOf_17 : decode cX1_levelOf 17 = .ok (.iaload, 1) := by decide +kernel
theorem dX1_levelOf_18 : decode cX1_levelOf 18 = .ok (.goto 4, 3) := by decide +kernel
theorem dX1_levelOf_21 : decode cX1_levelOf 21 = .ok (.iconst 0, 1) := by decide +kernel
theorem dX1_levelOf_22 : decode cX1_levelOf 22 = .ok (.ireturn, 1) := by decide +kernel
theorem dX1_hasRoomFor_0 : decode cX1_hasRoomFor 0 = .ok (.aload_n 0, 1) := by decide +kernel
theorem dX1_hasRoomFor_1 : decode cX1_hasRoomFor 1 = .ok (.getfield 36, 3) := by decide +kernel
theorem dX1_hasRoomFor_4 : decode cX1_hasRoomFor 4 = .ok (.bipush 30, 2) := by decide +kernel
theorem dX1_hasRoomFor_6 : decode cX1_hasRoomFor 6 = .ok (.if_icmp .lt 32, 3) := by decide +kernel
theorem dX1_hasRoomFor_9 : decode cX1_hasRoomFor 9 = .ok (.aload_n 0, 1) := by decide +kernel
theorem dX1_hasRoomFor_10 : decode cX1_hasRoomFor 10 = .ok (.iload_n 1, 1) := by decide +kernel
theorem dX1_hasRoomFor_11 : decode cX1_hasRoomFor 11 = .ok (.invokevirtual 28, 3) := by decide +kernel
theorem dX1_hasRoomFor_14 : decode cX1_hasRoomFor 14 = .ok (.ifCond .eq 28, 3) := by decide +kernel
theorem dX1_hasRoomFor_17 : decode cX1_hasRoomFor 17 = .ok (.aload_n 0, 1) := by decide +kernel
theorem dX1_hasRoomFor_18 : decode cX1_hasRoomFor 18 = .ok (.iload_n 2, 1) := by decide +kernel
theorem dX1_hasRoomFor_19 : decode cX1_hasRoomFor 19 = .ok (.invokevirtual 28, 3) := by decide +kernel
theorem dX1_hasRoomFor_22 : decode cX1_hasRoomFor 22 = .ok (.ifCond .eq 20, 3) := by decide +kernel
theorem dX1_hasRoomFor_25 : decode cX1_hasRoomFor 25 = .ok (.aload_n 0, 1) := by decide +kernel
theorem dX1_hasRoomFor_26 : decode cX1_hasRoomFor 26 = .ok (.getfield 21, 3) := by decide +kernel
theorem dX1_hasRoomFor_29 : decode cX1_hasRoomFor 29 = .ok (.iload_n 1, 1) := by decide +kernel
theorem dX1_hasRoomFor_30 : decode cX1_hasRoomFor 30 = .ok (.iload_n 2, 1) := by decide +kernel
theorem dX1_hasRoomFor_31 : decode cX1_hasRoomFor 31 = .ok (.invokestatic 32, 3) := by decide +kernel
theorem dX1_hasRoomFor_34 : decode cX1_hasRoomFor 34 = .ok (.iaload, 1) := by decide +kernel
theorem dX1_hasRoomFor_35 : decode cX1_hasRoomFor 35 = .ok (.ifCond .le 7, 3) := by decide +kernel
theorem dX1_hasRoomFor_38 : decode cX1_hasRoomFor 38 = .ok (.iconst 1, 1) := by decide +kernel
theorem dX1_hasRoomFor_39 : decode cX1_hasRoomFor 39 = .ok (.goto 4, 3) := by decide +kernel
theorem dX1_hasRoomFor_42 : decode cX1_hasRoomFor 42 = .ok (.iconst 0, 1) := by decide +kernel
theorem dX1_hasRoomFor_43 : decode cX1_hasRoomFor 43 = .ok (.ireturn, 1) := by decide +kernel
theorem dX1_setLength_0 : decode cX1_setLength 0 = .ok (.aload_n 0, 1) := by decide +kernel
theorem dX1_setLength_1 : decode cX1_setLength 1 = .ok (.iload_n 1, 1) := by decide +kernel
theorem dX1_setLength_2 : decode cX1_setLength 2 = .ok (.invokevirtual 28, 3) := by decide +kernel
theorem dX1_setLength_5 : decode cX1_setLength 5 = .ok (.ifCond .eq 16, 3) := by decide +kernel
theorem dX1_setLength_8 : decode cX1_setLength 8 = .ok (.aload_n 0, 1) := by decide +kernel
theorem dX1_setLength_9 : decode cX1_setLength 9 = .ok (.iload_n 2, 1) := by decide +kernel
theorem dX1_setLength_10 : decode cX1_setLength 10 = .ok (.invokevirtual 28, 3) := by decide +kernel
theorem dX1_setLength_13 : decode cX1_setLength 13 = .ok (.ifCond .eq 8, 3) := by decide +kernel
theorem dX1_setLength_16 : decode cX1_setLength 16 = .ok (.iload_n 1, 1) := by decide +kernel
theorem dX1_setLength_17 : decode cX1_setLength 17 = .ok (.iload_n 2, 1) := by decide +kernel
theorem dX1_setLength_18 : decode cX1_setLength 18 = .ok (.if_icmp .ne 4, 3) := by decide +kernel
theorem dX1_setLength_21 : decode cX1_setLength 21 = .ok (.return_, 1) := by decide +kernel
theorem dX1_setLength_22 : decode cX1_setLength 22 = .ok (.aload_n 0, 1) := by decide +kernel
theorem dX1_setLength_23 : decode cX1_setLength 23 = .ok (.getfield 21, 3) := by decide +kernel
theorem dX1_setLength_26 : decode cX1_setLength 26 = .ok (.iload_n 1, 1) := by decide +kernel
theorem dX1_setLength_27 : decode cX1_setLength 27 = .ok (.iload_n 2, 1) := by decide +kernel
theorem dX1_setLength_28 : decode cX1_setLength 28 = .ok (.invokestatic 32, 3) := by decide +kernel
theorem dX1_setLength_31 : decode cX1_setLength 31 = .ok (.iaload, 1) := by decide +kernel
theorem dX1_setLength_32 : decode cX1_setLength 32 = .ok (.ifCond .le 13, 3) := by decide +kernel
theorem dX1_setLength_35 : decode cX1_setLength 35 = .ok (.aload_n 0, 1) := by decide +kernel
theorem dX1_setLength_36 : decode cX1_setLength 36 = .ok (.dup, 1) := by decide +kernel
theorem dX1_setLength_37 : decode cX1_setLength 37 = .ok (.getfield 36, 3) := by decide +kernel
theorem dX1_setLength_40 : decode cX1_setLength 40 = .ok (.iconst 1, 1) := by decide +kernel
theorem dX1_setLength_41 : decode cX1_setLength 41 = .ok (.isub, 1) := by decide +kernel
theorem dX1_setLength_42 : decode cX1_setLength 42 = .ok (.putfield 36, 3) := by decide +kernel
theorem dX1_setLength_45 : decode cX1_setLength 45 = .ok (.iload_n 3, 1) := by decide +kernel
theorem dX1_setLength_46 : decode cX1_setLength 46 = .ok (.ifCond .le 13, 3) := by decide +kernel
theorem dX1_setLength_49 : decode cX1_setLength 49 = .ok (.aload_n 0, 1) := by decide +kernel
theorem dX1_setLength_50 : decode cX1_setLength 50 = .ok (.dup, 1) := by decide +kernel
theorem dX1_setLength_51 : decode cX1_setLength 51 = .ok (.getfield 36, 3) := by decide +kernel
theorem dX1_setLength_54 : decode cX1_setLength 54 = .ok (.iconst 1, 1) := by decide +kernel
theorem dX1_setLength_55 : decode cX1_setLength 55 = .ok (.iadd, 1) := by decide +kernel
theorem dX1_setLength_56 : decode cX1_setLength 56 = .ok (.putfield 36, 3) := by decide +kernel
theorem dX1_setLength_59 : decode cX1_setLength 59 = .ok (.aload_n 0, 1) := by decide +kernel
theorem dX1_setLength_60 : decode cX1_setLength 60 = .ok (.getfield 21, 3) := by decide +kernel
theorem dX1_setLength_63 : decode cX1_setLength 63 = .ok (.iload_n 1, 1) := by decide +kernel
theorem dX1_setLength_64 : decode cX1_setLength 64 = .ok (.iload_n 2, 1) := by decide +kernel
theorem dX1_setLength_65 : decode cX1_setLength 65 = .ok (.invokestatic 32, 3) := by decide +kernel
theorem dX1_setLength_68 : decode cX1_setLength 68 = .ok (.iload_n 3, 1) := by decide +kernel
theorem dX1_setLength_69 : decode cX1_setLength 69 = .ok (.iastore, 1) := by decide +kernel
theorem dX1_setLength_70 : decode cX1_setLength 70 = .ok (.aload_n 0, 1) := by decide +kernel
theorem dX1_setLength_71 : decode cX1_setLength 71 = .ok (.getfield 21, 3) := by decide +kernel
theorem dX1_setLength_74 : decode cX1_setLength 74 = .ok (.iload_n 2, 1) := by decide +kernel
theorem dX1_setLength_75 : decode cX1_setLength 75 = .ok (.iload_n 1, 1) := by decide +kernel
theorem dX1_setLength_76 : decode cX1_setLength 76 = .ok (.invokestatic 32, 3) := by decide +kernel
theorem dX1_setLength_79 : decode cX1_setLength 79 = .ok (.iload_n 3, 1) := by decide +kernel
theorem dX1_setLength_80 : decode cX1_setLength 80 = .ok (.iastore, 1) := by decide +kernel
theorem dX1_setLength_81 : decode cX1_setLength 81 = .ok (.aload_n 0, 1) := by decide +kernel
theorem dX1_setLength_82 : decode cX1_setLength 82 = .ok (.dup, 1) := by decide +kernel
theorem dX1_setLength_83 : decode cX1_setLength 83 = .ok (.getfield 18, 3) := by decide +kernel
theorem dX1_setLength_86 : decode cX1_setLength 86 = .ok (.iconst 1, 1) := by decide +kernel
theorem dX1_setLength_87 : decode cX1_setLength 87 = .ok (.iadd, 1) := by decide +kernel
theorem dX1_setLength_88 : decode cX1_setLength 88 = .ok (.putfield 18, 3) := by decide +kernel
theorem dX1_setLength_91 : decode cX1_setLength 91 = .ok (.return_, 1) := by decide +kernel
theorem dX1_setLevel_0 : decode cX1_setLevel 0 = .ok (.aload_n 0, 1) := by decide +kernel
theorem dX1_setLevel_1 : decode cX1_setLevel 1 = .ok (.iload_n 1, 1) := by decide +kernel
theorem dX1_setLevel_2 : decode cX1_setLevel 2 = .ok (.invokevirtual 28, 3) := by decide +kernel
theorem dX1_setLevel_5 : decode cX1_setLevel 5 = .ok (.ifCond .eq 10, 3) := by decide +kernel
theorem dX1_setLevel_8 : decode cX1_setLevel 8 = .ok (.aload_n 0, 1) := by decide +kernel
theorem dX1_setLevel_9 : decode cX1_setLevel 9 = .ok (.getfield 25, 3) := by decide +kernel
theorem dX1_setLevel_12 : decode cX1_setLevel 12 = .ok (.iload_n 1, 1) := by decide +kernel
theorem dX1_setLevel_13 : decode cX1_setLevel 13 = .ok (.iload_n 2, 1) := by decide +kernel
theorem dX1_setLevel_14 : decode cX1_setLevel 14 = .ok (.iastore, 1) := by decide +kernel
theorem dX1_setLevel_15 : decode cX1_setLevel 15 = .ok (.return_, 1) := by decide +kernel
theorem dX1_cellOfLink_0 : decode cX1_cellOfLink 0 = .ok (.iload_n 1, 1) := by decide +kernel
theorem dX1_cellOfLink_1 : decode cX1_cellOfLink 1 = .ok (.ifCond .lt 11, 3) := by decide +kernel
theorem dX1_cellOfLink_4 : decode cX1_cellOfLink 4 = .ok (.iload_n 1, 1) := by decide +kernel
theorem dX1_cellOfLink_5 : decode cX1_cellOfLink 5 = .ok (.aload_n 0, 1) := by decide +kernel
theorem dX1_cellOfLink_6 : decode cX1_cellOfLink 6 = .ok (.getfield 36, 3) := by decide +kernel
theorem dX1_cellOfLink_9 : decode cX1_cellOfLink 9 = .ok (.if_icmp .lt 5, 3) := by decide +kernel
theorem dX1_cellOfLink_12 : decode cX1_cellOfLink 12 = .ok (.iconst (-1), 1) := by decide +kernel
theorem dX1_cellOfLink_13 : decode cX1_cellOfLink 13 = .ok (.ireturn, 1) := by decide +kernel
theorem dX1_cellOfLink_14 : decode cX1_cellOfLink 14 = .ok (.iload_n 1, 1) := by decide +kernel
theorem dX1_cellOfLink_15 : decode cX1_cellOfLink 15 = .ok (.istore_n 2, 1) := by decide +kernel
theorem dX1_cellOfLink_16 : decode cX1_cellOfLink 16 = .ok (.iconst 0, 1) := by decide +kernel
theorem dX1_cellOfLink_17 : decode cX1_cellOfLink 17 = .ok (.istore_n 3, 1) := by decide +kernel
theorem dX1_cellOfLink_18 : decode cX1_cellOfLink 18 = .ok (.iload_n 3, 1) := by decide +kernel
theorem dX1_cellOfLink_19 : decode cX1_cellOfLink 19 = .ok (.aload_n 0, 1) := by decide +kernel
theorem dX1_cellOfLink_20 : decode cX1_cellOfLink 20 = .ok (.getfield 9, 3) := by decide +kernel
theorem dX1_cellOfLink_23 : decode cX1_cellOfLink 23 = .ok (.if_icmp .ge 57, 3) := by decide +kernel
theorem dX1_cellOfLink_26 : decode cX1_cellOfLink 26 = .ok (.iload_n 3, 1) := by decide +kernel
theorem dX1_cellOfLink_27 : decode cX1_cellOfLink 27 = .ok (.iconst 1, 1) := by decide +kernel
theorem dX1_cellOfLink_28 : decode cX1_cellOfLink 28 = .ok (.iadd, 1) := by decide +kernel
theorem dX1_cellOfLink_29 : decode cX1_cellOfLink 29 = .ok (.istore 4, 2) := by decide +kernel
theorem dX1_cellOfLink_31 : decode cX1_cellOfLink 31 = .ok (.iload 4, 2) := by decide +kernel
theorem dX1_cellOfLink_33 : decode cX1_cellOfLink 33 = .ok (.aload_n 0, 1) := by decide +kernel
theorem dX1_cellOfLink_34 : decode cX1_cellOfLink 34 = .ok (.getfield 9, 3) := by decide +kernel
theorem dX1_cellOfLink_37 : decode cX1_cellOfLink 37 = .ok (.if_icmp .ge 37, 3) := by decide +kernel
theorem dX1_cellOfLink_40 : decode cX1_cellOfLink 40 = .ok (.aload_n 0, 1) := by decide +kernel
theorem dX1_cellOfLink_41 : decode cX1_cellOfLink 41 = .ok (.getfield 21, 3) := by decide +kernel
theorem dX1_cellOfLink_44 : decode cX1_cellOfLink 44 = .ok (.iload_n 3, 1) := by decide +kernel
theorem dX1_cellOfLink_45 : decode cX1_cellOfLink 45 = .ok (.iload 4, 2) := by decide +kernel
theorem dX1_cellOfLink_47 : decode cX1_cellOfLink 47 = .ok (.invokestatic 32, 3) := by decide +kernel
theorem dX1_cellOfLink_50 : decode cX1_cellOfLink 50 = .ok (.iaload, 1) := by decide +kernel
theorem dX1_cellOfLink_51 : decode cX1_cellOfLink 51 = .ok (.ifCond .le 17, 3) := by decide +kernel
theorem dX1_cellOfLink_54 : decode cX1_cellOfLink 54 = .ok (.iload_n 2, 1) := by decide +kernel
theorem dX1_cellOfLink_55 : decode cX1_cellOfLink 55 = .ok (.ifCond .ne 10, 3) := by decide +kernel
theorem dX1_cellOfLink_58 : decode cX1_cellOfLink 58 = .ok (.iload_n 3, 1) := by decide +kernel
theorem dX1_cellOfLink_59 : decode cX1_cellOfLink 59 = .ok (.iload 4, 2) := by decide +kernel
theorem dX1_cellOfLink_61 : decode cX1_cellOfLink 61 = .ok (.invokestatic 32, 3) := by decide +kernel
theorem dX1_cellOfLink_64 : decode cX1_cellOfLink 64 = .ok (.ireturn, 1) := by decide +kernel
theorem dX1_cellOfLink_65 : decode cX1_cellOfLink 65 = .ok (.iinc 2 (-1), 3) := by decide +kernel
theorem dX1_cellOfLink_68 : decode cX1_cellOfLink 68 = .ok (.iinc 4 1, 3) := by decide +kernel
theorem dX1_cellOfLink_71 : decode cX1_cellOfLink 71 = .ok (.goto (-40), 3) := by decide +kernel
theorem dX1_cellOfLink_74 : decode cX1_cellOfLink 74 = .ok (.iinc 3 1, 3) := by decide +kernel
theorem dX1_cellOfLink_77 : decode cX1_cellOfLink 77 = .ok (.goto (-59), 3) := by decide +kernel
theorem dX1_cellOfLink_80 : decode cX1_cellOfLink 80 = .ok (.iconst (-1), 1) := by decide +kernel
theorem dX1_cellOfLink_81 : decode cX1_cellOfLink 81 = .ok (.ireturn, 1) := by decide +kernel
theorem dX1_nodesOfLevel_0 : decode cX1_nodesOfLevel 0 = .ok (.iconst 0, 1) := by decide +kernel
theorem dX1_nodesOfLevel_1 : decode cX1_nodesOfLevel 1 = .ok (.istore_n 2, 1) := by decide +kernel
theorem dX1_nodesOfLevel_2 : decode cX1_nodesOfLevel 2 = .ok (.iconst 0, 1) := by decide +kernel
theorem dX1_nodesOfLevel_3 : decode cX1_nodesOfLevel 3 = .ok (.istore_n 3, 1) := by decide +kernel
theorem dX1_nodesOfLevel_4 : decode cX1_nodesOfLevel 4 = .ok (.iload_n 3, 1) := by decide +kernel
theorem dX1_nodesOfLevel_5 : decode cX1_nodesOfLevel 5 = .ok (.aload_n 0, 1) := by decide +kernel
theorem dX1_nodesOfLevel_6 : decode cX1_nodesOfLevel 6 = .ok (.getfield 9, 3) := by decide +kernel
theorem dX1_nodesOfLevel_9 : decode cX1_nodesOfLevel 9 = .ok (.if_icmp .ge 22, 3) := by decide +kernel
theorem dX1_nodesOfLevel_12 : decode cX1_nodesOfLevel 12 = .ok (.aload_n 0, 1) := by decide +kernel
theorem dX1_nodesOfLevel_13 : decode cX1_nodesOfLevel 13 = .ok (.getfield 25, 3) := by decide +kernel
theorem dX1_nodesOfLevel_16 : decode cX1_nodesOfLevel 16 = .ok (.iload_n 3, 1) := by decide +kernel
theorem dX1_nodesOfLevel_17 : decode cX1_nodesOfLevel 17 = .ok (.iaload, 1) := by decide +kernel
theorem dX1_nodesOfLevel_18 : decode cX1_nodesOfLevel 18 = .ok (.iload_n 1, 1) := by decide +kernel
theorem dX1_nodesOfLevel_19 : decode cX1_nodesOfLevel 19 = .ok (.if_icmp .ne 6, 3) := by decide +kernel
theorem dX1_nodesOfLevel_22 : decode cX1_nodesOfLevel 22 = .ok (.iinc 2 1, 3) := by decide +kernel
theorem dX1_nodesOfLevel_25 : decode cX1_nodesOfLevel 25 = .ok (.iinc 3 1, 3) := by decide +kernel
theorem dX1_nodesOfLevel_28 : decode cX1_nodesOfLevel 28 = .ok (.goto (-24), 3) := by decide +kernel
theorem dX1_nodesOfLevel_31 : decode cX1_nodesOfLevel 31 = .ok (.iload_n 2, 1) := by decide +kernel
theorem dX1_nodesOfLevel_32 : decode cX1_nodesOfLevel 32 = .ok (.ireturn, 1) := by decide +kernel
theorem dX1_drawLevels_0 : decode cX1_drawLevels 0 = .ok (.aload_n 0, 1) := by decide +kernel
theorem dX1_drawLevels_1 : decode cX1_drawLevels 1 = .ok (.iload_n 1, 1) := by decide +kernel
theorem dX1_drawLevels_2 : decode cX1_drawLevels 2 = .ok (.putfield 15, 3) := by decide +kernel
theorem dX1_drawLevels_5 : decode cX1_drawLevels 5 = .ok (.iconst 0, 1) := by decide +kernel
theorem dX1_drawLevels_6 : decode cX1_drawLevels 6 = .ok (.istore_n 2, 1) := by decide +kernel
theorem dX1_drawLevels_7 : decode cX1_drawLevels 7 = .ok (.iload_n 2, 1) := by decide +kernel
theorem dX1_drawLevels_8 : decode cX1_drawLevels 8 = .ok (.aload_n 0, 1) := by decide +kernel
theorem dX1_drawLevels_9 : decode cX1_drawLevels 9 = .ok (.getfield 9, 3) := by decide +kernel
theorem dX1_drawLevels_12 : decode cX1_drawLevels 12 = .ok (.if_icmp .ge 63, 3) := by decide +kernel
theorem dX1_drawLevels_15 : decode cX1_drawLevels 15 = .ok (.aload_n 0, 1) := by decide +kernel
theorem dX1_drawLevels_16 : decode cX1_drawLevels 16 = .ok (.aload_n 0, 1) := by decide +kernel
theorem dX1_drawLevels_17 : decode cX1_drawLevels 17 = .ok (.getfield 15, 3) := by decide +kernel
theorem dX1_drawLevels_20 : decode cX1_drawLevels 20 = .ok (.ldc 39, 2) := by decide +kernel
theorem dX1_drawLevels_22 : decode cX1_drawLevels 22 = .ok (.imul, 1) := by decide +kernel
theorem dX1_drawLevels_23 : decode cX1_drawLevels 23 = .ok (.iconst 1, 1) := by decide +kernel
theorem dX1_drawLevels_24 : decode cX1_drawLevels 24 = .ok (.iadd, 1) := by decide +kernel
theorem dX1_drawLevels_25 : decode cX1_drawLevels 25 = .ok (.putfield 15, 3) := by decide +kernel
theorem dX1_drawLevels_28 : decode cX1_drawLevels 28 = .ok (.aload_n 0, 1) := by decide +kernel
theorem dX1_drawLevels_29 : decode cX1_drawLevels 29 = .ok (.getfield 15, 3) := by decide +kernel
theorem dX1_drawLevels_32 : decode cX1_drawLevels 32 = .ok (.bipush 16, 2) := by decide +kernel
theorem dX1_drawLevels_34 : decode cX1_drawLevels 34 = .ok (.iushr, 1) := by decide +kernel
theorem dX1_drawLevels_35 : decode cX1_drawLevels 35 = .ok (.bipush 8, 2) := by decide +kernel
theorem dX1_drawLevels_37 : decode cX1_drawLevels 37 = .ok (.irem, 1) := by decide +kernel
theorem dX1_drawLevels_38 : decode cX1_drawLevels 38 = .ok (.istore_n 3, 1) := by decide +kernel
theorem dX1_drawLevels_39 : decode cX1_drawLevels 39 = .ok (.iload_n 3, 1) := by decide +kernel
theorem dX1_drawLevels_40 : decode cX1_drawLevels 40 = .ok (.ifCond .ne 13, 3) := by decide +kernel
theorem dX1_drawLevels_43 : decode cX1_drawLevels 43 = .ok (.aload_n 0, 1) := by decide +kernel
theorem dX1_drawLevels_44 : decode cX1_drawLevels 44 = .ok (.getfield 25, 3) := by decide +kernel
theorem dX1_drawLevels_47 : decode cX1_drawLevels 47 = .ok (.iload_n 2, 1) := by decide +kernel
theorem dX1_drawLevels_48 : decode cX1_drawLevels 48 = .ok (.iconst 2, 1) := by decide +kernel
theorem dX1_drawLevels_49 : decode cX1_drawLevels 49 = .ok (.iastore, 1) := by decide +kernel
theorem dX1_drawLevels_50 : decode cX1_drawLevels 50 = .ok (.goto 19, 3) := by decide +kernel
theorem dX1_drawLevels_53 : decode cX1_drawLevels 53 = .ok (.aload_n 0, 1) := by decide +kernel
theorem dX1_drawLevels_54 : decode cX1_drawLevels 54 = .ok (.getfield 25, 3) := by decide +kernel
theorem dX1_drawLevels_57 : decode cX1_drawLevels 57 = .ok (.iload_n 2, 1) := by decide +kernel
theorem dX1_drawLevels_58 : decode cX1_drawLevels 58 = .ok (.iload_n 3, 1) := by decide +kernel
theorem dX1_drawLevels_59 : decode cX1_drawLevels 59 = .ok (.iconst 2, 1) := by decide +kernel
theorem dX1_drawLevels_60 : decode cX1_drawLevels 60 = .ok (.if_icmp .gt 7, 3) := by decide +kernel
theorem dX1_drawLevels_63 : decode cX1_drawLevels 63 = .ok (.iconst 1, 1) := by decide +kernel
theorem dX1_drawLevels_64 : decode cX1_drawLevels 64 = .ok (.goto 4, 3) := by decide +kernel
theorem dX1_drawLevels_67 : decode cX1_drawLevels 67 = .ok (.iconst 0, 1) := by decide +kernel
theorem dX1_drawLevels_68 : decode cX1_drawLevels 68 = .ok (.iastore, 1) := by decide +kernel
theorem dX1_drawLevels_69 : decode cX1_drawLevels 69 = .ok (.iinc 2 1, 3) := by decide +kernel
theorem dX1_drawLevels_72 : decode cX1_drawLevels 72 = .ok (.goto (-65), 3) := by decide +kernel
theorem dX1_drawLevels_75 : decode cX1_drawLevels 75 = .ok (.return_, 1) := by decide +kernel
theorem dX1_startWith_0 : decode cX1_startWith 0 = .ok (.iload_n 1, 1) := by decide +kernel
theorem dX1_startWith_1 : decode cX1_startWith 1 = .ok (.iconst 2, 1) := by decide +kernel
theorem dX1_startWith_2 : decode cX1_startWith 2 = .ok (.if_icmp .lt 9, 3) := by decide +kernel
theorem dX1_startWith_5 : decode cX1_startWith 5 = .ok (.iload_n 1, 1) := by decide +kernel
theorem dX1_startWith_6 : decode cX1_startWith 6 = .ok (.bipush 12, 2) := by decide +kernel
theorem dX1_startWith_8 : decode cX1_startWith 8 = .ok (.if_icmp .le 4, 3) := by decide +kernel
theorem dX1_startWith_11 : decode cX1_startWith 11 = .ok (.return_, 1) := by decide +kernel
theorem dX1_startWith_12 : decode cX1_startWith 12 = .ok (.aload_n 0, 1) := by decide +kernel
theorem dX1_startWith_13 : decode cX1_startWith 13 = .ok (.iload_n 1, 1) := by decide +kernel
theorem dX1_startWith_14 : decode cX1_startWith 14 = .ok (.putfield 9, 3) := by decide +kernel
theorem dX1_startWith_17 : decode cX1_startWith 17 = .ok (.aload_n 0, 1) := by decide +kernel
theorem dX1_startWith_18 : decode cX1_startWith 18 = .ok (.iconst 0, 1) := by decide +kernel
theorem dX1_startWith_19 : decode cX1_startWith 19 = .ok (.putfield 36, 3) := by decide +kernel
theorem dX1_startWith_22 : decode cX1_startWith 22 = .ok (.aload_n 0, 1) := by decide +kernel
theorem dX1_startWith_23 : decode cX1_startWith 23 = .ok (.getfield 21, 3) := by decide +kernel
theorem dX1_startWith_26 : decode cX1_startWith 26 = .ok (.iconst 0, 1) := by decide +kernel
theorem dX1_startWith_27 : decode cX1_startWith 27 = .ok (.invokestatic 40, 3) := by decide +kernel
theorem dX1_startWith_30 : decode cX1_startWith 30 = .ok (.aload_n 0, 1) := by decide +kernel
theorem dX1_startWith_31 : decode cX1_startWith 31 = .ok (.getfield 25, 3) := by decide +kernel
theorem dX1_startWith_34 : decode cX1_startWith 34 = .ok (.iconst 0, 1) := by decide +kernel
theorem dX1_startWith_35 : decode cX1_startWith 35 = .ok (.invokestatic 40, 3) := by decide +kernel
theorem dX1_startWith_38 : decode cX1_startWith 38 = .ok (.aload_n 0, 1) := by decide +kernel
theorem dX1_startWith_39 : decode cX1_startWith 39 = .ok (.dup, 1) := by decide +kernel
theorem dX1_startWith_40 : decode cX1_startWith 40 = .ok (.getfield 18, 3) := by decide +kernel
theorem dX1_startWith_43 : decode cX1_startWith 43 = .ok (.iconst 1, 1) := by decide +kernel
theorem dX1_startWith_44 : decode cX1_startWith 44 = .ok (.iadd, 1) := by decide +kernel
theorem dX1_startWith_45 : decode cX1_startWith 45 = .ok (.putfield 18, 3) := by decide +kernel
theorem dX1_startWith_48 : decode cX1_startWith 48 = .ok (.return_, 1) := by decide +kernel
theorem dX1_copyFrom_0 : decode cX1_copyFrom 0 = .ok (.aload_n 0, 1) := by decide +kernel
theorem dX1_copyFrom_1 : decode cX1_copyFrom 1 = .ok (.aload_n 1, 1) := by decide +kernel
theorem dX1_copyFrom_2 : decode cX1_copyFrom 2 = .ok (.getfield 9, 3) := by decide +kernel
theorem dX1_copyFrom_5 : decode cX1_copyFrom 5 = .ok (.putfield 9, 3) := by decide +kernel
theorem dX1_copyFrom_8 : decode cX1_copyFrom 8 = .ok (.aload_n 0, 1) := by decide +kernel
theorem dX1_copyFrom_9 : decode cX1_copyFrom 9 = .ok (.aload_n 1, 1) := by decide +kernel
theorem dX1_copyFrom_10 : decode cX1_copyFrom 10 = .ok (.getfield 36, 3) := by decide +kernel
theorem dX1_copyFrom_13 : decode cX1_copyFrom 13 = .ok (.putfield 36, 3) := by decide +kernel
theorem dX1_copyFrom_16 : decode cX1_copyFrom 16 = .ok (.aload_n 0, 1) := by decide +kernel
theorem dX1_copyFrom_17 : decode cX1_copyFrom 17 = .ok (.aload_n 1, 1) := by decide +kernel
theorem dX1_copyFrom_18 : decode cX1_copyFrom 18 = .ok (.getfield 15, 3) := by decide +kernel
theorem dX1_copyFrom_21 : decode cX1_copyFrom 21 = .ok (.putfield 15, 3) := by decide +kernel
theorem dX1_copyFrom_24 : decode cX1_copyFrom 24 = .ok (.aload_n 1, 1) := by decide +kernel
theorem dX1_copyFrom_25 : decode cX1_copyFrom 25 = .ok (.getfield 21, 3) := by decide +kernel
theorem dX1_copyFrom_28 : decode cX1_copyFrom 28 = .ok (.iconst 0, 1) := by decide +kernel
theorem dX1_copyFrom_29 : decode cX1_copyFrom 29 = .ok (.aload_n 0, 1) := by decide +kernel
theorem dX1_copyFrom_30 : decode cX1_copyFrom 30 = .ok (.getfield 21, 3) := by decide +kernel
theorem dX1_copyFrom_33 : decode cX1_copyFrom 33 = .ok (.iconst 0, 1) := by decide +kernel
theorem dX1_copyFrom_34 : decode cX1_copyFrom 34 = .ok (.aload_n 0, 1) := by decide +kernel
theorem dX1_copyFrom_35 : decode cX1_copyFrom 35 = .ok (.getfield 21, 3) := by decide +kernel
theorem dX1_copyFrom_38 : decode cX1_copyFrom 38 = .ok (.arraylength, 1) := by decide +kernel
theorem dX1_copyFrom_39 : decode cX1_copyFrom 39 = .ok (.invokestatic 46, 3) := by decide +kernel
theorem dX1_copyFrom_42 : decode cX1_copyFrom 42 = .ok (.aload_n 1, 1) := by decide +kernel
theorem dX1_copyFrom_43 : decode cX1_copyFrom 43 = .ok (.getfield 25, 3) := by decide +kernel
theorem dX1_copyFrom_46 : decode cX1_copyFrom 46 = .ok (.iconst 0, 1) := by decide +kernel
theorem dX1_copyFrom_47 : decode cX1_copyFrom 47 = .ok (.aload_n 0, 1) := by decide +kernel
theorem dX1_copyFrom_48 : decode cX1_copyFrom 48 = .ok (.getfield 25, 3) := by decide +kernel
theorem dX1_copyFrom_51 : decode cX1_copyFrom 51 = .ok (.iconst 0, 1) := by decide +kernel
theorem dX1_copyFrom_52 : decode cX1_copyFrom 52 = .ok (.aload_n 0, 1) := by decide +kernel
theorem dX1_copyFrom_53 : decode cX1_copyFrom 53 = .ok (.getfield 25, 3) := by decide +kernel
theorem dX1_copyFrom_56 : decode cX1_copyFrom 56 = .ok (.arraylength, 1) := by decide +kernel
theorem dX1_copyFrom_57 : decode cX1_copyFrom 57 = .ok (.invokestatic 46, 3) := by decide +kernel
theorem dX1_copyFrom_60 : decode cX1_copyFrom 60 = .ok (.aload_n 0, 1) := by decide +kernel
theorem dX1_copyFrom_61 : decode cX1_copyFrom 61 = .ok (.dup, 1) := by decide +kernel
theorem dX1_copyFrom_62 : decode cX1_copyFrom 62 = .ok (.getfield 18, 3) := by decide +kernel
theorem dX1_copyFrom_65 : decode cX1_copyFrom 65 = .ok (.iconst 1, 1) := by decide +kernel
theorem dX1_copyFrom_66 : decode cX1_copyFrom 66 = .ok (.iadd, 1) := by decide +kernel
theorem dX1_copyFrom_67 : decode cX1_copyFrom 67 = .ok (.putfield 18, 3) := by decide +kernel
theorem dX1_copyFrom_70 : decode cX1_copyFrom 70 = .ok (.return_, 1) := by decide +kernel
theorem dX2_init_0 : decode cX2_init 0 = .ok (.aload_n 0, 1) := by decide +kernel
theorem dX2_init_1 : decode cX2_init 1 = .ok (.invokespecial 3, 3) := by decide +kernel
theorem dX2_init_4 : decode cX2_init 4 = .ok (.aload_n 0, 1) := by decide +kernel
theorem dX2_init_5 : decode cX2_init 5 = .ok (.iconst 3, 1) := by decide +kernel
theorem dX2_init_6 : decode cX2_init 6 = .ok (.newarray .int, 2) := by decide +kernel
theorem dX2_init_8 : decode cX2_init 8 = .ok (.putfield 9, 3) := by decide +kernel
theorem dX2_init_11 : decode cX2_init 11 = .ok (.aload_n 0, 1) := by decide +kernel
theorem dX2_init_12 : decode cX2_init 12 = .ok (.iconst 3, 1) := by decide +kernel
theorem dX2_init_13 : decode cX2_init 13 = .ok (.newarray .int, 2) := by decide +kernel
theorem dX2_init_15 : decode cX2_init 15 = .ok (.putfield 15, 3) := by decide +kernel
theorem dX2_init_18 : decode cX2_init 18 = .ok (.aload_n 0, 1) := by decide +kernel
theorem dX2_init_19 : decode cX2_init 19 = .ok (.bipush 12, 2) := by decide +kernel
theorem dX2_init_21 : decode cX2_init 21 = .ok (.newarray .int, 2) := by decide +kernel
theorem dX2_init_23 : decode cX2_init 23 = .ok (.putfield 18, 3) := by decide +kernel
theorem dX2_init_26 : decode cX2_init 26 = .ok (.return_, 1) := by decide +kernel
theorem dX2_nearestAt_0 : decode cX2_nearestAt 0 = .ok (.iload_n 1, 1) := by decide +kernel
theorem dX2_nearestAt_1 : decode cX2_nearestAt 1 = .ok (.ifCond .lt 17, 3) := by decide +kernel
theorem dX2_nearestAt_4 : decode cX2_nearestAt 4 = .ok (.iload_n 1, 1) := by decide +kernel
theorem dX2_nearestAt_5 : decode cX2_nearestAt 5 = .ok (.iconst 3, 1) := by decide +kernel
theorem dX2_nearestAt_6 : decode cX2_nearestAt 6 = .ok (.if_icmp .ge 12, 3) := by decide +kernel
theorem dX2_nearestAt_9 : decode cX2_nearestAt 9 = .ok (.aload_n 0, 1) := by decide +kernel
theorem dX2_nearestAt_10 : decode cX2_nearestAt 10 = .ok (.getfield 9, 3) := by decide +kernel
theorem dX2_nearestAt_13 : decode cX2_nearestAt 13 = .ok (.iload_n 1, 1) := by decide +kernel
theorem dX2_nearestAt_14 : decode cX2_nearestAt 14 = .ok (.iaload, 1) := by decide +kernel
theorem dX2_nearestAt_15 : decode cX2_nearestAt 15 = .ok (.goto 4, 3) := by decide +kernel
theorem dX2_nearestAt_18 : decode cX2_nearestAt 18 = .ok (.iconst (-1), 1) := by decide +kernel
theorem dX2_nearestAt_19 : decode cX2_nearestAt 19 = .ok (.ireturn, 1) := by decide +kernel
theorem dX2_nearestFarAt_0 : decode cX2_nearestFarAt 0 = .ok (.iload_n 1, 1) := by decide +kernel
theorem dX2_nearestFarAt_1 : decode cX2_nearestFarAt 1 = .ok (.ifCond .lt 17, 3) := by decide +kernel
theorem dX2_nearestFarAt_4 : decode cX2_nearestFarAt 4 = .ok (.iload_n 1, 1) := by decide +kernel
theorem dX2_nearestFarAt_5 : decode cX2_nearestFarAt 5 = .ok (.iconst 3, 1) := by decide +kernel
theorem dX2_nearestFarAt_6 : decode cX2_nearestFarAt 6 = .ok (.if_icmp .ge 12, 3) := by decide +kernel
theorem dX2_nearestFarAt_9 : decode cX2_nearestFarAt 9 = .ok (.aload_n 0, 1) := by decide +kernel
theorem dX2_nearestFarAt_10 : decode cX2_nearestFarAt 10 = .ok (.getfield 15, 3) := by decide +kernel
theorem dX2_nearestFarAt_13 : decode cX2_nearestFarAt 13 = .ok (.iload_n 1, 1) := by decide +kernel
theorem dX2_nearestFarAt_14 : decode cX2_nearestFarAt 14 = .ok (.iaload, 1) := by decide +kernel
theorem dX2_nearestFarAt_15 : decode cX2_nearestFarAt 15 = .ok (.goto 4, 3) := by decide +kernel
theorem dX2_nearestFarAt_18 : decode cX2_nearestFarAt 18 = .ok (.iconst (-1), 1) := by decide +kernel
theorem dX2_nearestFarAt_19 : decode cX2_nearestFarAt 19 = .ok (.ireturn, 1) := by decide +kernel
theorem dX2_holds_0 : decode cX2_holds 0 = .ok (.aload_n 0, 1) := by decide +kernel
theorem dX2_holds_1 : decode cX2_holds 1 = .ok (.iload_n 1, 1) := by decide +kernel
theorem dX2_holds_2 : decode cX2_holds 2 = .ok (.invokevirtual 21, 3) := by decide +kernel
theorem dX2_holds_5 : decode cX2_holds 5 = .ok (.iconst (-1), 1) := by decide +kernel
theorem dX2_holds_6 : decode cX2_holds 6 = .ok (.if_icmp .eq 7, 3) := by decide +kernel
theorem dX2_holds_9 : decode cX2_holds 9 = .ok (.iconst 1, 1) := by decide +kernel
theorem dX2_holds_10 : decode cX2_holds 10 = .ok (.goto 4, 3) := by decide +kernel
theorem dX2_holds_13 : decode cX2_holds 13 = .ok (.iconst 0, 1) := by decide +kernel
theorem dX2_holds_14 : decode cX2_holds 14 = .ok (.ireturn, 1) := by decide +kernel
theorem dX2_farOf_0 : decode cX2_farOf 0 = .ok (.aload_n 0, 1) := by decide +kernel
theorem dX2_farOf_1 : decode cX2_farOf 1 = .ok (.getfield 25, 3) := by decide +kernel
theorem dX2_farOf_4 : decode cX2_farOf 4 = .ok (.ifCond .eq 22, 3) := by decide +kernel
theorem dX2_farOf_7 : decode cX2_farOf 7 = .ok (.iload_n 1, 1) := by decide +kernel
theorem dX2_farOf_8 : decode cX2_farOf 8 = .ok (.ifCond .lt 18, 3) := by decide +kernel
theorem dX2_farOf_11 : decode cX2_farOf 11 = .ok (.iload_n 1, 1) := by decide +kernel
theorem dX2_farOf_12 : decode cX2_farOf 12 = .ok (.bipush 12, 2) := by decide +kernel
theorem dX2_farOf_14 : decode cX2_farOf 14 = .ok (.if_icmp .ge 12, 3) := by decide +kernel
theorem dX2_farOf_17 : decode cX2_farOf 17 = .ok (.aload_n 0, 1) := by decide +kernel
theorem dX2_farOf_18 : decode cX2_farOf 18 = .ok (.getfield 18, 3) := by decide +kernel
theorem dX2_farOf_21 : decode cX2_farOf 21 = .ok (.iload_n 1, 1) := by decide +kernel
theorem dX2_farOf_22 : decode cX2_farOf 22 = .ok (.iaload, 1) := by decide +kernel
theorem dX2_farOf_23 : decode cX2_farOf 23 = .ok (.goto 4, 3) := by decide +kernel
theorem dX2_farOf_26 : decode cX2_farOf 26 = .ok (.iconst (-1), 1) := by decide +kernel
theorem dX2_farOf_27 : decode cX2_farOf 27 = .ok (.ireturn, 1) := by decide +kernel
theorem dX2_write_0 : decode cX2_write 0 = .ok (.aload_n 0, 1) := by decide +kernel
theorem dX2_write_1 : decode cX2_write 1 = .ok (.iconst 1, 1) := by decide +kernel
theorem dX2_write_2 : decode cX2_write 2 = .ok (.putfield 25, 3) := by decide +kernel
theorem dX2_write_5 : decode cX2_write 5 = .ok (.iconst 0, 1) := by decide +kernel
theorem dX2_write_6 : decode cX2_write 6 = .ok (.istore 4, 2) := by decide +kernel
theorem dX2_write_8 : decode cX2_write 8 = .ok (.iload 4, 2) := by decide +kernel
theorem dX2_write_10 : decode cX2_write 10 = .ok (.iconst 3, 1) := by decide +kernel
theorem dX2_write_11 : decode cX2_write 11 = .ok (.if_icmp .ge 18, 3) := by decide +kernel
theorem dX2_write_14 : decode cX2_write 14 = .ok (.aload_n 0, 1) := by decide +kernel
theorem dX2_write_15 : decode cX2_write 15 = .ok (.aload_n 1, 1) := by decide +kernel
theorem dX2_write_16 : decode cX2_write 16 = .ok (.aload_n 2, 1) := by decide +kernel
theorem dX2_write_17 : decode cX2_write 17 = .ok (.iload_n 3, 1) := by decide +kernel
theorem dX2_write_18 : decode cX2_write 18 = .ok (.iload 4, 2) := by decide +kernel
theorem dX2_write_20 : decode cX2_write 20 = .ok (.invokevirtual 29, 3) := by decide +kernel
theorem dX2_write_23 : decode cX2_write 23 = .ok (.iinc 4 1, 3) := by decide +kernel
theorem dX2_write_26 : decode cX2_write 26 = .ok (.goto (-18), 3) := by decide +kernel
theorem dX2_write_29 : decode cX2_write 29 = .ok (.aload_n 0, 1) := by decide +kernel
theorem dX2_write_30 : decode cX2_write 30 = .ok (.iconst 0, 1) := by decide +kernel
theorem dX2_write_31 : decode cX2_write 31 = .ok (.putfield 33, 3) := by decide +kernel
theorem dX2_write_34 : decode cX2_write 34 = .ok (.iconst 0, 1) := by decide +kernel
theorem dX2_write_35 : decode cX2_write 35 = .ok (.istore 4, 2) := by decide +kernel
theorem dX2_write_37 : decode cX2_write 37 = .ok (.iload 4, 2) := by decide +kernel
theorem dX2_write_39 : decode cX2_write 39 = .ok (.bipush 12, 2) := by decide +kernel
theorem dX2_write_41 : decode cX2_write 41 = .ok (.if_icmp .ge 69, 3) := by decide +kernel
theorem dX2_write_44 : decode cX2_write 44 = .ok (.aload_n 0, 1) := by decide +kernel
theorem dX2_write_45 : decode cX2_write 45 = .ok (.getfield 18, 3) := by decide +kernel
theorem dX2_write_48 : decode cX2_write 48 = .ok (.iload 4, 2) := by decide +kernel
theorem dX2_write_50 : decode cX2_write 50 = .ok (.iconst (-1), 1) := by decide +kernel
theorem dX2_write_51 : decode cX2_write 51 = .ok (.iastore, 1) := by decide +kernel
theorem dX2_write_52 : decode cX2_write 52 = .ok (.aload_n 2, 1) := by decide +kernel
theorem dX2_write_53 : decode cX2_write 53 = .ok (.iload_n 3, 1) := by decide +kernel
theorem dX2_write_54 : decode cX2_write 54 = .ok (.iload 4, 2) := by decide +kernel
theorem dX2_write_56 : decode cX2_write 56 = .ok (.invokevirtual 37, 3) := by decide +kernel
theorem dX2_write_59 : decode cX2_write 59 = .ok (.istore 5, 2) := by decide +kernel
theorem dX2_write_61 : decode cX2_write 61 = .ok (.iload 5, 2) := by decide +kernel
theorem dX2_write_63 : decode cX2_write 63 = .ok (.iconst (-1), 1) := by decide +kernel
theorem dX2_write_64 : decode cX2_write 64 = .ok (.if_icmp .eq 40, 3) := by decide +kernel
theorem dX2_write_67 : decode cX2_write 67 = .ok (.aload_n 0, 1) := by decide +kernel
theorem dX2_write_68 : decode cX2_write 68 = .ok (.iload 5, 2) := by decide +kernel
theorem dX2_write_70 : decode cX2_write 70 = .ok (.aload_n 1, 1) := by decide +kernel
theorem dX2_write_71 : decode cX2_write 71 = .ok (.iload 4, 2) := by decide +kernel
theorem dX2_write_73 : decode cX2_write 73 = .ok (.invokevirtual 43, 3) := by decide +kernel
theorem dX2_write_76 : decode cX2_write 76 = .ok (.invokevirtual 48, 3) := by decide +kernel
theorem dX2_write_79 : decode cX2_write 79 = .ok (.ifCond .eq 25, 3) := by decide +kernel
theorem dX2_write_82 : decode cX2_write 82 = .ok (.aload_n 0, 1) := by decide +kernel
theorem dX2_write_83 : decode cX2_write 83 = .ok (.getfield 18, 3) := by decide +kernel
theorem dX2_write_86 : decode cX2_write 86 = .ok (.iload 4, 2) := by decide +kernel
theorem dX2_write_88 : decode cX2_write 88 = .ok (.iload 5, 2) := by decide +kernel
theorem dX2_write_90 : decode cX2_write 90 = .ok (.iastore, 1) := by decide +kernel
theorem dX2_write_91 : decode cX2_write 91 = .ok (.aload_n 0, 1) := by decide +kernel
theorem dX2_write_92 : decode cX2_write 92 = .ok (.dup, 1) := by decide +kernel
theorem dX2_write_93 : decode cX2_write 93 = .ok (.getfield 33, 3) := by decide +kernel
theorem dX2_write_96 : decode cX2_write 96 = .ok (.iconst 1, 1) := by decide +kernel
theorem dX2_write_97 : decode cX2_write 97 = .ok (.iload 4, 2) := by decide +kernel
theorem dX2_write_99 : decode cX2_write 99 = .ok (.ishl, 1) := by decide +kernel
theorem dX2_write_100 : decode cX2_write 100 = .ok (.ior, 1) := by decide +kernel
theorem dX2_write_101 : decode cX2_write 101 = .ok (.putfield 33, 3) := by decide +kernel
theorem dX2_write_104 : decode cX2_write 104 = .ok (.iinc 4 1, 3) := by decide +kernel
theorem dX2_write_107 : decode cX2_write 107 = .ok (.goto (-70), 3) := by decide +kernel
theorem dX2_write_110 : decode cX2_write 110 = .ok (.return_, 1) := by decide +kernel
theorem dX2_findNearest_0 : decode cX2_findNearest 0 = .ok (.aload_n 0, 1) := by decide +kernel
theorem dX2_findNearest_1 : decode cX2_findNearest 1 = .ok (.getfield 9, 3) := by decide +kernel
theorem dX2_findNearest_4 : decode cX2_findNearest 4 = .ok (.iload 4, 2) := by decide +kernel
theorem dX2_findNearest_6 : decode cX2_findNearest 6 = .ok (.iconst (-1), 1) := by decide +kernel
theorem dX2_findNearest_7 : decode cX2_findNearest 7 = .ok (.iastore, 1) := by decide +kernel
theorem dX2_findNearest_8 : decode cX2_findNearest 8 = .ok (.aload_n 0, 1) := by decide +kernel
theorem dX2_findNearest_9 : decode cX2_findNearest 9 = .ok (.getfield 15, 3) := by decide +kernel
theorem dX2_findNearest_12 : decode cX2_findNearest 12 = .ok (.iload 4, 2) := by decide +kernel
theorem dX2_findNearest_14 : decode cX2_findNearest 14 = .ok (.iconst (-1), 1) := by decide +kernel
theorem dX2_findNearest_15 : decode cX2_findNearest 15 = .ok (.iastore, 1) := by decide +kernel
theorem dX2_findNearest_16 : decode cX2_findNearest 16 = .ok (.iconst 0, 1) := by decide +kernel
theorem dX2_findNearest_17 : decode cX2_findNearest 17 = .ok (.istore 5, 2) := by decide +kernel
theorem dX2_findNearest_19 : decode cX2_findNearest 19 = .ok (.iload 5, 2) := by decide +kernel
theorem dX2_findNearest_21 : decode cX2_findNearest 21 = .ok (.aload_n 1, 1) := by decide +kernel
theorem dX2_findNearest_22 : decode cX2_findNearest 22 = .ok (.getfield 52, 3) := by decide +kernel
theorem dX2_findNearest_25 : decode cX2_findNearest 25 = .ok (.if_icmp .ge 79, 3) := by decide +kernel
theorem dX2_findNearest_28 : decode cX2_findNearest 28 = .ok (.aload_n 2, 1) := by decide +kernel
theorem dX2_findNearest_29 : decode cX2_findNearest 29 = .ok (.iload_n 3, 1) := by decide +kernel
theorem dX2_findNearest_30 : decode cX2_findNearest 30 = .ok (.iload 5, 2) := by decide +kernel
theorem dX2_findNearest_32 : decode cX2_findNearest 32 = .ok (.invokevirtual 37, 3) := by decide +kernel
theorem dX2_findNearest_35 : decode cX2_findNearest 35 = .ok (.istore 6, 2) := by decide +kernel
theorem dX2_findNearest_37 : decode cX2_findNearest 37 = .ok (.iload 6, 2) := by decide +kernel
theorem dX2_findNearest_39 : decode cX2_findNearest 39 = .ok (.iconst (-1), 1) := by decide +kernel
theorem dX2_findNearest_40 : decode cX2_findNearest 40 = .ok (.if_icmp .eq 58, 3) := by decide +kernel
theorem dX2_findNearest_43 : decode cX2_findNearest 43 = .ok (.aload_n 1, 1) := by decide +kernel
theorem dX2_findNearest_44 : decode cX2_findNearest 44 = .ok (.iload 5, 2) := by decide +kernel
theorem dX2_findNearest_46 : decode cX2_findNearest 46 = .ok (.invokevirtual 43, 3) := by decide +kernel
theorem dX2_findNearest_49 : decode cX2_findNearest 49 = .ok (.iload 4, 2) := by decide +kernel
theorem dX2_findNearest_51 : decode cX2_findNearest 51 = .ok (.if_icmp .ge 6, 3) := by decide +kernel
theorem dX2_findNearest_54 : decode cX2_findNearest 54 = .ok (.goto 44, 3) := by decide +kernel
theorem dX2_findNearest_57 : decode cX2_findNearest 57 = .ok (.aload_n 0, 1) := by decide +kernel
theorem dX2_findNearest_58 : decode cX2_findNearest 58 = .ok (.getfield 9, 3) := by decide +kernel
theorem dX2_findNearest_61 : decode cX2_findNearest 61 = .ok (.iload 4, 2) := by decide +kernel
theorem dX2_findNearest_63 : decode cX2_findNearest 63 = .ok (.iaload, 1) := by decide +kernel
theorem dX2_findNearest_64 : decode cX2_findNearest 64 = .ok (.iconst (-1), 1) := by decide +kernel
theorem dX2_findNearest_65 : decode cX2_findNearest 65 = .ok (.if_icmp .eq 15, 3) := by decide +kernel
theorem dX2_findNearest_68 : decode cX2_findNearest 68 = .ok (.iload 6, 2) := by decide +kernel
theorem dX2_findNearest_70 : decode cX2_findNearest 70 = .ok (.aload_n 0, 1) := by decide +kernel
theorem dX2_findNearest_71 : decode cX2_findNearest 71 = .ok (.getfield 15, 3) := by decide +kernel
theorem dX2_findNearest_74 : decode cX2_findNearest 74 = .ok (.iload 4, 2) := by decide +kernel
theorem dX2_findNearest_76 : decode cX2_findNearest 76 = .ok (.iaload, 1) := by decide +kernel
theorem dX2_findNearest_77 : decode cX2_findNearest 77 = .ok (.if_icmp .ge 21, 3) := by decide +kernel
theorem dX2_findNearest_80 : decode cX2_findNearest 80 = .ok (.aload_n 0, 1) := by decide +kernel
theorem dX2_findNearest_81 : decode cX2_findNearest 81 = .ok (.getfield 9, 3) := by decide +kernel
theorem dX2_findNearest_84 : decode cX2_findNearest 84 = .ok (.iload 4, 2) := by decide +kernel
theorem dX2_findNearest_86 : decode cX2_findNearest 86 = .ok (.iload 5, 2) := by decide +kernel
theorem dX2_findNearest_88 : decode cX2_findNearest 88 = .ok (.iastore, 1) := by decide +kernel
theorem dX2_findNearest_89 : decode cX2_findNearest 89 = .ok (.aload_n 0, 1) := by decide +kernel
theorem dX2_findNearest_90 : decode cX2_findNearest 90 = .ok (.getfield 15, 3) := by decide +kernel
theorem dX2_findNearest_93 : decode cX2_findNearest 93 = .ok (.iload 4, 2) := by decide +kernel
theorem dX2_findNearest_95 : decode cX2_findNearest 95 = .ok (.iload 6, 2) := by decide +kernel
theorem dX2_findNearest_97 : decode cX2_findNearest 97 = .ok (.iastore, 1) := by decide +kernel
theorem dX2_findNearest_98 : decode cX2_findNearest 98 = .ok (.iinc 5 1, 3) := by decide +kernel
theorem dX2_findNearest_101 : decode cX2_findNearest 101 = .ok (.goto (-82), 3) := by decide +kernel
theorem dX2_findNearest_104 : decode cX2_findNearest 104 = .ok (.return_, 1) := by decide +kernel
theorem dX2_isNear_0 : decode cX2_isNear 0 = .ok (.aload_n 0, 1) := by decide +kernel
theorem dX2_isNear_1 : decode cX2_isNear 1 = .ok (.iload_n 2, 1) := by decide +kernel
theorem dX2_isNear_2 : decode cX2_isNear 2 = .ok (.iconst 1, 1) := by decide +kernel
theorem dX2_isNear_3 : decode cX2_isNear 3 = .ok (.iadd, 1) := by decide +kernel
theorem dX2_isNear_4 : decode cX2_isNear 4 = .ok (.invokevirtual 55, 3) := by decide +kernel
theorem dX2_isNear_7 : decode cX2_isNear 7 = .ok (.istore_n 3, 1) := by decide +kernel
theorem dX2_isNear_8 : decode cX2_isNear 8 = .ok (.iload_n 3, 1) := by decide +kernel
theorem dX2_isNear_9 : decode cX2_isNear 9 = .ok (.iconst (-1), 1) := by decide +kernel
theorem dX2_isNear_10 : decode cX2_isNear 10 = .ok (.if_icmp .eq 8, 3) := by decide +kernel
theorem dX2_isNear_13 : decode cX2_isNear 13 = .ok (.iload_n 1, 1) := by decide +kernel
theorem dX2_isNear_14 : decode cX2_isNear 14 = .ok (.iload_n 3, 1) := by decide +kernel
theorem dX2_isNear_15 : decode cX2_isNear 15 = .ok (.if_icmp .ge 7, 3) := by decide +kernel
theorem dX2_isNear_18 : decode cX2_isNear 18 = .ok (.iconst 1, 1) := by decide +kernel
theorem dX2_isNear_19 : decode cX2_isNear 19 = .ok (.goto 4, 3) := by decide +kernel
theorem dX2_isNear_22 : decode cX2_isNear 22 = .ok (.iconst 0, 1) := by decide +kernel
theorem dX2_isNear_23 : decode cX2_isNear 23 = .ok (.ireturn, 1) := by decide +kernel
theorem dX2_bearsSameAs_0 : decode cX2_bearsSameAs 0 = .ok (.aload_n 0, 1) := by decide +kernel
theorem dX2_bearsSameAs_1 : decode cX2_bearsSameAs 1 = .ok (.getfield 25, 3) := by decide +kernel
theorem dX2_bearsSameAs_4 : decode cX2_bearsSameAs 4 = .ok (.ifCond .eq 10, 3) := by decide +kernel
theorem dX2_bearsSameAs_7 : decode cX2_bearsSameAs 7 = .ok (.aload_n 1, 1) := by decide +kernel
theorem dX2_bearsSameAs_8 : decode cX2_bearsSameAs 8 = .ok (.getfield 25, 3) := by decide +kernel
theorem dX2_bearsSameAs_11 : decode cX2_bearsSameAs 11 = .ok (.ifCond .ne 5, 3) := by decide +kernel
theorem dX2_bearsSameAs_14 : decode cX2_bearsSameAs 14 = .ok (.iconst 0, 1) := by decide +kernel
theorem dX2_bearsSameAs_15 : decode cX2_bearsSameAs 15 = .ok (.ireturn, 1) := by decide +kernel
theorem dX2_bearsSameAs_16 : decode cX2_bearsSameAs 16 = .ok (.iconst 0, 1) := by decide +kernel
theorem dX2_bearsSameAs_17 : decode cX2_bearsSameAs 17 = .ok (.istore_n 2, 1) := by decide +kernel
theorem dX2_bearsSameAs_18 : decode cX2_bearsSameAs 18 = .ok (.iload_n 2, 1) := by decide +kernel
theorem dX2_bearsSameAs_19 : decode cX2_bearsSameAs 19 = .ok (.iconst 3, 1) := by decide +kernel
theorem dX2_bearsSameAs_20 : decode cX2_bearsSameAs 20 = .ok (.if_icmp .ge 41, 3) := by decide +kernel
theorem dX2_bearsSameAs_23 : decode cX2_bearsSameAs 23 = .ok (.aload_n 0, 1) := by decide +kernel
theorem dX2_bearsSameAs_24 : decode cX2_bearsSameAs 24 = .ok (.getfield 9, 3) := by decide +kernel
theorem dX2_bearsSameAs_27 : decode cX2_bearsSameAs 27 = .ok (.iload_n 2, 1) := by decide +kernel
theorem dX2_bearsSameAs_28 : decode cX2_bearsSameAs 28 = .ok (.iaload, 1) := by decide +kernel
theorem dX2_bearsSameAs_29 : decode cX2_bearsSameAs 29 = .ok (.aload_n 1, 1) := by decide +kernel
theorem dX2_bearsSameAs_30 : decode cX2_bearsSameAs 30 = .ok (.getfield 9, 3) := by decide +kernel
theorem dX2_bearsSameAs_33 : decode cX2_bearsSameAs 33 = .ok (.iload_n 2, 1) := by decide +kernel
theorem dX2_bearsSameAs_34 : decode cX2_bearsSameAs 34 = .ok (.iaload, 1) := by decide +kernel
theorem dX2_bearsSameAs_35 : decode cX2_bearsSameAs 35 = .ok (.if_icmp .ne 18, 3) := by decide +kernel
theorem dX2_bearsSameAs_38 : decode cX2_bearsSameAs 38 = .ok (.aload_n 0, 1) := by decide +kernel
theorem dX2_bearsSameAs_39 : decode cX2_bearsSameAs 39 = .ok (.getfield 15, 3) := by decide +kernel
theorem dX2_bearsSameAs_42 : decode cX2_bearsSameAs 42 = .ok (.iload_n 2, 1) := by decide +kernel
theorem dX2_bearsSameAs_43 : decode cX2_bearsSameAs 43 = .ok (.iaload, 1) := by decide +kernel
theorem dX2_bearsSameAs_44 : decode cX2_bearsSameAs 44 = .ok (.aload_n 1, 1) := by decide +kernel
theorem dX2_bearsSameAs_45 : decode cX2_bearsSameAs 45 = .ok (.getfield 15, 3) := by decide +kernel
theorem dX2_bearsSameAs_48 : decode cX2_bearsSameAs 48 = .ok (.iload_n 2, 1) := by decide +kernel
theorem dX2_bearsSameAs_49 : decode cX2_bearsSameAs 49 = .ok (.iaload, 1) := by decide +kernel
theorem dX2_bearsSameAs_50 : decode cX2_bearsSameAs 50 = .ok (.if_icmp .eq 5, 3) := by decide +kernel
theorem dX2_bearsSameAs_53 : decode cX2_bearsSameAs 53 = .ok (.iconst 0, 1) := by decide +kernel
theorem dX2_bearsSameAs_54 : decode cX2_bearsSameAs 54 = .ok (.ireturn, 1) := by decide +kernel
theorem dX2_bearsSameAs_55 : decode cX2_bearsSameAs 55 = .ok (.iinc 2 1, 3) := by decide +kernel
theorem dX2_bearsSameAs_58 : decode cX2_bearsSameAs 58 = .ok (.goto (-40), 3) := by decide +kernel
theorem dX2_bearsSameAs_61 : decode cX2_bearsSameAs 61 = .ok (.iconst 0, 1) := by decide +kernel
theorem dX2_bearsSameAs_62 : decode cX2_bearsSameAs 62 = .ok (.istore_n 2, 1) := by decide +kernel
theorem dX2_bearsSameAs_63 : decode cX2_bearsSameAs 63 = .ok (.iload_n 2, 1) := by decide +kernel
theorem dX2_bearsSameAs_64 : decode cX2_bearsSameAs 64 = .ok (.bipush 12, 2) := by decide +kernel
theorem dX2_bearsSameAs_66 : decode cX2_bearsSameAs 66 = .ok (.if_icmp .ge 26, 3) := by decide +kernel
theorem dX2_bearsSameAs_69 : decode cX2_bearsSameAs 69 = .ok (.aload_n 0, 1) := by decide +kernel
theorem dX2_bearsSameAs_70 : decode cX2_bearsSameAs 70 = .ok (.getfield 18, 3) := by decide +kernel
theorem dX2_bearsSameAs_73 : decode cX2_bearsSameAs 73 = .ok (.iload_n 2, 1) := by decide +kernel
theorem dX2_bearsSameAs_74 : decode cX2_bearsSameAs 74 = .ok (.iaload, 1) := by decide +kernel
theorem dX2_bearsSameAs_75 : decode cX2_bearsSameAs 75 = .ok (.aload_n 1, 1) := by decide +kernel
theorem dX2_bearsSameAs_76 : decode cX2_bearsSameAs 76 = .ok (.getfield 18, 3) := by decide +kernel
theorem dX2_bearsSameAs_79 : decode cX2_bearsSameAs 79 = .ok (.iload_n 2, 1) := by decide +kernel
theorem dX2_bearsSameAs_80 : decode cX2_bearsSameAs 80 = .ok (.iaload, 1) := by decide +kernel
theorem dX2_bearsSameAs_81 : decode cX2_bearsSameAs 81 = .ok (.if_icmp .eq 5, 3) := by decide +kernel
theorem dX2_bearsSameAs_84 : decode cX2_bearsSameAs 84 = .ok (.iconst 0, 1) := by decide +kernel
theorem dX2_bearsSameAs_85 : decode cX2_bearsSameAs 85 = .ok (.ireturn, 1) := by decide +kernel
theorem dX2_bearsSameAs_86 : decode cX2_bearsSameAs 86 = .ok (.iinc 2 1, 3) := by decide +kernel
theorem dX2_bearsSameAs_89 : decode cX2_bearsSameAs 89 = .ok (.goto (-26), 3) := by decide +kernel
theorem dX2_bearsSameAs_92 : decode cX2_bearsSameAs 92 = .ok (.iconst 1, 1) := by decide +kernel
theorem dX2_bearsSameAs_93 : decode cX2_bearsSameAs 93 = .ok (.ireturn, 1) := by decide +kernel
theorem dX2_copyFrom_0 : decode cX2_copyFrom 0 = .ok (.aload_n 0, 1) := by decide +kernel
theorem dX2_copyFrom_1 : decode cX2_copyFrom 1 = .ok (.aload_n 1, 1) := by decide +kernel
theorem dX2_copyFrom_2 : decode cX2_copyFrom 2 = .ok (.getfield 25, 3) := by decide +kernel
theorem dX2_copyFrom_5 : decode cX2_copyFrom 5 = .ok (.putfield 25, 3) := by decide +kernel
theorem dX2_copyFrom_8 : decode cX2_copyFrom 8 = .ok (.aload_n 0, 1) := by decide +kernel
theorem dX2_copyFrom_9 : decode cX2_copyFrom 9 = .ok (.aload_n 1, 1) := by decide +kernel
theorem dX2_copyFrom_10 : decode cX2_copyFrom 10 = .ok (.getfield 33, 3) := by decide +kernel
theorem dX2_copyFrom_13 : decode cX2_copyFrom 13 = .ok (.putfield 33, 3) := by decide +kernel
theorem dX2_copyFrom_16 : decode cX2_copyFrom 16 = .ok (.aload_n 1, 1) := by decide +kernel
theorem dX2_copyFrom_17 : decode cX2_copyFrom 17 = .ok (.getfield 9, 3) := by decide +kernel
theorem dX2_copyFrom_20 : decode cX2_copyFrom 20 = .ok (.iconst 0, 1) := by decide +kernel
theorem dX2_copyFrom_21 : decode cX2_copyFrom 21 = .ok (.aload_n 0, 1) := by decide +kernel
theorem dX2_copyFrom_22 : decode cX2_copyFrom 22 = .ok (.getfield 9, 3) := by decide +kernel
theorem dX2_copyFrom_25 : decode cX2_copyFrom 25 = .ok (.iconst 0, 1) := by decide +kernel
theorem dX2_copyFrom_26 : decode cX2_copyFrom 26 = .ok (.iconst 3, 1) := by decide +kernel
theorem dX2_copyFrom_27 : decode cX2_copyFrom 27 = .ok (.invokestatic 58, 3) := by decide +kernel
theorem dX2_copyFrom_30 : decode cX2_copyFrom 30 = .ok (.aload_n 1, 1) := by decide +kernel
theorem dX2_copyFrom_31 : decode cX2_copyFrom 31 = .ok (.getfield 15, 3) := by decide +kernel
theorem dX2_copyFrom_34 : decode cX2_copyFrom 34 = .ok (.iconst 0, 1) := by decide +kernel
theorem dX2_copyFrom_35 : decode cX2_copyFrom 35 = .ok (.aload_n 0, 1) := by decide +kernel
theorem dX2_copyFrom_36 : decode cX2_copyFrom 36 = .ok (.getfield 15, 3) := by decide +kernel
theorem dX2_copyFrom_39 : decode cX2_copyFrom 39 = .ok (.iconst 0, 1) := by decide +kernel
theorem dX2_copyFrom_40 : decode cX2_copyFrom 40 = .ok (.iconst 3, 1) := by decide +kernel
theorem dX2_copyFrom_41 : decode cX2_copyFrom 41 = .ok (.invokestatic 58, 3) := by decide +kernel
theorem dX2_copyFrom_44 : decode cX2_copyFrom 44 = .ok (.aload_n 1, 1) := by decide +kernel
theorem dX2_copyFrom_45 : decode cX2_copyFrom 45 = .ok (.getfield 18, 3) := by decide +kernel
theorem dX2_copyFrom_48 : decode cX2_copyFrom 48 = .ok (.iconst 0, 1) := by decide +kernel
theorem dX2_copyFrom_49 : decode cX2_copyFrom 49 = .ok (.aload_n 0, 1) := by decide +kernel
theorem dX2_copyFrom_50 : decode cX2_copyFrom 50 = .ok (.getfield 18, 3) := by decide +kernel
theorem dX2_copyFrom_53 : decode cX2_copyFrom 53 = .ok (.iconst 0, 1) := by decide +kernel
theorem dX2_copyFrom_54 : decode cX2_copyFrom 54 = .ok (.bipush 12, 2) := by decide +kernel
theorem dX2_copyFrom_56 : decode cX2_copyFrom 56 = .ok (.invokestatic 58, 3) := by decide +kernel
theorem dX2_copyFrom_59 : decode cX2_copyFrom 59 = .ok (.return_, 1) := by decide +kernel
theorem dX3_init_0 : decode cX3_init 0 = .ok (.aload_n 0, 1) := by decide +kernel
theorem dX3_init_1 : decode cX3_init 1 = .ok (.invokespecial 3, 3) := by decide +kernel
theorem dX3_init_4 : decode cX3_init 4 = .ok (.aload_n 0, 1) := by decide +kernel
theorem dX3_init_5 : decode cX3_init 5 = .ok (.bipush 8, 2) := by decide +kernel
theorem dX3_init_7 : decode cX3_init 7 = .ok (.anewarray 9, 3) := by decide +kernel
theorem dX3_init_10 : decode cX3_init 10 = .ok (.putfield 11, 3) := by decide +kernel
theorem dX3_init_13 : decode cX3_init 13 = .ok (.iconst 0, 1) := by decide +kernel
theorem dX3_init_14 : decode cX3_init 14 = .ok (.istore_n 1, 1) := by decide +kernel
theorem dX3_init_15 : decode cX3_init 15 = .ok (.iload_n 1, 1) := by decide +kernel
theorem dX3_init_16 : decode cX3_init 16 = .ok (.bipush 8, 2) := by decide +kernel
theorem dX3_init_18 : decode cX3_init 18 = .ok (.if_icmp .ge 22, 3) := by decide +kernel
theorem dX3_init_21 : decode cX3_init 21 = .ok (.aload_n 0, 1) := by decide +kernel
theorem dX3_init_22 : decode cX3_init 22 = .ok (.getfield 11, 3) := by decide +kernel
theorem dX3_init_25 : decode cX3_init 25 = .ok (.iload_n 1, 1) := by decide +kernel
theorem dX3_init_26 : decode cX3_init 26 = .ok (.new 9, 3) := by decide +kernel
theorem dX3_init_29 : decode cX3_init 29 = .ok (.dup, 1) := by decide +kernel
theorem dX3_init_30 : decode cX3_init 30 = .ok (.invokespecial 17, 3) := by decide +kernel
theorem dX3_init_33 : decode cX3_init 33 = .ok (.aastore, 1) := by decide +kernel
theorem dX3_init_34 : decode cX3_init 34 = .ok (.iinc 1 1, 3) := by decide +kernel
theorem dX3_init_37 : decode cX3_init 37 = .ok (.goto (-22), 3) := by decide +kernel
theorem dX3_init_40 : decode cX3_init 40 = .ok (.return_, 1) := by decide +kernel
theorem dX3_push_0 : decode cX3_push 0 = .ok (.aload_n 0, 1) := by decide +kernel
theorem dX3_push_1 : decode cX3_push 1 = .ok (.getfield 11, 3) := by decide +kernel
theorem dX3_push_4 : decode cX3_push 4 = .ok (.aload_n 0, 1) := by decide +kernel
theorem dX3_push_5 : decode cX3_push 5 = .ok (.getfield 18, 3) := by decide +kernel
theorem dX3_push_8 : decode cX3_push 8 = .ok (.aaload, 1) := by decide +kernel
theorem dX3_push_9 : decode cX3_push 9 = .ok (.aload_n 1, 1) := by decide +kernel
theorem dX3_push_10 : decode cX3_push 10 = .ok (.invokevirtual 22, 3) := by decide +kernel
theorem dX3_push_13 : decode cX3_push 13 = .ok (.aload_n 0, 1) := by decide +kernel
theorem dX3_push_14 : decode cX3_push 14 = .ok (.aload_n 0, 1) := by decide +kernel
theorem dX3_push_15 : decode cX3_push 15 = .ok (.getfield 18, 3) := by decide +kernel
theorem dX3_push_18 : decode cX3_push 18 = .ok (.iconst 1, 1) := by decide +kernel
theorem dX3_push_19 : decode cX3_push 19 = .ok (.iadd, 1) := by decide +kernel
theorem dX3_push_20 : decode cX3_push 20 = .ok (.bipush 8, 2) := by decide +kernel
theorem dX3_push_22 : decode cX3_push 22 = .ok (.irem, 1) := by decide +kernel
theorem dX3_push_23 : decode cX3_push 23 = .ok (.putfield 18, 3) := by decide +kernel
theorem dX3_push_26 : decode cX3_push 26 = .ok (.aload_n 0, 1) := by decide +kernel
theorem dX3_push_27 : decode cX3_push 27 = .ok (.aload_n 0, 1) := by decide +kernel
theorem dX3_push_28 : decode cX3_push 28 = .ok (.getfield 26, 3) := by decide +kernel
theorem dX3_push_31 : decode cX3_push 31 = .ok (.iconst 1, 1) := by decide +kernel
theorem dX3_push_32 : decode cX3_push 32 = .ok (.iadd, 1) := by decide +kernel
theorem dX3_push_33 : decode cX3_push 33 = .ok (.bipush 8, 2) := by decide +kernel
theorem dX3_push_35 : decode cX3_push 35 = .ok (.invokestatic 29, 3) := by decide +kernel
theorem dX3_push_38 : decode cX3_push 38 = .ok (.putfield 26, 3) := by decide +kernel
theorem dX3_push_41 : decode cX3_push 41 = .ok (.return_, 1) := by decide +kernel
theorem dX3_pop_0 : decode cX3_pop 0 = .ok (.aload_n 0, 1) := by decide +kernel
theorem dX3_pop_1 : decode cX3_pop 1 = .ok (.getfield 26, 3) := by decide +kernel
theorem dX3_pop_4 : decode cX3_pop 4 = .ok (.ifCond .ne 4, 3) := by decide +kernel
theorem dX3_pop_7 : decode cX3_pop 7 = .ok (.return_, 1) := by decide +kernel
theorem dX3_pop_8 : decode cX3_pop 8 = .ok (.aload_n 0, 1) := by decide +kernel
theorem dX3_pop_9 : decode cX3_pop 9 = .ok (.aload_n 0, 1) := by decide +kernel
theorem dX3_pop_10 : decode cX3_pop 10 = .ok (.getfield 18, 3) := by decide +kernel
theorem dX3_pop_13 : decode cX3_pop 13 = .ok (.bipush 8, 2) := by decide +kernel
theorem dX3_pop_15 : decode cX3_pop 15 = .ok (.iadd, 1) := by decide +kernel
theorem dX3_pop_16 : decode cX3_pop 16 = .ok (.iconst 1, 1) := by decide +kernel
theorem dX3_pop_17 : decode cX3_pop 17 = .ok (.isub, 1) := by decide +kernel
theorem dX3_pop_18 : decode cX3_pop 18 = .ok (.bipush 8, 2) := by decide +kernel
theorem dX3_pop_20 : decode cX3_pop 20 = .ok (.irem, 1) := by decide +kernel
theorem dX3_pop_21 : decode cX3_pop 21 = .ok (.putfield 18, 3) := by decide +kernel
theorem dX3_pop_24 : decode cX3_pop 24 = .ok (.aload_n 0, 1) := by decide +kernel
theorem dX3_pop_25 : decode cX3_pop 25 = .ok (.dup, 1) := by decide +kernel
theorem dX3_pop_26 : decode cX3_pop 26 = .ok (.getfield 26, 3) := by decide +kernel
theorem dX3_pop_29 : decode cX3_pop 29 = .ok (.iconst 1, 1) := by decide +kernel
theorem dX3_pop_30 : decode cX3_pop 30 = .ok (.isub, 1) := by decide +kernel
theorem dX3_pop_31 : decode cX3_pop 31 = .ok (.putfield 26, 3) := by decide +kernel
theorem dX3_pop_34 : decode cX3_pop 34 = .ok (.aload_n 1, 1) := by decide +kernel
theorem dX3_pop_35 : decode cX3_pop 35 = .ok (.aload_n 0, 1) := by decide +kernel
theorem dX3_pop_36 : decode cX3_pop 36 = .ok (.getfield 11, 3) := by decide +kernel
theorem dX3_pop_39 : decode cX3_pop 39 = .ok (.aload_n 0, 1) := by decide +kernel
theorem dX3_pop_40 : decode cX3_pop 40 = .ok (.getfield 18, 3) := by decide +kernel
theorem dX3_pop_43 : decode cX3_pop 43 = .ok (.aaload, 1) := by decide +kernel
theorem dX3_pop_44 : decode cX3_pop 44 = .ok (.invokevirtual 22, 3) := by decide +kernel
theorem dX3_pop_47 : decode cX3_pop 47 = .ok (.return_, 1) := by decide +kernel
theorem dX4_init_0 : decode cX4_init 0 = .ok (.aload_n 0, 1) := by decide +kernel
theorem dX4_init_1 : decode cX4_init 1 = .ok (.invokespecial 1, 3) := by decide +kernel
theorem dX4_init_4 : decode cX4_init 4 = .ok (.return_, 1) := by decide +kernel
theorem dX4_clear_0 : decode cX4_clear 0 = .ok (.aload_n 0, 1) := by decide +kernel
theorem dX4_clear_1 : decode cX4_clear 1 = .ok (.iconst 0, 1) := by decide +kernel
theorem dX4_clear_2 : decode cX4_clear 2 = .ok (.putfield 7, 3) := by decide +kernel
theorem dX4_clear_5 : decode cX4_clear 5 = .ok (.return_, 1) := by decide +kernel
theorem dX4_offer_0 : decode cX4_offer 0 = .ok (.aload_n 0, 1) := by decide +kernel
theorem dX4_offer_1 : decode cX4_offer 1 = .ok (.getfield 7, 3) := by decide +kernel
theorem dX4_offer_4 : decode cX4_offer 4 = .ok (.ifCond .eq 18, 3) := by decide +kernel
theorem dX4_offer_7 : decode cX4_offer 7 = .ok (.iload_n 1, 1) := by decide +kernel
theorem dX4_offer_8 : decode cX4_offer 8 = .ok (.aload_n 0, 1) := by decide +kernel
theorem dX4_offer_9 : decode cX4_offer 9 = .ok (.getfield 13, 3) := by decide +kernel
theorem dX4_offer_12 : decode cX4_offer 12 = .ok (.imul, 1) := by decide +kernel
theorem dX4_offer_13 : decode cX4_offer 13 = .ok (.aload_n 0, 1) := by decide +kernel
theorem dX4_offer_14 : decode cX4_offer 14 = .ok (.getfield 16, 3) := by decide +kernel
theorem dX4_offer_17 : decode cX4_offer 17 = .ok (.iload_n 2, 1) := by decide +kernel
theorem dX4_offer_18 : decode cX4_offer 18 = .ok (.imul, 1) := by decide +kernel
theorem dX4_offer_19 : decode cX4_offer 19 = .ok (.if_icmp .le 24, 3) := by decide +kernel
theorem dX4_offer_22 : decode cX4_offer 22 = .ok (.aload_n 0, 1) := by decide +kernel
theorem dX4_offer_23 : decode cX4_offer 23 = .ok (.iload_n 1, 1) := by decide +kernel
theorem dX4_offer_24 : decode cX4_offer 24 = .ok (.putfield 16, 3) := by decide +kernel
theorem dX4_offer_27 : decode cX4_offer 27 = .ok (.aload_n 0, 1) := by decide +kernel
theorem dX4_offer_28 : decode cX4_offer 28 = .ok (.iload_n 2, 1) := by decide +kernel
theorem dX4_offer_29 : decode cX4_offer 29 = .ok (.putfield 13, 3) := by decide +kernel
theorem dX4_offer_32 : decode cX4_offer 32 = .ok (.aload_n 0, 1) := by decide +kernel
theorem dX4_offer_33 : decode cX4_offer 33 = .ok (.iload_n 3, 1) := by decide +kernel
theorem dX4_offer_34 : decode cX4_offer 34 = .ok (.putfield 19, 3) := by decide +kernel
theorem dX4_offer_37 : decode cX4_offer 37 = .ok (.aload_n 0, 1) := by decide +kernel
theorem dX4_offer_38 : decode cX4_offer 38 = .ok (.iload 4, 2) := by decide +kernel
theorem dX4_offer_40 : decode cX4_offer 40 = .ok (.putfield 22, 3) := by decide +kernel
theorem dX4_offer_43 : decode cX4_offer 43 = .ok (.aload_n 0, 1) := by decide +kernel
theorem dX4_offer_44 : decode cX4_offer 44 = .ok (.dup, 1) := by decide +kernel
theorem dX4_offer_45 : decode cX4_offer 45 = .ok (.getfield 7, 3) := by decide +kernel
theorem dX4_offer_48 : decode cX4_offer 48 = .ok (.iconst 1, 1) := by decide +kernel
theorem dX4_offer_49 : decode cX4_offer 49 = .ok (.iadd, 1) := by decide +kernel
theorem dX4_offer_50 : decode cX4_offer 50 = .ok (.putfield 7, 3) := by decide +kernel
theorem dX4_offer_53 : decode cX4_offer 53 = .ok (.return_, 1) := by decide +kernel
theorem dX5_init_0 : decode cX5_init 0 = .ok (.aload_n 0, 1) := by decide +kernel
theorem dX5_init_1 : decode cX5_init 1 = .ok (.invokespecial 1, 3) := by decide +kernel
theorem dX5_init_4 : decode cX5_init 4 = .ok (.aload_n 0, 1) := by decide +kernel
theorem dX5_init_5 : decode cX5_init 5 = .ok (.new 7, 3) := by decide +kernel
theorem dX5_init_8 : decode cX5_init 8 = .ok (.dup, 1) := by decide +kernel
theorem dX5_init_9 : decode cX5_init 9 = .ok (.invokespecial 9, 3) := by decide +kernel
theorem dX5_init_12 : decode cX5_init 12 = .ok (.putfield 10, 3) := by decide +kernel
theorem dX5_init_15 : decode cX5_init 15 = .ok (.aload_n 0, 1) := by decide +kernel
theorem dX5_init_16 : decode cX5_init 16 = .ok (.invokestatic 16, 3) := by decide +kernel
theorem dX5_init_19 : decode cX5_init 19 = .ok (.putfield 22, 3) := by decide +kernel
theorem dX5_init_22 : decode cX5_init 22 = .ok (.return_, 1) := by decide +kernel
theorem dX6_init_0 : decode cX6_init 0 = .ok (.aload_n 0, 1) := by decide +kernel
theorem dX6_init_1 : decode cX6_init 1 = .ok (.invokespecial 3, 3) := by decide +kernel
theorem dX6_init_4 : decode cX6_init 4 = .ok (.return_, 1) := by decide +kernel
theorem dX6_tell_0 : decode cX6_tell 0 = .ok (.iload_n 2, 1) := by decide +kernel
theorem dX6_tell_1 : decode cX6_tell 1 = .ok (.istore 4, 2) := by decide +kernel
theorem dX6_tell_3 : decode cX6_tell 3 = .ok (.iload_n 3, 1) := by decide +kernel
theorem dX6_tell_4 : decode cX6_tell 4 = .ok (.istore 5, 2) := by decide +kernel
theorem dX6_tell_6 : decode cX6_tell 6 = .ok (.iconst 0, 1) := by decide +kernel
theorem dX6_tell_7 : decode cX6_tell 7 = .ok (.istore 6, 2) := by decide +kernel
theorem dX6_tell_9 : decode cX6_tell 9 = .ok (.iload 6, 2) := by decide +kernel
theorem dX6_tell_11 : decode cX6_tell 11 = .ok (.iconst 3, 1) := by decide +kernel
theorem dX6_tell_12 : decode cX6_tell 12 = .ok (.if_icmp .ge 49, 3) := by decide +kernel
theorem dX6_tell_15 : decode cX6_tell 15 = .ok (.aload_n 0, 1) := by decide +kernel
theorem dX6_tell_16 : decode cX6_tell 16 = .ok (.iload 6, 2) := by decide +kernel
theorem dX6_tell_18 : decode cX6_tell 18 = .ok (.putfield 9, 3) := by decide +kernel
theorem dX6_tell_21 : decode cX6_tell 21 = .ok (.aload_n 0, 1) := by decide +kernel
theorem dX6_tell_22 : decode cX6_tell 22 = .ok (.aload_n 0, 1) := by decide +kernel
theorem dX6_tell_23 : decode cX6_tell 23 = .ok (.aload_n 1, 1) := by decide +kernel
theorem dX6_tell_24 : decode cX6_tell 24 = .ok (.iload 4, 2) := by decide +kernel
theorem dX6_tell_26 : decode cX6_tell 26 = .ok (.iload 5, 2) := by decide +kernel
theorem dX6_tell_28 : decode cX6_tell 28 = .ok (.invokevirtual 15, 3) := by decide +kernel
theorem dX6_tell_31 : decode cX6_tell 31 = .ok (.putfield 19, 3) := by decide +kernel
theorem dX6_tell_34 : decode cX6_tell 34 = .ok (.aload_n 0, 1) := by decide +kernel
theorem dX6_tell_35 : decode cX6_tell 35 = .ok (.getfield 19, 3) := by decide +kernel
theorem dX6_tell_38 : decode cX6_tell 38 = .ok (.iconst 3, 1) := by decide +kernel
theorem dX6_tell_39 : decode cX6_tell 39 = .ok (.if_icmp .eq 4, 3) := by decide +kernel
theorem dX6_tell_42 : decode cX6_tell 42 = .ok (.return_, 1) := by decide +kernel
theorem dX6_tell_43 : decode cX6_tell 43 = .ok (.iload 4, 2) := by decide +kernel
theorem dX6_tell_45 : decode cX6_tell 45 = .ok (.istore 7, 2) := by decide +kernel
theorem dX6_tell_47 : decode cX6_tell 47 = .ok (.iload 5, 2) := by decide +kernel
theorem dX6_tell_49 : decode cX6_tell 49 = .ok (.istore 4, 2) := by decide +kernel
theorem dX6_tell_51 : decode cX6_tell 51 = .ok (.iload 7, 2) := by decide +kernel
theorem dX6_tell_53 : decode cX6_tell 53 = .ok (.istore 5, 2) := by decide +kernel
theorem dX6_tell_55 : decode cX6_tell 55 = .ok (.iinc 6 1, 3) := by decide +kernel
theorem dX6_tell_58 : decode cX6_tell 58 = .ok (.goto (-49), 3) := by decide +kernel
theorem dX6_tell_61 : decode cX6_tell 61 = .ok (.return_, 1) := by decide +kernel
theorem dX6_look_0 : decode cX6_look 0 = .ok (.aload_n 0, 1) := by decide +kernel
theorem dX6_look_1 : decode cX6_look 1 = .ok (.iload_n 2, 1) := by decide +kernel
theorem dX6_look_2 : decode cX6_look 2 = .ok (.putfield 22, 3) := by decide +kernel
theorem dX6_look_5 : decode cX6_look 5 = .ok (.aload_n 1, 1) := by decide +kernel
theorem dX6_look_6 : decode cX6_look 6 = .ok (.iload_n 2, 1) := by decide +kernel
theorem dX6_look_7 : decode cX6_look 7 = .ok (.aaload, 1) := by decide +kernel
theorem dX6_look_8 : decode cX6_look 8 = .ok (.getfield 25, 3) := by decide +kernel
theorem dX6_look_11 : decode cX6_look 11 = .ok (.ifCond .ne 5, 3) := by decide +kernel
theorem dX6_look_14 : decode cX6_look 14 = .ok (.iconst 1, 1) := by decide +kernel
theorem dX6_look_15 : decode cX6_look 15 = .ok (.ireturn, 1) := by decide +kernel
theorem dX6_look_16 : decode cX6_look 16 = .ok (.aload_n 0, 1) := by decide +kernel
theorem dX6_look_17 : decode cX6_look 17 = .ok (.aload_n 1, 1) := by decide +kernel
theorem dX6_look_18 : decode cX6_look 18 = .ok (.iload_n 2, 1) := by decide +kernel
theorem dX6_look_19 : decode cX6_look 19 = .ok (.aaload, 1) := by decide +kernel
theorem dX6_look_20 : decode cX6_look 20 = .ok (.aload_n 0, 1) := by decide +kernel
theorem dX6_look_21 : decode cX6_look 21 = .ok (.getfield 9, 3) := by decide +kernel
theorem dX6_look_24 : decode cX6_look 24 = .ok (.invokevirtual 31, 3) := by decide +kernel
theorem dX6_look_27 : decode cX6_look 27 = .ok (.putfield 35, 3) := by decide +kernel
theorem dX6_look_30 : decode cX6_look 30 = .ok (.aload_n 0, 1) := by decide +kernel
theorem dX6_look_31 : decode cX6_look 31 = .ok (.getfield 35, 3) := by decide +kernel
theorem dX6_look_34 : decode cX6_look 34 = .ok (.iconst (-1), 1) := by decide +kernel
theorem dX6_look_35 : decode cX6_look 35 = .ok (.if_icmp .ne 5, 3) := by decide +kernel
theorem dX6_look_38 : decode cX6_look 38 = .ok (.iconst 2, 1) := by decide +kernel
theorem dX6_look_39 : decode cX6_look 39 = .ok (.ireturn, 1) := by decide +kernel
theorem dX6_look_40 : decode cX6_look 40 = .ok (.aload_n 0, 1) := by decide +kernel
theorem dX6_look_41 : decode cX6_look 41 = .ok (.iload_n 3, 1) := by decide +kernel
theorem dX6_look_42 : decode cX6_look 42 = .ok (.putfield 22, 3) := by decide +kernel
theorem dX6_look_45 : decode cX6_look 45 = .ok (.aload_n 1, 1) := by decide +kernel
theorem dX6_look_46 : decode cX6_look 46 = .ok (.iload_n 3, 1) := by decide +kernel
theorem dX6_look_47 : decode cX6_look 47 = .ok (.aaload, 1) := by decide +kernel
theorem dX6_look_48 : decode cX6_look 48 = .ok (.getfield 25, 3) := by decide +kernel
theorem dX6_look_51 : decode cX6_look 51 = .ok (.ifCond .ne 5, 3) := by decide +kernel
theorem dX6_look_54 : decode cX6_look 54 = .ok (.iconst 1, 1) := by decide +kernel
theorem dX6_look_55 : decode cX6_look 55 = .ok (.ireturn, 1) := by decide +kernel
theorem dX6_look_56 : decode cX6_look 56 = .ok (.aload_n 1, 1) := by decide +kernel
theorem dX6_look_57 : decode cX6_look 57 = .ok (.iload_n 3, 1) := by decide +kernel
theorem dX6_look_58 : decode cX6_look 58 = .ok (.aaload, 1) := by decide +kernel
theorem dX6_look_59 : decode cX6_look 59 = .ok (.aload_n 0, 1) := by decide +kernel
theorem dX6_look_60 : decode cX6_look 60 = .ok (.getfield 35, 3) := by decide +kernel
theorem dX6_look_63 : decode cX6_look 63 = .ok (.invokevirtual 38, 3) := by decide +kernel
theorem dX6_look_66 : decode cX6_look 66 = .ok (.ifCond .ne 5, 3) := by decide +kernel
theorem dX6_look_69 : decode cX6_look 69 = .ok (.iconst 3, 1) := by decide +kernel
theorem dX6_look_70 : decode cX6_look 70 = .ok (.ireturn, 1) := by decide +kernel
theorem dX6_look_71 : decode cX6_look 71 = .ok (.aload_n 0, 1) := by decide +kernel
theorem dX6_look_72 : decode cX6_look 72 = .ok (.aload_n 1, 1) := by decide +kernel
theorem dX6_look_73 : decode cX6_look 73 = .ok (.iload_n 2, 1) := by decide +kernel
theorem dX6_look_74 : decode cX6_look 74 = .ok (.aaload, 1) := by decide +kernel
theorem dX6_look_75 : decode cX6_look 75 = .ok (.aload_n 0, 1) := by decide +kernel
theorem dX6_look_76 : decode cX6_look 76 = .ok (.getfield 9, 3) := by decide +kernel
theorem dX6_look_79 : decode cX6_look 79 = .ok (.invokevirtual 42, 3) := by decide +kernel
theorem dX6_look_82 : decode cX6_look 82 = .ok (.aload_n 1, 1) := by decide +kernel
theorem dX6_look_83 : decode cX6_look 83 = .ok (.iload_n 3, 1) := by decide +kernel
theorem dX6_look_84 : decode cX6_look 84 = .ok (.aaload, 1) := by decide +kernel
theorem dX6_look_85 : decode cX6_look 85 = .ok (.aload_n 0, 1) := by decide +kernel
end
section
theorem dX6_look_86 : decode cX6_look 86 = .ok (.getfield 35, 3) := by decide +kernel
theorem dX6_look_89 : decode cX6_look 89 = .ok (.invokevirtual 45, 3) := by decide +kernel
theorem dX6_look_92 : decode cX6_look 92 = .ok (.iadd, 1) := by decide +kernel
theorem dX6_look_93 : decode cX6_look 93 = .ok (.putfield 48, 3) := by decide +kernel
theorem dX6_look_96 : decode cX6_look 96 = .ok (.iconst 0, 1) := by decide +kernel
theorem dX6_look_97 : decode cX6_look 97 = .ok (.ireturn, 1) := by decide +kernel
theorem dX7_init_0 : decode cX7_init 0 = .ok (.aload_n 0, 1) := by decide +kernel
theorem dX7_init_1 : decode cX7_init 1 = .ok (.invokespecial 3, 3) := by decide +kernel
theorem dX7_init_4 : decode cX7_init 4 = .ok (.aload_n 0, 1) := by decide +kernel
theorem dX7_init_5 : decode cX7_init 5 = .ok (.sipush 200, 3) := by decide +kernel
theorem dX7_init_8 : decode cX7_init 8 = .ok (.newarray .int, 2) := by decide +kernel
theorem dX7_init_10 : decode cX7_init 10 = .ok (.putfield 9, 3) := by decide +kernel
theorem dX7_init_13 : decode cX7_init 13 = .ok (.return_, 1) := by decide +kernel
theorem dX7_append_0 : decode cX7_append 0 = .ok (.aload_n 0, 1) := by decide +kernel
theorem dX7_append_1 : decode cX7_append 1 = .ok (.getfield 15, 3) := by decide +kernel
theorem dX7_append_4 : decode cX7_append 4 = .ok (.sipush 200, 3) := by decide +kernel
theorem dX7_append_7 : decode cX7_append 7 = .ok (.if_icmp .ge 23, 3) := by decide +kernel
theorem dX7_append_10 : decode cX7_append 10 = .ok (.aload_n 0, 1) := by decide +kernel
theorem dX7_append_11 : decode cX7_append 11 = .ok (.getfield 9, 3) := by decide +kernel
theorem dX7_append_14 : decode cX7_append 14 = .ok (.aload_n 0, 1) := by decide +kernel
theorem dX7_append_15 : decode cX7_append 15 = .ok (.getfield 15, 3) := by decide +kernel
theorem dX7_append_18 : decode cX7_append 18 = .ok (.iload_n 1, 1) := by decide +kernel
theorem dX7_append_19 : decode cX7_append 19 = .ok (.iastore, 1) := by decide +kernel
theorem dX7_append_20 : decode cX7_append 20 = .ok (.aload_n 0, 1) := by decide +kernel
theorem dX7_append_21 : decode cX7_append 21 = .ok (.dup, 1) := by decide +kernel
theorem dX7_append_22 : decode cX7_append 22 = .ok (.getfield 15, 3) := by decide +kernel
theorem dX7_append_25 : decode cX7_append 25 = .ok (.iconst 1, 1) := by decide +kernel
theorem dX7_append_26 : decode cX7_append 26 = .ok (.iadd, 1) := by decide +kernel
theorem dX7_append_27 : decode cX7_append 27 = .ok (.putfield 15, 3) := by decide +kernel
theorem dX7_append_30 : decode cX7_append 30 = .ok (.return_, 1) := by decide +kernel
theorem dX7_readInto_0 : decode cX7_readInto 0 = .ok (.aload_n 0, 1) := by decide +kernel
theorem dX7_readInto_1 : decode cX7_readInto 1 = .ok (.iconst 0, 1) := by decide +kernel
theorem dX7_readInto_2 : decode cX7_readInto 2 = .ok (.putfield 19, 3) := by decide +kernel
theorem dX7_readInto_5 : decode cX7_readInto 5 = .ok (.aload_n 0, 1) := by decide +kernel
theorem dX7_readInto_6 : decode cX7_readInto 6 = .ok (.iconst 0, 1) := by decide +kernel
theorem dX7_readInto_7 : decode cX7_readInto 7 = .ok (.putfield 22, 3) := by decide +kernel
theorem dX7_readInto_10 : decode cX7_readInto 10 = .ok (.aload_n 0, 1) := by decide +kernel
theorem dX7_readInto_11 : decode cX7_readInto 11 = .ok (.iconst 0, 1) := by decide +kernel
theorem dX7_readInto_12 : decode cX7_readInto 12 = .ok (.putfield 26, 3) := by decide +kernel
theorem dX7_readInto_15 : decode cX7_readInto 15 = .ok (.aload_n 0, 1) := by decide +kernel
theorem dX7_readInto_16 : decode cX7_readInto 16 = .ok (.invokevirtual 29, 3) := by decide +kernel
theorem dX7_readInto_19 : decode cX7_readInto 19 = .ok (.iconst 0, 1) := by decide +kernel
theorem dX7_readInto_20 : decode cX7_readInto 20 = .ok (.istore_n 2, 1) := by decide +kernel
theorem dX7_readInto_21 : decode cX7_readInto 21 = .ok (.iload_n 2, 1) := by decide +kernel
theorem dX7_readInto_22 : decode cX7_readInto 22 = .ok (.bipush 24, 2) := by decide +kernel
theorem dX7_readInto_24 : decode cX7_readInto 24 = .ok (.if_icmp .ge 67, 3) := by decide +kernel
theorem dX7_readInto_27 : decode cX7_readInto 27 = .ok (.aload_n 0, 1) := by decide +kernel
theorem dX7_readInto_28 : decode cX7_readInto 28 = .ok (.aload_n 1, 1) := by decide +kernel
theorem dX7_readInto_29 : decode cX7_readInto 29 = .ok (.invokevirtual 32, 3) := by decide +kernel
theorem dX7_readInto_32 : decode cX7_readInto 32 = .ok (.ifCond .ne 8, 3) := by decide +kernel
theorem dX7_readInto_35 : decode cX7_readInto 35 = .ok (.aload_n 0, 1) := by decide +kernel
theorem dX7_readInto_36 : decode cX7_readInto 36 = .ok (.getfield 36, 3) := by decide +kernel
theorem dX7_readInto_39 : decode cX7_readInto 39 = .ok (.ireturn, 1) := by decide +kernel
theorem dX7_readInto_40 : decode cX7_readInto 40 = .ok (.aload_n 0, 1) := by decide +kernel
theorem dX7_readInto_41 : decode cX7_readInto 41 = .ok (.dup, 1) := by decide +kernel
theorem dX7_readInto_42 : decode cX7_readInto 42 = .ok (.getfield 19, 3) := by decide +kernel
theorem dX7_readInto_45 : decode cX7_readInto 45 = .ok (.iconst 1, 1) := by decide +kernel
theorem dX7_readInto_46 : decode cX7_readInto 46 = .ok (.iadd, 1) := by decide +kernel
theorem dX7_readInto_47 : decode cX7_readInto 47 = .ok (.putfield 19, 3) := by decide +kernel
theorem dX7_readInto_50 : decode cX7_readInto 50 = .ok (.aload_n 0, 1) := by decide +kernel
theorem dX7_readInto_51 : decode cX7_readInto 51 = .ok (.getfield 39, 3) := by decide +kernel
theorem dX7_readInto_54 : decode cX7_readInto 54 = .ok (.iconst 4, 1) := by decide +kernel
theorem dX7_readInto_55 : decode cX7_readInto 55 = .ok (.if_icmp .ne 5, 3) := by decide +kernel
theorem dX7_readInto_58 : decode cX7_readInto 58 = .ok (.iconst (-1), 1) := by decide +kernel
theorem dX7_readInto_59 : decode cX7_readInto 59 = .ok (.ireturn, 1) := by decide +kernel
theorem dX7_readInto_60 : decode cX7_readInto 60 = .ok (.aload_n 0, 1) := by decide +kernel
theorem dX7_readInto_61 : decode cX7_readInto 61 = .ok (.invokevirtual 42, 3) := by decide +kernel
theorem dX7_readInto_64 : decode cX7_readInto 64 = .ok (.ifCond .eq 12, 3) := by decide +kernel
theorem dX7_readInto_67 : decode cX7_readInto 67 = .ok (.aload_n 0, 1) := by decide +kernel
theorem dX7_readInto_68 : decode cX7_readInto 68 = .ok (.getfield 19, 3) := by decide +kernel
theorem dX7_readInto_71 : decode cX7_readInto 71 = .ok (.bipush 24, 2) := by decide +kernel
theorem dX7_readInto_73 : decode cX7_readInto 73 = .ok (.if_icmp .ne 8, 3) := by decide +kernel
theorem dX7_readInto_76 : decode cX7_readInto 76 = .ok (.aload_n 0, 1) := by decide +kernel
theorem dX7_readInto_77 : decode cX7_readInto 77 = .ok (.getfield 36, 3) := by decide +kernel
theorem dX7_readInto_80 : decode cX7_readInto 80 = .ok (.ireturn, 1) := by decide +kernel
theorem dX7_readInto_81 : decode cX7_readInto 81 = .ok (.aload_n 0, 1) := by decide +kernel
theorem dX7_readInto_82 : decode cX7_readInto 82 = .ok (.invokevirtual 29, 3) := by decide +kernel
theorem dX7_readInto_85 : decode cX7_readInto 85 = .ok (.iinc 2 1, 3) := by decide +kernel
theorem dX7_readInto_88 : decode cX7_readInto 88 = .ok (.goto (-67), 3) := by decide +kernel
theorem dX7_readInto_91 : decode cX7_readInto 91 = .ok (.aload_n 0, 1) := by decide +kernel
theorem dX7_readInto_92 : decode cX7_readInto 92 = .ok (.getfield 36, 3) := by decide +kernel
theorem dX7_readInto_95 : decode cX7_readInto 95 = .ok (.ireturn, 1) := by decide +kernel
theorem dX7_readClause_0 : decode cX7_readClause 0 = .ok (.aload_n 0, 1) := by decide +kernel
theorem dX7_readClause_1 : decode cX7_readClause 1 = .ok (.ldc 46, 2) := by decide +kernel
theorem dX7_readClause_3 : decode cX7_readClause 3 = .ok (.invokevirtual 48, 3) := by decide +kernel
theorem dX7_readClause_6 : decode cX7_readClause 6 = .ok (.ifCond .eq 9, 3) := by decide +kernel
theorem dX7_readClause_9 : decode cX7_readClause 9 = .ok (.aload_n 0, 1) := by decide +kernel
theorem dX7_readClause_10 : decode cX7_readClause 10 = .ok (.aload_n 1, 1) := by decide +kernel
theorem dX7_readClause_11 : decode cX7_readClause 11 = .ok (.invokevirtual 52, 3) := by decide +kernel
theorem dX7_readClause_14 : decode cX7_readClause 14 = .ok (.ireturn, 1) := by decide +kernel
theorem dX7_readClause_15 : decode cX7_readClause 15 = .ok (.aload_n 0, 1) := by decide +kernel
theorem dX7_readClause_16 : decode cX7_readClause 16 = .ok (.ldc 55, 2) := by decide +kernel
theorem dX7_readClause_18 : decode cX7_readClause 18 = .ok (.invokevirtual 48, 3) := by decide +kernel
theorem dX7_readClause_21 : decode cX7_readClause 21 = .ok (.ifCond .eq 9, 3) := by decide +kernel
theorem dX7_readClause_24 : decode cX7_readClause 24 = .ok (.aload_n 0, 1) := by decide +kernel
theorem dX7_readClause_25 : decode cX7_readClause 25 = .ok (.aload_n 1, 1) := by decide +kernel
theorem dX7_readClause_26 : decode cX7_readClause 26 = .ok (.invokevirtual 57, 3) := by decide +kernel
theorem dX7_readClause_29 : decode cX7_readClause 29 = .ok (.ireturn, 1) := by decide +kernel
theorem dX7_readClause_30 : decode cX7_readClause 30 = .ok (.aload_n 0, 1) := by decide +kernel
theorem dX7_readClause_31 : decode cX7_readClause 31 = .ok (.ldc 60, 2) := by decide +kernel
theorem dX7_readClause_33 : decode cX7_readClause 33 = .ok (.invokevirtual 48, 3) := by decide +kernel
theorem dX7_readClause_36 : decode cX7_readClause 36 = .ok (.ifCond .eq 15, 3) := by decide +kernel
theorem dX7_readClause_39 : decode cX7_readClause 39 = .ok (.aload_n 0, 1) := by decide +kernel
theorem dX7_readClause_40 : decode cX7_readClause 40 = .ok (.aload_n 1, 1) := by decide +kernel
theorem dX7_readClause_41 : decode cX7_readClause 41 = .ok (.invokevirtual 62, 3) := by decide +kernel
theorem dX7_readClause_44 : decode cX7_readClause 44 = .ok (.ifCond .eq 7, 3) := by decide +kernel
theorem dX7_readClause_47 : decode cX7_readClause 47 = .ok (.iconst 1, 1) := by decide +kernel
theorem dX7_readClause_48 : decode cX7_readClause 48 = .ok (.goto 4, 3) := by decide +kernel
theorem dX7_readClause_51 : decode cX7_readClause 51 = .ok (.iconst 0, 1) := by decide +kernel
theorem dX7_readClause_52 : decode cX7_readClause 52 = .ok (.ireturn, 1) := by decide +kernel
theorem dX7_readNet_0 : decode cX7_readNet 0 = .ok (.aload_n 0, 1) := by decide +kernel
theorem dX7_readNet_1 : decode cX7_readNet 1 = .ok (.invokevirtual 29, 3) := by decide +kernel
theorem dX7_readNet_4 : decode cX7_readNet 4 = .ok (.aload_n 0, 1) := by decide +kernel
theorem dX7_readNet_5 : decode cX7_readNet 5 = .ok (.iconst 2, 1) := by decide +kernel
theorem dX7_readNet_6 : decode cX7_readNet 6 = .ok (.bipush 12, 2) := by decide +kernel
theorem dX7_readNet_8 : decode cX7_readNet 8 = .ok (.invokevirtual 65, 3) := by decide +kernel
theorem dX7_readNet_11 : decode cX7_readNet 11 = .ok (.istore_n 2, 1) := by decide +kernel
theorem dX7_readNet_12 : decode cX7_readNet 12 = .ok (.iload_n 2, 1) := by decide +kernel
theorem dX7_readNet_13 : decode cX7_readNet 13 = .ok (.iconst (-1), 1) := by decide +kernel
theorem dX7_readNet_14 : decode cX7_readNet 14 = .ok (.if_icmp .ne 5, 3) := by decide +kernel
theorem dX7_readNet_17 : decode cX7_readNet 17 = .ok (.iconst 0, 1) := by decide +kernel
theorem dX7_readNet_18 : decode cX7_readNet 18 = .ok (.ireturn, 1) := by decide +kernel
theorem dX7_readNet_19 : decode cX7_readNet 19 = .ok (.aload_n 1, 1) := by decide +kernel
theorem dX7_readNet_20 : decode cX7_readNet 20 = .ok (.iload_n 2, 1) := by decide +kernel
theorem dX7_readNet_21 : decode cX7_readNet 21 = .ok (.invokevirtual 69, 3) := by decide +kernel
theorem dX7_readNet_24 : decode cX7_readNet 24 = .ok (.aload_n 0, 1) := by decide +kernel
theorem dX7_readNet_25 : decode cX7_readNet 25 = .ok (.iconst 1, 1) := by decide +kernel
theorem dX7_readNet_26 : decode cX7_readNet 26 = .ok (.putfield 22, 3) := by decide +kernel
theorem dX7_readNet_29 : decode cX7_readNet 29 = .ok (.aload_n 0, 1) := by decide +kernel
theorem dX7_readNet_30 : decode cX7_readNet 30 = .ok (.invokevirtual 29, 3) := by decide +kernel
theorem dX7_readNet_33 : decode cX7_readNet 33 = .ok (.iconst 1, 1) := by decide +kernel
theorem dX7_readNet_34 : decode cX7_readNet 34 = .ok (.ireturn, 1) := by decide +kernel
theorem dX7_readLink_0 : decode cX7_readLink 0 = .ok (.aload_n 0, 1) := by decide +kernel
theorem dX7_readLink_1 : decode cX7_readLink 1 = .ok (.invokevirtual 29, 3) := by decide +kernel
theorem dX7_readLink_4 : decode cX7_readLink 4 = .ok (.aload_n 0, 1) := by decide +kernel
theorem dX7_readLink_5 : decode cX7_readLink 5 = .ok (.iconst 0, 1) := by decide +kernel
theorem dX7_readLink_6 : decode cX7_readLink 6 = .ok (.aload_n 1, 1) := by decide +kernel
theorem dX7_readLink_7 : decode cX7_readLink 7 = .ok (.getfield 75, 3) := by decide +kernel
theorem dX7_readLink_10 : decode cX7_readLink 10 = .ok (.iconst 1, 1) := by decide +kernel
theorem dX7_readLink_11 : decode cX7_readLink 11 = .ok (.isub, 1) := by decide +kernel
theorem dX7_readLink_12 : decode cX7_readLink 12 = .ok (.invokevirtual 65, 3) := by decide +kernel
theorem dX7_readLink_15 : decode cX7_readLink 15 = .ok (.istore_n 2, 1) := by decide +kernel
theorem dX7_readLink_16 : decode cX7_readLink 16 = .ok (.iload_n 2, 1) := by decide +kernel
theorem dX7_readLink_17 : decode cX7_readLink 17 = .ok (.iconst (-1), 1) := by decide +kernel
theorem dX7_readLink_18 : decode cX7_readLink 18 = .ok (.if_icmp .ne 5, 3) := by decide +kernel
theorem dX7_readLink_21 : decode cX7_readLink 21 = .ok (.iconst 0, 1) := by decide +kernel
theorem dX7_readLink_22 : decode cX7_readLink 22 = .ok (.ireturn, 1) := by decide +kernel
theorem dX7_readLink_23 : decode cX7_readLink 23 = .ok (.aload_n 0, 1) := by decide +kernel
theorem dX7_readLink_24 : decode cX7_readLink 24 = .ok (.invokevirtual 29, 3) := by decide +kernel
theorem dX7_readLink_27 : decode cX7_readLink 27 = .ok (.aload_n 0, 1) := by decide +kernel
theorem dX7_readLink_28 : decode cX7_readLink 28 = .ok (.iconst 0, 1) := by decide +kernel
theorem dX7_readLink_29 : decode cX7_readLink 29 = .ok (.aload_n 1, 1) := by decide +kernel
theorem dX7_readLink_30 : decode cX7_readLink 30 = .ok (.getfield 75, 3) := by decide +kernel
theorem dX7_readLink_33 : decode cX7_readLink 33 = .ok (.iconst 1, 1) := by decide +kernel
theorem dX7_readLink_34 : decode cX7_readLink 34 = .ok (.isub, 1) := by decide +kernel
theorem dX7_readLink_35 : decode cX7_readLink 35 = .ok (.invokevirtual 65, 3) := by decide +kernel
theorem dX7_readLink_38 : decode cX7_readLink 38 = .ok (.istore_n 3, 1) := by decide +kernel
theorem dX7_readLink_39 : decode cX7_readLink 39 = .ok (.iload_n 3, 1) := by decide +kernel
theorem dX7_readLink_40 : decode cX7_readLink 40 = .ok (.iconst (-1), 1) := by decide +kernel
theorem dX7_readLink_41 : decode cX7_readLink 41 = .ok (.if_icmp .eq 17, 3) := by decide +kernel
theorem dX7_readLink_44 : decode cX7_readLink 44 = .ok (.iload_n 3, 1) := by decide +kernel
theorem dX7_readLink_45 : decode cX7_readLink 45 = .ok (.iload_n 2, 1) := by decide +kernel
theorem dX7_readLink_46 : decode cX7_readLink 46 = .ok (.if_icmp .eq 12, 3) := by decide +kernel
theorem dX7_readLink_49 : decode cX7_readLink 49 = .ok (.aload_n 1, 1) := by decide +kernel
theorem dX7_readLink_50 : decode cX7_readLink 50 = .ok (.iload_n 2, 1) := by decide +kernel
theorem dX7_readLink_51 : decode cX7_readLink 51 = .ok (.iload_n 3, 1) := by decide +kernel
theorem dX7_readLink_52 : decode cX7_readLink 52 = .ok (.invokevirtual 78, 3) := by decide +kernel
theorem dX7_readLink_55 : decode cX7_readLink 55 = .ok (.ifCond .ne 5, 3) := by decide +kernel
theorem dX7_readLink_58 : decode cX7_readLink 58 = .ok (.iconst 0, 1) := by decide +kernel
theorem dX7_readLink_59 : decode cX7_readLink 59 = .ok (.ireturn, 1) := by decide +kernel
theorem dX7_readLink_60 : decode cX7_readLink 60 = .ok (.aload_n 0, 1) := by decide +kernel
theorem dX7_readLink_61 : decode cX7_readLink 61 = .ok (.invokevirtual 29, 3) := by decide +kernel
theorem dX7_readLink_64 : decode cX7_readLink 64 = .ok (.aload_n 0, 1) := by decide +kernel
theorem dX7_readLink_65 : decode cX7_readLink 65 = .ok (.iconst 1, 1) := by decide +kernel
theorem dX7_readLink_66 : decode cX7_readLink 66 = .ok (.bipush 99, 2) := by decide +kernel
theorem dX7_readLink_68 : decode cX7_readLink 68 = .ok (.invokevirtual 65, 3) := by decide +kernel
theorem dX7_readLink_71 : decode cX7_readLink 71 = .ok (.istore 4, 2) := by decide +kernel
theorem dX7_readLink_73 : decode cX7_readLink 73 = .ok (.iload 4, 2) := by decide +kernel
theorem dX7_readLink_75 : decode cX7_readLink 75 = .ok (.iconst (-1), 1) := by decide +kernel
theorem dX7_readLink_76 : decode cX7_readLink 76 = .ok (.if_icmp .ne 5, 3) := by decide +kernel
theorem dX7_readLink_79 : decode cX7_readLink 79 = .ok (.iconst 0, 1) := by decide +kernel
theorem dX7_readLink_80 : decode cX7_readLink 80 = .ok (.ireturn, 1) := by decide +kernel
theorem dX7_readLink_81 : decode cX7_readLink 81 = .ok (.aload_n 1, 1) := by decide +kernel
theorem dX7_readLink_82 : decode cX7_readLink 82 = .ok (.iload_n 2, 1) := by decide +kernel
theorem dX7_readLink_83 : decode cX7_readLink 83 = .ok (.iload_n 3, 1) := by decide +kernel
theorem dX7_readLink_84 : decode cX7_readLink 84 = .ok (.iload 4, 2) := by decide +kernel
theorem dX7_readLink_86 : decode cX7_readLink 86 = .ok (.invokevirtual 82, 3) := by decide +kernel
theorem dX7_readLink_89 : decode cX7_readLink 89 = .ok (.aload_n 0, 1) := by decide +kernel
theorem dX7_readLink_90 : decode cX7_readLink 90 = .ok (.invokevirtual 29, 3) := by decide +kernel
theorem dX7_readLink_93 : decode cX7_readLink 93 = .ok (.iconst 1, 1) := by decide +kernel
theorem dX7_readLink_94 : decode cX7_readLink 94 = .ok (.ireturn, 1) := by decide +kernel
theorem dX7_readLevel_0 : decode cX7_readLevel 0 = .ok (.aload_n 0, 1) := by decide +kernel
theorem dX7_readLevel_1 : decode cX7_readLevel 1 = .ok (.invokevirtual 29, 3) := by decide +kernel
theorem dX7_readLevel_4 : decode cX7_readLevel 4 = .ok (.aload_n 0, 1) := by decide +kernel
theorem dX7_readLevel_5 : decode cX7_readLevel 5 = .ok (.iconst 0, 1) := by decide +kernel
theorem dX7_readLevel_6 : decode cX7_readLevel 6 = .ok (.aload_n 1, 1) := by decide +kernel
theorem dX7_readLevel_7 : decode cX7_readLevel 7 = .ok (.getfield 75, 3) := by decide +kernel
theorem dX7_readLevel_10 : decode cX7_readLevel 10 = .ok (.iconst 1, 1) := by decide +kernel
theorem dX7_readLevel_11 : decode cX7_readLevel 11 = .ok (.isub, 1) := by decide +kernel
theorem dX7_readLevel_12 : decode cX7_readLevel 12 = .ok (.invokevirtual 65, 3) := by decide +kernel
theorem dX7_readLevel_15 : decode cX7_readLevel 15 = .ok (.istore_n 2, 1) := by decide +kernel
theorem dX7_readLevel_16 : decode cX7_readLevel 16 = .ok (.iload_n 2, 1) := by decide +kernel
theorem dX7_readLevel_17 : decode cX7_readLevel 17 = .ok (.iconst (-1), 1) := by decide +kernel
theorem dX7_readLevel_18 : decode cX7_readLevel 18 = .ok (.if_icmp .ne 5, 3) := by decide +kernel
theorem dX7_readLevel_21 : decode cX7_readLevel 21 = .ok (.iconst 0, 1) := by decide +kernel
theorem dX7_readLevel_22 : decode cX7_readLevel 22 = .ok (.ireturn, 1) := by decide +kernel
theorem dX7_readLevel_23 : decode cX7_readLevel 23 = .ok (.aload_n 0, 1) := by decide +kernel
theorem dX7_readLevel_24 : decode cX7_readLevel 24 = .ok (.invokevirtual 29, 3) := by decide +kernel
theorem dX7_readLevel_27 : decode cX7_readLevel 27 = .ok (.aload_n 0, 1) := by decide +kernel
theorem dX7_readLevel_28 : decode cX7_readLevel 28 = .ok (.iconst 0, 1) := by decide +kernel
theorem dX7_readLevel_29 : decode cX7_readLevel 29 = .ok (.iconst 2, 1) := by decide +kernel
theorem dX7_readLevel_30 : decode cX7_readLevel 30 = .ok (.invokevirtual 65, 3) := by decide +kernel
theorem dX7_readLevel_33 : decode cX7_readLevel 33 = .ok (.istore_n 3, 1) := by decide +kernel
theorem dX7_readLevel_34 : decode cX7_readLevel 34 = .ok (.iload_n 3, 1) := by decide +kernel
theorem dX7_readLevel_35 : decode cX7_readLevel 35 = .ok (.iconst (-1), 1) := by decide +kernel
theorem dX7_readLevel_36 : decode cX7_readLevel 36 = .ok (.if_icmp .ne 5, 3) := by decide +kernel
theorem dX7_readLevel_39 : decode cX7_readLevel 39 = .ok (.iconst 0, 1) := by decide +kernel
theorem dX7_readLevel_40 : decode cX7_readLevel 40 = .ok (.ireturn, 1) := by decide +kernel
theorem dX7_readLevel_41 : decode cX7_readLevel 41 = .ok (.aload_n 1, 1) := by decide +kernel
theorem dX7_readLevel_42 : decode cX7_readLevel 42 = .ok (.iload_n 2, 1) := by decide +kernel
theorem dX7_readLevel_43 : decode cX7_readLevel 43 = .ok (.iload_n 3, 1) := by decide +kernel
theorem dX7_readLevel_44 : decode cX7_readLevel 44 = .ok (.invokevirtual 86, 3) := by decide +kernel
theorem dX7_readLevel_47 : decode cX7_readLevel 47 = .ok (.aload_n 0, 1) := by decide +kernel
theorem dX7_readLevel_48 : decode cX7_readLevel 48 = .ok (.invokevirtual 29, 3) := by decide +kernel
theorem dX7_readLevel_51 : decode cX7_readLevel 51 = .ok (.iconst 1, 1) := by decide +kernel
theorem dX7_readLevel_52 : decode cX7_readLevel 52 = .ok (.ireturn, 1) := by decide +kernel
theorem dX7_pass_0 : decode cX7_pass 0 = .ok (.aload_n 0, 1) := by decide +kernel
theorem dX7_pass_1 : decode cX7_pass 1 = .ok (.aload_n 0, 1) := by decide +kernel
theorem dX7_pass_2 : decode cX7_pass 2 = .ok (.getfield 26, 3) := by decide +kernel
theorem dX7_pass_5 : decode cX7_pass 5 = .ok (.putfield 36, 3) := by decide +kernel
theorem dX7_pass_8 : decode cX7_pass 8 = .ok (.aload_n 0, 1) := by decide +kernel
theorem dX7_pass_9 : decode cX7_pass 9 = .ok (.getfield 36, 3) := by decide +kernel
theorem dX7_pass_12 : decode cX7_pass 12 = .ok (.aload_n 0, 1) := by decide +kernel
theorem dX7_pass_13 : decode cX7_pass 13 = .ok (.getfield 15, 3) := by decide +kernel
theorem dX7_pass_16 : decode cX7_pass 16 = .ok (.if_icmp .ge 30, 3) := by decide +kernel
theorem dX7_pass_19 : decode cX7_pass 19 = .ok (.aload_n 0, 1) := by decide +kernel
theorem dX7_pass_20 : decode cX7_pass 20 = .ok (.getfield 9, 3) := by decide +kernel
theorem dX7_pass_23 : decode cX7_pass 23 = .ok (.aload_n 0, 1) := by decide +kernel
theorem dX7_pass_24 : decode cX7_pass 24 = .ok (.getfield 36, 3) := by decide +kernel
theorem dX7_pass_27 : decode cX7_pass 27 = .ok (.iaload, 1) := by decide +kernel
theorem dX7_pass_28 : decode cX7_pass 28 = .ok (.bipush 32, 2) := by decide +kernel
theorem dX7_pass_30 : decode cX7_pass 30 = .ok (.if_icmp .ne 16, 3) := by decide +kernel
theorem dX7_pass_33 : decode cX7_pass 33 = .ok (.aload_n 0, 1) := by decide +kernel
theorem dX7_pass_34 : decode cX7_pass 34 = .ok (.dup, 1) := by decide +kernel
theorem dX7_pass_35 : decode cX7_pass 35 = .ok (.getfield 36, 3) := by decide +kernel
theorem dX7_pass_38 : decode cX7_pass 38 = .ok (.iconst 1, 1) := by decide +kernel
theorem dX7_pass_39 : decode cX7_pass 39 = .ok (.iadd, 1) := by decide +kernel
theorem dX7_pass_40 : decode cX7_pass 40 = .ok (.putfield 36, 3) := by decide +kernel
theorem dX7_pass_43 : decode cX7_pass 43 = .ok (.goto (-35), 3) := by decide +kernel
theorem dX7_pass_46 : decode cX7_pass 46 = .ok (.aload_n 0, 1) := by decide +kernel
theorem dX7_pass_47 : decode cX7_pass 47 = .ok (.aload_n 0, 1) := by decide +kernel
theorem dX7_pass_48 : decode cX7_pass 48 = .ok (.aload_n 0, 1) := by decide +kernel
theorem dX7_pass_49 : decode cX7_pass 49 = .ok (.getfield 36, 3) := by decide +kernel
theorem dX7_pass_52 : decode cX7_pass 52 = .ok (.invokevirtual 90, 3) := by decide +kernel
theorem dX7_pass_55 : decode cX7_pass 55 = .ok (.putfield 39, 3) := by decide +kernel
theorem dX7_pass_58 : decode cX7_pass 58 = .ok (.aload_n 0, 1) := by decide +kernel
theorem dX7_pass_59 : decode cX7_pass 59 = .ok (.aload_n 0, 1) := by decide +kernel
theorem dX7_pass_60 : decode cX7_pass 60 = .ok (.getfield 36, 3) := by decide +kernel
theorem dX7_pass_63 : decode cX7_pass 63 = .ok (.putfield 26, 3) := by decide +kernel
theorem dX7_pass_66 : decode cX7_pass 66 = .ok (.aload_n 0, 1) := by decide +kernel
theorem dX7_pass_67 : decode cX7_pass 67 = .ok (.getfield 39, 3) := by decide +kernel
theorem dX7_pass_70 : decode cX7_pass 70 = .ok (.iconst 4, 1) := by decide +kernel
theorem dX7_pass_71 : decode cX7_pass 71 = .ok (.if_icmp .ne 4, 3) := by decide +kernel
theorem dX7_pass_74 : decode cX7_pass 74 = .ok (.return_, 1) := by decide +kernel
theorem dX7_pass_75 : decode cX7_pass 75 = .ok (.aload_n 0, 1) := by decide +kernel
theorem dX7_pass_76 : decode cX7_pass 76 = .ok (.dup, 1) := by decide +kernel
theorem dX7_pass_77 : decode cX7_pass 77 = .ok (.getfield 26, 3) := by decide +kernel
theorem dX7_pass_80 : decode cX7_pass 80 = .ok (.iconst 1, 1) := by decide +kernel
theorem dX7_pass_81 : decode cX7_pass 81 = .ok (.iadd, 1) := by decide +kernel
theorem dX7_pass_82 : decode cX7_pass 82 = .ok (.putfield 26, 3) := by decide +kernel
theorem dX7_pass_85 : decode cX7_pass 85 = .ok (.aload_n 0, 1) := by decide +kernel
theorem dX7_pass_86 : decode cX7_pass 86 = .ok (.getfield 39, 3) := by decide +kernel
theorem dX7_pass_89 : decode cX7_pass 89 = .ok (.iconst 3, 1) := by decide +kernel
theorem dX7_pass_90 : decode cX7_pass 90 = .ok (.if_icmp .eq 42, 3) := by decide +kernel
theorem dX7_pass_93 : decode cX7_pass 93 = .ok (.aload_n 0, 1) := by decide +kernel
theorem dX7_pass_94 : decode cX7_pass 94 = .ok (.getfield 26, 3) := by decide +kernel
theorem dX7_pass_97 : decode cX7_pass 97 = .ok (.aload_n 0, 1) := by decide +kernel
theorem dX7_pass_98 : decode cX7_pass 98 = .ok (.getfield 15, 3) := by decide +kernel
theorem dX7_pass_101 : decode cX7_pass 101 = .ok (.if_icmp .ge 31, 3) := by decide +kernel
theorem dX7_pass_104 : decode cX7_pass 104 = .ok (.aload_n 0, 1) := by decide +kernel
theorem dX7_pass_105 : decode cX7_pass 105 = .ok (.aload_n 0, 1) := by decide +kernel
theorem dX7_pass_106 : decode cX7_pass 106 = .ok (.getfield 26, 3) := by decide +kernel
theorem dX7_pass_109 : decode cX7_pass 109 = .ok (.invokevirtual 90, 3) := by decide +kernel
theorem dX7_pass_112 : decode cX7_pass 112 = .ok (.aload_n 0, 1) := by decide +kernel
theorem dX7_pass_113 : decode cX7_pass 113 = .ok (.getfield 39, 3) := by decide +kernel
theorem dX7_pass_116 : decode cX7_pass 116 = .ok (.if_icmp .ne 16, 3) := by decide +kernel
theorem dX7_pass_119 : decode cX7_pass 119 = .ok (.aload_n 0, 1) := by decide +kernel
theorem dX7_pass_120 : decode cX7_pass 120 = .ok (.dup, 1) := by decide +kernel
theorem dX7_pass_121 : decode cX7_pass 121 = .ok (.getfield 26, 3) := by decide +kernel
theorem dX7_pass_124 : decode cX7_pass 124 = .ok (.iconst 1, 1) := by decide +kernel
theorem dX7_pass_125 : decode cX7_pass 125 = .ok (.iadd, 1) := by decide +kernel
theorem dX7_pass_126 : decode cX7_pass 126 = .ok (.putfield 26, 3) := by decide +kernel
theorem dX7_pass_129 : decode cX7_pass 129 = .ok (.goto (-44), 3) := by decide +kernel
theorem dX7_pass_132 : decode cX7_pass 132 = .ok (.return_, 1) := by decide +kernel
theorem dX7_kindAt_0 : decode cX7_kindAt 0 = .ok (.iload_n 1, 1) := by decide +kernel
theorem dX7_kindAt_1 : decode cX7_kindAt 1 = .ok (.ifCond .lt 11, 3) := by decide +kernel
theorem dX7_kindAt_4 : decode cX7_kindAt 4 = .ok (.iload_n 1, 1) := by decide +kernel
theorem dX7_kindAt_5 : decode cX7_kindAt 5 = .ok (.aload_n 0, 1) := by decide +kernel
theorem dX7_kindAt_6 : decode cX7_kindAt 6 = .ok (.getfield 15, 3) := by decide +kernel
theorem dX7_kindAt_9 : decode cX7_kindAt 9 = .ok (.if_icmp .lt 5, 3) := by decide +kernel
theorem dX7_kindAt_12 : decode cX7_kindAt 12 = .ok (.iconst 4, 1) := by decide +kernel
theorem dX7_kindAt_13 : decode cX7_kindAt 13 = .ok (.ireturn, 1) := by decide +kernel
theorem dX7_kindAt_14 : decode cX7_kindAt 14 = .ok (.aload_n 0, 1) := by decide +kernel
theorem dX7_kindAt_15 : decode cX7_kindAt 15 = .ok (.getfield 9, 3) := by decide +kernel
theorem dX7_kindAt_18 : decode cX7_kindAt 18 = .ok (.iload_n 1, 1) := by decide +kernel
theorem dX7_kindAt_19 : decode cX7_kindAt 19 = .ok (.iaload, 1) := by decide +kernel
theorem dX7_kindAt_20 : decode cX7_kindAt 20 = .ok (.istore_n 2, 1) := by decide +kernel
theorem dX7_kindAt_21 : decode cX7_kindAt 21 = .ok (.iload_n 2, 1) := by decide +kernel
theorem dX7_kindAt_22 : decode cX7_kindAt 22 = .ok (.bipush 97, 2) := by decide +kernel
theorem dX7_kindAt_24 : decode cX7_kindAt 24 = .ok (.if_icmp .lt 11, 3) := by decide +kernel
theorem dX7_kindAt_27 : decode cX7_kindAt 27 = .ok (.iload_n 2, 1) := by decide +kernel
theorem dX7_kindAt_28 : decode cX7_kindAt 28 = .ok (.bipush 122, 2) := by decide +kernel
theorem dX7_kindAt_30 : decode cX7_kindAt 30 = .ok (.if_icmp .gt 5, 3) := by decide +kernel
theorem dX7_kindAt_33 : decode cX7_kindAt 33 = .ok (.iconst 1, 1) := by decide +kernel
theorem dX7_kindAt_34 : decode cX7_kindAt 34 = .ok (.ireturn, 1) := by decide +kernel
theorem dX7_kindAt_35 : decode cX7_kindAt 35 = .ok (.iload_n 2, 1) := by decide +kernel
theorem dX7_kindAt_36 : decode cX7_kindAt 36 = .ok (.bipush 48, 2) := by decide +kernel
theorem dX7_kindAt_38 : decode cX7_kindAt 38 = .ok (.if_icmp .lt 13, 3) := by decide +kernel
theorem dX7_kindAt_41 : decode cX7_kindAt 41 = .ok (.iload_n 2, 1) := by decide +kernel
theorem dX7_kindAt_42 : decode cX7_kindAt 42 = .ok (.bipush 57, 2) := by decide +kernel
theorem dX7_kindAt_44 : decode cX7_kindAt 44 = .ok (.if_icmp .gt 7, 3) := by decide +kernel
theorem dX7_kindAt_47 : decode cX7_kindAt 47 = .ok (.iconst 2, 1) := by decide +kernel
theorem dX7_kindAt_48 : decode cX7_kindAt 48 = .ok (.goto 4, 3) := by decide +kernel
theorem dX7_kindAt_51 : decode cX7_kindAt 51 = .ok (.iconst 3, 1) := by decide +kernel
theorem dX7_kindAt_52 : decode cX7_kindAt 52 = .ok (.ireturn, 1) := by decide +kernel
theorem dX7_isSemicolon_0 : decode cX7_isSemicolon 0 = .ok (.aload_n 0, 1) := by decide +kernel
theorem dX7_isSemicolon_1 : decode cX7_isSemicolon 1 = .ok (.getfield 39, 3) := by decide +kernel
theorem dX7_isSemicolon_4 : decode cX7_isSemicolon 4 = .ok (.iconst 3, 1) := by decide +kernel
theorem dX7_isSemicolon_5 : decode cX7_isSemicolon 5 = .ok (.if_icmp .ne 21, 3) := by decide +kernel
theorem dX7_isSemicolon_8 : decode cX7_isSemicolon 8 = .ok (.aload_n 0, 1) := by decide +kernel
theorem dX7_isSemicolon_9 : decode cX7_isSemicolon 9 = .ok (.getfield 9, 3) := by decide +kernel
theorem dX7_isSemicolon_12 : decode cX7_isSemicolon 12 = .ok (.aload_n 0, 1) := by decide +kernel
theorem dX7_isSemicolon_13 : decode cX7_isSemicolon 13 = .ok (.getfield 36, 3) := by decide +kernel
theorem dX7_isSemicolon_16 : decode cX7_isSemicolon 16 = .ok (.iaload, 1) := by decide +kernel
theorem dX7_isSemicolon_17 : decode cX7_isSemicolon 17 = .ok (.bipush 59, 2) := by decide +kernel
theorem dX7_isSemicolon_19 : decode cX7_isSemicolon 19 = .ok (.if_icmp .ne 7, 3) := by decide +kernel
theorem dX7_isSemicolon_22 : decode cX7_isSemicolon 22 = .ok (.iconst 1, 1) := by decide +kernel
theorem dX7_isSemicolon_23 : decode cX7_isSemicolon 23 = .ok (.goto 4, 3) := by decide +kernel
theorem dX7_isSemicolon_26 : decode cX7_isSemicolon 26 = .ok (.iconst 0, 1) := by decide +kernel
theorem dX7_isSemicolon_27 : decode cX7_isSemicolon 27 = .ok (.ireturn, 1) := by decide +kernel
theorem dX7_isWord_0 : decode cX7_isWord 0 = .ok (.aload_n 0, 1) := by decide +kernel
theorem dX7_isWord_1 : decode cX7_isWord 1 = .ok (.getfield 39, 3) := by decide +kernel
theorem dX7_isWord_4 : decode cX7_isWord 4 = .ok (.iconst 1, 1) := by decide +kernel
theorem dX7_isWord_5 : decode cX7_isWord 5 = .ok (.if_icmp .ne 19, 3) := by decide +kernel
theorem dX7_isWord_8 : decode cX7_isWord 8 = .ok (.aload_n 0, 1) := by decide +kernel
theorem dX7_isWord_9 : decode cX7_isWord 9 = .ok (.getfield 26, 3) := by decide +kernel
theorem dX7_isWord_12 : decode cX7_isWord 12 = .ok (.aload_n 0, 1) := by decide +kernel
theorem dX7_isWord_13 : decode cX7_isWord 13 = .ok (.getfield 36, 3) := by decide +kernel
theorem dX7_isWord_16 : decode cX7_isWord 16 = .ok (.isub, 1) := by decide +kernel
theorem dX7_isWord_17 : decode cX7_isWord 17 = .ok (.aload_n 1, 1) := by decide +kernel
theorem dX7_isWord_18 : decode cX7_isWord 18 = .ok (.invokevirtual 94, 3) := by decide +kernel
theorem dX7_isWord_21 : decode cX7_isWord 21 = .ok (.if_icmp .eq 5, 3) := by decide +kernel
theorem dX7_isWord_24 : decode cX7_isWord 24 = .ok (.iconst 0, 1) := by decide +kernel
theorem dX7_isWord_25 : decode cX7_isWord 25 = .ok (.ireturn, 1) := by decide +kernel
theorem dX7_isWord_26 : decode cX7_isWord 26 = .ok (.iconst 0, 1) := by decide +kernel
theorem dX7_isWord_27 : decode cX7_isWord 27 = .ok (.istore_n 2, 1) := by decide +kernel
theorem dX7_isWord_28 : decode cX7_isWord 28 = .ok (.iload_n 2, 1) := by decide +kernel
theorem dX7_isWord_29 : decode cX7_isWord 29 = .ok (.aload_n 1, 1) := by decide +kernel
theorem dX7_isWord_30 : decode cX7_isWord 30 = .ok (.invokevirtual 94, 3) := by decide +kernel
theorem dX7_isWord_33 : decode cX7_isWord 33 = .ok (.if_icmp .ge 30, 3) := by decide +kernel
theorem dX7_isWord_36 : decode cX7_isWord 36 = .ok (.aload_n 0, 1) := by decide +kernel
theorem dX7_isWord_37 : decode cX7_isWord 37 = .ok (.getfield 9, 3) := by decide +kernel
theorem dX7_isWord_40 : decode cX7_isWord 40 = .ok (.aload_n 0, 1) := by decide +kernel
theorem dX7_isWord_41 : decode cX7_isWord 41 = .ok (.getfield 36, 3) := by decide +kernel
theorem dX7_isWord_44 : decode cX7_isWord 44 = .ok (.iload_n 2, 1) := by decide +kernel
theorem dX7_isWord_45 : decode cX7_isWord 45 = .ok (.iadd, 1) := by decide +kernel
theorem dX7_isWord_46 : decode cX7_isWord 46 = .ok (.iaload, 1) := by decide +kernel
theorem dX7_isWord_47 : decode cX7_isWord 47 = .ok (.aload_n 1, 1) := by decide +kernel
theorem dX7_isWord_48 : decode cX7_isWord 48 = .ok (.iload_n 2, 1) := by decide +kernel
theorem dX7_isWord_49 : decode cX7_isWord 49 = .ok (.invokevirtual 100, 3) := by decide +kernel
theorem dX7_isWord_52 : decode cX7_isWord 52 = .ok (.if_icmp .eq 5, 3) := by decide +kernel
theorem dX7_isWord_55 : decode cX7_isWord 55 = .ok (.iconst 0, 1) := by decide +kernel
theorem dX7_isWord_56 : decode cX7_isWord 56 = .ok (.ireturn, 1) := by decide +kernel
theorem dX7_isWord_57 : decode cX7_isWord 57 = .ok (.iinc 2 1, 3) := by decide +kernel
theorem dX7_isWord_60 : decode cX7_isWord 60 = .ok (.goto (-32), 3) := by decide +kernel
theorem dX7_isWord_63 : decode cX7_isWord 63 = .ok (.iconst 1, 1) := by decide +kernel
theorem dX7_isWord_64 : decode cX7_isWord 64 = .ok (.ireturn, 1) := by decide +kernel
theorem dX7_number_0 : decode cX7_number 0 = .ok (.aload_n 0, 1) := by decide +kernel
theorem dX7_number_1 : decode cX7_number 1 = .ok (.getfield 39, 3) := by decide +kernel
theorem dX7_number_4 : decode cX7_number 4 = .ok (.iconst 2, 1) := by decide +kernel
theorem dX7_number_5 : decode cX7_number 5 = .ok (.if_icmp .ne 16, 3) := by decide +kernel
theorem dX7_number_8 : decode cX7_number 8 = .ok (.aload_n 0, 1) := by decide +kernel
theorem dX7_number_9 : decode cX7_number 9 = .ok (.getfield 26, 3) := by decide +kernel
theorem dX7_number_12 : decode cX7_number 12 = .ok (.aload_n 0, 1) := by decide +kernel
theorem dX7_number_13 : decode cX7_number 13 = .ok (.getfield 36, 3) := by decide +kernel
theorem dX7_number_16 : decode cX7_number 16 = .ok (.isub, 1) := by decide +kernel
theorem dX7_number_17 : decode cX7_number 17 = .ok (.iconst 2, 1) := by decide +kernel
theorem dX7_number_18 : decode cX7_number 18 = .ok (.if_icmp .le 5, 3) := by decide +kernel
theorem dX7_number_21 : decode cX7_number 21 = .ok (.iconst (-1), 1) := by decide +kernel
theorem dX7_number_22 : decode cX7_number 22 = .ok (.ireturn, 1) := by decide +kernel
theorem dX7_number_23 : decode cX7_number 23 = .ok (.iconst 0, 1) := by decide +kernel
theorem dX7_number_24 : decode cX7_number 24 = .ok (.istore_n 3, 1) := by decide +kernel
theorem dX7_number_25 : decode cX7_number 25 = .ok (.aload_n 0, 1) := by decide +kernel
theorem dX7_number_26 : decode cX7_number 26 = .ok (.getfield 36, 3) := by decide +kernel
theorem dX7_number_29 : decode cX7_number 29 = .ok (.istore 4, 2) := by decide +kernel
theorem dX7_number_31 : decode cX7_number 31 = .ok (.iload 4, 2) := by decide +kernel
theorem dX7_number_33 : decode cX7_number 33 = .ok (.aload_n 0, 1) := by decide +kernel
theorem dX7_number_34 : decode cX7_number 34 = .ok (.getfield 26, 3) := by decide +kernel
theorem dX7_number_37 : decode cX7_number 37 = .ok (.if_icmp .ge 25, 3) := by decide +kernel
theorem dX7_number_40 : decode cX7_number 40 = .ok (.iload_n 3, 1) := by decide +kernel
theorem dX7_number_41 : decode cX7_number 41 = .ok (.bipush 10, 2) := by decide +kernel
theorem dX7_number_43 : decode cX7_number 43 = .ok (.imul, 1) := by decide +kernel
theorem dX7_number_44 : decode cX7_number 44 = .ok (.aload_n 0, 1) := by decide +kernel
theorem dX7_number_45 : decode cX7_number 45 = .ok (.getfield 9, 3) := by decide +kernel
theorem dX7_number_48 : decode cX7_number 48 = .ok (.iload 4, 2) := by decide +kernel
theorem dX7_number_50 : decode cX7_number 50 = .ok (.iaload, 1) := by decide +kernel
theorem dX7_number_51 : decode cX7_number 51 = .ok (.iadd, 1) := by decide +kernel
theorem dX7_number_52 : decode cX7_number 52 = .ok (.bipush 48, 2) := by decide +kernel
theorem dX7_number_54 : decode cX7_number 54 = .ok (.isub, 1) := by decide +kernel
theorem dX7_number_55 : decode cX7_number 55 = .ok (.istore_n 3, 1) := by decide +kernel
theorem dX7_number_56 : decode cX7_number 56 = .ok (.iinc 4 1, 3) := by decide +kernel
theorem dX7_number_59 : decode cX7_number 59 = .ok (.goto (-28), 3) := by decide +kernel
theorem dX7_number_62 : decode cX7_number 62 = .ok (.iload_n 3, 1) := by decide +kernel
theorem dX7_number_63 : decode cX7_number 63 = .ok (.iload_n 1, 1) := by decide +kernel
theorem dX7_number_64 : decode cX7_number 64 = .ok (.if_icmp .lt 12, 3) := by decide +kernel
theorem dX7_number_67 : decode cX7_number 67 = .ok (.iload_n 3, 1) := by decide +kernel
theorem dX7_number_68 : decode cX7_number 68 = .ok (.iload_n 2, 1) := by decide +kernel
theorem dX7_number_69 : decode cX7_number 69 = .ok (.if_icmp .gt 7, 3) := by decide +kernel
theorem dX7_number_72 : decode cX7_number 72 = .ok (.iload_n 3, 1) := by decide +kernel
theorem dX7_number_73 : decode cX7_number 73 = .ok (.goto 4, 3) := by decide +kernel
theorem dX7_number_76 : decode cX7_number 76 = .ok (.iconst (-1), 1) := by decide +kernel
theorem dX7_number_77 : decode cX7_number 77 = .ok (.ireturn, 1) := by decide +kernel
theorem dX8_init_0 : decode cX8_init 0 = .ok (.aload_n 0, 1) := by decide +kernel
theorem dX8_init_1 : decode cX8_init 1 = .ok (.invokespecial 3, 3) := by decide +kernel
theorem dX8_init_4 : decode cX8_init 4 = .ok (.aload_n 0, 1) := by decide +kernel
theorem dX8_init_5 : decode cX8_init 5 = .ok (.new 9, 3) := by decide +kernel
theorem dX8_init_8 : decode cX8_init 8 = .ok (.dup, 1) := by decide +kernel
theorem dX8_init_9 : decode cX8_init 9 = .ok (.invokespecial 11, 3) := by decide +kernel
theorem dX8_init_12 : decode cX8_init 12 = .ok (.putfield 12, 3) := by decide +kernel
theorem dX8_init_15 : decode cX8_init 15 = .ok (.aload_n 0, 1) := by decide +kernel
theorem dX8_init_16 : decode cX8_init 16 = .ok (.bipush 30, 2) := by decide +kernel
theorem dX8_init_18 : decode cX8_init 18 = .ok (.newarray .int, 2) := by decide +kernel
theorem dX8_init_20 : decode cX8_init 20 = .ok (.putfield 18, 3) := by decide +kernel
theorem dX8_init_23 : decode cX8_init 23 = .ok (.aload_n 0, 1) := by decide +kernel
theorem dX8_init_24 : decode cX8_init 24 = .ok (.bipush 12, 2) := by decide +kernel
theorem dX8_init_26 : decode cX8_init 26 = .ok (.newarray .int, 2) := by decide +kernel
theorem dX8_init_28 : decode cX8_init 28 = .ok (.putfield 22, 3) := by decide +kernel
theorem dX8_init_31 : decode cX8_init 31 = .ok (.return_, 1) := by decide +kernel
theorem dX8_takes_0 : decode cX8_takes 0 = .ok (.iload_n 1, 1) := by decide +kernel
theorem dX8_takes_1 : decode cX8_takes 1 = .ok (.ifCond .lt 19, 3) := by decide +kernel
theorem dX8_takes_4 : decode cX8_takes 4 = .ok (.iload_n 1, 1) := by decide +kernel
theorem dX8_takes_5 : decode cX8_takes 5 = .ok (.bipush 12, 2) := by decide +kernel
theorem dX8_takes_7 : decode cX8_takes 7 = .ok (.if_icmp .ge 13, 3) := by decide +kernel
theorem dX8_takes_10 : decode cX8_takes 10 = .ok (.iload_n 2, 1) := by decide +kernel
theorem dX8_takes_11 : decode cX8_takes 11 = .ok (.ifCond .lt 9, 3) := by decide +kernel
theorem dX8_takes_14 : decode cX8_takes 14 = .ok (.iload_n 2, 1) := by decide +kernel
theorem dX8_takes_15 : decode cX8_takes 15 = .ok (.bipush 12, 2) := by decide +kernel
theorem dX8_takes_17 : decode cX8_takes 17 = .ok (.if_icmp .lt 5, 3) := by decide +kernel
theorem dX8_takes_20 : decode cX8_takes 20 = .ok (.iconst 0, 1) := by decide +kernel
theorem dX8_takes_21 : decode cX8_takes 21 = .ok (.ireturn, 1) := by decide +kernel
theorem dX8_takes_22 : decode cX8_takes 22 = .ok (.aload_n 0, 1) := by decide +kernel
theorem dX8_takes_23 : decode cX8_takes 23 = .ok (.getfield 22, 3) := by decide +kernel
theorem dX8_takes_26 : decode cX8_takes 26 = .ok (.iload_n 1, 1) := by decide +kernel
theorem dX8_takes_27 : decode cX8_takes 27 = .ok (.iaload, 1) := by decide +kernel
theorem dX8_takes_28 : decode cX8_takes 28 = .ok (.iconst 1, 1) := by decide +kernel
theorem dX8_takes_29 : decode cX8_takes 29 = .ok (.iload_n 2, 1) := by decide +kernel
theorem dX8_takes_30 : decode cX8_takes 30 = .ok (.ishl, 1) := by decide +kernel
theorem dX8_takes_31 : decode cX8_takes 31 = .ok (.iand, 1) := by decide +kernel
theorem dX8_takes_32 : decode cX8_takes 32 = .ok (.ifCond .eq 7, 3) := by decide +kernel
theorem dX8_takes_35 : decode cX8_takes 35 = .ok (.iconst 1, 1) := by decide +kernel
theorem dX8_takes_36 : decode cX8_takes 36 = .ok (.goto 4, 3) := by decide +kernel
theorem dX8_takes_39 : decode cX8_takes 39 = .ok (.iconst 0, 1) := by decide +kernel
theorem dX8_takes_40 : decode cX8_takes 40 = .ok (.ireturn, 1) := by decide +kernel
theorem dX8_follow_0 : decode cX8_follow 0 = .ok (.aload_n 0, 1) := by decide +kernel
theorem dX8_follow_1 : decode cX8_follow 1 = .ok (.getfield 25, 3) := by decide +kernel
theorem dX8_follow_4 : decode cX8_follow 4 = .ok (.aload_n 1, 1) := by decide +kernel
theorem dX8_follow_5 : decode cX8_follow 5 = .ok (.getfield 29, 3) := by decide +kernel
theorem dX8_follow_8 : decode cX8_follow 8 = .ok (.if_icmp .ne 12, 3) := by decide +kernel
theorem dX8_follow_11 : decode cX8_follow 11 = .ok (.aload_n 0, 1) := by decide +kernel
theorem dX8_follow_12 : decode cX8_follow 12 = .ok (.getfield 34, 3) := by decide +kernel
theorem dX8_follow_15 : decode cX8_follow 15 = .ok (.iload_n 2, 1) := by decide +kernel
theorem dX8_follow_16 : decode cX8_follow 16 = .ok (.if_icmp .ne 4, 3) := by decide +kernel
theorem dX8_follow_19 : decode cX8_follow 19 = .ok (.return_, 1) := by decide +kernel
theorem dX8_follow_20 : decode cX8_follow 20 = .ok (.aload_n 0, 1) := by decide +kernel
theorem dX8_follow_21 : decode cX8_follow 21 = .ok (.aload_n 1, 1) := by decide +kernel
theorem dX8_follow_22 : decode cX8_follow 22 = .ok (.invokevirtual 37, 3) := by decide +kernel
theorem dX8_follow_25 : decode cX8_follow 25 = .ok (.aload_n 0, 1) := by decide +kernel
theorem dX8_follow_26 : decode cX8_follow 26 = .ok (.aload_n 1, 1) := by decide +kernel
theorem dX8_follow_27 : decode cX8_follow 27 = .ok (.getfield 41, 3) := by decide +kernel
theorem dX8_follow_30 : decode cX8_follow 30 = .ok (.invokevirtual 44, 3) := by decide +kernel
theorem dX8_follow_33 : decode cX8_follow 33 = .ok (.iconst 0, 1) := by decide +kernel
theorem dX8_follow_34 : decode cX8_follow 34 = .ok (.istore_n 3, 1) := by decide +kernel
theorem dX8_follow_35 : decode cX8_follow 35 = .ok (.iload_n 3, 1) := by decide +kernel
theorem dX8_follow_36 : decode cX8_follow 36 = .ok (.aload_n 0, 1) := by decide +kernel
theorem dX8_follow_37 : decode cX8_follow 37 = .ok (.getfield 48, 3) := by decide +kernel
theorem dX8_follow_40 : decode cX8_follow 40 = .ok (.if_icmp .ge 79, 3) := by decide +kernel
theorem dX8_follow_43 : decode cX8_follow 43 = .ok (.aload_n 0, 1) := by decide +kernel
theorem dX8_follow_44 : decode cX8_follow 44 = .ok (.getfield 18, 3) := by decide +kernel
theorem dX8_follow_47 : decode cX8_follow 47 = .ok (.iload_n 3, 1) := by decide +kernel
theorem dX8_follow_48 : decode cX8_follow 48 = .ok (.iaload, 1) := by decide +kernel
theorem dX8_follow_49 : decode cX8_follow 49 = .ok (.bipush 12, 2) := by decide +kernel
theorem dX8_follow_51 : decode cX8_follow 51 = .ok (.idiv, 1) := by decide +kernel
theorem dX8_follow_52 : decode cX8_follow 52 = .ok (.istore 4, 2) := by decide +kernel
theorem dX8_follow_54 : decode cX8_follow 54 = .ok (.aload_n 0, 1) := by decide +kernel
theorem dX8_follow_55 : decode cX8_follow 55 = .ok (.getfield 18, 3) := by decide +kernel
theorem dX8_follow_58 : decode cX8_follow 58 = .ok (.iload_n 3, 1) := by decide +kernel
theorem dX8_follow_59 : decode cX8_follow 59 = .ok (.iaload, 1) := by decide +kernel
theorem dX8_follow_60 : decode cX8_follow 60 = .ok (.bipush 12, 2) := by decide +kernel
theorem dX8_follow_62 : decode cX8_follow 62 = .ok (.irem, 1) := by decide +kernel
theorem dX8_follow_63 : decode cX8_follow 63 = .ok (.istore 5, 2) := by decide +kernel
theorem dX8_follow_65 : decode cX8_follow 65 = .ok (.aload_n 1, 1) := by decide +kernel
theorem dX8_follow_66 : decode cX8_follow 66 = .ok (.iload 4, 2) := by decide +kernel
theorem dX8_follow_68 : decode cX8_follow 68 = .ok (.iload 5, 2) := by decide +kernel
theorem dX8_follow_70 : decode cX8_follow 70 = .ok (.invokevirtual 51, 3) := by decide +kernel
theorem dX8_follow_73 : decode cX8_follow 73 = .ok (.istore 6, 2) := by decide +kernel
theorem dX8_follow_75 : decode cX8_follow 75 = .ok (.aload_n 0, 1) := by decide +kernel
theorem dX8_follow_76 : decode cX8_follow 76 = .ok (.getfield 12, 3) := by decide +kernel
theorem dX8_follow_79 : decode cX8_follow 79 = .ok (.iload 4, 2) := by decide +kernel
theorem dX8_follow_81 : decode cX8_follow 81 = .ok (.iload 5, 2) := by decide +kernel
theorem dX8_follow_83 : decode cX8_follow 83 = .ok (.invokevirtual 55, 3) := by decide +kernel
theorem dX8_follow_86 : decode cX8_follow 86 = .ok (.istore 7, 2) := by decide +kernel
theorem dX8_follow_88 : decode cX8_follow 88 = .ok (.iload 7, 2) := by decide +kernel
theorem dX8_follow_90 : decode cX8_follow 90 = .ok (.iconst (-1), 1) := by decide +kernel
theorem dX8_follow_91 : decode cX8_follow 91 = .ok (.if_icmp .eq 12, 3) := by decide +kernel
theorem dX8_follow_94 : decode cX8_follow 94 = .ok (.iload 7, 2) := by decide +kernel
theorem dX8_follow_96 : decode cX8_follow 96 = .ok (.iload_n 2, 1) := by decide +kernel
theorem dX8_follow_97 : decode cX8_follow 97 = .ok (.iload 6, 2) := by decide +kernel
theorem dX8_follow_99 : decode cX8_follow 99 = .ok (.imul, 1) := by decide +kernel
theorem dX8_follow_100 : decode cX8_follow 100 = .ok (.if_icmp .le 13, 3) := by decide +kernel
theorem dX8_follow_103 : decode cX8_follow 103 = .ok (.aload_n 0, 1) := by decide +kernel
theorem dX8_follow_104 : decode cX8_follow 104 = .ok (.iload 4, 2) := by decide +kernel
theorem dX8_follow_106 : decode cX8_follow 106 = .ok (.iload 5, 2) := by decide +kernel
theorem dX8_follow_108 : decode cX8_follow 108 = .ok (.iload 6, 2) := by decide +kernel
theorem dX8_follow_110 : decode cX8_follow 110 = .ok (.invokevirtual 58, 3) := by decide +kernel
theorem dX8_follow_113 : decode cX8_follow 113 = .ok (.iinc 3 1, 3) := by decide +kernel
theorem dX8_follow_116 : decode cX8_follow 116 = .ok (.goto (-81), 3) := by decide +kernel
theorem dX8_follow_119 : decode cX8_follow 119 = .ok (.aload_n 0, 1) := by decide +kernel
theorem dX8_follow_120 : decode cX8_follow 120 = .ok (.aload_n 1, 1) := by decide +kernel
theorem dX8_follow_121 : decode cX8_follow 121 = .ok (.getfield 29, 3) := by decide +kernel
theorem dX8_follow_124 : decode cX8_follow 124 = .ok (.putfield 25, 3) := by decide +kernel
theorem dX8_follow_127 : decode cX8_follow 127 = .ok (.aload_n 0, 1) := by decide +kernel
theorem dX8_follow_128 : decode cX8_follow 128 = .ok (.iload_n 2, 1) := by decide +kernel
theorem dX8_follow_129 : decode cX8_follow 129 = .ok (.putfield 34, 3) := by decide +kernel
theorem dX8_follow_132 : decode cX8_follow 132 = .ok (.return_, 1) := by decide +kernel
theorem dX8_take_0 : decode cX8_take 0 = .ok (.iload_n 1, 1) := by decide +kernel
theorem dX8_take_1 : decode cX8_take 1 = .ok (.ifCond .lt 19, 3) := by decide +kernel
theorem dX8_take_4 : decode cX8_take 4 = .ok (.iload_n 1, 1) := by decide +kernel
theorem dX8_take_5 : decode cX8_take 5 = .ok (.bipush 12, 2) := by decide +kernel
theorem dX8_take_7 : decode cX8_take 7 = .ok (.if_icmp .ge 13, 3) := by decide +kernel
theorem dX8_take_10 : decode cX8_take 10 = .ok (.iload_n 2, 1) := by decide +kernel
theorem dX8_take_11 : decode cX8_take 11 = .ok (.ifCond .lt 9, 3) := by decide +kernel
theorem dX8_take_14 : decode cX8_take 14 = .ok (.iload_n 2, 1) := by decide +kernel
theorem dX8_take_15 : decode cX8_take 15 = .ok (.bipush 12, 2) := by decide +kernel
theorem dX8_take_17 : decode cX8_take 17 = .ok (.if_icmp .lt 4, 3) := by decide +kernel
theorem dX8_take_20 : decode cX8_take 20 = .ok (.return_, 1) := by decide +kernel
theorem dX8_take_21 : decode cX8_take 21 = .ok (.aload_n 0, 1) := by decide +kernel
theorem dX8_take_22 : decode cX8_take 22 = .ok (.getfield 22, 3) := by decide +kernel
theorem dX8_take_25 : decode cX8_take 25 = .ok (.iload_n 1, 1) := by decide +kernel
theorem dX8_take_26 : decode cX8_take 26 = .ok (.dup2, 1) := by decide +kernel
theorem dX8_take_27 : decode cX8_take 27 = .ok (.iaload, 1) := by decide +kernel
theorem dX8_take_28 : decode cX8_take 28 = .ok (.iconst 1, 1) := by decide +kernel
theorem dX8_take_29 : decode cX8_take 29 = .ok (.iload_n 2, 1) := by decide +kernel
theorem dX8_take_30 : decode cX8_take 30 = .ok (.ishl, 1) := by decide +kernel
theorem dX8_take_31 : decode cX8_take 31 = .ok (.ior, 1) := by decide +kernel
theorem dX8_take_32 : decode cX8_take 32 = .ok (.iastore, 1) := by decide +kernel
theorem dX8_take_33 : decode cX8_take 33 = .ok (.aload_n 0, 1) := by decide +kernel
theorem dX8_take_34 : decode cX8_take 34 = .ok (.getfield 22, 3) := by decide +kernel
theorem dX8_take_37 : decode cX8_take 37 = .ok (.iload_n 2, 1) := by decide +kernel
theorem dX8_take_38 : decode cX8_take 38 = .ok (.dup2, 1) := by decide +kernel
theorem dX8_take_39 : decode cX8_take 39 = .ok (.iaload, 1) := by decide +kernel
theorem dX8_take_40 : decode cX8_take 40 = .ok (.iconst 1, 1) := by decide +kernel
theorem dX8_take_41 : decode cX8_take 41 = .ok (.iload_n 1, 1) := by decide +kernel
theorem dX8_take_42 : decode cX8_take 42 = .ok (.ishl, 1) := by decide +kernel
theorem dX8_take_43 : decode cX8_take 43 = .ok (.ior, 1) := by decide +kernel
theorem dX8_take_44 : decode cX8_take 44 = .ok (.iastore, 1) := by decide +kernel
theorem dX8_take_45 : decode cX8_take 45 = .ok (.aload_n 0, 1) := by decide +kernel
theorem dX8_take_46 : decode cX8_take 46 = .ok (.getfield 12, 3) := by decide +kernel
theorem dX8_take_49 : decode cX8_take 49 = .ok (.iload_n 1, 1) := by decide +kernel
theorem dX8_take_50 : decode cX8_take 50 = .ok (.iload_n 2, 1) := by decide +kernel
theorem dX8_take_51 : decode cX8_take 51 = .ok (.iload_n 3, 1) := by decide +kernel
theorem dX8_take_52 : decode cX8_take 52 = .ok (.invokevirtual 62, 3) := by decide +kernel
theorem dX8_take_55 : decode cX8_take 55 = .ok (.aload_n 0, 1) := by decide +kernel
theorem dX8_take_56 : decode cX8_take 56 = .ok (.dup, 1) := by decide +kernel
theorem dX8_take_57 : decode cX8_take 57 = .ok (.getfield 65, 3) := by decide +kernel
theorem dX8_take_60 : decode cX8_take 60 = .ok (.iconst 1, 1) := by decide +kernel
theorem dX8_take_61 : decode cX8_take 61 = .ok (.iadd, 1) := by decide +kernel
theorem dX8_take_62 : decode cX8_take 62 = .ok (.putfield 65, 3) := by decide +kernel
theorem dX8_take_65 : decode cX8_take 65 = .ok (.return_, 1) := by decide +kernel
theorem dX8_clear_0 : decode cX8_clear 0 = .ok (.aload_n 0, 1) := by decide +kernel
theorem dX8_clear_1 : decode cX8_clear 1 = .ok (.iconst 0, 1) := by decide +kernel
theorem dX8_clear_2 : decode cX8_clear 2 = .ok (.putfield 65, 3) := by decide +kernel
theorem dX8_clear_5 : decode cX8_clear 5 = .ok (.aload_n 0, 1) := by decide +kernel
theorem dX8_clear_6 : decode cX8_clear 6 = .ok (.getfield 22, 3) := by decide +kernel
theorem dX8_clear_9 : decode cX8_clear 9 = .ok (.iconst 0, 1) := by decide +kernel
theorem dX8_clear_10 : decode cX8_clear 10 = .ok (.invokestatic 68, 3) := by decide +kernel
theorem dX8_clear_13 : decode cX8_clear 13 = .ok (.aload_n 0, 1) := by decide +kernel
theorem dX8_clear_14 : decode cX8_clear 14 = .ok (.getfield 12, 3) := by decide +kernel
theorem dX8_clear_17 : decode cX8_clear 17 = .ok (.iload_n 1, 1) := by decide +kernel
theorem dX8_clear_18 : decode cX8_clear 18 = .ok (.invokevirtual 74, 3) := by decide +kernel
theorem dX8_clear_21 : decode cX8_clear 21 = .ok (.return_, 1) := by decide +kernel
theorem dX8_sortLinks_0 : decode cX8_sortLinks 0 = .ok (.aload_n 0, 1) := by decide +kernel
theorem dX8_sortLinks_1 : decode cX8_sortLinks 1 = .ok (.iconst 0, 1) := by decide +kernel
theorem dX8_sortLinks_2 : decode cX8_sortLinks 2 = .ok (.putfield 48, 3) := by decide +kernel
theorem dX8_sortLinks_5 : decode cX8_sortLinks 5 = .ok (.iconst 0, 1) := by decide +kernel
theorem dX8_sortLinks_6 : decode cX8_sortLinks 6 = .ok (.istore_n 2, 1) := by decide +kernel
theorem dX8_sortLinks_7 : decode cX8_sortLinks 7 = .ok (.iload_n 2, 1) := by decide +kernel
theorem dX8_sortLinks_8 : decode cX8_sortLinks 8 = .ok (.aload_n 1, 1) := by decide +kernel
theorem dX8_sortLinks_9 : decode cX8_sortLinks 9 = .ok (.getfield 41, 3) := by decide +kernel
theorem dX8_sortLinks_12 : decode cX8_sortLinks 12 = .ok (.if_icmp .ge 52, 3) := by decide +kernel
theorem dX8_sortLinks_15 : decode cX8_sortLinks 15 = .ok (.iload_n 2, 1) := by decide +kernel
theorem dX8_sortLinks_16 : decode cX8_sortLinks 16 = .ok (.iconst 1, 1) := by decide +kernel
theorem dX8_sortLinks_17 : decode cX8_sortLinks 17 = .ok (.iadd, 1) := by decide +kernel
theorem dX8_sortLinks_18 : decode cX8_sortLinks 18 = .ok (.istore_n 3, 1) := by decide +kernel
theorem dX8_sortLinks_19 : decode cX8_sortLinks 19 = .ok (.iload_n 3, 1) := by decide +kernel
theorem dX8_sortLinks_20 : decode cX8_sortLinks 20 = .ok (.aload_n 1, 1) := by decide +kernel
theorem dX8_sortLinks_21 : decode cX8_sortLinks 21 = .ok (.getfield 41, 3) := by decide +kernel
theorem dX8_sortLinks_24 : decode cX8_sortLinks 24 = .ok (.if_icmp .ge 34, 3) := by decide +kernel
theorem dX8_sortLinks_27 : decode cX8_sortLinks 27 = .ok (.aload_n 1, 1) := by decide +kernel
theorem dX8_sortLinks_28 : decode cX8_sortLinks 28 = .ok (.iload_n 2, 1) := by decide +kernel
theorem dX8_sortLinks_29 : decode cX8_sortLinks 29 = .ok (.iload_n 3, 1) := by decide +kernel
theorem dX8_sortLinks_30 : decode cX8_sortLinks 30 = .ok (.invokevirtual 51, 3) := by decide +kernel
theorem dX8_sortLinks_33 : decode cX8_sortLinks 33 = .ok (.ifCond .le 19, 3) := by decide +kernel
theorem dX8_sortLinks_36 : decode cX8_sortLinks 36 = .ok (.aload_n 0, 1) := by decide +kernel
theorem dX8_sortLinks_37 : decode cX8_sortLinks 37 = .ok (.getfield 48, 3) := by decide +kernel
theorem dX8_sortLinks_40 : decode cX8_sortLinks 40 = .ok (.bipush 30, 2) := by decide +kernel
theorem dX8_sortLinks_42 : decode cX8_sortLinks 42 = .ok (.if_icmp .ge 10, 3) := by decide +kernel
theorem dX8_sortLinks_45 : decode cX8_sortLinks 45 = .ok (.aload_n 0, 1) := by decide +kernel
theorem dX8_sortLinks_46 : decode cX8_sortLinks 46 = .ok (.aload_n 1, 1) := by decide +kernel
theorem dX8_sortLinks_47 : decode cX8_sortLinks 47 = .ok (.iload_n 2, 1) := by decide +kernel
theorem dX8_sortLinks_48 : decode cX8_sortLinks 48 = .ok (.iload_n 3, 1) := by decide +kernel
theorem dX8_sortLinks_49 : decode cX8_sortLinks 49 = .ok (.invokevirtual 75, 3) := by decide +kernel
theorem dX8_sortLinks_52 : decode cX8_sortLinks 52 = .ok (.iinc 3 1, 3) := by decide +kernel
theorem dX8_sortLinks_55 : decode cX8_sortLinks 55 = .ok (.goto (-36), 3) := by decide +kernel
theorem dX8_sortLinks_58 : decode cX8_sortLinks 58 = .ok (.iinc 2 1, 3) := by decide +kernel
theorem dX8_sortLinks_61 : decode cX8_sortLinks 61 = .ok (.goto (-54), 3) := by decide +kernel
theorem dX8_sortLinks_64 : decode cX8_sortLinks 64 = .ok (.return_, 1) := by decide +kernel
theorem dX8_insert_0 : decode cX8_insert 0 = .ok (.aload_n 1, 1) := by decide +kernel
theorem dX8_insert_1 : decode cX8_insert 1 = .ok (.iload_n 2, 1) := by decide +kernel
theorem dX8_insert_2 : decode cX8_insert 2 = .ok (.iload_n 3, 1) := by decide +kernel
theorem dX8_insert_3 : decode cX8_insert 3 = .ok (.invokevirtual 51, 3) := by decide +kernel
theorem dX8_insert_6 : decode cX8_insert 6 = .ok (.istore 4, 2) := by decide +kernel
theorem dX8_insert_8 : decode cX8_insert 8 = .ok (.aload_n 0, 1) := by decide +kernel
theorem dX8_insert_9 : decode cX8_insert 9 = .ok (.getfield 48, 3) := by decide +kernel
theorem dX8_insert_12 : decode cX8_insert 12 = .ok (.istore 5, 2) := by decide +kernel
theorem dX8_insert_14 : decode cX8_insert 14 = .ok (.iload 5, 2) := by decide +kernel
theorem dX8_insert_16 : decode cX8_insert 16 = .ok (.ifCond .le 39, 3) := by decide +kernel
theorem dX8_insert_19 : decode cX8_insert 19 = .ok (.aload_n 0, 1) := by decide +kernel
theorem dX8_insert_20 : decode cX8_insert 20 = .ok (.aload_n 1, 1) := by decide +kernel
theorem dX8_insert_21 : decode cX8_insert 21 = .ok (.iload 5, 2) := by decide +kernel
theorem dX8_insert_23 : decode cX8_insert 23 = .ok (.iconst 1, 1) := by decide +kernel
theorem dX8_insert_24 : decode cX8_insert 24 = .ok (.isub, 1) := by decide +kernel
theorem dX8_insert_25 : decode cX8_insert 25 = .ok (.invokevirtual 79, 3) := by decide +kernel
theorem dX8_insert_28 : decode cX8_insert 28 = .ok (.iload 4, 2) := by decide +kernel
theorem dX8_insert_30 : decode cX8_insert 30 = .ok (.if_icmp .le 25, 3) := by decide +kernel
theorem dX8_insert_33 : decode cX8_insert 33 = .ok (.aload_n 0, 1) := by decide +kernel
theorem dX8_insert_34 : decode cX8_insert 34 = .ok (.getfield 18, 3) := by decide +kernel
theorem dX8_insert_37 : decode cX8_insert 37 = .ok (.iload 5, 2) := by decide +kernel
theorem dX8_insert_39 : decode cX8_insert 39 = .ok (.aload_n 0, 1) := by decide +kernel
theorem dX8_insert_40 : decode cX8_insert 40 = .ok (.getfield 18, 3) := by decide +kernel
theorem dX8_insert_43 : decode cX8_insert 43 = .ok (.iload 5, 2) := by decide +kernel
theorem dX8_insert_45 : decode cX8_insert 45 = .ok (.iconst 1, 1) := by decide +kernel
theorem dX8_insert_46 : decode cX8_insert 46 = .ok (.isub, 1) := by decide +kernel
theorem dX8_insert_47 : decode cX8_insert 47 = .ok (.iaload, 1) := by decide +kernel
theorem dX8_insert_48 : decode cX8_insert 48 = .ok (.iastore, 1) := by decide +kernel
theorem dX8_insert_49 : decode cX8_insert 49 = .ok (.iinc 5 (-1), 3) := by decide +kernel
theorem dX8_insert_52 : decode cX8_insert 52 = .ok (.goto (-38), 3) := by decide +kernel
theorem dX8_insert_55 : decode cX8_insert 55 = .ok (.aload_n 0, 1) := by decide +kernel
theorem dX8_insert_56 : decode cX8_insert 56 = .ok (.getfield 18, 3) := by decide +kernel
theorem dX8_insert_59 : decode cX8_insert 59 = .ok (.iload 5, 2) := by decide +kernel
theorem dX8_insert_61 : decode cX8_insert 61 = .ok (.iload_n 2, 1) := by decide +kernel
theorem dX8_insert_62 : decode cX8_insert 62 = .ok (.iload_n 3, 1) := by decide +kernel
theorem dX8_insert_63 : decode cX8_insert 63 = .ok (.invokestatic 83, 3) := by decide +kernel
theorem dX8_insert_66 : decode cX8_insert 66 = .ok (.iastore, 1) := by decide +kernel
theorem dX8_insert_67 : decode cX8_insert 67 = .ok (.aload_n 0, 1) := by decide +kernel
theorem dX8_insert_68 : decode cX8_insert 68 = .ok (.dup, 1) := by decide +kernel
theorem dX8_insert_69 : decode cX8_insert 69 = .ok (.getfield 48, 3) := by decide +kernel
theorem dX8_insert_72 : decode cX8_insert 72 = .ok (.iconst 1, 1) := by decide +kernel
theorem dX8_insert_73 : decode cX8_insert 73 = .ok (.iadd, 1) := by decide +kernel
theorem dX8_insert_74 : decode cX8_insert 74 = .ok (.putfield 48, 3) := by decide +kernel
theorem dX8_insert_77 : decode cX8_insert 77 = .ok (.return_, 1) := by decide +kernel
theorem dX8_lengthAt_0 : decode cX8_lengthAt 0 = .ok (.aload_n 1, 1) := by decide +kernel
theorem dX8_lengthAt_1 : decode cX8_lengthAt 1 = .ok (.aload_n 0, 1) := by decide +kernel
theorem dX8_lengthAt_2 : decode cX8_lengthAt 2 = .ok (.getfield 18, 3) := by decide +kernel
theorem dX8_lengthAt_5 : decode cX8_lengthAt 5 = .ok (.iload_n 2, 1) := by decide +kernel
theorem dX8_lengthAt_6 : decode cX8_lengthAt 6 = .ok (.iaload, 1) := by decide +kernel
theorem dX8_lengthAt_7 : decode cX8_lengthAt 7 = .ok (.bipush 12, 2) := by decide +kernel
theorem dX8_lengthAt_9 : decode cX8_lengthAt 9 = .ok (.idiv, 1) := by decide +kernel
theorem dX8_lengthAt_10 : decode cX8_lengthAt 10 = .ok (.aload_n 0, 1) := by decide +kernel
theorem dX8_lengthAt_11 : decode cX8_lengthAt 11 = .ok (.getfield 18, 3) := by decide +kernel
theorem dX8_lengthAt_14 : decode cX8_lengthAt 14 = .ok (.iload_n 2, 1) := by decide +kernel
theorem dX8_lengthAt_15 : decode cX8_lengthAt 15 = .ok (.iaload, 1) := by decide +kernel
theorem dX8_lengthAt_16 : decode cX8_lengthAt 16 = .ok (.bipush 12, 2) := by decide +kernel
theorem dX8_lengthAt_18 : decode cX8_lengthAt 18 = .ok (.irem, 1) := by decide +kernel
theorem dX8_lengthAt_19 : decode cX8_lengthAt 19 = .ok (.invokevirtual 51, 3) := by decide +kernel
theorem dX8_lengthAt_22 : decode cX8_lengthAt 22 = .ok (.ireturn, 1) := by decide +kernel
theorem dX9_init_0 : decode cX9_init 0 = .ok (.aload_n 0, 1) := by decide +kernel
theorem dX9_init_1 : decode cX9_init 1 = .ok (.invokespecial 1, 3) := by decide +kernel
theorem dX9_init_4 : decode cX9_init 4 = .ok (.aload_n 0, 1) := by decide +kernel
theorem dX9_init_5 : decode cX9_init 5 = .ok (.new 7, 3) := by decide +kernel
theorem dX9_init_8 : decode cX9_init 8 = .ok (.dup, 1) := by decide +kernel
theorem dX9_init_9 : decode cX9_init 9 = .ok (.invokespecial 9, 3) := by decide +kernel
theorem dX9_init_12 : decode cX9_init 12 = .ok (.putfield 10, 3) := by decide +kernel
theorem dX9_init_15 : decode cX9_init 15 = .ok (.aload_n 0, 1) := by decide +kernel
theorem dX9_init_16 : decode cX9_init 16 = .ok (.new 7, 3) := by decide +kernel
theorem dX9_init_19 : decode cX9_init 19 = .ok (.dup, 1) := by decide +kernel
theorem dX9_init_20 : decode cX9_init 20 = .ok (.invokespecial 9, 3) := by decide +kernel
theorem dX9_init_23 : decode cX9_init 23 = .ok (.putfield 16, 3) := by decide +kernel
theorem dX9_init_26 : decode cX9_init 26 = .ok (.aload_n 0, 1) := by decide +kernel
theorem dX9_init_27 : decode cX9_init 27 = .ok (.new 19, 3) := by decide +kernel
theorem dX9_init_30 : decode cX9_init 30 = .ok (.dup, 1) := by decide +kernel
theorem dX9_init_31 : decode cX9_init 31 = .ok (.invokespecial 21, 3) := by decide +kernel
theorem dX9_init_34 : decode cX9_init 34 = .ok (.putfield 22, 3) := by decide +kernel
theorem dX9_init_37 : decode cX9_init 37 = .ok (.aload_n 0, 1) := by decide +kernel
theorem dX9_init_38 : decode cX9_init 38 = .ok (.new 26, 3) := by decide +kernel
theorem dX9_init_41 : decode cX9_init 41 = .ok (.dup, 1) := by decide +kernel
theorem dX9_init_42 : decode cX9_init 42 = .ok (.invokespecial 28, 3) := by decide +kernel
theorem dX9_init_45 : decode cX9_init 45 = .ok (.putfield 29, 3) := by decide +kernel
theorem dX9_init_48 : decode cX9_init 48 = .ok (.aload_n 0, 1) := by decide +kernel
theorem dX9_init_49 : decode cX9_init 49 = .ok (.invokestatic 33, 3) := by decide +kernel
theorem dX9_init_52 : decode cX9_init 52 = .ok (.putfield 37, 3) := by decide +kernel
theorem dX9_init_55 : decode cX9_init 55 = .ok (.aload_n 0, 1) := by decide +kernel
theorem dX9_init_56 : decode cX9_init 56 = .ok (.new 41, 3) := by decide +kernel
theorem dX9_init_59 : decode cX9_init 59 = .ok (.dup, 1) := by decide +kernel
theorem dX9_init_60 : decode cX9_init 60 = .ok (.invokespecial 43, 3) := by decide +kernel
theorem dX9_init_63 : decode cX9_init 63 = .ok (.putfield 44, 3) := by decide +kernel
theorem dX9_init_66 : decode cX9_init 66 = .ok (.aload_n 0, 1) := by decide +kernel
theorem dX9_init_67 : decode cX9_init 67 = .ok (.iconst 2, 1) := by decide +kernel
theorem dX9_init_68 : decode cX9_init 68 = .ok (.anewarray 48, 3) := by decide +kernel
theorem dX9_init_71 : decode cX9_init 71 = .ok (.putfield 50, 3) := by decide +kernel
theorem dX9_init_74 : decode cX9_init 74 = .ok (.iconst 0, 1) := by decide +kernel
theorem dX9_init_75 : decode cX9_init 75 = .ok (.istore_n 1, 1) := by decide +kernel
theorem dX9_init_76 : decode cX9_init 76 = .ok (.iload_n 1, 1) := by decide +kernel
theorem dX9_init_77 : decode cX9_init 77 = .ok (.iconst 2, 1) := by decide +kernel
theorem dX9_init_78 : decode cX9_init 78 = .ok (.if_icmp .ge 22, 3) := by decide +kernel
theorem dX9_init_81 : decode cX9_init 81 = .ok (.aload_n 0, 1) := by decide +kernel
theorem dX9_init_82 : decode cX9_init 82 = .ok (.getfield 50, 3) := by decide +kernel
theorem dX9_init_85 : decode cX9_init 85 = .ok (.iload_n 1, 1) := by decide +kernel
theorem dX9_init_86 : decode cX9_init 86 = .ok (.new 48, 3) := by decide +kernel
theorem dX9_init_89 : decode cX9_init 89 = .ok (.dup, 1) := by decide +kernel
theorem dX9_init_90 : decode cX9_init 90 = .ok (.invokespecial 54, 3) := by decide +kernel
theorem dX9_init_93 : decode cX9_init 93 = .ok (.aastore, 1) := by decide +kernel
theorem dX9_init_94 : decode cX9_init 94 = .ok (.iinc 1 1, 3) := by decide +kernel
theorem dX9_init_97 : decode cX9_init 97 = .ok (.goto (-21), 3) := by decide +kernel
theorem dX9_init_100 : decode cX9_init 100 = .ok (.aload_n 0, 1) := by decide +kernel
theorem dX9_init_101 : decode cX9_init 101 = .ok (.new 55, 3) := by decide +kernel
theorem dX9_init_104 : decode cX9_init 104 = .ok (.dup, 1) := by decide +kernel
theorem dX9_init_105 : decode cX9_init 105 = .ok (.invokespecial 57, 3) := by decide +kernel
theorem dX9_init_108 : decode cX9_init 108 = .ok (.putfield 58, 3) := by decide +kernel
theorem dX9_init_111 : decode cX9_init 111 = .ok (.aload_n 0, 1) := by decide +kernel
theorem dX9_init_112 : decode cX9_init 112 = .ok (.new 62, 3) := by decide +kernel
theorem dX9_init_115 : decode cX9_init 115 = .ok (.dup, 1) := by decide +kernel
theorem dX9_init_116 : decode cX9_init 116 = .ok (.invokespecial 64, 3) := by decide +kernel
theorem dX9_init_119 : decode cX9_init 119 = .ok (.putfield 65, 3) := by decide +kernel
theorem dX9_init_122 : decode cX9_init 122 = .ok (.aload_n 0, 1) := by decide +kernel
theorem dX9_init_123 : decode cX9_init 123 = .ok (.new 69, 3) := by decide +kernel
theorem dX9_init_126 : decode cX9_init 126 = .ok (.dup, 1) := by decide +kernel
theorem dX9_init_127 : decode cX9_init 127 = .ok (.invokespecial 71, 3) := by decide +kernel
theorem dX9_init_130 : decode cX9_init 130 = .ok (.putfield 72, 3) := by decide +kernel
theorem dX9_init_133 : decode cX9_init 133 = .ok (.aload_n 0, 1) := by decide +kernel
theorem dX9_init_134 : decode cX9_init 134 = .ok (.new 76, 3) := by decide +kernel
theorem dX9_init_137 : decode cX9_init 137 = .ok (.dup, 1) := by decide +kernel
theorem dX9_init_138 : decode cX9_init 138 = .ok (.invokespecial 78, 3) := by decide +kernel
theorem dX9_init_141 : decode cX9_init 141 = .ok (.putfield 79, 3) := by decide +kernel
theorem dX9_init_144 : decode cX9_init 144 = .ok (.return_, 1) := by decide +kernel
theorem dX9_type_0 : decode cX9_type 0 = .ok (.iload_n 1, 1) := by decide +kernel
theorem dX9_type_1 : decode cX9_type 1 = .ok (.ifCond .lt 10, 3) := by decide +kernel
theorem dX9_type_4 : decode cX9_type 4 = .ok (.iload_n 1, 1) := by decide +kernel
theorem dX9_type_5 : decode cX9_type 5 = .ok (.sipush 255, 3) := by decide +kernel
theorem dX9_type_8 : decode cX9_type 8 = .ok (.if_icmp .le 6, 3) := by decide +kernel
theorem dX9_type_11 : decode cX9_type 11 = .ok (.bipush (-3), 2) := by decide +kernel
theorem dX9_type_13 : decode cX9_type 13 = .ok (.ireturn, 1) := by decide +kernel
theorem dX9_type_14 : decode cX9_type 14 = .ok (.aload_n 0, 1) := by decide +kernel
theorem dX9_type_15 : decode cX9_type 15 = .ok (.getfield 22, 3) := by decide +kernel
theorem dX9_type_18 : decode cX9_type 18 = .ok (.getfield 83, 3) := by decide +kernel
theorem dX9_type_21 : decode cX9_type 21 = .ok (.sipush 200, 3) := by decide +kernel
theorem dX9_type_24 : decode cX9_type 24 = .ok (.if_icmp .lt 6, 3) := by decide +kernel
theorem dX9_type_27 : decode cX9_type 27 = .ok (.bipush (-5), 2) := by decide +kernel
theorem dX9_type_29 : decode cX9_type 29 = .ok (.ireturn, 1) := by decide +kernel
theorem dX9_type_30 : decode cX9_type 30 = .ok (.aload_n 0, 1) := by decide +kernel
theorem dX9_type_31 : decode cX9_type 31 = .ok (.getfield 22, 3) := by decide +kernel
theorem dX9_type_34 : decode cX9_type 34 = .ok (.iload_n 1, 1) := by decide +kernel
theorem dX9_type_35 : decode cX9_type 35 = .ok (.invokevirtual 87, 3) := by decide +kernel
theorem dX9_type_38 : decode cX9_type 38 = .ok (.aload_n 0, 1) := by decide +kernel
theorem dX9_type_39 : decode cX9_type 39 = .ok (.getfield 22, 3) := by decide +kernel
theorem dX9_type_42 : decode cX9_type 42 = .ok (.getfield 83, 3) := by decide +kernel
theorem dX9_type_45 : decode cX9_type 45 = .ok (.ireturn, 1) := by decide +kernel
theorem dX9_erase_0 : decode cX9_erase 0 = .ok (.aload_n 0, 1) := by decide +kernel
theorem dX9_erase_1 : decode cX9_erase 1 = .ok (.getfield 22, 3) := by decide +kernel
theorem dX9_erase_4 : decode cX9_erase 4 = .ok (.getfield 83, 3) := by decide +kernel
theorem dX9_erase_7 : decode cX9_erase 7 = .ok (.istore_n 1, 1) := by decide +kernel
theorem dX9_erase_8 : decode cX9_erase 8 = .ok (.aload_n 0, 1) := by decide +kernel
theorem dX9_erase_9 : decode cX9_erase 9 = .ok (.getfield 22, 3) := by decide +kernel
theorem dX9_erase_12 : decode cX9_erase 12 = .ok (.iconst 0, 1) := by decide +kernel
theorem dX9_erase_13 : decode cX9_erase 13 = .ok (.putfield 83, 3) := by decide +kernel
theorem dX9_erase_16 : decode cX9_erase 16 = .ok (.iload_n 1, 1) := by decide +kernel
theorem dX9_erase_17 : decode cX9_erase 17 = .ok (.ireturn, 1) := by decide +kernel
theorem dX9_fault_0 : decode cX9_fault 0 = .ok (.aload_n 0, 1) := by decide +kernel
theorem dX9_fault_1 : decode cX9_fault 1 = .ok (.invokevirtual 91, 3) := by decide +kernel
theorem dX9_fault_4 : decode cX9_fault 4 = .ok (.ireturn, 1) := by decide +kernel
theorem dX9_net_0 : decode cX9_net 0 = .ok (.aload_n 0, 1) := by decide +kernel
theorem dX9_net_1 : decode cX9_net 1 = .ok (.invokevirtual 91, 3) := by decide +kernel
theorem dX9_net_4 : decode cX9_net 4 = .ok (.iconst (-1), 1) := by decide +kernel
theorem dX9_net_5 : decode cX9_net 5 = .ok (.if_icmp .eq 6, 3) := by decide +kernel
theorem dX9_net_8 : decode cX9_net 8 = .ok (.bipush (-4), 2) := by decide +kernel
theorem dX9_net_10 : decode cX9_net 10 = .ok (.ireturn, 1) := by decide +kernel
theorem dX9_net_11 : decode cX9_net 11 = .ok (.aload_n 0, 1) := by decide +kernel
theorem dX9_net_12 : decode cX9_net 12 = .ok (.getfield 10, 3) := by decide +kernel
theorem dX9_net_15 : decode cX9_net 15 = .ok (.aload_n 0, 1) := by decide +kernel
theorem dX9_net_16 : decode cX9_net 16 = .ok (.getfield 16, 3) := by decide +kernel
theorem dX9_net_19 : decode cX9_net 19 = .ok (.invokevirtual 95, 3) := by decide +kernel
theorem dX9_net_22 : decode cX9_net 22 = .ok (.aload_n 0, 1) := by decide +kernel
theorem dX9_net_23 : decode cX9_net 23 = .ok (.getfield 22, 3) := by decide +kernel
theorem dX9_net_26 : decode cX9_net 26 = .ok (.getfield 99, 3) := by decide +kernel
theorem dX9_net_29 : decode cX9_net 29 = .ok (.ifCond .eq 7, 3) := by decide +kernel
theorem dX9_net_32 : decode cX9_net 32 = .ok (.aload_n 0, 1) := by decide +kernel
theorem dX9_net_33 : decode cX9_net 33 = .ok (.invokevirtual 103, 3) := by decide +kernel
theorem dX9_net_36 : decode cX9_net 36 = .ok (.aload_n 0, 1) := by decide +kernel
theorem dX9_net_37 : decode cX9_net 37 = .ok (.getfield 29, 3) := by decide +kernel
theorem dX9_net_40 : decode cX9_net 40 = .ok (.iconst 0, 1) := by decide +kernel
theorem dX9_net_41 : decode cX9_net 41 = .ok (.putfield 106, 3) := by decide +kernel
theorem dX9_net_44 : decode cX9_net 44 = .ok (.aload_n 0, 1) := by decide +kernel
theorem dX9_net_45 : decode cX9_net 45 = .ok (.invokevirtual 107, 3) := by decide +kernel
theorem dX9_net_48 : decode cX9_net 48 = .ok (.aload_n 0, 1) := by decide +kernel
theorem dX9_net_49 : decode cX9_net 49 = .ok (.getfield 22, 3) := by decide +kernel
theorem dX9_net_52 : decode cX9_net 52 = .ok (.iconst 0, 1) := by decide +kernel
theorem dX9_net_53 : decode cX9_net 53 = .ok (.putfield 83, 3) := by decide +kernel
theorem dX9_net_56 : decode cX9_net 56 = .ok (.aload_n 0, 1) := by decide +kernel
theorem dX9_net_57 : decode cX9_net 57 = .ok (.getfield 22, 3) := by decide +kernel
theorem dX9_net_60 : decode cX9_net 60 = .ok (.getfield 110, 3) := by decide +kernel
theorem dX9_net_63 : decode cX9_net 63 = .ok (.ireturn, 1) := by decide +kernel
theorem dX9_link_0 : decode cX9_link 0 = .ok (.aload_n 0, 1) := by decide +kernel
theorem dX9_link_1 : decode cX9_link 1 = .ok (.getfield 10, 3) := by decide +kernel
theorem dX9_link_4 : decode cX9_link 4 = .ok (.iload_n 1, 1) := by decide +kernel
theorem dX9_link_5 : decode cX9_link 5 = .ok (.invokevirtual 113, 3) := by decide +kernel
theorem dX9_link_8 : decode cX9_link 8 = .ok (.istore_n 3, 1) := by decide +kernel
theorem dX9_link_9 : decode cX9_link 9 = .ok (.iload_n 3, 1) := by decide +kernel
theorem dX9_link_10 : decode cX9_link 10 = .ok (.iconst (-1), 1) := by decide +kernel
theorem dX9_link_11 : decode cX9_link 11 = .ok (.if_icmp .ne 6, 3) := by decide +kernel
theorem dX9_link_14 : decode cX9_link 14 = .ok (.bipush (-2), 2) := by decide +kernel
theorem dX9_link_16 : decode cX9_link 16 = .ok (.ireturn, 1) := by decide +kernel
theorem dX9_link_17 : decode cX9_link 17 = .ok (.iload_n 3, 1) := by decide +kernel
theorem dX9_link_18 : decode cX9_link 18 = .ok (.bipush 12, 2) := by decide +kernel
theorem dX9_link_20 : decode cX9_link 20 = .ok (.idiv, 1) := by decide +kernel
theorem dX9_link_21 : decode cX9_link 21 = .ok (.istore 4, 2) := by decide +kernel
theorem dX9_link_23 : decode cX9_link 23 = .ok (.iload_n 3, 1) := by decide +kernel
theorem dX9_link_24 : decode cX9_link 24 = .ok (.bipush 12, 2) := by decide +kernel
theorem dX9_link_26 : decode cX9_link 26 = .ok (.irem, 1) := by decide +kernel
theorem dX9_link_27 : decode cX9_link 27 = .ok (.istore 5, 2) := by decide +kernel
theorem dX9_link_29 : decode cX9_link 29 = .ok (.iload_n 2, 1) := by decide +kernel
theorem dX9_link_30 : decode cX9_link 30 = .ok (.tableswitch 44 0 2 #[26, 29, 32], 26) := by decide +kernel
theorem dX9_link_56 : decode cX9_link 56 = .ok (.iload 4, 2) := by decide +kernel
theorem dX9_link_58 : decode cX9_link 58 = .ok (.ireturn, 1) := by decide +kernel
theorem dX9_link_59 : decode cX9_link 59 = .ok (.iload 5, 2) := by decide +kernel
theorem dX9_link_61 : decode cX9_link 61 = .ok (.ireturn, 1) := by decide +kernel
theorem dX9_link_62 : decode cX9_link 62 = .ok (.aload_n 0, 1) := by decide +kernel
theorem dX9_link_63 : decode cX9_link 63 = .ok (.getfield 10, 3) := by decide +kernel
theorem dX9_link_66 : decode cX9_link 66 = .ok (.iload 4, 2) := by decide +kernel
theorem dX9_link_68 : decode cX9_link 68 = .ok (.iload 5, 2) := by decide +kernel
theorem dX9_link_70 : decode cX9_link 70 = .ok (.invokevirtual 117, 3) := by decide +kernel
theorem dX9_link_73 : decode cX9_link 73 = .ok (.ireturn, 1) := by decide +kernel
theorem dX9_link_74 : decode cX9_link 74 = .ok (.bipush (-3), 2) := by decide +kernel
theorem dX9_link_76 : decode cX9_link 76 = .ok (.ireturn, 1) := by decide +kernel
theorem dX9_level_0 : decode cX9_level 0 = .ok (.aload_n 0, 1) := by decide +kernel
theorem dX9_level_1 : decode cX9_level 1 = .ok (.getfield 10, 3) := by decide +kernel
theorem dX9_level_4 : decode cX9_level 4 = .ok (.iload_n 1, 1) := by decide +kernel
theorem dX9_level_5 : decode cX9_level 5 = .ok (.invokevirtual 121, 3) := by decide +kernel
theorem dX9_level_8 : decode cX9_level 8 = .ok (.ifCond .ne 6, 3) := by decide +kernel
theorem dX9_level_11 : decode cX9_level 11 = .ok (.bipush (-2), 2) := by decide +kernel
theorem dX9_level_13 : decode cX9_level 13 = .ok (.ireturn, 1) := by decide +kernel
theorem dX9_level_14 : decode cX9_level 14 = .ok (.aload_n 0, 1) := by decide +kernel
theorem dX9_level_15 : decode cX9_level 15 = .ok (.getfield 10, 3) := by decide +kernel
theorem dX9_level_18 : decode cX9_level 18 = .ok (.iload_n 1, 1) := by decide +kernel
theorem dX9_level_19 : decode cX9_level 19 = .ok (.invokevirtual 125, 3) := by decide +kernel
theorem dX9_level_22 : decode cX9_level 22 = .ok (.ireturn, 1) := by decide +kernel
theorem dX9_join_0 : decode cX9_join 0 = .ok (.aload_n 0, 1) := by decide +kernel
theorem dX9_join_1 : decode cX9_join 1 = .ok (.iload_n 1, 1) := by decide +kernel
theorem dX9_join_2 : decode cX9_join 2 = .ok (.iload_n 2, 1) := by decide +kernel
theorem dX9_join_3 : decode cX9_join 3 = .ok (.invokevirtual 128, 3) := by decide +kernel
theorem dX9_join_6 : decode cX9_join 6 = .ok (.ifCond .eq 8, 3) := by decide +kernel
theorem dX9_join_9 : decode cX9_join 9 = .ok (.iload_n 1, 1) := by decide +kernel
theorem dX9_join_10 : decode cX9_join 10 = .ok (.iload_n 2, 1) := by decide +kernel
theorem dX9_join_11 : decode cX9_join 11 = .ok (.if_icmp .ne 6, 3) := by decide +kernel
theorem dX9_join_14 : decode cX9_join 14 = .ok (.bipush (-2), 2) := by decide +kernel
theorem dX9_join_16 : decode cX9_join 16 = .ok (.ireturn, 1) := by decide +kernel
theorem dX9_join_17 : decode cX9_join 17 = .ok (.iload_n 3, 1) := by decide +kernel
theorem dX9_join_18 : decode cX9_join 18 = .ok (.iconst 1, 1) := by decide +kernel
theorem dX9_join_19 : decode cX9_join 19 = .ok (.if_icmp .lt 9, 3) := by decide +kernel
theorem dX9_join_22 : decode cX9_join 22 = .ok (.iload_n 3, 1) := by decide +kernel
theorem dX9_join_23 : decode cX9_join 23 = .ok (.bipush 99, 2) := by decide +kernel
theorem dX9_join_25 : decode cX9_join 25 = .ok (.if_icmp .le 6, 3) := by decide +kernel
theorem dX9_join_28 : decode cX9_join 28 = .ok (.bipush (-3), 2) := by decide +kernel
theorem dX9_join_30 : decode cX9_join 30 = .ok (.ireturn, 1) := by decide +kernel
theorem dX9_join_31 : decode cX9_join 31 = .ok (.aload_n 0, 1) := by decide +kernel
theorem dX9_join_32 : decode cX9_join 32 = .ok (.getfield 10, 3) := by decide +kernel
theorem dX9_join_35 : decode cX9_join 35 = .ok (.iload_n 1, 1) := by decide +kernel
theorem dX9_join_36 : decode cX9_join 36 = .ok (.iload_n 2, 1) := by decide +kernel
theorem dX9_join_37 : decode cX9_join 37 = .ok (.invokevirtual 132, 3) := by decide +kernel
theorem dX9_join_40 : decode cX9_join 40 = .ok (.ifCond .ne 6, 3) := by decide +kernel
theorem dX9_join_43 : decode cX9_join 43 = .ok (.bipush (-5), 2) := by decide +kernel
theorem dX9_join_45 : decode cX9_join 45 = .ok (.ireturn, 1) := by decide +kernel
theorem dX9_join_46 : decode cX9_join 46 = .ok (.aload_n 0, 1) := by decide +kernel
theorem dX9_join_47 : decode cX9_join 47 = .ok (.getfield 29, 3) := by decide +kernel
theorem dX9_join_50 : decode cX9_join 50 = .ok (.aload_n 0, 1) := by decide +kernel
theorem dX9_join_51 : decode cX9_join 51 = .ok (.getfield 10, 3) := by decide +kernel
theorem dX9_join_54 : decode cX9_join 54 = .ok (.invokevirtual 135, 3) := by decide +kernel
theorem dX9_join_57 : decode cX9_join 57 = .ok (.aload_n 0, 1) := by decide +kernel
theorem dX9_join_58 : decode cX9_join 58 = .ok (.getfield 10, 3) := by decide +kernel
theorem dX9_join_61 : decode cX9_join 61 = .ok (.iload_n 1, 1) := by decide +kernel
theorem dX9_join_62 : decode cX9_join 62 = .ok (.iload_n 2, 1) := by decide +kernel
theorem dX9_join_63 : decode cX9_join 63 = .ok (.iload_n 3, 1) := by decide +kernel
theorem dX9_join_64 : decode cX9_join 64 = .ok (.invokevirtual 138, 3) := by decide +kernel
theorem dX9_join_67 : decode cX9_join 67 = .ok (.aload_n 0, 1) := by decide +kernel
theorem dX9_join_68 : decode cX9_join 68 = .ok (.getfield 10, 3) := by decide +kernel
theorem dX9_join_71 : decode cX9_join 71 = .ok (.getfield 142, 3) := by decide +kernel
theorem dX9_join_74 : decode cX9_join 74 = .ok (.ireturn, 1) := by decide +kernel
theorem dX9_cut_0 : decode cX9_cut 0 = .ok (.aload_n 0, 1) := by decide +kernel
theorem dX9_cut_1 : decode cX9_cut 1 = .ok (.iload_n 1, 1) := by decide +kernel
theorem dX9_cut_2 : decode cX9_cut 2 = .ok (.iload_n 2, 1) := by decide +kernel
theorem dX9_cut_3 : decode cX9_cut 3 = .ok (.invokevirtual 128, 3) := by decide +kernel
theorem dX9_cut_6 : decode cX9_cut 6 = .ok (.ifCond .ne 6, 3) := by decide +kernel
theorem dX9_cut_9 : decode cX9_cut 9 = .ok (.bipush (-2), 2) := by decide +kernel
theorem dX9_cut_11 : decode cX9_cut 11 = .ok (.ireturn, 1) := by decide +kernel
theorem dX9_cut_12 : decode cX9_cut 12 = .ok (.aload_n 0, 1) := by decide +kernel
theorem dX9_cut_13 : decode cX9_cut 13 = .ok (.getfield 10, 3) := by decide +kernel
theorem dX9_cut_16 : decode cX9_cut 16 = .ok (.iload_n 1, 1) := by decide +kernel
theorem dX9_cut_17 : decode cX9_cut 17 = .ok (.iload_n 2, 1) := by decide +kernel
theorem dX9_cut_18 : decode cX9_cut 18 = .ok (.invokevirtual 117, 3) := by decide +kernel
theorem dX9_cut_21 : decode cX9_cut 21 = .ok (.istore_n 3, 1) := by decide +kernel
theorem dX9_cut_22 : decode cX9_cut 22 = .ok (.iload_n 3, 1) := by decide +kernel
theorem dX9_cut_23 : decode cX9_cut 23 = .ok (.ifCond .ne 6, 3) := by decide +kernel
theorem dX9_cut_26 : decode cX9_cut 26 = .ok (.bipush (-4), 2) := by decide +kernel
theorem dX9_cut_28 : decode cX9_cut 28 = .ok (.ireturn, 1) := by decide +kernel
theorem dX9_cut_29 : decode cX9_cut 29 = .ok (.aload_n 0, 1) := by decide +kernel
theorem dX9_cut_30 : decode cX9_cut 30 = .ok (.getfield 29, 3) := by decide +kernel
theorem dX9_cut_33 : decode cX9_cut 33 = .ok (.aload_n 0, 1) := by decide +kernel
theorem dX9_cut_34 : decode cX9_cut 34 = .ok (.getfield 10, 3) := by decide +kernel
theorem dX9_cut_37 : decode cX9_cut 37 = .ok (.invokevirtual 135, 3) := by decide +kernel
theorem dX9_cut_40 : decode cX9_cut 40 = .ok (.aload_n 0, 1) := by decide +kernel
theorem dX9_cut_41 : decode cX9_cut 41 = .ok (.getfield 10, 3) := by decide +kernel
theorem dX9_cut_44 : decode cX9_cut 44 = .ok (.iload_n 1, 1) := by decide +kernel
theorem dX9_cut_45 : decode cX9_cut 45 = .ok (.iload_n 2, 1) := by decide +kernel
theorem dX9_cut_46 : decode cX9_cut 46 = .ok (.iconst 0, 1) := by decide +kernel
theorem dX9_cut_47 : decode cX9_cut 47 = .ok (.invokevirtual 138, 3) := by decide +kernel
theorem dX9_cut_50 : decode cX9_cut 50 = .ok (.iload_n 3, 1) := by decide +kernel
theorem dX9_cut_51 : decode cX9_cut 51 = .ok (.ireturn, 1) := by decide +kernel
theorem dX9_lift_0 : decode cX9_lift 0 = .ok (.aload_n 0, 1) := by decide +kernel
theorem dX9_lift_1 : decode cX9_lift 1 = .ok (.getfield 10, 3) := by decide +kernel
theorem dX9_lift_4 : decode cX9_lift 4 = .ok (.iload_n 1, 1) := by decide +kernel
theorem dX9_lift_5 : decode cX9_lift 5 = .ok (.invokevirtual 121, 3) := by decide +kernel
theorem dX9_lift_8 : decode cX9_lift 8 = .ok (.ifCond .ne 6, 3) := by decide +kernel
theorem dX9_lift_11 : decode cX9_lift 11 = .ok (.bipush (-2), 2) := by decide +kernel
theorem dX9_lift_13 : decode cX9_lift 13 = .ok (.ireturn, 1) := by decide +kernel
theorem dX9_lift_14 : decode cX9_lift 14 = .ok (.iload_n 2, 1) := by decide +kernel
theorem dX9_lift_15 : decode cX9_lift 15 = .ok (.ifCond .lt 8, 3) := by decide +kernel
theorem dX9_lift_18 : decode cX9_lift 18 = .ok (.iload_n 2, 1) := by decide +kernel
theorem dX9_lift_19 : decode cX9_lift 19 = .ok (.iconst 3, 1) := by decide +kernel
theorem dX9_lift_20 : decode cX9_lift 20 = .ok (.if_icmp .lt 6, 3) := by decide +kernel
theorem dX9_lift_23 : decode cX9_lift 23 = .ok (.bipush (-3), 2) := by decide +kernel
theorem dX9_lift_25 : decode cX9_lift 25 = .ok (.ireturn, 1) := by decide +kernel
theorem dX9_lift_26 : decode cX9_lift 26 = .ok (.aload_n 0, 1) := by decide +kernel
theorem dX9_lift_27 : decode cX9_lift 27 = .ok (.getfield 10, 3) := by decide +kernel
theorem dX9_lift_30 : decode cX9_lift 30 = .ok (.iload_n 1, 1) := by decide +kernel
theorem dX9_lift_31 : decode cX9_lift 31 = .ok (.invokevirtual 125, 3) := by decide +kernel
theorem dX9_lift_34 : decode cX9_lift 34 = .ok (.istore_n 3, 1) := by decide +kernel
theorem dX9_lift_35 : decode cX9_lift 35 = .ok (.aload_n 0, 1) := by decide +kernel
theorem dX9_lift_36 : decode cX9_lift 36 = .ok (.getfield 29, 3) := by decide +kernel
theorem dX9_lift_39 : decode cX9_lift 39 = .ok (.aload_n 0, 1) := by decide +kernel
theorem dX9_lift_40 : decode cX9_lift 40 = .ok (.getfield 10, 3) := by decide +kernel
theorem dX9_lift_43 : decode cX9_lift 43 = .ok (.invokevirtual 135, 3) := by decide +kernel
theorem dX9_lift_46 : decode cX9_lift 46 = .ok (.aload_n 0, 1) := by decide +kernel
theorem dX9_lift_47 : decode cX9_lift 47 = .ok (.getfield 10, 3) := by decide +kernel
theorem dX9_lift_50 : decode cX9_lift 50 = .ok (.iload_n 1, 1) := by decide +kernel
theorem dX9_lift_51 : decode cX9_lift 51 = .ok (.iload_n 2, 1) := by decide +kernel
theorem dX9_lift_52 : decode cX9_lift 52 = .ok (.invokevirtual 145, 3) := by decide +kernel
theorem dX9_lift_55 : decode cX9_lift 55 = .ok (.iload_n 3, 1) := by decide +kernel
theorem dX9_lift_56 : decode cX9_lift 56 = .ok (.ireturn, 1) := by decide +kernel
theorem dX9_draw_0 : decode cX9_draw 0 = .ok (.aload_n 0, 1) := by decide +kernel
theorem dX9_draw_1 : decode cX9_draw 1 = .ok (.getfield 29, 3) := by decide +kernel
theorem dX9_draw_4 : decode cX9_draw 4 = .ok (.aload_n 0, 1) := by decide +kernel
theorem dX9_draw_5 : decode cX9_draw 5 = .ok (.getfield 10, 3) := by decide +kernel
theorem dX9_draw_8 : decode cX9_draw 8 = .ok (.invokevirtual 135, 3) := by decide +kernel
theorem dX9_draw_11 : decode cX9_draw 11 = .ok (.aload_n 0, 1) := by decide +kernel
theorem dX9_draw_12 : decode cX9_draw 12 = .ok (.getfield 10, 3) := by decide +kernel
theorem dX9_draw_15 : decode cX9_draw 15 = .ok (.iload_n 1, 1) := by decide +kernel
theorem dX9_draw_16 : decode cX9_draw 16 = .ok (.invokevirtual 149, 3) := by decide +kernel
theorem dX9_draw_19 : decode cX9_draw 19 = .ok (.aload_n 0, 1) := by decide +kernel
theorem dX9_draw_20 : decode cX9_draw 20 = .ok (.getfield 10, 3) := by decide +kernel
theorem dX9_draw_23 : decode cX9_draw 23 = .ok (.getfield 152, 3) := by decide +kernel
theorem dX9_draw_26 : decode cX9_draw 26 = .ok (.aload_n 0, 1) := by decide +kernel
theorem dX9_draw_27 : decode cX9_draw 27 = .ok (.getfield 10, 3) := by decide +kernel
theorem dX9_draw_30 : decode cX9_draw 30 = .ok (.iconst 0, 1) := by decide +kernel
theorem dX9_draw_31 : decode cX9_draw 31 = .ok (.invokevirtual 155, 3) := by decide +kernel
theorem dX9_draw_34 : decode cX9_draw 34 = .ok (.isub, 1) := by decide +kernel
theorem dX9_draw_35 : decode cX9_draw 35 = .ok (.ireturn, 1) := by decide +kernel
theorem dX9_thin_0 : decode cX9_thin 0 = .ok (.iload_n 1, 1) := by decide +kernel
theorem dX9_thin_1 : decode cX9_thin 1 = .ok (.iconst 1, 1) := by decide +kernel
theorem dX9_thin_2 : decode cX9_thin 2 = .ok (.if_icmp .lt 9, 3) := by decide +kernel
theorem dX9_thin_5 : decode cX9_thin 5 = .ok (.iload_n 1, 1) := by decide +kernel
theorem dX9_thin_6 : decode cX9_thin 6 = .ok (.bipush 9, 2) := by decide +kernel
theorem dX9_thin_8 : decode cX9_thin 8 = .ok (.if_icmp .le 6, 3) := by decide +kernel
theorem dX9_thin_11 : decode cX9_thin 11 = .ok (.bipush (-3), 2) := by decide +kernel
theorem dX9_thin_13 : decode cX9_thin 13 = .ok (.ireturn, 1) := by decide +kernel
theorem dX9_thin_14 : decode cX9_thin 14 = .ok (.aload_n 0, 1) := by decide +kernel
theorem dX9_thin_15 : decode cX9_thin 15 = .ok (.getfield 29, 3) := by decide +kernel
theorem dX9_thin_18 : decode cX9_thin 18 = .ok (.aload_n 0, 1) := by decide +kernel
theorem dX9_thin_19 : decode cX9_thin 19 = .ok (.getfield 10, 3) := by decide +kernel
theorem dX9_thin_22 : decode cX9_thin 22 = .ok (.invokevirtual 135, 3) := by decide +kernel
theorem dX9_thin_25 : decode cX9_thin 25 = .ok (.aload_n 0, 1) := by decide +kernel
theorem dX9_thin_26 : decode cX9_thin 26 = .ok (.getfield 65, 3) := by decide +kernel
theorem dX9_thin_29 : decode cX9_thin 29 = .ok (.aload_n 0, 1) := by decide +kernel
end
section
theorem dX9_thin_30 : decode cX9_thin 30 = .ok (.getfield 10, 3) := by decide +kernel
theorem dX9_thin_33 : decode cX9_thin 33 = .ok (.iload_n 1, 1) := by decide +kernel
theorem dX9_thin_34 : decode cX9_thin 34 = .ok (.invokevirtual 158, 3) := by decide +kernel
theorem dX9_thin_37 : decode cX9_thin 37 = .ok (.iconst 0, 1) := by decide +kernel
theorem dX9_thin_38 : decode cX9_thin 38 = .ok (.istore_n 2, 1) := by decide +kernel
theorem dX9_thin_39 : decode cX9_thin 39 = .ok (.iload_n 2, 1) := by decide +kernel
theorem dX9_thin_40 : decode cX9_thin 40 = .ok (.aload_n 0, 1) := by decide +kernel
theorem dX9_thin_41 : decode cX9_thin 41 = .ok (.getfield 10, 3) := by decide +kernel
theorem dX9_thin_44 : decode cX9_thin 44 = .ok (.getfield 152, 3) := by decide +kernel
theorem dX9_thin_47 : decode cX9_thin 47 = .ok (.if_icmp .ge 52, 3) := by decide +kernel
theorem dX9_thin_50 : decode cX9_thin 50 = .ok (.iload_n 2, 1) := by decide +kernel
theorem dX9_thin_51 : decode cX9_thin 51 = .ok (.iconst 1, 1) := by decide +kernel
theorem dX9_thin_52 : decode cX9_thin 52 = .ok (.iadd, 1) := by decide +kernel
theorem dX9_thin_53 : decode cX9_thin 53 = .ok (.istore_n 3, 1) := by decide +kernel
theorem dX9_thin_54 : decode cX9_thin 54 = .ok (.iload_n 3, 1) := by decide +kernel
theorem dX9_thin_55 : decode cX9_thin 55 = .ok (.aload_n 0, 1) := by decide +kernel
theorem dX9_thin_56 : decode cX9_thin 56 = .ok (.getfield 10, 3) := by decide +kernel
theorem dX9_thin_59 : decode cX9_thin 59 = .ok (.getfield 152, 3) := by decide +kernel
theorem dX9_thin_62 : decode cX9_thin 62 = .ok (.if_icmp .ge 31, 3) := by decide +kernel
theorem dX9_thin_65 : decode cX9_thin 65 = .ok (.aload_n 0, 1) := by decide +kernel
theorem dX9_thin_66 : decode cX9_thin 66 = .ok (.getfield 65, 3) := by decide +kernel
theorem dX9_thin_69 : decode cX9_thin 69 = .ok (.iload_n 2, 1) := by decide +kernel
theorem dX9_thin_70 : decode cX9_thin 70 = .ok (.iload_n 3, 1) := by decide +kernel
theorem dX9_thin_71 : decode cX9_thin 71 = .ok (.invokevirtual 162, 3) := by decide +kernel
theorem dX9_thin_74 : decode cX9_thin 74 = .ok (.ifCond .ne 13, 3) := by decide +kernel
theorem dX9_thin_77 : decode cX9_thin 77 = .ok (.aload_n 0, 1) := by decide +kernel
theorem dX9_thin_78 : decode cX9_thin 78 = .ok (.getfield 10, 3) := by decide +kernel
theorem dX9_thin_81 : decode cX9_thin 81 = .ok (.iload_n 2, 1) := by decide +kernel
theorem dX9_thin_82 : decode cX9_thin 82 = .ok (.iload_n 3, 1) := by decide +kernel
theorem dX9_thin_83 : decode cX9_thin 83 = .ok (.iconst 0, 1) := by decide +kernel
theorem dX9_thin_84 : decode cX9_thin 84 = .ok (.invokevirtual 138, 3) := by decide +kernel
theorem dX9_thin_87 : decode cX9_thin 87 = .ok (.iinc 3 1, 3) := by decide +kernel
theorem dX9_thin_90 : decode cX9_thin 90 = .ok (.goto (-36), 3) := by decide +kernel
theorem dX9_thin_93 : decode cX9_thin 93 = .ok (.iinc 2 1, 3) := by decide +kernel
theorem dX9_thin_96 : decode cX9_thin 96 = .ok (.goto (-57), 3) := by decide +kernel
theorem dX9_thin_99 : decode cX9_thin 99 = .ok (.aload_n 0, 1) := by decide +kernel
theorem dX9_thin_100 : decode cX9_thin 100 = .ok (.getfield 10, 3) := by decide +kernel
theorem dX9_thin_103 : decode cX9_thin 103 = .ok (.getfield 142, 3) := by decide +kernel
theorem dX9_thin_106 : decode cX9_thin 106 = .ok (.ireturn, 1) := by decide +kernel
theorem dX9_undo_0 : decode cX9_undo 0 = .ok (.aload_n 0, 1) := by decide +kernel
theorem dX9_undo_1 : decode cX9_undo 1 = .ok (.getfield 29, 3) := by decide +kernel
theorem dX9_undo_4 : decode cX9_undo 4 = .ok (.getfield 106, 3) := by decide +kernel
theorem dX9_undo_7 : decode cX9_undo 7 = .ok (.ifCond .ne 6, 3) := by decide +kernel
theorem dX9_undo_10 : decode cX9_undo 10 = .ok (.bipush (-4), 2) := by decide +kernel
theorem dX9_undo_12 : decode cX9_undo 12 = .ok (.ireturn, 1) := by decide +kernel
theorem dX9_undo_13 : decode cX9_undo 13 = .ok (.aload_n 0, 1) := by decide +kernel
theorem dX9_undo_14 : decode cX9_undo 14 = .ok (.getfield 29, 3) := by decide +kernel
theorem dX9_undo_17 : decode cX9_undo 17 = .ok (.aload_n 0, 1) := by decide +kernel
theorem dX9_undo_18 : decode cX9_undo 18 = .ok (.getfield 10, 3) := by decide +kernel
theorem dX9_undo_21 : decode cX9_undo 21 = .ok (.invokevirtual 165, 3) := by decide +kernel
theorem dX9_undo_24 : decode cX9_undo 24 = .ok (.aload_n 0, 1) := by decide +kernel
theorem dX9_undo_25 : decode cX9_undo 25 = .ok (.getfield 29, 3) := by decide +kernel
theorem dX9_undo_28 : decode cX9_undo 28 = .ok (.getfield 106, 3) := by decide +kernel
theorem dX9_undo_31 : decode cX9_undo 31 = .ok (.ireturn, 1) := by decide +kernel
theorem dX9_keep_0 : decode cX9_keep 0 = .ok (.iload_n 1, 1) := by decide +kernel
theorem dX9_keep_1 : decode cX9_keep 1 = .ok (.ifCond .lt 8, 3) := by decide +kernel
theorem dX9_keep_4 : decode cX9_keep 4 = .ok (.iload_n 1, 1) := by decide +kernel
theorem dX9_keep_5 : decode cX9_keep 5 = .ok (.iconst 2, 1) := by decide +kernel
theorem dX9_keep_6 : decode cX9_keep 6 = .ok (.if_icmp .lt 6, 3) := by decide +kernel
theorem dX9_keep_9 : decode cX9_keep 9 = .ok (.bipush (-3), 2) := by decide +kernel
theorem dX9_keep_11 : decode cX9_keep 11 = .ok (.ireturn, 1) := by decide +kernel
theorem dX9_keep_12 : decode cX9_keep 12 = .ok (.aload_n 0, 1) := by decide +kernel
theorem dX9_keep_13 : decode cX9_keep 13 = .ok (.getfield 50, 3) := by decide +kernel
theorem dX9_keep_16 : decode cX9_keep 16 = .ok (.iload_n 1, 1) := by decide +kernel
theorem dX9_keep_17 : decode cX9_keep 17 = .ok (.aaload, 1) := by decide +kernel
theorem dX9_keep_18 : decode cX9_keep 18 = .ok (.iconst 1, 1) := by decide +kernel
theorem dX9_keep_19 : decode cX9_keep 19 = .ok (.putfield 168, 3) := by decide +kernel
theorem dX9_keep_22 : decode cX9_keep 22 = .ok (.aload_n 0, 1) := by decide +kernel
theorem dX9_keep_23 : decode cX9_keep 23 = .ok (.getfield 50, 3) := by decide +kernel
theorem dX9_keep_26 : decode cX9_keep 26 = .ok (.iload_n 1, 1) := by decide +kernel
theorem dX9_keep_27 : decode cX9_keep 27 = .ok (.aaload, 1) := by decide +kernel
theorem dX9_keep_28 : decode cX9_keep 28 = .ok (.getfield 171, 3) := by decide +kernel
theorem dX9_keep_31 : decode cX9_keep 31 = .ok (.aload_n 0, 1) := by decide +kernel
theorem dX9_keep_32 : decode cX9_keep 32 = .ok (.getfield 10, 3) := by decide +kernel
theorem dX9_keep_35 : decode cX9_keep 35 = .ok (.invokevirtual 95, 3) := by decide +kernel
theorem dX9_keep_38 : decode cX9_keep 38 = .ok (.aload_n 0, 1) := by decide +kernel
theorem dX9_keep_39 : decode cX9_keep 39 = .ok (.getfield 37, 3) := by decide +kernel
theorem dX9_keep_42 : decode cX9_keep 42 = .ok (.aload_n 0, 1) := by decide +kernel
theorem dX9_keep_43 : decode cX9_keep 43 = .ok (.getfield 50, 3) := by decide +kernel
theorem dX9_keep_46 : decode cX9_keep 46 = .ok (.iload_n 1, 1) := by decide +kernel
theorem dX9_keep_47 : decode cX9_keep 47 = .ok (.aaload, 1) := by decide +kernel
theorem dX9_keep_48 : decode cX9_keep 48 = .ok (.getfield 174, 3) := by decide +kernel
theorem dX9_keep_51 : decode cX9_keep 51 = .ok (.invokestatic 175, 3) := by decide +kernel
theorem dX9_keep_54 : decode cX9_keep 54 = .ok (.aload_n 0, 1) := by decide +kernel
theorem dX9_keep_55 : decode cX9_keep 55 = .ok (.invokevirtual 179, 3) := by decide +kernel
theorem dX9_keep_58 : decode cX9_keep 58 = .ok (.ireturn, 1) := by decide +kernel
theorem dX9_back_0 : decode cX9_back 0 = .ok (.iload_n 1, 1) := by decide +kernel
theorem dX9_back_1 : decode cX9_back 1 = .ok (.ifCond .lt 8, 3) := by decide +kernel
theorem dX9_back_4 : decode cX9_back 4 = .ok (.iload_n 1, 1) := by decide +kernel
theorem dX9_back_5 : decode cX9_back 5 = .ok (.iconst 2, 1) := by decide +kernel
theorem dX9_back_6 : decode cX9_back 6 = .ok (.if_icmp .lt 6, 3) := by decide +kernel
theorem dX9_back_9 : decode cX9_back 9 = .ok (.bipush (-3), 2) := by decide +kernel
theorem dX9_back_11 : decode cX9_back 11 = .ok (.ireturn, 1) := by decide +kernel
theorem dX9_back_12 : decode cX9_back 12 = .ok (.aload_n 0, 1) := by decide +kernel
theorem dX9_back_13 : decode cX9_back 13 = .ok (.getfield 50, 3) := by decide +kernel
theorem dX9_back_16 : decode cX9_back 16 = .ok (.iload_n 1, 1) := by decide +kernel
theorem dX9_back_17 : decode cX9_back 17 = .ok (.aaload, 1) := by decide +kernel
theorem dX9_back_18 : decode cX9_back 18 = .ok (.getfield 168, 3) := by decide +kernel
theorem dX9_back_21 : decode cX9_back 21 = .ok (.ifCond .ne 6, 3) := by decide +kernel
theorem dX9_back_24 : decode cX9_back 24 = .ok (.bipush (-4), 2) := by decide +kernel
theorem dX9_back_26 : decode cX9_back 26 = .ok (.ireturn, 1) := by decide +kernel
theorem dX9_back_27 : decode cX9_back 27 = .ok (.aload_n 0, 1) := by decide +kernel
theorem dX9_back_28 : decode cX9_back 28 = .ok (.getfield 10, 3) := by decide +kernel
theorem dX9_back_31 : decode cX9_back 31 = .ok (.aload_n 0, 1) := by decide +kernel
theorem dX9_back_32 : decode cX9_back 32 = .ok (.getfield 50, 3) := by decide +kernel
theorem dX9_back_35 : decode cX9_back 35 = .ok (.iload_n 1, 1) := by decide +kernel
theorem dX9_back_36 : decode cX9_back 36 = .ok (.aaload, 1) := by decide +kernel
theorem dX9_back_37 : decode cX9_back 37 = .ok (.getfield 171, 3) := by decide +kernel
theorem dX9_back_40 : decode cX9_back 40 = .ok (.invokevirtual 95, 3) := by decide +kernel
theorem dX9_back_43 : decode cX9_back 43 = .ok (.aload_n 0, 1) := by decide +kernel
theorem dX9_back_44 : decode cX9_back 44 = .ok (.getfield 50, 3) := by decide +kernel
theorem dX9_back_47 : decode cX9_back 47 = .ok (.iload_n 1, 1) := by decide +kernel
theorem dX9_back_48 : decode cX9_back 48 = .ok (.aaload, 1) := by decide +kernel
theorem dX9_back_49 : decode cX9_back 49 = .ok (.getfield 174, 3) := by decide +kernel
theorem dX9_back_52 : decode cX9_back 52 = .ok (.aload_n 0, 1) := by decide +kernel
theorem dX9_back_53 : decode cX9_back 53 = .ok (.getfield 37, 3) := by decide +kernel
theorem dX9_back_56 : decode cX9_back 56 = .ok (.invokestatic 175, 3) := by decide +kernel
theorem dX9_back_59 : decode cX9_back 59 = .ok (.aload_n 0, 1) := by decide +kernel
theorem dX9_back_60 : decode cX9_back 60 = .ok (.getfield 29, 3) := by decide +kernel
theorem dX9_back_63 : decode cX9_back 63 = .ok (.iconst 0, 1) := by decide +kernel
theorem dX9_back_64 : decode cX9_back 64 = .ok (.putfield 106, 3) := by decide +kernel
theorem dX9_back_67 : decode cX9_back 67 = .ok (.aload_n 0, 1) := by decide +kernel
theorem dX9_back_68 : decode cX9_back 68 = .ok (.invokevirtual 179, 3) := by decide +kernel
theorem dX9_back_71 : decode cX9_back 71 = .ok (.ireturn, 1) := by decide +kernel
theorem dX9_distance_0 : decode cX9_distance 0 = .ok (.aload_n 0, 1) := by decide +kernel
theorem dX9_distance_1 : decode cX9_distance 1 = .ok (.iload_n 1, 1) := by decide +kernel
theorem dX9_distance_2 : decode cX9_distance 2 = .ok (.iload_n 2, 1) := by decide +kernel
theorem dX9_distance_3 : decode cX9_distance 3 = .ok (.invokevirtual 128, 3) := by decide +kernel
theorem dX9_distance_6 : decode cX9_distance 6 = .ok (.ifCond .ne 6, 3) := by decide +kernel
theorem dX9_distance_9 : decode cX9_distance 9 = .ok (.bipush (-2), 2) := by decide +kernel
theorem dX9_distance_11 : decode cX9_distance 11 = .ok (.ireturn, 1) := by decide +kernel
theorem dX9_distance_12 : decode cX9_distance 12 = .ok (.aload_n 0, 1) := by decide +kernel
theorem dX9_distance_13 : decode cX9_distance 13 = .ok (.getfield 58, 3) := by decide +kernel
theorem dX9_distance_16 : decode cX9_distance 16 = .ok (.aload_n 0, 1) := by decide +kernel
theorem dX9_distance_17 : decode cX9_distance 17 = .ok (.getfield 10, 3) := by decide +kernel
theorem dX9_distance_20 : decode cX9_distance 20 = .ok (.invokevirtual 182, 3) := by decide +kernel
theorem dX9_distance_23 : decode cX9_distance 23 = .ok (.aload_n 0, 1) := by decide +kernel
theorem dX9_distance_24 : decode cX9_distance 24 = .ok (.getfield 58, 3) := by decide +kernel
theorem dX9_distance_27 : decode cX9_distance 27 = .ok (.iload_n 1, 1) := by decide +kernel
theorem dX9_distance_28 : decode cX9_distance 28 = .ok (.iload_n 2, 1) := by decide +kernel
theorem dX9_distance_29 : decode cX9_distance 29 = .ok (.invokevirtual 184, 3) := by decide +kernel
theorem dX9_distance_32 : decode cX9_distance 32 = .ok (.ireturn, 1) := by decide +kernel
theorem dX9_nearest_0 : decode cX9_nearest 0 = .ok (.aload_n 0, 1) := by decide +kernel
theorem dX9_nearest_1 : decode cX9_nearest 1 = .ok (.getfield 10, 3) := by decide +kernel
theorem dX9_nearest_4 : decode cX9_nearest 4 = .ok (.iload_n 1, 1) := by decide +kernel
theorem dX9_nearest_5 : decode cX9_nearest 5 = .ok (.invokevirtual 121, 3) := by decide +kernel
theorem dX9_nearest_8 : decode cX9_nearest 8 = .ok (.ifCond .ne 6, 3) := by decide +kernel
theorem dX9_nearest_11 : decode cX9_nearest 11 = .ok (.bipush (-2), 2) := by decide +kernel
theorem dX9_nearest_13 : decode cX9_nearest 13 = .ok (.ireturn, 1) := by decide +kernel
theorem dX9_nearest_14 : decode cX9_nearest 14 = .ok (.iload_n 2, 1) := by decide +kernel
theorem dX9_nearest_15 : decode cX9_nearest 15 = .ok (.ifCond .lt 17, 3) := by decide +kernel
theorem dX9_nearest_18 : decode cX9_nearest 18 = .ok (.iload_n 2, 1) := by decide +kernel
theorem dX9_nearest_19 : decode cX9_nearest 19 = .ok (.iconst 3, 1) := by decide +kernel
theorem dX9_nearest_20 : decode cX9_nearest 20 = .ok (.if_icmp .ge 12, 3) := by decide +kernel
theorem dX9_nearest_23 : decode cX9_nearest 23 = .ok (.iload_n 3, 1) := by decide +kernel
theorem dX9_nearest_24 : decode cX9_nearest 24 = .ok (.ifCond .lt 8, 3) := by decide +kernel
theorem dX9_nearest_27 : decode cX9_nearest 27 = .ok (.iload_n 3, 1) := by decide +kernel
theorem dX9_nearest_28 : decode cX9_nearest 28 = .ok (.iconst 1, 1) := by decide +kernel
theorem dX9_nearest_29 : decode cX9_nearest 29 = .ok (.if_icmp .le 6, 3) := by decide +kernel
theorem dX9_nearest_32 : decode cX9_nearest 32 = .ok (.bipush (-3), 2) := by decide +kernel
theorem dX9_nearest_34 : decode cX9_nearest 34 = .ok (.ireturn, 1) := by decide +kernel
theorem dX9_nearest_35 : decode cX9_nearest 35 = .ok (.aload_n 0, 1) := by decide +kernel
theorem dX9_nearest_36 : decode cX9_nearest 36 = .ok (.iload_n 1, 1) := by decide +kernel
theorem dX9_nearest_37 : decode cX9_nearest 37 = .ok (.invokevirtual 187, 3) := by decide +kernel
theorem dX9_nearest_40 : decode cX9_nearest 40 = .ok (.iload_n 3, 1) := by decide +kernel
theorem dX9_nearest_41 : decode cX9_nearest 41 = .ok (.ifCond .ne 14, 3) := by decide +kernel
theorem dX9_nearest_44 : decode cX9_nearest 44 = .ok (.aload_n 0, 1) := by decide +kernel
theorem dX9_nearest_45 : decode cX9_nearest 45 = .ok (.getfield 44, 3) := by decide +kernel
theorem dX9_nearest_48 : decode cX9_nearest 48 = .ok (.iload_n 2, 1) := by decide +kernel
theorem dX9_nearest_49 : decode cX9_nearest 49 = .ok (.invokevirtual 190, 3) := by decide +kernel
theorem dX9_nearest_52 : decode cX9_nearest 52 = .ok (.goto 11, 3) := by decide +kernel
theorem dX9_nearest_55 : decode cX9_nearest 55 = .ok (.aload_n 0, 1) := by decide +kernel
theorem dX9_nearest_56 : decode cX9_nearest 56 = .ok (.getfield 44, 3) := by decide +kernel
theorem dX9_nearest_59 : decode cX9_nearest 59 = .ok (.iload_n 2, 1) := by decide +kernel
theorem dX9_nearest_60 : decode cX9_nearest 60 = .ok (.invokevirtual 193, 3) := by decide +kernel
theorem dX9_nearest_63 : decode cX9_nearest 63 = .ok (.ireturn, 1) := by decide +kernel
theorem dX9_bunch_0 : decode cX9_bunch 0 = .ok (.aload_n 0, 1) := by decide +kernel
theorem dX9_bunch_1 : decode cX9_bunch 1 = .ok (.getfield 10, 3) := by decide +kernel
theorem dX9_bunch_4 : decode cX9_bunch 4 = .ok (.iload_n 1, 1) := by decide +kernel
theorem dX9_bunch_5 : decode cX9_bunch 5 = .ok (.invokevirtual 121, 3) := by decide +kernel
theorem dX9_bunch_8 : decode cX9_bunch 8 = .ok (.ifCond .ne 6, 3) := by decide +kernel
theorem dX9_bunch_11 : decode cX9_bunch 11 = .ok (.bipush (-2), 2) := by decide +kernel
theorem dX9_bunch_13 : decode cX9_bunch 13 = .ok (.ireturn, 1) := by decide +kernel
theorem dX9_bunch_14 : decode cX9_bunch 14 = .ok (.iload_n 2, 1) := by decide +kernel
theorem dX9_bunch_15 : decode cX9_bunch 15 = .ok (.ifCond .lt 8, 3) := by decide +kernel
theorem dX9_bunch_18 : decode cX9_bunch 18 = .ok (.iload_n 2, 1) := by decide +kernel
theorem dX9_bunch_19 : decode cX9_bunch 19 = .ok (.iconst 1, 1) := by decide +kernel
theorem dX9_bunch_20 : decode cX9_bunch 20 = .ok (.if_icmp .le 6, 3) := by decide +kernel
theorem dX9_bunch_23 : decode cX9_bunch 23 = .ok (.bipush (-3), 2) := by decide +kernel
theorem dX9_bunch_25 : decode cX9_bunch 25 = .ok (.ireturn, 1) := by decide +kernel
theorem dX9_bunch_26 : decode cX9_bunch 26 = .ok (.iload_n 2, 1) := by decide +kernel
theorem dX9_bunch_27 : decode cX9_bunch 27 = .ok (.iconst 1, 1) := by decide +kernel
theorem dX9_bunch_28 : decode cX9_bunch 28 = .ok (.if_icmp .ne 9, 3) := by decide +kernel
theorem dX9_bunch_31 : decode cX9_bunch 31 = .ok (.aload_n 0, 1) := by decide +kernel
theorem dX9_bunch_32 : decode cX9_bunch 32 = .ok (.iload_n 1, 1) := by decide +kernel
theorem dX9_bunch_33 : decode cX9_bunch 33 = .ok (.invokevirtual 196, 3) := by decide +kernel
theorem dX9_bunch_36 : decode cX9_bunch 36 = .ok (.ireturn, 1) := by decide +kernel
theorem dX9_bunch_37 : decode cX9_bunch 37 = .ok (.aload_n 0, 1) := by decide +kernel
theorem dX9_bunch_38 : decode cX9_bunch 38 = .ok (.iload_n 1, 1) := by decide +kernel
theorem dX9_bunch_39 : decode cX9_bunch 39 = .ok (.invokevirtual 187, 3) := by decide +kernel
theorem dX9_bunch_42 : decode cX9_bunch 42 = .ok (.aload_n 0, 1) := by decide +kernel
theorem dX9_bunch_43 : decode cX9_bunch 43 = .ok (.getfield 44, 3) := by decide +kernel
theorem dX9_bunch_46 : decode cX9_bunch 46 = .ok (.getfield 199, 3) := by decide +kernel
theorem dX9_bunch_49 : decode cX9_bunch 49 = .ok (.ireturn, 1) := by decide +kernel
theorem dX9_next_0 : decode cX9_next 0 = .ok (.aload_n 0, 1) := by decide +kernel
theorem dX9_next_1 : decode cX9_next 1 = .ok (.iload_n 1, 1) := by decide +kernel
theorem dX9_next_2 : decode cX9_next 2 = .ok (.iload_n 2, 1) := by decide +kernel
theorem dX9_next_3 : decode cX9_next 3 = .ok (.invokevirtual 128, 3) := by decide +kernel
theorem dX9_next_6 : decode cX9_next 6 = .ok (.ifCond .ne 6, 3) := by decide +kernel
theorem dX9_next_9 : decode cX9_next 9 = .ok (.bipush (-2), 2) := by decide +kernel
theorem dX9_next_11 : decode cX9_next 11 = .ok (.ireturn, 1) := by decide +kernel
theorem dX9_next_12 : decode cX9_next 12 = .ok (.aload_n 0, 1) := by decide +kernel
theorem dX9_next_13 : decode cX9_next 13 = .ok (.iload_n 1, 1) := by decide +kernel
theorem dX9_next_14 : decode cX9_next 14 = .ok (.iload_n 2, 1) := by decide +kernel
theorem dX9_next_15 : decode cX9_next 15 = .ok (.invokevirtual 202, 3) := by decide +kernel
theorem dX9_next_18 : decode cX9_next 18 = .ok (.ireturn, 1) := by decide +kernel
theorem dX9_thinned_0 : decode cX9_thinned 0 = .ok (.iload_n 1, 1) := by decide +kernel
theorem dX9_thinned_1 : decode cX9_thinned 1 = .ok (.iconst 1, 1) := by decide +kernel
theorem dX9_thinned_2 : decode cX9_thinned 2 = .ok (.if_icmp .lt 9, 3) := by decide +kernel
theorem dX9_thinned_5 : decode cX9_thinned 5 = .ok (.iload_n 1, 1) := by decide +kernel
theorem dX9_thinned_6 : decode cX9_thinned 6 = .ok (.bipush 9, 2) := by decide +kernel
theorem dX9_thinned_8 : decode cX9_thinned 8 = .ok (.if_icmp .le 6, 3) := by decide +kernel
theorem dX9_thinned_11 : decode cX9_thinned 11 = .ok (.bipush (-3), 2) := by decide +kernel
theorem dX9_thinned_13 : decode cX9_thinned 13 = .ok (.ireturn, 1) := by decide +kernel
theorem dX9_thinned_14 : decode cX9_thinned 14 = .ok (.aload_n 0, 1) := by decide +kernel
theorem dX9_thinned_15 : decode cX9_thinned 15 = .ok (.getfield 10, 3) := by decide +kernel
theorem dX9_thinned_18 : decode cX9_thinned 18 = .ok (.iload_n 2, 1) := by decide +kernel
theorem dX9_thinned_19 : decode cX9_thinned 19 = .ok (.invokevirtual 113, 3) := by decide +kernel
theorem dX9_thinned_22 : decode cX9_thinned 22 = .ok (.istore_n 3, 1) := by decide +kernel
theorem dX9_thinned_23 : decode cX9_thinned 23 = .ok (.iload_n 2, 1) := by decide +kernel
theorem dX9_thinned_24 : decode cX9_thinned 24 = .ok (.iconst (-1), 1) := by decide +kernel
theorem dX9_thinned_25 : decode cX9_thinned 25 = .ok (.if_icmp .eq 11, 3) := by decide +kernel
theorem dX9_thinned_28 : decode cX9_thinned 28 = .ok (.iload_n 3, 1) := by decide +kernel
theorem dX9_thinned_29 : decode cX9_thinned 29 = .ok (.iconst (-1), 1) := by decide +kernel
theorem dX9_thinned_30 : decode cX9_thinned 30 = .ok (.if_icmp .ne 6, 3) := by decide +kernel
theorem dX9_thinned_33 : decode cX9_thinned 33 = .ok (.bipush (-2), 2) := by decide +kernel
theorem dX9_thinned_35 : decode cX9_thinned 35 = .ok (.ireturn, 1) := by decide +kernel
theorem dX9_thinned_36 : decode cX9_thinned 36 = .ok (.aload_n 0, 1) := by decide +kernel
theorem dX9_thinned_37 : decode cX9_thinned 37 = .ok (.getfield 65, 3) := by decide +kernel
theorem dX9_thinned_40 : decode cX9_thinned 40 = .ok (.aload_n 0, 1) := by decide +kernel
theorem dX9_thinned_41 : decode cX9_thinned 41 = .ok (.getfield 10, 3) := by decide +kernel
theorem dX9_thinned_44 : decode cX9_thinned 44 = .ok (.iload_n 1, 1) := by decide +kernel
theorem dX9_thinned_45 : decode cX9_thinned 45 = .ok (.invokevirtual 158, 3) := by decide +kernel
theorem dX9_thinned_48 : decode cX9_thinned 48 = .ok (.iload_n 2, 1) := by decide +kernel
theorem dX9_thinned_49 : decode cX9_thinned 49 = .ok (.iconst (-1), 1) := by decide +kernel
theorem dX9_thinned_50 : decode cX9_thinned 50 = .ok (.if_icmp .ne 11, 3) := by decide +kernel
theorem dX9_thinned_53 : decode cX9_thinned 53 = .ok (.aload_n 0, 1) := by decide +kernel
theorem dX9_thinned_54 : decode cX9_thinned 54 = .ok (.getfield 65, 3) := by decide +kernel
theorem dX9_thinned_57 : decode cX9_thinned 57 = .ok (.getfield 205, 3) := by decide +kernel
theorem dX9_thinned_60 : decode cX9_thinned 60 = .ok (.ireturn, 1) := by decide +kernel
theorem dX9_thinned_61 : decode cX9_thinned 61 = .ok (.aload_n 0, 1) := by decide +kernel
theorem dX9_thinned_62 : decode cX9_thinned 62 = .ok (.getfield 65, 3) := by decide +kernel
theorem dX9_thinned_65 : decode cX9_thinned 65 = .ok (.iload_n 3, 1) := by decide +kernel
theorem dX9_thinned_66 : decode cX9_thinned 66 = .ok (.bipush 12, 2) := by decide +kernel
theorem dX9_thinned_68 : decode cX9_thinned 68 = .ok (.idiv, 1) := by decide +kernel
theorem dX9_thinned_69 : decode cX9_thinned 69 = .ok (.iload_n 3, 1) := by decide +kernel
theorem dX9_thinned_70 : decode cX9_thinned 70 = .ok (.bipush 12, 2) := by decide +kernel
theorem dX9_thinned_72 : decode cX9_thinned 72 = .ok (.irem, 1) := by decide +kernel
theorem dX9_thinned_73 : decode cX9_thinned 73 = .ok (.invokevirtual 162, 3) := by decide +kernel
theorem dX9_thinned_76 : decode cX9_thinned 76 = .ok (.ifCond .eq 7, 3) := by decide +kernel
theorem dX9_thinned_79 : decode cX9_thinned 79 = .ok (.iconst 1, 1) := by decide +kernel
theorem dX9_thinned_80 : decode cX9_thinned 80 = .ok (.goto 4, 3) := by decide +kernel
theorem dX9_thinned_83 : decode cX9_thinned 83 = .ok (.iconst 0, 1) := by decide +kernel
theorem dX9_thinned_84 : decode cX9_thinned 84 = .ok (.ireturn, 1) := by decide +kernel
theorem dX9_worst_0 : decode cX9_worst 0 = .ok (.iload_n 1, 1) := by decide +kernel
theorem dX9_worst_1 : decode cX9_worst 1 = .ok (.iconst 1, 1) := by decide +kernel
theorem dX9_worst_2 : decode cX9_worst 2 = .ok (.if_icmp .lt 18, 3) := by decide +kernel
theorem dX9_worst_5 : decode cX9_worst 5 = .ok (.iload_n 1, 1) := by decide +kernel
theorem dX9_worst_6 : decode cX9_worst 6 = .ok (.bipush 9, 2) := by decide +kernel
theorem dX9_worst_8 : decode cX9_worst 8 = .ok (.if_icmp .gt 12, 3) := by decide +kernel
theorem dX9_worst_11 : decode cX9_worst 11 = .ok (.iload_n 2, 1) := by decide +kernel
theorem dX9_worst_12 : decode cX9_worst 12 = .ok (.ifCond .lt 8, 3) := by decide +kernel
theorem dX9_worst_15 : decode cX9_worst 15 = .ok (.iload_n 2, 1) := by decide +kernel
theorem dX9_worst_16 : decode cX9_worst 16 = .ok (.iconst 1, 1) := by decide +kernel
theorem dX9_worst_17 : decode cX9_worst 17 = .ok (.if_icmp .le 6, 3) := by decide +kernel
theorem dX9_worst_20 : decode cX9_worst 20 = .ok (.bipush (-3), 2) := by decide +kernel
theorem dX9_worst_22 : decode cX9_worst 22 = .ok (.ireturn, 1) := by decide +kernel
theorem dX9_worst_23 : decode cX9_worst 23 = .ok (.aload_n 0, 1) := by decide +kernel
theorem dX9_worst_24 : decode cX9_worst 24 = .ok (.iload_n 1, 1) := by decide +kernel
theorem dX9_worst_25 : decode cX9_worst 25 = .ok (.invokevirtual 206, 3) := by decide +kernel
theorem dX9_worst_28 : decode cX9_worst 28 = .ok (.aload_n 0, 1) := by decide +kernel
theorem dX9_worst_29 : decode cX9_worst 29 = .ok (.getfield 79, 3) := by decide +kernel
theorem dX9_worst_32 : decode cX9_worst 32 = .ok (.getfield 209, 3) := by decide +kernel
theorem dX9_worst_35 : decode cX9_worst 35 = .ok (.ifCond .ne 5, 3) := by decide +kernel
theorem dX9_worst_38 : decode cX9_worst 38 = .ok (.iconst (-1), 1) := by decide +kernel
theorem dX9_worst_39 : decode cX9_worst 39 = .ok (.ireturn, 1) := by decide +kernel
theorem dX9_worst_40 : decode cX9_worst 40 = .ok (.aload_n 0, 1) := by decide +kernel
theorem dX9_worst_41 : decode cX9_worst 41 = .ok (.getfield 79, 3) := by decide +kernel
theorem dX9_worst_44 : decode cX9_worst 44 = .ok (.getfield 212, 3) := by decide +kernel
theorem dX9_worst_47 : decode cX9_worst 47 = .ok (.aload_n 0, 1) := by decide +kernel
theorem dX9_worst_48 : decode cX9_worst 48 = .ok (.getfield 79, 3) := by decide +kernel
theorem dX9_worst_51 : decode cX9_worst 51 = .ok (.getfield 215, 3) := by decide +kernel
theorem dX9_worst_54 : decode cX9_worst 54 = .ok (.invokestatic 218, 3) := by decide +kernel
theorem dX9_worst_57 : decode cX9_worst 57 = .ok (.istore_n 3, 1) := by decide +kernel
theorem dX9_worst_58 : decode cX9_worst 58 = .ok (.iload_n 3, 1) := by decide +kernel
theorem dX9_worst_59 : decode cX9_worst 59 = .ok (.ifCond .ne 5, 3) := by decide +kernel
theorem dX9_worst_62 : decode cX9_worst 62 = .ok (.iconst (-1), 1) := by decide +kernel
theorem dX9_worst_63 : decode cX9_worst 63 = .ok (.ireturn, 1) := by decide +kernel
theorem dX9_worst_64 : decode cX9_worst 64 = .ok (.iload_n 2, 1) := by decide +kernel
theorem dX9_worst_65 : decode cX9_worst 65 = .ok (.ifCond .ne 15, 3) := by decide +kernel
theorem dX9_worst_68 : decode cX9_worst 68 = .ok (.aload_n 0, 1) := by decide +kernel
theorem dX9_worst_69 : decode cX9_worst 69 = .ok (.getfield 79, 3) := by decide +kernel
theorem dX9_worst_72 : decode cX9_worst 72 = .ok (.getfield 212, 3) := by decide +kernel
theorem dX9_worst_75 : decode cX9_worst 75 = .ok (.iload_n 3, 1) := by decide +kernel
theorem dX9_worst_76 : decode cX9_worst 76 = .ok (.idiv, 1) := by decide +kernel
theorem dX9_worst_77 : decode cX9_worst 77 = .ok (.goto 12, 3) := by decide +kernel
theorem dX9_worst_80 : decode cX9_worst 80 = .ok (.aload_n 0, 1) := by decide +kernel
theorem dX9_worst_81 : decode cX9_worst 81 = .ok (.getfield 79, 3) := by decide +kernel
theorem dX9_worst_84 : decode cX9_worst 84 = .ok (.getfield 215, 3) := by decide +kernel
theorem dX9_worst_87 : decode cX9_worst 87 = .ok (.iload_n 3, 1) := by decide +kernel
theorem dX9_worst_88 : decode cX9_worst 88 = .ok (.idiv, 1) := by decide +kernel
theorem dX9_worst_89 : decode cX9_worst 89 = .ok (.ireturn, 1) := by decide +kernel
theorem dX9_note_0 : decode cX9_note 0 = .ok (.aload_n 0, 1) := by decide +kernel
theorem dX9_note_1 : decode cX9_note 1 = .ok (.getfield 10, 3) := by decide +kernel
theorem dX9_note_4 : decode cX9_note 4 = .ok (.iload_n 1, 1) := by decide +kernel
theorem dX9_note_5 : decode cX9_note 5 = .ok (.invokevirtual 121, 3) := by decide +kernel
theorem dX9_note_8 : decode cX9_note 8 = .ok (.ifCond .ne 6, 3) := by decide +kernel
theorem dX9_note_11 : decode cX9_note 11 = .ok (.bipush (-2), 2) := by decide +kernel
theorem dX9_note_13 : decode cX9_note 13 = .ok (.ireturn, 1) := by decide +kernel
theorem dX9_note_14 : decode cX9_note 14 = .ok (.aload_n 0, 1) := by decide +kernel
theorem dX9_note_15 : decode cX9_note 15 = .ok (.iload_n 1, 1) := by decide +kernel
theorem dX9_note_16 : decode cX9_note 16 = .ok (.invokevirtual 187, 3) := by decide +kernel
theorem dX9_note_19 : decode cX9_note 19 = .ok (.aload_n 0, 1) := by decide +kernel
theorem dX9_note_20 : decode cX9_note 20 = .ok (.getfield 37, 3) := by decide +kernel
theorem dX9_note_23 : decode cX9_note 23 = .ok (.iload_n 1, 1) := by decide +kernel
theorem dX9_note_24 : decode cX9_note 24 = .ok (.aaload, 1) := by decide +kernel
theorem dX9_note_25 : decode cX9_note 25 = .ok (.aload_n 0, 1) := by decide +kernel
theorem dX9_note_26 : decode cX9_note 26 = .ok (.getfield 44, 3) := by decide +kernel
theorem dX9_note_29 : decode cX9_note 29 = .ok (.invokevirtual 221, 3) := by decide +kernel
theorem dX9_note_32 : decode cX9_note 32 = .ok (.aload_n 0, 1) := by decide +kernel
theorem dX9_note_33 : decode cX9_note 33 = .ok (.getfield 44, 3) := by decide +kernel
theorem dX9_note_36 : decode cX9_note 36 = .ok (.getfield 199, 3) := by decide +kernel
theorem dX9_note_39 : decode cX9_note 39 = .ok (.invokestatic 224, 3) := by decide +kernel
theorem dX9_note_42 : decode cX9_note 42 = .ok (.ireturn, 1) := by decide +kernel
theorem dX9_mend_0 : decode cX9_mend 0 = .ok (.iconst 0, 1) := by decide +kernel
theorem dX9_mend_1 : decode cX9_mend 1 = .ok (.istore_n 1, 1) := by decide +kernel
theorem dX9_mend_2 : decode cX9_mend 2 = .ok (.iconst 0, 1) := by decide +kernel
theorem dX9_mend_3 : decode cX9_mend 3 = .ok (.istore_n 2, 1) := by decide +kernel
theorem dX9_mend_4 : decode cX9_mend 4 = .ok (.iload_n 2, 1) := by decide +kernel
theorem dX9_mend_5 : decode cX9_mend 5 = .ok (.aload_n 0, 1) := by decide +kernel
theorem dX9_mend_6 : decode cX9_mend 6 = .ok (.getfield 10, 3) := by decide +kernel
theorem dX9_mend_9 : decode cX9_mend 9 = .ok (.getfield 152, 3) := by decide +kernel
theorem dX9_mend_12 : decode cX9_mend 12 = .ok (.if_icmp .ge 33, 3) := by decide +kernel
theorem dX9_mend_15 : decode cX9_mend 15 = .ok (.aload_n 0, 1) := by decide +kernel
theorem dX9_mend_16 : decode cX9_mend 16 = .ok (.iload_n 2, 1) := by decide +kernel
theorem dX9_mend_17 : decode cX9_mend 17 = .ok (.invokevirtual 229, 3) := by decide +kernel
theorem dX9_mend_20 : decode cX9_mend 20 = .ok (.ifCond .ne 19, 3) := by decide +kernel
theorem dX9_mend_23 : decode cX9_mend 23 = .ok (.aload_n 0, 1) := by decide +kernel
theorem dX9_mend_24 : decode cX9_mend 24 = .ok (.getfield 37, 3) := by decide +kernel
theorem dX9_mend_27 : decode cX9_mend 27 = .ok (.iload_n 2, 1) := by decide +kernel
theorem dX9_mend_28 : decode cX9_mend 28 = .ok (.aaload, 1) := by decide +kernel
theorem dX9_mend_29 : decode cX9_mend 29 = .ok (.aload_n 0, 1) := by decide +kernel
theorem dX9_mend_30 : decode cX9_mend 30 = .ok (.getfield 44, 3) := by decide +kernel
theorem dX9_mend_33 : decode cX9_mend 33 = .ok (.invokevirtual 221, 3) := by decide +kernel
theorem dX9_mend_36 : decode cX9_mend 36 = .ok (.iinc 1 1, 3) := by decide +kernel
theorem dX9_mend_39 : decode cX9_mend 39 = .ok (.iinc 2 1, 3) := by decide +kernel
theorem dX9_mend_42 : decode cX9_mend 42 = .ok (.goto (-38), 3) := by decide +kernel
theorem dX9_mend_45 : decode cX9_mend 45 = .ok (.iload_n 1, 1) := by decide +kernel
theorem dX9_mend_46 : decode cX9_mend 46 = .ok (.ireturn, 1) := by decide +kernel
theorem dX9_tear_0 : decode cX9_tear 0 = .ok (.aload_n 0, 1) := by decide +kernel
theorem dX9_tear_1 : decode cX9_tear 1 = .ok (.getfield 10, 3) := by decide +kernel
theorem dX9_tear_4 : decode cX9_tear 4 = .ok (.iload_n 1, 1) := by decide +kernel
theorem dX9_tear_5 : decode cX9_tear 5 = .ok (.invokevirtual 121, 3) := by decide +kernel
theorem dX9_tear_8 : decode cX9_tear 8 = .ok (.ifCond .ne 6, 3) := by decide +kernel
theorem dX9_tear_11 : decode cX9_tear 11 = .ok (.bipush (-2), 2) := by decide +kernel
theorem dX9_tear_13 : decode cX9_tear 13 = .ok (.ireturn, 1) := by decide +kernel
theorem dX9_tear_14 : decode cX9_tear 14 = .ok (.aload_n 0, 1) := by decide +kernel
theorem dX9_tear_15 : decode cX9_tear 15 = .ok (.getfield 37, 3) := by decide +kernel
theorem dX9_tear_18 : decode cX9_tear 18 = .ok (.iload_n 1, 1) := by decide +kernel
theorem dX9_tear_19 : decode cX9_tear 19 = .ok (.aaload, 1) := by decide +kernel
theorem dX9_tear_20 : decode cX9_tear 20 = .ok (.getfield 232, 3) := by decide +kernel
theorem dX9_tear_23 : decode cX9_tear 23 = .ok (.ifCond .eq 7, 3) := by decide +kernel
theorem dX9_tear_26 : decode cX9_tear 26 = .ok (.iconst 1, 1) := by decide +kernel
theorem dX9_tear_27 : decode cX9_tear 27 = .ok (.goto 4, 3) := by decide +kernel
theorem dX9_tear_30 : decode cX9_tear 30 = .ok (.iconst 0, 1) := by decide +kernel
theorem dX9_tear_31 : decode cX9_tear 31 = .ok (.istore_n 2, 1) := by decide +kernel
theorem dX9_tear_32 : decode cX9_tear 32 = .ok (.aload_n 0, 1) := by decide +kernel
theorem dX9_tear_33 : decode cX9_tear 33 = .ok (.getfield 37, 3) := by decide +kernel
theorem dX9_tear_36 : decode cX9_tear 36 = .ok (.iload_n 1, 1) := by decide +kernel
theorem dX9_tear_37 : decode cX9_tear 37 = .ok (.aaload, 1) := by decide +kernel
theorem dX9_tear_38 : decode cX9_tear 38 = .ok (.iconst 0, 1) := by decide +kernel
theorem dX9_tear_39 : decode cX9_tear 39 = .ok (.putfield 232, 3) := by decide +kernel
theorem dX9_tear_42 : decode cX9_tear 42 = .ok (.iload_n 2, 1) := by decide +kernel
theorem dX9_tear_43 : decode cX9_tear 43 = .ok (.ireturn, 1) := by decide +kernel
theorem dX9_noted_0 : decode cX9_noted 0 = .ok (.aload_n 0, 1) := by decide +kernel
theorem dX9_noted_1 : decode cX9_noted 1 = .ok (.getfield 10, 3) := by decide +kernel
theorem dX9_noted_4 : decode cX9_noted 4 = .ok (.iload_n 1, 1) := by decide +kernel
theorem dX9_noted_5 : decode cX9_noted 5 = .ok (.invokevirtual 121, 3) := by decide +kernel
theorem dX9_noted_8 : decode cX9_noted 8 = .ok (.ifCond .ne 6, 3) := by decide +kernel
theorem dX9_noted_11 : decode cX9_noted 11 = .ok (.bipush (-2), 2) := by decide +kernel
theorem dX9_noted_13 : decode cX9_noted 13 = .ok (.ireturn, 1) := by decide +kernel
theorem dX9_noted_14 : decode cX9_noted 14 = .ok (.iload_n 2, 1) := by decide +kernel
theorem dX9_noted_15 : decode cX9_noted 15 = .ok (.ifCond .lt 9, 3) := by decide +kernel
theorem dX9_noted_18 : decode cX9_noted 18 = .ok (.iload_n 2, 1) := by decide +kernel
theorem dX9_noted_19 : decode cX9_noted 19 = .ok (.bipush 7, 2) := by decide +kernel
theorem dX9_noted_21 : decode cX9_noted 21 = .ok (.if_icmp .le 6, 3) := by decide +kernel
theorem dX9_noted_24 : decode cX9_noted 24 = .ok (.bipush (-3), 2) := by decide +kernel
theorem dX9_noted_26 : decode cX9_noted 26 = .ok (.ireturn, 1) := by decide +kernel
theorem dX9_noted_27 : decode cX9_noted 27 = .ok (.iload_n 2, 1) := by decide +kernel
theorem dX9_noted_28 : decode cX9_noted 28 = .ok (.ifCond .ne 17, 3) := by decide +kernel
theorem dX9_noted_31 : decode cX9_noted 31 = .ok (.aload_n 0, 1) := by decide +kernel
theorem dX9_noted_32 : decode cX9_noted 32 = .ok (.iload_n 1, 1) := by decide +kernel
theorem dX9_noted_33 : decode cX9_noted 33 = .ok (.invokevirtual 229, 3) := by decide +kernel
theorem dX9_noted_36 : decode cX9_noted 36 = .ok (.ifCond .eq 7, 3) := by decide +kernel
theorem dX9_noted_39 : decode cX9_noted 39 = .ok (.iconst 1, 1) := by decide +kernel
theorem dX9_noted_40 : decode cX9_noted 40 = .ok (.goto 4, 3) := by decide +kernel
theorem dX9_noted_43 : decode cX9_noted 43 = .ok (.iconst 0, 1) := by decide +kernel
theorem dX9_noted_44 : decode cX9_noted 44 = .ok (.ireturn, 1) := by decide +kernel
theorem dX9_noted_45 : decode cX9_noted 45 = .ok (.aload_n 0, 1) := by decide +kernel
theorem dX9_noted_46 : decode cX9_noted 46 = .ok (.getfield 37, 3) := by decide +kernel
theorem dX9_noted_49 : decode cX9_noted 49 = .ok (.iload_n 1, 1) := by decide +kernel
theorem dX9_noted_50 : decode cX9_noted 50 = .ok (.aaload, 1) := by decide +kernel
theorem dX9_noted_51 : decode cX9_noted 51 = .ok (.astore_n 3, 1) := by decide +kernel
theorem dX9_noted_52 : decode cX9_noted 52 = .ok (.aload_n 3, 1) := by decide +kernel
theorem dX9_noted_53 : decode cX9_noted 53 = .ok (.getfield 232, 3) := by decide +kernel
theorem dX9_noted_56 : decode cX9_noted 56 = .ok (.ifCond .ne 6, 3) := by decide +kernel
theorem dX9_noted_59 : decode cX9_noted 59 = .ok (.bipush (-4), 2) := by decide +kernel
theorem dX9_noted_61 : decode cX9_noted 61 = .ok (.ireturn, 1) := by decide +kernel
theorem dX9_noted_62 : decode cX9_noted 62 = .ok (.iload_n 2, 1) := by decide +kernel
theorem dX9_noted_63 : decode cX9_noted 63 = .ok (.iconst 3, 1) := by decide +kernel
theorem dX9_noted_64 : decode cX9_noted 64 = .ok (.if_icmp .gt 11, 3) := by decide +kernel
theorem dX9_noted_67 : decode cX9_noted 67 = .ok (.aload_n 3, 1) := by decide +kernel
theorem dX9_noted_68 : decode cX9_noted 68 = .ok (.iload_n 2, 1) := by decide +kernel
theorem dX9_noted_69 : decode cX9_noted 69 = .ok (.iconst 1, 1) := by decide +kernel
theorem dX9_noted_70 : decode cX9_noted 70 = .ok (.isub, 1) := by decide +kernel
theorem dX9_noted_71 : decode cX9_noted 71 = .ok (.invokevirtual 190, 3) := by decide +kernel
theorem dX9_noted_74 : decode cX9_noted 74 = .ok (.ireturn, 1) := by decide +kernel
theorem dX9_noted_75 : decode cX9_noted 75 = .ok (.iload_n 2, 1) := by decide +kernel
theorem dX9_noted_76 : decode cX9_noted 76 = .ok (.bipush 7, 2) := by decide +kernel
theorem dX9_noted_78 : decode cX9_noted 78 = .ok (.if_icmp .ne 10, 3) := by decide +kernel
theorem dX9_noted_81 : decode cX9_noted 81 = .ok (.aload_n 3, 1) := by decide +kernel
theorem dX9_noted_82 : decode cX9_noted 82 = .ok (.getfield 199, 3) := by decide +kernel
theorem dX9_noted_85 : decode cX9_noted 85 = .ok (.goto 12, 3) := by decide +kernel
theorem dX9_noted_88 : decode cX9_noted 88 = .ok (.aload_n 3, 1) := by decide +kernel
theorem dX9_noted_89 : decode cX9_noted 89 = .ok (.iload_n 2, 1) := by decide +kernel
theorem dX9_noted_90 : decode cX9_noted 90 = .ok (.iconst 1, 1) := by decide +kernel
theorem dX9_noted_91 : decode cX9_noted 91 = .ok (.isub, 1) := by decide +kernel
theorem dX9_noted_92 : decode cX9_noted 92 = .ok (.iconst 3, 1) := by decide +kernel
theorem dX9_noted_93 : decode cX9_noted 93 = .ok (.isub, 1) := by decide +kernel
theorem dX9_noted_94 : decode cX9_noted 94 = .ok (.invokevirtual 193, 3) := by decide +kernel
theorem dX9_noted_97 : decode cX9_noted 97 = .ok (.ireturn, 1) := by decide +kernel
theorem dX9_notedFar_0 : decode cX9_notedFar 0 = .ok (.aload_n 0, 1) := by decide +kernel
theorem dX9_notedFar_1 : decode cX9_notedFar 1 = .ok (.iload_n 1, 1) := by decide +kernel
theorem dX9_notedFar_2 : decode cX9_notedFar 2 = .ok (.iload_n 2, 1) := by decide +kernel
theorem dX9_notedFar_3 : decode cX9_notedFar 3 = .ok (.invokevirtual 128, 3) := by decide +kernel
theorem dX9_notedFar_6 : decode cX9_notedFar 6 = .ok (.ifCond .ne 6, 3) := by decide +kernel
theorem dX9_notedFar_9 : decode cX9_notedFar 9 = .ok (.bipush (-2), 2) := by decide +kernel
theorem dX9_notedFar_11 : decode cX9_notedFar 11 = .ok (.ireturn, 1) := by decide +kernel
theorem dX9_notedFar_12 : decode cX9_notedFar 12 = .ok (.aload_n 0, 1) := by decide +kernel
theorem dX9_notedFar_13 : decode cX9_notedFar 13 = .ok (.getfield 37, 3) := by decide +kernel
theorem dX9_notedFar_16 : decode cX9_notedFar 16 = .ok (.iload_n 1, 1) := by decide +kernel
theorem dX9_notedFar_17 : decode cX9_notedFar 17 = .ok (.aaload, 1) := by decide +kernel
theorem dX9_notedFar_18 : decode cX9_notedFar 18 = .ok (.iload_n 2, 1) := by decide +kernel
theorem dX9_notedFar_19 : decode cX9_notedFar 19 = .ok (.invokevirtual 235, 3) := by decide +kernel
theorem dX9_notedFar_22 : decode cX9_notedFar 22 = .ok (.ireturn, 1) := by decide +kernel
theorem dX9_told_0 : decode cX9_told 0 = .ok (.aload_n 0, 1) := by decide +kernel
theorem dX9_told_1 : decode cX9_told 1 = .ok (.iload_n 1, 1) := by decide +kernel
theorem dX9_told_2 : decode cX9_told 2 = .ok (.iload_n 2, 1) := by decide +kernel
theorem dX9_told_3 : decode cX9_told 3 = .ok (.invokevirtual 128, 3) := by decide +kernel
theorem dX9_told_6 : decode cX9_told 6 = .ok (.ifCond .ne 6, 3) := by decide +kernel
theorem dX9_told_9 : decode cX9_told 9 = .ok (.bipush (-2), 2) := by decide +kernel
theorem dX9_told_11 : decode cX9_told 11 = .ok (.ireturn, 1) := by decide +kernel
theorem dX9_told_12 : decode cX9_told 12 = .ok (.iload_n 3, 1) := by decide +kernel
theorem dX9_told_13 : decode cX9_told 13 = .ok (.ifCond .lt 8, 3) := by decide +kernel
theorem dX9_told_16 : decode cX9_told 16 = .ok (.iload_n 3, 1) := by decide +kernel
theorem dX9_told_17 : decode cX9_told 17 = .ok (.iconst 2, 1) := by decide +kernel
theorem dX9_told_18 : decode cX9_told 18 = .ok (.if_icmp .le 6, 3) := by decide +kernel
theorem dX9_told_21 : decode cX9_told 21 = .ok (.bipush (-3), 2) := by decide +kernel
theorem dX9_told_23 : decode cX9_told 23 = .ok (.ireturn, 1) := by decide +kernel
theorem dX9_told_24 : decode cX9_told 24 = .ok (.aload_n 0, 1) := by decide +kernel
theorem dX9_told_25 : decode cX9_told 25 = .ok (.getfield 72, 3) := by decide +kernel
theorem dX9_told_28 : decode cX9_told 28 = .ok (.aload_n 0, 1) := by decide +kernel
theorem dX9_told_29 : decode cX9_told 29 = .ok (.getfield 37, 3) := by decide +kernel
theorem dX9_told_32 : decode cX9_told 32 = .ok (.iload_n 1, 1) := by decide +kernel
theorem dX9_told_33 : decode cX9_told 33 = .ok (.iload_n 2, 1) := by decide +kernel
theorem dX9_told_34 : decode cX9_told 34 = .ok (.invokevirtual 238, 3) := by decide +kernel
theorem dX9_told_37 : decode cX9_told 37 = .ok (.aload_n 0, 1) := by decide +kernel
theorem dX9_told_38 : decode cX9_told 38 = .ok (.getfield 72, 3) := by decide +kernel
theorem dX9_told_41 : decode cX9_told 41 = .ok (.getfield 242, 3) := by decide +kernel
theorem dX9_told_44 : decode cX9_told 44 = .ok (.ifCond .eq 5, 3) := by decide +kernel
theorem dX9_told_47 : decode cX9_told 47 = .ok (.iconst (-1), 1) := by decide +kernel
theorem dX9_told_48 : decode cX9_told 48 = .ok (.ireturn, 1) := by decide +kernel
theorem dX9_told_49 : decode cX9_told 49 = .ok (.iload_n 3, 1) := by decide +kernel
theorem dX9_told_50 : decode cX9_told 50 = .ok (.ifCond .ne 11, 3) := by decide +kernel
theorem dX9_told_53 : decode cX9_told 53 = .ok (.aload_n 0, 1) := by decide +kernel
theorem dX9_told_54 : decode cX9_told 54 = .ok (.getfield 72, 3) := by decide +kernel
theorem dX9_told_57 : decode cX9_told 57 = .ok (.getfield 245, 3) := by decide +kernel
theorem dX9_told_60 : decode cX9_told 60 = .ok (.ireturn, 1) := by decide +kernel
theorem dX9_told_61 : decode cX9_told 61 = .ok (.iload_n 3, 1) := by decide +kernel
theorem dX9_told_62 : decode cX9_told 62 = .ok (.iconst 1, 1) := by decide +kernel
theorem dX9_told_63 : decode cX9_told 63 = .ok (.if_icmp .ne 13, 3) := by decide +kernel
theorem dX9_told_66 : decode cX9_told 66 = .ok (.aload_n 0, 1) := by decide +kernel
theorem dX9_told_67 : decode cX9_told 67 = .ok (.getfield 72, 3) := by decide +kernel
theorem dX9_told_70 : decode cX9_told 70 = .ok (.getfield 247, 3) := by decide +kernel
theorem dX9_told_73 : decode cX9_told 73 = .ok (.goto 10, 3) := by decide +kernel
theorem dX9_told_76 : decode cX9_told 76 = .ok (.aload_n 0, 1) := by decide +kernel
theorem dX9_told_77 : decode cX9_told 77 = .ok (.getfield 72, 3) := by decide +kernel
theorem dX9_told_80 : decode cX9_told 80 = .ok (.getfield 250, 3) := by decide +kernel
theorem dX9_told_83 : decode cX9_told 83 = .ok (.ireturn, 1) := by decide +kernel
theorem dX9_why_0 : decode cX9_why 0 = .ok (.aload_n 0, 1) := by decide +kernel
theorem dX9_why_1 : decode cX9_why 1 = .ok (.iload_n 1, 1) := by decide +kernel
theorem dX9_why_2 : decode cX9_why 2 = .ok (.iload_n 2, 1) := by decide +kernel
theorem dX9_why_3 : decode cX9_why 3 = .ok (.invokevirtual 128, 3) := by decide +kernel
theorem dX9_why_6 : decode cX9_why 6 = .ok (.ifCond .ne 6, 3) := by decide +kernel
theorem dX9_why_9 : decode cX9_why 9 = .ok (.bipush (-2), 2) := by decide +kernel
theorem dX9_why_11 : decode cX9_why 11 = .ok (.ireturn, 1) := by decide +kernel
theorem dX9_why_12 : decode cX9_why 12 = .ok (.iload_n 3, 1) := by decide +kernel
theorem dX9_why_13 : decode cX9_why 13 = .ok (.ifCond .lt 8, 3) := by decide +kernel
theorem dX9_why_16 : decode cX9_why 16 = .ok (.iload_n 3, 1) := by decide +kernel
theorem dX9_why_17 : decode cX9_why 17 = .ok (.iconst 2, 1) := by decide +kernel
theorem dX9_why_18 : decode cX9_why 18 = .ok (.if_icmp .le 6, 3) := by decide +kernel
theorem dX9_why_21 : decode cX9_why 21 = .ok (.bipush (-3), 2) := by decide +kernel
theorem dX9_why_23 : decode cX9_why 23 = .ok (.ireturn, 1) := by decide +kernel
theorem dX9_why_24 : decode cX9_why 24 = .ok (.aload_n 0, 1) := by decide +kernel
theorem dX9_why_25 : decode cX9_why 25 = .ok (.getfield 72, 3) := by decide +kernel
theorem dX9_why_28 : decode cX9_why 28 = .ok (.aload_n 0, 1) := by decide +kernel
theorem dX9_why_29 : decode cX9_why 29 = .ok (.getfield 37, 3) := by decide +kernel
theorem dX9_why_32 : decode cX9_why 32 = .ok (.iload_n 1, 1) := by decide +kernel
theorem dX9_why_33 : decode cX9_why 33 = .ok (.iload_n 2, 1) := by decide +kernel
theorem dX9_why_34 : decode cX9_why 34 = .ok (.invokevirtual 238, 3) := by decide +kernel
theorem dX9_why_37 : decode cX9_why 37 = .ok (.aload_n 0, 1) := by decide +kernel
theorem dX9_why_38 : decode cX9_why 38 = .ok (.getfield 72, 3) := by decide +kernel
theorem dX9_why_41 : decode cX9_why 41 = .ok (.getfield 242, 3) := by decide +kernel
theorem dX9_why_44 : decode cX9_why 44 = .ok (.ifCond .ne 5, 3) := by decide +kernel
theorem dX9_why_47 : decode cX9_why 47 = .ok (.iconst (-1), 1) := by decide +kernel
theorem dX9_why_48 : decode cX9_why 48 = .ok (.ireturn, 1) := by decide +kernel
theorem dX9_why_49 : decode cX9_why 49 = .ok (.iload_n 3, 1) := by decide +kernel
theorem dX9_why_50 : decode cX9_why 50 = .ok (.ifCond .ne 11, 3) := by decide +kernel
theorem dX9_why_53 : decode cX9_why 53 = .ok (.aload_n 0, 1) := by decide +kernel
theorem dX9_why_54 : decode cX9_why 54 = .ok (.getfield 72, 3) := by decide +kernel
theorem dX9_why_57 : decode cX9_why 57 = .ok (.getfield 242, 3) := by decide +kernel
theorem dX9_why_60 : decode cX9_why 60 = .ok (.ireturn, 1) := by decide +kernel
theorem dX9_why_61 : decode cX9_why 61 = .ok (.iload_n 3, 1) := by decide +kernel
theorem dX9_why_62 : decode cX9_why 62 = .ok (.iconst 1, 1) := by decide +kernel
theorem dX9_why_63 : decode cX9_why 63 = .ok (.if_icmp .ne 13, 3) := by decide +kernel
theorem dX9_why_66 : decode cX9_why 66 = .ok (.aload_n 0, 1) := by decide +kernel
theorem dX9_why_67 : decode cX9_why 67 = .ok (.getfield 72, 3) := by decide +kernel
theorem dX9_why_70 : decode cX9_why 70 = .ok (.getfield 250, 3) := by decide +kernel
theorem dX9_why_73 : decode cX9_why 73 = .ok (.goto 10, 3) := by decide +kernel
theorem dX9_why_76 : decode cX9_why 76 = .ok (.aload_n 0, 1) := by decide +kernel
theorem dX9_why_77 : decode cX9_why 77 = .ok (.getfield 72, 3) := by decide +kernel
theorem dX9_why_80 : decode cX9_why 80 = .ok (.getfield 253, 3) := by decide +kernel
theorem dX9_why_83 : decode cX9_why 83 = .ok (.ireturn, 1) := by decide +kernel
theorem dX9_route_0 : decode cX9_route 0 = .ok (.aload_n 0, 1) := by decide +kernel
theorem dX9_route_1 : decode cX9_route 1 = .ok (.iload_n 1, 1) := by decide +kernel
theorem dX9_route_2 : decode cX9_route 2 = .ok (.iload_n 2, 1) := by decide +kernel
theorem dX9_route_3 : decode cX9_route 3 = .ok (.invokevirtual 128, 3) := by decide +kernel
theorem dX9_route_6 : decode cX9_route 6 = .ok (.ifCond .ne 6, 3) := by decide +kernel
theorem dX9_route_9 : decode cX9_route 9 = .ok (.bipush (-2), 2) := by decide +kernel
theorem dX9_route_11 : decode cX9_route 11 = .ok (.ireturn, 1) := by decide +kernel
theorem dX9_route_12 : decode cX9_route 12 = .ok (.aload_n 0, 1) := by decide +kernel
theorem dX9_route_13 : decode cX9_route 13 = .ok (.getfield 72, 3) := by decide +kernel
theorem dX9_route_16 : decode cX9_route 16 = .ok (.aload_n 0, 1) := by decide +kernel
theorem dX9_route_17 : decode cX9_route 17 = .ok (.getfield 37, 3) := by decide +kernel
theorem dX9_route_20 : decode cX9_route 20 = .ok (.iload_n 1, 1) := by decide +kernel
theorem dX9_route_21 : decode cX9_route 21 = .ok (.iload_n 2, 1) := by decide +kernel
theorem dX9_route_22 : decode cX9_route 22 = .ok (.invokevirtual 238, 3) := by decide +kernel
theorem dX9_route_25 : decode cX9_route 25 = .ok (.aload_n 0, 1) := by decide +kernel
theorem dX9_route_26 : decode cX9_route 26 = .ok (.getfield 72, 3) := by decide +kernel
theorem dX9_route_29 : decode cX9_route 29 = .ok (.getfield 242, 3) := by decide +kernel
theorem dX9_route_32 : decode cX9_route 32 = .ok (.ifCond .eq 6, 3) := by decide +kernel
theorem dX9_route_35 : decode cX9_route 35 = .ok (.bipush (-4), 2) := by decide +kernel
theorem dX9_route_37 : decode cX9_route 37 = .ok (.ireturn, 1) := by decide +kernel
theorem dX9_route_38 : decode cX9_route 38 = .ok (.aload_n 0, 1) := by decide +kernel
theorem dX9_route_39 : decode cX9_route 39 = .ok (.getfield 72, 3) := by decide +kernel
theorem dX9_route_42 : decode cX9_route 42 = .ok (.getfield 247, 3) := by decide +kernel
theorem dX9_route_45 : decode cX9_route 45 = .ok (.istore 4, 2) := by decide +kernel
theorem dX9_route_47 : decode cX9_route 47 = .ok (.aload_n 0, 1) := by decide +kernel
theorem dX9_route_48 : decode cX9_route 48 = .ok (.getfield 58, 3) := by decide +kernel
theorem dX9_route_51 : decode cX9_route 51 = .ok (.aload_n 0, 1) := by decide +kernel
theorem dX9_route_52 : decode cX9_route 52 = .ok (.getfield 10, 3) := by decide +kernel
theorem dX9_route_55 : decode cX9_route 55 = .ok (.invokevirtual 182, 3) := by decide +kernel
theorem dX9_route_58 : decode cX9_route 58 = .ok (.aload_n 0, 1) := by decide +kernel
theorem dX9_route_59 : decode cX9_route 59 = .ok (.getfield 58, 3) := by decide +kernel
theorem dX9_route_62 : decode cX9_route 62 = .ok (.iload_n 1, 1) := by decide +kernel
theorem dX9_route_63 : decode cX9_route 63 = .ok (.iload 4, 2) := by decide +kernel
theorem dX9_route_65 : decode cX9_route 65 = .ok (.invokevirtual 184, 3) := by decide +kernel
theorem dX9_route_68 : decode cX9_route 68 = .ok (.iconst (-1), 1) := by decide +kernel
theorem dX9_route_69 : decode cX9_route 69 = .ok (.if_icmp .eq 17, 3) := by decide +kernel
theorem dX9_route_72 : decode cX9_route 72 = .ok (.aload_n 0, 1) := by decide +kernel
theorem dX9_route_73 : decode cX9_route 73 = .ok (.getfield 58, 3) := by decide +kernel
theorem dX9_route_76 : decode cX9_route 76 = .ok (.iload 4, 2) := by decide +kernel
theorem dX9_route_78 : decode cX9_route 78 = .ok (.iload_n 2, 1) := by decide +kernel
theorem dX9_route_79 : decode cX9_route 79 = .ok (.invokevirtual 184, 3) := by decide +kernel
theorem dX9_route_82 : decode cX9_route 82 = .ok (.iconst (-1), 1) := by decide +kernel
theorem dX9_route_83 : decode cX9_route 83 = .ok (.if_icmp .ne 6, 3) := by decide +kernel
theorem dX9_route_86 : decode cX9_route 86 = .ok (.bipush (-4), 2) := by decide +kernel
theorem dX9_route_88 : decode cX9_route 88 = .ok (.ireturn, 1) := by decide +kernel
theorem dX9_route_89 : decode cX9_route 89 = .ok (.iload_n 3, 1) := by decide +kernel
theorem dX9_route_90 : decode cX9_route 90 = .ok (.ifCond .ge 5, 3) := by decide +kernel
theorem dX9_route_93 : decode cX9_route 93 = .ok (.iconst (-1), 1) := by decide +kernel
theorem dX9_route_94 : decode cX9_route 94 = .ok (.ireturn, 1) := by decide +kernel
theorem dX9_route_95 : decode cX9_route 95 = .ok (.aload_n 0, 1) := by decide +kernel
theorem dX9_route_96 : decode cX9_route 96 = .ok (.iload_n 1, 1) := by decide +kernel
theorem dX9_route_97 : decode cX9_route 97 = .ok (.iload 4, 2) := by decide +kernel
theorem dX9_route_99 : decode cX9_route 99 = .ok (.invokevirtual 256, 3) := by decide +kernel
theorem dX9_route_102 : decode cX9_route 102 = .ok (.istore 5, 2) := by decide +kernel
theorem dX9_route_104 : decode cX9_route 104 = .ok (.iload_n 3, 1) := by decide +kernel
theorem dX9_route_105 : decode cX9_route 105 = .ok (.iload 5, 2) := by decide +kernel
theorem dX9_route_107 : decode cX9_route 107 = .ok (.if_icmp .gt 12, 3) := by decide +kernel
theorem dX9_route_110 : decode cX9_route 110 = .ok (.aload_n 0, 1) := by decide +kernel
theorem dX9_route_111 : decode cX9_route 111 = .ok (.iload_n 1, 1) := by decide +kernel
theorem dX9_route_112 : decode cX9_route 112 = .ok (.iload 4, 2) := by decide +kernel
theorem dX9_route_114 : decode cX9_route 114 = .ok (.iload_n 3, 1) := by decide +kernel
theorem dX9_route_115 : decode cX9_route 115 = .ok (.invokevirtual 259, 3) := by decide +kernel
theorem dX9_route_118 : decode cX9_route 118 = .ok (.ireturn, 1) := by decide +kernel
theorem dX9_route_119 : decode cX9_route 119 = .ok (.iload_n 3, 1) := by decide +kernel
theorem dX9_route_120 : decode cX9_route 120 = .ok (.iload 5, 2) := by decide +kernel
theorem dX9_route_122 : decode cX9_route 122 = .ok (.isub, 1) := by decide +kernel
theorem dX9_route_123 : decode cX9_route 123 = .ok (.aload_n 0, 1) := by decide +kernel
theorem dX9_route_124 : decode cX9_route 124 = .ok (.iload 4, 2) := by decide +kernel
theorem dX9_route_126 : decode cX9_route 126 = .ok (.iload_n 2, 1) := by decide +kernel
theorem dX9_route_127 : decode cX9_route 127 = .ok (.invokevirtual 256, 3) := by decide +kernel
theorem dX9_route_130 : decode cX9_route 130 = .ok (.if_icmp .gt 17, 3) := by decide +kernel
theorem dX9_route_133 : decode cX9_route 133 = .ok (.aload_n 0, 1) := by decide +kernel
theorem dX9_route_134 : decode cX9_route 134 = .ok (.iload 4, 2) := by decide +kernel
theorem dX9_route_136 : decode cX9_route 136 = .ok (.iload_n 2, 1) := by decide +kernel
theorem dX9_route_137 : decode cX9_route 137 = .ok (.iload_n 3, 1) := by decide +kernel
theorem dX9_route_138 : decode cX9_route 138 = .ok (.iload 5, 2) := by decide +kernel
theorem dX9_route_140 : decode cX9_route 140 = .ok (.isub, 1) := by decide +kernel
theorem dX9_route_141 : decode cX9_route 141 = .ok (.invokevirtual 259, 3) := by decide +kernel
theorem dX9_route_144 : decode cX9_route 144 = .ok (.goto 4, 3) := by decide +kernel
theorem dX9_route_147 : decode cX9_route 147 = .ok (.iconst (-1), 1) := by decide +kernel
theorem dX9_route_148 : decode cX9_route 148 = .ok (.ireturn, 1) := by decide +kernel
theorem dX9_pairs_0 : decode cX9_pairs 0 = .ok (.iload_n 1, 1) := by decide +kernel
theorem dX9_pairs_1 : decode cX9_pairs 1 = .ok (.ifCond .lt 8, 3) := by decide +kernel
theorem dX9_pairs_4 : decode cX9_pairs 4 = .ok (.iload_n 1, 1) := by decide +kernel
theorem dX9_pairs_5 : decode cX9_pairs 5 = .ok (.iconst 3, 1) := by decide +kernel
theorem dX9_pairs_6 : decode cX9_pairs 6 = .ok (.if_icmp .le 6, 3) := by decide +kernel
theorem dX9_pairs_9 : decode cX9_pairs 9 = .ok (.bipush (-3), 2) := by decide +kernel
theorem dX9_pairs_11 : decode cX9_pairs 11 = .ok (.ireturn, 1) := by decide +kernel
theorem dX9_pairs_12 : decode cX9_pairs 12 = .ok (.aload_n 0, 1) := by decide +kernel
theorem dX9_pairs_13 : decode cX9_pairs 13 = .ok (.invokevirtual 263, 3) := by decide +kernel
theorem dX9_pairs_16 : decode cX9_pairs 16 = .ok (.istore_n 2, 1) := by decide +kernel
theorem dX9_pairs_17 : decode cX9_pairs 17 = .ok (.iload_n 1, 1) := by decide +kernel
theorem dX9_pairs_18 : decode cX9_pairs 18 = .ok (.iconst 3, 1) := by decide +kernel
theorem dX9_pairs_19 : decode cX9_pairs 19 = .ok (.if_icmp .ne 5, 3) := by decide +kernel
theorem dX9_pairs_22 : decode cX9_pairs 22 = .ok (.iload_n 2, 1) := by decide +kernel
theorem dX9_pairs_23 : decode cX9_pairs 23 = .ok (.ireturn, 1) := by decide +kernel
theorem dX9_pairs_24 : decode cX9_pairs 24 = .ok (.iload_n 1, 1) := by decide +kernel
theorem dX9_pairs_25 : decode cX9_pairs 25 = .ok (.iconst 2, 1) := by decide +kernel
theorem dX9_pairs_26 : decode cX9_pairs 26 = .ok (.if_icmp .ne 11, 3) := by decide +kernel
theorem dX9_pairs_29 : decode cX9_pairs 29 = .ok (.aload_n 0, 1) := by decide +kernel
theorem dX9_pairs_30 : decode cX9_pairs 30 = .ok (.getfield 79, 3) := by decide +kernel
theorem dX9_pairs_33 : decode cX9_pairs 33 = .ok (.getfield 209, 3) := by decide +kernel
theorem dX9_pairs_36 : decode cX9_pairs 36 = .ok (.ireturn, 1) := by decide +kernel
theorem dX9_pairs_37 : decode cX9_pairs 37 = .ok (.aload_n 0, 1) := by decide +kernel
theorem dX9_pairs_38 : decode cX9_pairs 38 = .ok (.getfield 79, 3) := by decide +kernel
theorem dX9_pairs_41 : decode cX9_pairs 41 = .ok (.getfield 209, 3) := by decide +kernel
theorem dX9_pairs_44 : decode cX9_pairs 44 = .ok (.ifCond .ne 5, 3) := by decide +kernel
theorem dX9_pairs_47 : decode cX9_pairs 47 = .ok (.iconst (-1), 1) := by decide +kernel
theorem dX9_pairs_48 : decode cX9_pairs 48 = .ok (.ireturn, 1) := by decide +kernel
theorem dX9_pairs_49 : decode cX9_pairs 49 = .ok (.iload_n 1, 1) := by decide +kernel
theorem dX9_pairs_50 : decode cX9_pairs 50 = .ok (.ifCond .ne 13, 3) := by decide +kernel
theorem dX9_pairs_53 : decode cX9_pairs 53 = .ok (.aload_n 0, 1) := by decide +kernel
theorem dX9_pairs_54 : decode cX9_pairs 54 = .ok (.getfield 79, 3) := by decide +kernel
theorem dX9_pairs_57 : decode cX9_pairs 57 = .ok (.getfield 266, 3) := by decide +kernel
theorem dX9_pairs_60 : decode cX9_pairs 60 = .ok (.goto 10, 3) := by decide +kernel
theorem dX9_pairs_63 : decode cX9_pairs 63 = .ok (.aload_n 0, 1) := by decide +kernel
theorem dX9_pairs_64 : decode cX9_pairs 64 = .ok (.getfield 79, 3) := by decide +kernel
theorem dX9_pairs_67 : decode cX9_pairs 67 = .ok (.getfield 269, 3) := by decide +kernel
theorem dX9_pairs_70 : decode cX9_pairs 70 = .ok (.ireturn, 1) := by decide +kernel
theorem dX9_count_0 : decode cX9_count 0 = .ok (.iload_n 1, 1) := by decide +kernel
theorem dX9_count_1 : decode cX9_count 1 = .ok (.tableswitch 135 0 11 #[63, 71, 79, 84, 89, 94, 99, 107, 115, 123, 123, 123], 63) := by decide +kernel
theorem dX9_count_64 : decode cX9_count 64 = .ok (.aload_n 0, 1) := by decide +kernel
theorem dX9_count_65 : decode cX9_count 65 = .ok (.getfield 10, 3) := by decide +kernel
theorem dX9_count_68 : decode cX9_count 68 = .ok (.getfield 152, 3) := by decide +kernel
theorem dX9_count_71 : decode cX9_count 71 = .ok (.ireturn, 1) := by decide +kernel
theorem dX9_count_72 : decode cX9_count 72 = .ok (.aload_n 0, 1) := by decide +kernel
theorem dX9_count_73 : decode cX9_count 73 = .ok (.getfield 10, 3) := by decide +kernel
theorem dX9_count_76 : decode cX9_count 76 = .ok (.getfield 142, 3) := by decide +kernel
theorem dX9_count_79 : decode cX9_count 79 = .ok (.ireturn, 1) := by decide +kernel
theorem dX9_count_80 : decode cX9_count 80 = .ok (.aload_n 0, 1) := by decide +kernel
theorem dX9_count_81 : decode cX9_count 81 = .ok (.invokevirtual 272, 3) := by decide +kernel
theorem dX9_count_84 : decode cX9_count 84 = .ok (.ireturn, 1) := by decide +kernel
theorem dX9_count_85 : decode cX9_count 85 = .ok (.aload_n 0, 1) := by decide +kernel
theorem dX9_count_86 : decode cX9_count 86 = .ok (.invokevirtual 179, 3) := by decide +kernel
theorem dX9_count_89 : decode cX9_count 89 = .ok (.ireturn, 1) := by decide +kernel
theorem dX9_count_90 : decode cX9_count 90 = .ok (.aload_n 0, 1) := by decide +kernel
theorem dX9_count_91 : decode cX9_count 91 = .ok (.invokevirtual 275, 3) := by decide +kernel
theorem dX9_count_94 : decode cX9_count 94 = .ok (.ireturn, 1) := by decide +kernel
theorem dX9_count_95 : decode cX9_count 95 = .ok (.aload_n 0, 1) := by decide +kernel
theorem dX9_count_96 : decode cX9_count 96 = .ok (.invokevirtual 278, 3) := by decide +kernel
theorem dX9_count_99 : decode cX9_count 99 = .ok (.ireturn, 1) := by decide +kernel
theorem dX9_count_100 : decode cX9_count 100 = .ok (.aload_n 0, 1) := by decide +kernel
theorem dX9_count_101 : decode cX9_count 101 = .ok (.getfield 29, 3) := by decide +kernel
theorem dX9_count_104 : decode cX9_count 104 = .ok (.getfield 106, 3) := by decide +kernel
theorem dX9_count_107 : decode cX9_count 107 = .ok (.ireturn, 1) := by decide +kernel
theorem dX9_count_108 : decode cX9_count 108 = .ok (.aload_n 0, 1) := by decide +kernel
theorem dX9_count_109 : decode cX9_count 109 = .ok (.getfield 22, 3) := by decide +kernel
theorem dX9_count_112 : decode cX9_count 112 = .ok (.getfield 83, 3) := by decide +kernel
theorem dX9_count_115 : decode cX9_count 115 = .ok (.ireturn, 1) := by decide +kernel
theorem dX9_count_116 : decode cX9_count 116 = .ok (.aload_n 0, 1) := by decide +kernel
theorem dX9_count_117 : decode cX9_count 117 = .ok (.getfield 10, 3) := by decide +kernel
theorem dX9_count_120 : decode cX9_count 120 = .ok (.getfield 281, 3) := by decide +kernel
theorem dX9_count_123 : decode cX9_count 123 = .ok (.ireturn, 1) := by decide +kernel
theorem dX9_count_124 : decode cX9_count 124 = .ok (.aload_n 0, 1) := by decide +kernel
theorem dX9_count_125 : decode cX9_count 125 = .ok (.getfield 10, 3) := by decide +kernel
theorem dX9_count_128 : decode cX9_count 128 = .ok (.iload_n 1, 1) := by decide +kernel
theorem dX9_count_129 : decode cX9_count 129 = .ok (.bipush 9, 2) := by decide +kernel
theorem dX9_count_131 : decode cX9_count 131 = .ok (.isub, 1) := by decide +kernel
theorem dX9_count_132 : decode cX9_count 132 = .ok (.invokevirtual 155, 3) := by decide +kernel
theorem dX9_count_135 : decode cX9_count 135 = .ok (.ireturn, 1) := by decide +kernel
theorem dX9_count_136 : decode cX9_count 136 = .ok (.bipush (-3), 2) := by decide +kernel
theorem dX9_count_138 : decode cX9_count 138 = .ok (.ireturn, 1) := by decide +kernel
theorem dX9_blankNotes_0 : decode cX9_blankNotes 0 = .ok (.bipush 12, 2) := by decide +kernel
theorem dX9_blankNotes_2 : decode cX9_blankNotes 2 = .ok (.anewarray 41, 3) := by decide +kernel
theorem dX9_blankNotes_5 : decode cX9_blankNotes 5 = .ok (.astore_n 0, 1) := by decide +kernel
theorem dX9_blankNotes_6 : decode cX9_blankNotes 6 = .ok (.iconst 0, 1) := by decide +kernel
theorem dX9_blankNotes_7 : decode cX9_blankNotes 7 = .ok (.istore_n 1, 1) := by decide +kernel
theorem dX9_blankNotes_8 : decode cX9_blankNotes 8 = .ok (.iload_n 1, 1) := by decide +kernel
theorem dX9_blankNotes_9 : decode cX9_blankNotes 9 = .ok (.bipush 12, 2) := by decide +kernel
theorem dX9_blankNotes_11 : decode cX9_blankNotes 11 = .ok (.if_icmp .ge 19, 3) := by decide +kernel
theorem dX9_blankNotes_14 : decode cX9_blankNotes 14 = .ok (.aload_n 0, 1) := by decide +kernel
theorem dX9_blankNotes_15 : decode cX9_blankNotes 15 = .ok (.iload_n 1, 1) := by decide +kernel
theorem dX9_blankNotes_16 : decode cX9_blankNotes 16 = .ok (.new 41, 3) := by decide +kernel
theorem dX9_blankNotes_19 : decode cX9_blankNotes 19 = .ok (.dup, 1) := by decide +kernel
theorem dX9_blankNotes_20 : decode cX9_blankNotes 20 = .ok (.invokespecial 43, 3) := by decide +kernel
theorem dX9_blankNotes_23 : decode cX9_blankNotes 23 = .ok (.aastore, 1) := by decide +kernel
theorem dX9_blankNotes_24 : decode cX9_blankNotes 24 = .ok (.iinc 1 1, 3) := by decide +kernel
theorem dX9_blankNotes_27 : decode cX9_blankNotes 27 = .ok (.goto (-19), 3) := by decide +kernel
theorem dX9_blankNotes_30 : decode cX9_blankNotes 30 = .ok (.aload_n 0, 1) := by decide +kernel
theorem dX9_blankNotes_31 : decode cX9_blankNotes 31 = .ok (.areturn, 1) := by decide +kernel
theorem dX9_copyNotes_0 : decode cX9_copyNotes 0 = .ok (.iconst 0, 1) := by decide +kernel
theorem dX9_copyNotes_1 : decode cX9_copyNotes 1 = .ok (.istore_n 2, 1) := by decide +kernel
theorem dX9_copyNotes_2 : decode cX9_copyNotes 2 = .ok (.iload_n 2, 1) := by decide +kernel
theorem dX9_copyNotes_3 : decode cX9_copyNotes 3 = .ok (.bipush 12, 2) := by decide +kernel
theorem dX9_copyNotes_5 : decode cX9_copyNotes 5 = .ok (.if_icmp .ge 18, 3) := by decide +kernel
theorem dX9_copyNotes_8 : decode cX9_copyNotes 8 = .ok (.aload_n 1, 1) := by decide +kernel
theorem dX9_copyNotes_9 : decode cX9_copyNotes 9 = .ok (.iload_n 2, 1) := by decide +kernel
theorem dX9_copyNotes_10 : decode cX9_copyNotes 10 = .ok (.aaload, 1) := by decide +kernel
theorem dX9_copyNotes_11 : decode cX9_copyNotes 11 = .ok (.aload_n 0, 1) := by decide +kernel
theorem dX9_copyNotes_12 : decode cX9_copyNotes 12 = .ok (.iload_n 2, 1) := by decide +kernel
theorem dX9_copyNotes_13 : decode cX9_copyNotes 13 = .ok (.aaload, 1) := by decide +kernel
theorem dX9_copyNotes_14 : decode cX9_copyNotes 14 = .ok (.invokevirtual 221, 3) := by decide +kernel
theorem dX9_copyNotes_17 : decode cX9_copyNotes 17 = .ok (.iinc 2 1, 3) := by decide +kernel
theorem dX9_copyNotes_20 : decode cX9_copyNotes 20 = .ok (.goto (-18), 3) := by decide +kernel
theorem dX9_copyNotes_23 : decode cX9_copyNotes 23 = .ok (.return_, 1) := by decide +kernel
theorem dX9_cell_0 : decode cX9_cell 0 = .ok (.iload_n 0, 1) := by decide +kernel
theorem dX9_cell_1 : decode cX9_cell 1 = .ok (.bipush 12, 2) := by decide +kernel
theorem dX9_cell_3 : decode cX9_cell 3 = .ok (.imul, 1) := by decide +kernel
theorem dX9_cell_4 : decode cX9_cell 4 = .ok (.iload_n 1, 1) := by decide +kernel
theorem dX9_cell_5 : decode cX9_cell 5 = .ok (.iadd, 1) := by decide +kernel
theorem dX9_cell_6 : decode cX9_cell 6 = .ok (.ireturn, 1) := by decide +kernel
theorem dX9_commonPart_0 : decode cX9_commonPart 0 = .ok (.iload_n 0, 1) := by decide +kernel
theorem dX9_commonPart_1 : decode cX9_commonPart 1 = .ok (.istore_n 2, 1) := by decide +kernel
theorem dX9_commonPart_2 : decode cX9_commonPart 2 = .ok (.iload_n 1, 1) := by decide +kernel
theorem dX9_commonPart_3 : decode cX9_commonPart 3 = .ok (.istore_n 3, 1) := by decide +kernel
theorem dX9_commonPart_4 : decode cX9_commonPart 4 = .ok (.iconst 0, 1) := by decide +kernel
theorem dX9_commonPart_5 : decode cX9_commonPart 5 = .ok (.istore 4, 2) := by decide +kernel
theorem dX9_commonPart_7 : decode cX9_commonPart 7 = .ok (.iload 4, 2) := by decide +kernel
theorem dX9_commonPart_9 : decode cX9_commonPart 9 = .ok (.bipush 64, 2) := by decide +kernel
theorem dX9_commonPart_11 : decode cX9_commonPart 11 = .ok (.if_icmp .ge 23, 3) := by decide +kernel
theorem dX9_commonPart_14 : decode cX9_commonPart 14 = .ok (.iload_n 3, 1) := by decide +kernel
theorem dX9_commonPart_15 : decode cX9_commonPart 15 = .ok (.ifCond .eq 19, 3) := by decide +kernel
theorem dX9_commonPart_18 : decode cX9_commonPart 18 = .ok (.iload_n 2, 1) := by decide +kernel
theorem dX9_commonPart_19 : decode cX9_commonPart 19 = .ok (.iload_n 3, 1) := by decide +kernel
theorem dX9_commonPart_20 : decode cX9_commonPart 20 = .ok (.irem, 1) := by decide +kernel
theorem dX9_commonPart_21 : decode cX9_commonPart 21 = .ok (.istore 5, 2) := by decide +kernel
theorem dX9_commonPart_23 : decode cX9_commonPart 23 = .ok (.iload_n 3, 1) := by decide +kernel
theorem dX9_commonPart_24 : decode cX9_commonPart 24 = .ok (.istore_n 2, 1) := by decide +kernel
theorem dX9_commonPart_25 : decode cX9_commonPart 25 = .ok (.iload 5, 2) := by decide +kernel
theorem dX9_commonPart_27 : decode cX9_commonPart 27 = .ok (.istore_n 3, 1) := by decide +kernel
theorem dX9_commonPart_28 : decode cX9_commonPart 28 = .ok (.iinc 4 1, 3) := by decide +kernel
theorem dX9_commonPart_31 : decode cX9_commonPart 31 = .ok (.goto (-24), 3) := by decide +kernel
theorem dX9_commonPart_34 : decode cX9_commonPart 34 = .ok (.iload_n 2, 1) := by decide +kernel
theorem dX9_commonPart_35 : decode cX9_commonPart 35 = .ok (.ireturn, 1) := by decide +kernel
theorem dX9_bothThere_0 : decode cX9_bothThere 0 = .ok (.aload_n 0, 1) := by decide +kernel
theorem dX9_bothThere_1 : decode cX9_bothThere 1 = .ok (.getfield 10, 3) := by decide +kernel
theorem dX9_bothThere_4 : decode cX9_bothThere 4 = .ok (.iload_n 1, 1) := by decide +kernel
theorem dX9_bothThere_5 : decode cX9_bothThere 5 = .ok (.invokevirtual 121, 3) := by decide +kernel
theorem dX9_bothThere_8 : decode cX9_bothThere 8 = .ok (.ifCond .eq 18, 3) := by decide +kernel
theorem dX9_bothThere_11 : decode cX9_bothThere 11 = .ok (.aload_n 0, 1) := by decide +kernel
theorem dX9_bothThere_12 : decode cX9_bothThere 12 = .ok (.getfield 10, 3) := by decide +kernel
theorem dX9_bothThere_15 : decode cX9_bothThere 15 = .ok (.iload_n 2, 1) := by decide +kernel
theorem dX9_bothThere_16 : decode cX9_bothThere 16 = .ok (.invokevirtual 121, 3) := by decide +kernel
theorem dX9_bothThere_19 : decode cX9_bothThere 19 = .ok (.ifCond .eq 7, 3) := by decide +kernel
theorem dX9_bothThere_22 : decode cX9_bothThere 22 = .ok (.iconst 1, 1) := by decide +kernel
theorem dX9_bothThere_23 : decode cX9_bothThere 23 = .ok (.goto 4, 3) := by decide +kernel
theorem dX9_bothThere_26 : decode cX9_bothThere 26 = .ok (.iconst 0, 1) := by decide +kernel
theorem dX9_bothThere_27 : decode cX9_bothThere 27 = .ok (.ireturn, 1) := by decide +kernel
theorem dX9_readText_0 : decode cX9_readText 0 = .ok (.aload_n 0, 1) := by decide +kernel
theorem dX9_readText_1 : decode cX9_readText 1 = .ok (.getfield 16, 3) := by decide +kernel
theorem dX9_readText_4 : decode cX9_readText 4 = .ok (.aload_n 0, 1) := by decide +kernel
theorem dX9_readText_5 : decode cX9_readText 5 = .ok (.getfield 10, 3) := by decide +kernel
theorem dX9_readText_8 : decode cX9_readText 8 = .ok (.invokevirtual 95, 3) := by decide +kernel
theorem dX9_readText_11 : decode cX9_readText 11 = .ok (.aload_n 0, 1) := by decide +kernel
theorem dX9_readText_12 : decode cX9_readText 12 = .ok (.getfield 22, 3) := by decide +kernel
theorem dX9_readText_15 : decode cX9_readText 15 = .ok (.aload_n 0, 1) := by decide +kernel
theorem dX9_readText_16 : decode cX9_readText 16 = .ok (.getfield 16, 3) := by decide +kernel
theorem dX9_readText_19 : decode cX9_readText 19 = .ok (.invokevirtual 284, 3) := by decide +kernel
theorem dX9_readText_22 : decode cX9_readText 22 = .ok (.ireturn, 1) := by decide +kernel
theorem dX9_blankAll_0 : decode cX9_blankAll 0 = .ok (.iconst 0, 1) := by decide +kernel
theorem dX9_blankAll_1 : decode cX9_blankAll 1 = .ok (.istore_n 1, 1) := by decide +kernel
theorem dX9_blankAll_2 : decode cX9_blankAll 2 = .ok (.iload_n 1, 1) := by decide +kernel
theorem dX9_blankAll_3 : decode cX9_blankAll 3 = .ok (.bipush 12, 2) := by decide +kernel
theorem dX9_blankAll_5 : decode cX9_blankAll 5 = .ok (.if_icmp .ge 19, 3) := by decide +kernel
theorem dX9_blankAll_8 : decode cX9_blankAll 8 = .ok (.aload_n 0, 1) := by decide +kernel
theorem dX9_blankAll_9 : decode cX9_blankAll 9 = .ok (.getfield 37, 3) := by decide +kernel
theorem dX9_blankAll_12 : decode cX9_blankAll 12 = .ok (.iload_n 1, 1) := by decide +kernel
theorem dX9_blankAll_13 : decode cX9_blankAll 13 = .ok (.aaload, 1) := by decide +kernel
theorem dX9_blankAll_14 : decode cX9_blankAll 14 = .ok (.iconst 0, 1) := by decide +kernel
theorem dX9_blankAll_15 : decode cX9_blankAll 15 = .ok (.putfield 232, 3) := by decide +kernel
theorem dX9_blankAll_18 : decode cX9_blankAll 18 = .ok (.iinc 1 1, 3) := by decide +kernel
theorem dX9_blankAll_21 : decode cX9_blankAll 21 = .ok (.goto (-19), 3) := by decide +kernel
theorem dX9_blankAll_24 : decode cX9_blankAll 24 = .ok (.return_, 1) := by decide +kernel
theorem dX9_forgetSlots_0 : decode cX9_forgetSlots 0 = .ok (.iconst 0, 1) := by decide +kernel
theorem dX9_forgetSlots_1 : decode cX9_forgetSlots 1 = .ok (.istore_n 1, 1) := by decide +kernel
theorem dX9_forgetSlots_2 : decode cX9_forgetSlots 2 = .ok (.iload_n 1, 1) := by decide +kernel
theorem dX9_forgetSlots_3 : decode cX9_forgetSlots 3 = .ok (.iconst 2, 1) := by decide +kernel
theorem dX9_forgetSlots_4 : decode cX9_forgetSlots 4 = .ok (.if_icmp .ge 19, 3) := by decide +kernel
theorem dX9_forgetSlots_7 : decode cX9_forgetSlots 7 = .ok (.aload_n 0, 1) := by decide +kernel
theorem dX9_forgetSlots_8 : decode cX9_forgetSlots 8 = .ok (.getfield 50, 3) := by decide +kernel
theorem dX9_forgetSlots_11 : decode cX9_forgetSlots 11 = .ok (.iload_n 1, 1) := by decide +kernel
theorem dX9_forgetSlots_12 : decode cX9_forgetSlots 12 = .ok (.aaload, 1) := by decide +kernel
theorem dX9_forgetSlots_13 : decode cX9_forgetSlots 13 = .ok (.iconst 0, 1) := by decide +kernel
theorem dX9_forgetSlots_14 : decode cX9_forgetSlots 14 = .ok (.putfield 168, 3) := by decide +kernel
theorem dX9_forgetSlots_17 : decode cX9_forgetSlots 17 = .ok (.iinc 1 1, 3) := by decide +kernel
theorem dX9_forgetSlots_20 : decode cX9_forgetSlots 20 = .ok (.goto (-18), 3) := by decide +kernel
theorem dX9_forgetSlots_23 : decode cX9_forgetSlots 23 = .ok (.return_, 1) := by decide +kernel
theorem dX9_writeDraft_0 : decode cX9_writeDraft 0 = .ok (.aload_n 0, 1) := by decide +kernel
theorem dX9_writeDraft_1 : decode cX9_writeDraft 1 = .ok (.getfield 58, 3) := by decide +kernel
theorem dX9_writeDraft_4 : decode cX9_writeDraft 4 = .ok (.aload_n 0, 1) := by decide +kernel
theorem dX9_writeDraft_5 : decode cX9_writeDraft 5 = .ok (.getfield 10, 3) := by decide +kernel
theorem dX9_writeDraft_8 : decode cX9_writeDraft 8 = .ok (.invokevirtual 182, 3) := by decide +kernel
theorem dX9_writeDraft_11 : decode cX9_writeDraft 11 = .ok (.aload_n 0, 1) := by decide +kernel
theorem dX9_writeDraft_12 : decode cX9_writeDraft 12 = .ok (.getfield 44, 3) := by decide +kernel
theorem dX9_writeDraft_15 : decode cX9_writeDraft 15 = .ok (.aload_n 0, 1) := by decide +kernel
theorem dX9_writeDraft_16 : decode cX9_writeDraft 16 = .ok (.getfield 10, 3) := by decide +kernel
theorem dX9_writeDraft_19 : decode cX9_writeDraft 19 = .ok (.aload_n 0, 1) := by decide +kernel
theorem dX9_writeDraft_20 : decode cX9_writeDraft 20 = .ok (.getfield 58, 3) := by decide +kernel
theorem dX9_writeDraft_23 : decode cX9_writeDraft 23 = .ok (.iload_n 1, 1) := by decide +kernel
theorem dX9_writeDraft_24 : decode cX9_writeDraft 24 = .ok (.invokevirtual 288, 3) := by decide +kernel
theorem dX9_writeDraft_27 : decode cX9_writeDraft 27 = .ok (.return_, 1) := by decide +kernel
theorem dX9_isFresh_0 : decode cX9_isFresh 0 = .ok (.aload_n 0, 1) := by decide +kernel
theorem dX9_isFresh_1 : decode cX9_isFresh 1 = .ok (.iload_n 1, 1) := by decide +kernel
theorem dX9_isFresh_2 : decode cX9_isFresh 2 = .ok (.invokevirtual 187, 3) := by decide +kernel
theorem dX9_isFresh_5 : decode cX9_isFresh 5 = .ok (.aload_n 0, 1) := by decide +kernel
theorem dX9_isFresh_6 : decode cX9_isFresh 6 = .ok (.getfield 37, 3) := by decide +kernel
theorem dX9_isFresh_9 : decode cX9_isFresh 9 = .ok (.iload_n 1, 1) := by decide +kernel
theorem dX9_isFresh_10 : decode cX9_isFresh 10 = .ok (.aaload, 1) := by decide +kernel
theorem dX9_isFresh_11 : decode cX9_isFresh 11 = .ok (.aload_n 0, 1) := by decide +kernel
theorem dX9_isFresh_12 : decode cX9_isFresh 12 = .ok (.getfield 44, 3) := by decide +kernel
theorem dX9_isFresh_15 : decode cX9_isFresh 15 = .ok (.invokevirtual 292, 3) := by decide +kernel
theorem dX9_isFresh_18 : decode cX9_isFresh 18 = .ok (.ireturn, 1) := by decide +kernel
theorem dX9_clusterOf_0 : decode cX9_clusterOf 0 = .ok (.iconst 0, 1) := by decide +kernel
theorem dX9_clusterOf_1 : decode cX9_clusterOf 1 = .ok (.istore_n 2, 1) := by decide +kernel
theorem dX9_clusterOf_2 : decode cX9_clusterOf 2 = .ok (.iconst 0, 1) := by decide +kernel
theorem dX9_clusterOf_3 : decode cX9_clusterOf 3 = .ok (.istore_n 3, 1) := by decide +kernel
theorem dX9_clusterOf_4 : decode cX9_clusterOf 4 = .ok (.iload_n 3, 1) := by decide +kernel
theorem dX9_clusterOf_5 : decode cX9_clusterOf 5 = .ok (.aload_n 0, 1) := by decide +kernel
theorem dX9_clusterOf_6 : decode cX9_clusterOf 6 = .ok (.getfield 10, 3) := by decide +kernel
theorem dX9_clusterOf_9 : decode cX9_clusterOf 9 = .ok (.getfield 152, 3) := by decide +kernel
theorem dX9_clusterOf_12 : decode cX9_clusterOf 12 = .ok (.if_icmp .ge 31, 3) := by decide +kernel
theorem dX9_clusterOf_15 : decode cX9_clusterOf 15 = .ok (.aload_n 0, 1) := by decide +kernel
theorem dX9_clusterOf_16 : decode cX9_clusterOf 16 = .ok (.iload_n 3, 1) := by decide +kernel
theorem dX9_clusterOf_17 : decode cX9_clusterOf 17 = .ok (.invokevirtual 187, 3) := by decide +kernel
theorem dX9_clusterOf_20 : decode cX9_clusterOf 20 = .ok (.aload_n 0, 1) := by decide +kernel
theorem dX9_clusterOf_21 : decode cX9_clusterOf 21 = .ok (.getfield 44, 3) := by decide +kernel
theorem dX9_clusterOf_24 : decode cX9_clusterOf 24 = .ok (.iload_n 1, 1) := by decide +kernel
theorem dX9_clusterOf_25 : decode cX9_clusterOf 25 = .ok (.invokevirtual 296, 3) := by decide +kernel
theorem dX9_clusterOf_28 : decode cX9_clusterOf 28 = .ok (.ifCond .eq 9, 3) := by decide +kernel
theorem dX9_clusterOf_31 : decode cX9_clusterOf 31 = .ok (.iload_n 2, 1) := by decide +kernel
theorem dX9_clusterOf_32 : decode cX9_clusterOf 32 = .ok (.iconst 1, 1) := by decide +kernel
theorem dX9_clusterOf_33 : decode cX9_clusterOf 33 = .ok (.iload_n 3, 1) := by decide +kernel
theorem dX9_clusterOf_34 : decode cX9_clusterOf 34 = .ok (.ishl, 1) := by decide +kernel
theorem dX9_clusterOf_35 : decode cX9_clusterOf 35 = .ok (.ior, 1) := by decide +kernel
theorem dX9_clusterOf_36 : decode cX9_clusterOf 36 = .ok (.istore_n 2, 1) := by decide +kernel
theorem dX9_clusterOf_37 : decode cX9_clusterOf 37 = .ok (.iinc 3 1, 3) := by decide +kernel
theorem dX9_clusterOf_40 : decode cX9_clusterOf 40 = .ok (.goto (-36), 3) := by decide +kernel
theorem dX9_clusterOf_43 : decode cX9_clusterOf 43 = .ok (.iload_n 2, 1) := by decide +kernel
theorem dX9_clusterOf_44 : decode cX9_clusterOf 44 = .ok (.ireturn, 1) := by decide +kernel
theorem dX9_stepTowards_0 : decode cX9_stepTowards 0 = .ok (.aload_n 0, 1) := by decide +kernel
theorem dX9_stepTowards_1 : decode cX9_stepTowards 1 = .ok (.getfield 58, 3) := by decide +kernel
theorem dX9_stepTowards_4 : decode cX9_stepTowards 4 = .ok (.aload_n 0, 1) := by decide +kernel
theorem dX9_stepTowards_5 : decode cX9_stepTowards 5 = .ok (.getfield 10, 3) := by decide +kernel
theorem dX9_stepTowards_8 : decode cX9_stepTowards 8 = .ok (.invokevirtual 182, 3) := by decide +kernel
theorem dX9_stepTowards_11 : decode cX9_stepTowards 11 = .ok (.aload_n 0, 1) := by decide +kernel
theorem dX9_stepTowards_12 : decode cX9_stepTowards 12 = .ok (.getfield 58, 3) := by decide +kernel
theorem dX9_stepTowards_15 : decode cX9_stepTowards 15 = .ok (.iload_n 1, 1) := by decide +kernel
theorem dX9_stepTowards_16 : decode cX9_stepTowards 16 = .ok (.iload_n 2, 1) := by decide +kernel
theorem dX9_stepTowards_17 : decode cX9_stepTowards 17 = .ok (.invokevirtual 184, 3) := by decide +kernel
theorem dX9_stepTowards_20 : decode cX9_stepTowards 20 = .ok (.istore_n 3, 1) := by decide +kernel
theorem dX9_stepTowards_21 : decode cX9_stepTowards 21 = .ok (.iload_n 1, 1) := by decide +kernel
theorem dX9_stepTowards_22 : decode cX9_stepTowards 22 = .ok (.iload_n 2, 1) := by decide +kernel
theorem dX9_stepTowards_23 : decode cX9_stepTowards 23 = .ok (.if_icmp .eq 8, 3) := by decide +kernel
theorem dX9_stepTowards_26 : decode cX9_stepTowards 26 = .ok (.iload_n 3, 1) := by decide +kernel
theorem dX9_stepTowards_27 : decode cX9_stepTowards 27 = .ok (.iconst (-1), 1) := by decide +kernel
theorem dX9_stepTowards_28 : decode cX9_stepTowards 28 = .ok (.if_icmp .ne 5, 3) := by decide +kernel
theorem dX9_stepTowards_31 : decode cX9_stepTowards 31 = .ok (.iconst (-1), 1) := by decide +kernel
theorem dX9_stepTowards_32 : decode cX9_stepTowards 32 = .ok (.ireturn, 1) := by decide +kernel
theorem dX9_stepTowards_33 : decode cX9_stepTowards 33 = .ok (.iconst 0, 1) := by decide +kernel
theorem dX9_stepTowards_34 : decode cX9_stepTowards 34 = .ok (.istore 4, 2) := by decide +kernel
theorem dX9_stepTowards_36 : decode cX9_stepTowards 36 = .ok (.iload 4, 2) := by decide +kernel
theorem dX9_stepTowards_38 : decode cX9_stepTowards 38 = .ok (.aload_n 0, 1) := by decide +kernel
theorem dX9_stepTowards_39 : decode cX9_stepTowards 39 = .ok (.getfield 10, 3) := by decide +kernel
theorem dX9_stepTowards_42 : decode cX9_stepTowards 42 = .ok (.getfield 152, 3) := by decide +kernel
theorem dX9_stepTowards_45 : decode cX9_stepTowards 45 = .ok (.if_icmp .ge 56, 3) := by decide +kernel
theorem dX9_stepTowards_48 : decode cX9_stepTowards 48 = .ok (.aload_n 0, 1) := by decide +kernel
theorem dX9_stepTowards_49 : decode cX9_stepTowards 49 = .ok (.getfield 10, 3) := by decide +kernel
theorem dX9_stepTowards_52 : decode cX9_stepTowards 52 = .ok (.iload_n 1, 1) := by decide +kernel
theorem dX9_stepTowards_53 : decode cX9_stepTowards 53 = .ok (.iload 4, 2) := by decide +kernel
theorem dX9_stepTowards_55 : decode cX9_stepTowards 55 = .ok (.invokevirtual 117, 3) := by decide +kernel
theorem dX9_stepTowards_58 : decode cX9_stepTowards 58 = .ok (.istore 5, 2) := by decide +kernel
theorem dX9_stepTowards_60 : decode cX9_stepTowards 60 = .ok (.aload_n 0, 1) := by decide +kernel
theorem dX9_stepTowards_61 : decode cX9_stepTowards 61 = .ok (.getfield 58, 3) := by decide +kernel
theorem dX9_stepTowards_64 : decode cX9_stepTowards 64 = .ok (.iload 4, 2) := by decide +kernel
theorem dX9_stepTowards_66 : decode cX9_stepTowards 66 = .ok (.iload_n 2, 1) := by decide +kernel
theorem dX9_stepTowards_67 : decode cX9_stepTowards 67 = .ok (.invokevirtual 184, 3) := by decide +kernel
theorem dX9_stepTowards_70 : decode cX9_stepTowards 70 = .ok (.istore 6, 2) := by decide +kernel
theorem dX9_stepTowards_72 : decode cX9_stepTowards 72 = .ok (.iload 5, 2) := by decide +kernel
theorem dX9_stepTowards_74 : decode cX9_stepTowards 74 = .ok (.ifCond .le 21, 3) := by decide +kernel
theorem dX9_stepTowards_77 : decode cX9_stepTowards 77 = .ok (.iload 6, 2) := by decide +kernel
theorem dX9_stepTowards_79 : decode cX9_stepTowards 79 = .ok (.iconst (-1), 1) := by decide +kernel
theorem dX9_stepTowards_80 : decode cX9_stepTowards 80 = .ok (.if_icmp .eq 15, 3) := by decide +kernel
theorem dX9_stepTowards_83 : decode cX9_stepTowards 83 = .ok (.iload 5, 2) := by decide +kernel
theorem dX9_stepTowards_85 : decode cX9_stepTowards 85 = .ok (.iload 6, 2) := by decide +kernel
theorem dX9_stepTowards_87 : decode cX9_stepTowards 87 = .ok (.iadd, 1) := by decide +kernel
theorem dX9_stepTowards_88 : decode cX9_stepTowards 88 = .ok (.iload_n 3, 1) := by decide +kernel
theorem dX9_stepTowards_89 : decode cX9_stepTowards 89 = .ok (.if_icmp .ne 6, 3) := by decide +kernel
theorem dX9_stepTowards_92 : decode cX9_stepTowards 92 = .ok (.iload 4, 2) := by decide +kernel
theorem dX9_stepTowards_94 : decode cX9_stepTowards 94 = .ok (.ireturn, 1) := by decide +kernel
theorem dX9_stepTowards_95 : decode cX9_stepTowards 95 = .ok (.iinc 4 1, 3) := by decide +kernel
theorem dX9_stepTowards_98 : decode cX9_stepTowards 98 = .ok (.goto (-62), 3) := by decide +kernel
theorem dX9_stepTowards_101 : decode cX9_stepTowards 101 = .ok (.iconst (-1), 1) := by decide +kernel
theorem dX9_stepTowards_102 : decode cX9_stepTowards 102 = .ok (.ireturn, 1) := by decide +kernel
theorem dX9_stepsBetween_0 : decode cX9_stepsBetween 0 = .ok (.iload_n 1, 1) := by decide +kernel
theorem dX9_stepsBetween_1 : decode cX9_stepsBetween 1 = .ok (.istore_n 3, 1) := by decide +kernel
theorem dX9_stepsBetween_2 : decode cX9_stepsBetween 2 = .ok (.iconst 0, 1) := by decide +kernel
theorem dX9_stepsBetween_3 : decode cX9_stepsBetween 3 = .ok (.istore 4, 2) := by decide +kernel
theorem dX9_stepsBetween_5 : decode cX9_stepsBetween 5 = .ok (.iload 4, 2) := by decide +kernel
theorem dX9_stepsBetween_7 : decode cX9_stepsBetween 7 = .ok (.bipush 12, 2) := by decide +kernel
theorem dX9_stepsBetween_9 : decode cX9_stepsBetween 9 = .ok (.if_icmp .ge 26, 3) := by decide +kernel
theorem dX9_stepsBetween_12 : decode cX9_stepsBetween 12 = .ok (.iload_n 3, 1) := by decide +kernel
theorem dX9_stepsBetween_13 : decode cX9_stepsBetween 13 = .ok (.iload_n 2, 1) := by decide +kernel
theorem dX9_stepsBetween_14 : decode cX9_stepsBetween 14 = .ok (.if_icmp .eq 21, 3) := by decide +kernel
theorem dX9_stepsBetween_17 : decode cX9_stepsBetween 17 = .ok (.iload_n 3, 1) := by decide +kernel
theorem dX9_stepsBetween_18 : decode cX9_stepsBetween 18 = .ok (.iconst (-1), 1) := by decide +kernel
theorem dX9_stepsBetween_19 : decode cX9_stepsBetween 19 = .ok (.if_icmp .eq 16, 3) := by decide +kernel
theorem dX9_stepsBetween_22 : decode cX9_stepsBetween 22 = .ok (.aload_n 0, 1) := by decide +kernel
theorem dX9_stepsBetween_23 : decode cX9_stepsBetween 23 = .ok (.iload_n 3, 1) := by decide +kernel
theorem dX9_stepsBetween_24 : decode cX9_stepsBetween 24 = .ok (.iload_n 2, 1) := by decide +kernel
theorem dX9_stepsBetween_25 : decode cX9_stepsBetween 25 = .ok (.invokevirtual 202, 3) := by decide +kernel
theorem dX9_stepsBetween_28 : decode cX9_stepsBetween 28 = .ok (.istore_n 3, 1) := by decide +kernel
theorem dX9_stepsBetween_29 : decode cX9_stepsBetween 29 = .ok (.iinc 4 1, 3) := by decide +kernel
theorem dX9_stepsBetween_32 : decode cX9_stepsBetween 32 = .ok (.goto (-27), 3) := by decide +kernel
theorem dX9_stepsBetween_35 : decode cX9_stepsBetween 35 = .ok (.iload 4, 2) := by decide +kernel
theorem dX9_stepsBetween_37 : decode cX9_stepsBetween 37 = .ok (.ireturn, 1) := by decide +kernel
theorem dX9_nodeAfter_0 : decode cX9_nodeAfter 0 = .ok (.iload_n 1, 1) := by decide +kernel
theorem dX9_nodeAfter_1 : decode cX9_nodeAfter 1 = .ok (.istore 4, 2) := by decide +kernel
theorem dX9_nodeAfter_3 : decode cX9_nodeAfter 3 = .ok (.iconst 0, 1) := by decide +kernel
theorem dX9_nodeAfter_4 : decode cX9_nodeAfter 4 = .ok (.istore 5, 2) := by decide +kernel
theorem dX9_nodeAfter_6 : decode cX9_nodeAfter 6 = .ok (.iload 5, 2) := by decide +kernel
theorem dX9_nodeAfter_8 : decode cX9_nodeAfter 8 = .ok (.iload_n 3, 1) := by decide +kernel
theorem dX9_nodeAfter_9 : decode cX9_nodeAfter 9 = .ok (.if_icmp .ge 31, 3) := by decide +kernel
theorem dX9_nodeAfter_12 : decode cX9_nodeAfter 12 = .ok (.iload 5, 2) := by decide +kernel
theorem dX9_nodeAfter_14 : decode cX9_nodeAfter 14 = .ok (.bipush 12, 2) := by decide +kernel
theorem dX9_nodeAfter_16 : decode cX9_nodeAfter 16 = .ok (.if_icmp .ge 24, 3) := by decide +kernel
theorem dX9_nodeAfter_19 : decode cX9_nodeAfter 19 = .ok (.iload 4, 2) := by decide +kernel
theorem dX9_nodeAfter_21 : decode cX9_nodeAfter 21 = .ok (.iconst (-1), 1) := by decide +kernel
theorem dX9_nodeAfter_22 : decode cX9_nodeAfter 22 = .ok (.if_icmp .eq 18, 3) := by decide +kernel
theorem dX9_nodeAfter_25 : decode cX9_nodeAfter 25 = .ok (.aload_n 0, 1) := by decide +kernel
theorem dX9_nodeAfter_26 : decode cX9_nodeAfter 26 = .ok (.iload 4, 2) := by decide +kernel
theorem dX9_nodeAfter_28 : decode cX9_nodeAfter 28 = .ok (.iload_n 2, 1) := by decide +kernel
theorem dX9_nodeAfter_29 : decode cX9_nodeAfter 29 = .ok (.invokevirtual 202, 3) := by decide +kernel
theorem dX9_nodeAfter_32 : decode cX9_nodeAfter 32 = .ok (.istore 4, 2) := by decide +kernel
theorem dX9_nodeAfter_34 : decode cX9_nodeAfter 34 = .ok (.iinc 5 1, 3) := by decide +kernel
theorem dX9_nodeAfter_37 : decode cX9_nodeAfter 37 = .ok (.goto (-31), 3) := by decide +kernel
theorem dX9_nodeAfter_40 : decode cX9_nodeAfter 40 = .ok (.iload 4, 2) := by decide +kernel
theorem dX9_nodeAfter_42 : decode cX9_nodeAfter 42 = .ok (.ireturn, 1) := by decide +kernel
theorem dX9_weighThinned_0 : decode cX9_weighThinned 0 = .ok (.aload_n 0, 1) := by decide +kernel
theorem dX9_weighThinned_1 : decode cX9_weighThinned 1 = .ok (.getfield 58, 3) := by decide +kernel
theorem dX9_weighThinned_4 : decode cX9_weighThinned 4 = .ok (.aload_n 0, 1) := by decide +kernel
theorem dX9_weighThinned_5 : decode cX9_weighThinned 5 = .ok (.getfield 10, 3) := by decide +kernel
theorem dX9_weighThinned_8 : decode cX9_weighThinned 8 = .ok (.invokevirtual 182, 3) := by decide +kernel
theorem dX9_weighThinned_11 : decode cX9_weighThinned 11 = .ok (.aload_n 0, 1) := by decide +kernel
theorem dX9_weighThinned_12 : decode cX9_weighThinned 12 = .ok (.getfield 65, 3) := by decide +kernel
theorem dX9_weighThinned_15 : decode cX9_weighThinned 15 = .ok (.aload_n 0, 1) := by decide +kernel
theorem dX9_weighThinned_16 : decode cX9_weighThinned 16 = .ok (.getfield 10, 3) := by decide +kernel
theorem dX9_weighThinned_19 : decode cX9_weighThinned 19 = .ok (.iload_n 1, 1) := by decide +kernel
theorem dX9_weighThinned_20 : decode cX9_weighThinned 20 = .ok (.invokevirtual 158, 3) := by decide +kernel
theorem dX9_weighThinned_23 : decode cX9_weighThinned 23 = .ok (.aload_n 0, 1) := by decide +kernel
theorem dX9_weighThinned_24 : decode cX9_weighThinned 24 = .ok (.getfield 79, 3) := by decide +kernel
theorem dX9_weighThinned_27 : decode cX9_weighThinned 27 = .ok (.invokevirtual 299, 3) := by decide +kernel
theorem dX9_weighThinned_30 : decode cX9_weighThinned 30 = .ok (.iconst 0, 1) := by decide +kernel
theorem dX9_weighThinned_31 : decode cX9_weighThinned 31 = .ok (.istore_n 2, 1) := by decide +kernel
theorem dX9_weighThinned_32 : decode cX9_weighThinned 32 = .ok (.iload_n 2, 1) := by decide +kernel
theorem dX9_weighThinned_33 : decode cX9_weighThinned 33 = .ok (.aload_n 0, 1) := by decide +kernel
theorem dX9_weighThinned_34 : decode cX9_weighThinned 34 = .ok (.getfield 10, 3) := by decide +kernel
theorem dX9_weighThinned_37 : decode cX9_weighThinned 37 = .ok (.getfield 152, 3) := by decide +kernel
theorem dX9_weighThinned_40 : decode cX9_weighThinned 40 = .ok (.if_icmp .ge 70, 3) := by decide +kernel
theorem dX9_weighThinned_43 : decode cX9_weighThinned 43 = .ok (.iload_n 2, 1) := by decide +kernel
theorem dX9_weighThinned_44 : decode cX9_weighThinned 44 = .ok (.iconst 1, 1) := by decide +kernel
theorem dX9_weighThinned_45 : decode cX9_weighThinned 45 = .ok (.iadd, 1) := by decide +kernel
theorem dX9_weighThinned_46 : decode cX9_weighThinned 46 = .ok (.istore_n 3, 1) := by decide +kernel
theorem dX9_weighThinned_47 : decode cX9_weighThinned 47 = .ok (.iload_n 3, 1) := by decide +kernel
theorem dX9_weighThinned_48 : decode cX9_weighThinned 48 = .ok (.aload_n 0, 1) := by decide +kernel
theorem dX9_weighThinned_49 : decode cX9_weighThinned 49 = .ok (.getfield 10, 3) := by decide +kernel
theorem dX9_weighThinned_52 : decode cX9_weighThinned 52 = .ok (.getfield 152, 3) := by decide +kernel
theorem dX9_weighThinned_55 : decode cX9_weighThinned 55 = .ok (.if_icmp .ge 49, 3) := by decide +kernel
end
section
theorem dX9_weighThinned_58 : decode cX9_weighThinned 58 = .ok (.aload_n 0, 1) := by decide +kernel
theorem dX9_weighThinned_59 : decode cX9_weighThinned 59 = .ok (.getfield 58, 3) := by decide +kernel
theorem dX9_weighThinned_62 : decode cX9_weighThinned 62 = .ok (.iload_n 2, 1) := by decide +kernel
theorem dX9_weighThinned_63 : decode cX9_weighThinned 63 = .ok (.iload_n 3, 1) := by decide +kernel
theorem dX9_weighThinned_64 : decode cX9_weighThinned 64 = .ok (.invokevirtual 184, 3) := by decide +kernel
theorem dX9_weighThinned_67 : decode cX9_weighThinned 67 = .ok (.istore 4, 2) := by decide +kernel
theorem dX9_weighThinned_69 : decode cX9_weighThinned 69 = .ok (.iload 4, 2) := by decide +kernel
theorem dX9_weighThinned_71 : decode cX9_weighThinned 71 = .ok (.iconst (-1), 1) := by decide +kernel
theorem dX9_weighThinned_72 : decode cX9_weighThinned 72 = .ok (.if_icmp .eq 26, 3) := by decide +kernel
theorem dX9_weighThinned_75 : decode cX9_weighThinned 75 = .ok (.aload_n 0, 1) := by decide +kernel
theorem dX9_weighThinned_76 : decode cX9_weighThinned 76 = .ok (.getfield 79, 3) := by decide +kernel
theorem dX9_weighThinned_79 : decode cX9_weighThinned 79 = .ok (.aload_n 0, 1) := by decide +kernel
theorem dX9_weighThinned_80 : decode cX9_weighThinned 80 = .ok (.getfield 65, 3) := by decide +kernel
theorem dX9_weighThinned_83 : decode cX9_weighThinned 83 = .ok (.getfield 302, 3) := by decide +kernel
theorem dX9_weighThinned_86 : decode cX9_weighThinned 86 = .ok (.iload_n 2, 1) := by decide +kernel
theorem dX9_weighThinned_87 : decode cX9_weighThinned 87 = .ok (.iload_n 3, 1) := by decide +kernel
theorem dX9_weighThinned_88 : decode cX9_weighThinned 88 = .ok (.invokevirtual 184, 3) := by decide +kernel
theorem dX9_weighThinned_91 : decode cX9_weighThinned 91 = .ok (.iload 4, 2) := by decide +kernel
theorem dX9_weighThinned_93 : decode cX9_weighThinned 93 = .ok (.iload_n 2, 1) := by decide +kernel
theorem dX9_weighThinned_94 : decode cX9_weighThinned 94 = .ok (.iload_n 3, 1) := by decide +kernel
theorem dX9_weighThinned_95 : decode cX9_weighThinned 95 = .ok (.invokevirtual 303, 3) := by decide +kernel
theorem dX9_weighThinned_98 : decode cX9_weighThinned 98 = .ok (.iinc 3 1, 3) := by decide +kernel
theorem dX9_weighThinned_101 : decode cX9_weighThinned 101 = .ok (.goto (-54), 3) := by decide +kernel
theorem dX9_weighThinned_104 : decode cX9_weighThinned 104 = .ok (.iinc 2 1, 3) := by decide +kernel
theorem dX9_weighThinned_107 : decode cX9_weighThinned 107 = .ok (.goto (-75), 3) := by decide +kernel
theorem dX9_weighThinned_110 : decode cX9_weighThinned 110 = .ok (.return_, 1) := by decide +kernel
theorem dX9_weighTold_0 : decode cX9_weighTold 0 = .ok (.aload_n 0, 1) := by decide +kernel
theorem dX9_weighTold_1 : decode cX9_weighTold 1 = .ok (.getfield 58, 3) := by decide +kernel
theorem dX9_weighTold_4 : decode cX9_weighTold 4 = .ok (.aload_n 0, 1) := by decide +kernel
theorem dX9_weighTold_5 : decode cX9_weighTold 5 = .ok (.getfield 10, 3) := by decide +kernel
theorem dX9_weighTold_8 : decode cX9_weighTold 8 = .ok (.invokevirtual 182, 3) := by decide +kernel
theorem dX9_weighTold_11 : decode cX9_weighTold 11 = .ok (.aload_n 0, 1) := by decide +kernel
theorem dX9_weighTold_12 : decode cX9_weighTold 12 = .ok (.getfield 79, 3) := by decide +kernel
theorem dX9_weighTold_15 : decode cX9_weighTold 15 = .ok (.invokevirtual 299, 3) := by decide +kernel
theorem dX9_weighTold_18 : decode cX9_weighTold 18 = .ok (.iconst 0, 1) := by decide +kernel
theorem dX9_weighTold_19 : decode cX9_weighTold 19 = .ok (.istore_n 1, 1) := by decide +kernel
theorem dX9_weighTold_20 : decode cX9_weighTold 20 = .ok (.iconst 0, 1) := by decide +kernel
theorem dX9_weighTold_21 : decode cX9_weighTold 21 = .ok (.istore_n 2, 1) := by decide +kernel
theorem dX9_weighTold_22 : decode cX9_weighTold 22 = .ok (.iload_n 2, 1) := by decide +kernel
theorem dX9_weighTold_23 : decode cX9_weighTold 23 = .ok (.aload_n 0, 1) := by decide +kernel
theorem dX9_weighTold_24 : decode cX9_weighTold 24 = .ok (.getfield 10, 3) := by decide +kernel
theorem dX9_weighTold_27 : decode cX9_weighTold 27 = .ok (.getfield 152, 3) := by decide +kernel
theorem dX9_weighTold_30 : decode cX9_weighTold 30 = .ok (.if_icmp .ge 97, 3) := by decide +kernel
theorem dX9_weighTold_33 : decode cX9_weighTold 33 = .ok (.iload_n 2, 1) := by decide +kernel
theorem dX9_weighTold_34 : decode cX9_weighTold 34 = .ok (.iconst 1, 1) := by decide +kernel
theorem dX9_weighTold_35 : decode cX9_weighTold 35 = .ok (.iadd, 1) := by decide +kernel
theorem dX9_weighTold_36 : decode cX9_weighTold 36 = .ok (.istore_n 3, 1) := by decide +kernel
theorem dX9_weighTold_37 : decode cX9_weighTold 37 = .ok (.iload_n 3, 1) := by decide +kernel
theorem dX9_weighTold_38 : decode cX9_weighTold 38 = .ok (.aload_n 0, 1) := by decide +kernel
theorem dX9_weighTold_39 : decode cX9_weighTold 39 = .ok (.getfield 10, 3) := by decide +kernel
theorem dX9_weighTold_42 : decode cX9_weighTold 42 = .ok (.getfield 152, 3) := by decide +kernel
theorem dX9_weighTold_45 : decode cX9_weighTold 45 = .ok (.if_icmp .ge 76, 3) := by decide +kernel
theorem dX9_weighTold_48 : decode cX9_weighTold 48 = .ok (.aload_n 0, 1) := by decide +kernel
theorem dX9_weighTold_49 : decode cX9_weighTold 49 = .ok (.getfield 58, 3) := by decide +kernel
theorem dX9_weighTold_52 : decode cX9_weighTold 52 = .ok (.iload_n 2, 1) := by decide +kernel
theorem dX9_weighTold_53 : decode cX9_weighTold 53 = .ok (.iload_n 3, 1) := by decide +kernel
theorem dX9_weighTold_54 : decode cX9_weighTold 54 = .ok (.invokevirtual 184, 3) := by decide +kernel
theorem dX9_weighTold_57 : decode cX9_weighTold 57 = .ok (.istore 4, 2) := by decide +kernel
theorem dX9_weighTold_59 : decode cX9_weighTold 59 = .ok (.iload 4, 2) := by decide +kernel
theorem dX9_weighTold_61 : decode cX9_weighTold 61 = .ok (.iconst (-1), 1) := by decide +kernel
theorem dX9_weighTold_62 : decode cX9_weighTold 62 = .ok (.if_icmp .ne 6, 3) := by decide +kernel
theorem dX9_weighTold_65 : decode cX9_weighTold 65 = .ok (.goto 50, 3) := by decide +kernel
theorem dX9_weighTold_68 : decode cX9_weighTold 68 = .ok (.aload_n 0, 1) := by decide +kernel
theorem dX9_weighTold_69 : decode cX9_weighTold 69 = .ok (.getfield 72, 3) := by decide +kernel
theorem dX9_weighTold_72 : decode cX9_weighTold 72 = .ok (.aload_n 0, 1) := by decide +kernel
theorem dX9_weighTold_73 : decode cX9_weighTold 73 = .ok (.getfield 37, 3) := by decide +kernel
theorem dX9_weighTold_76 : decode cX9_weighTold 76 = .ok (.iload_n 2, 1) := by decide +kernel
theorem dX9_weighTold_77 : decode cX9_weighTold 77 = .ok (.iload_n 3, 1) := by decide +kernel
theorem dX9_weighTold_78 : decode cX9_weighTold 78 = .ok (.invokevirtual 238, 3) := by decide +kernel
theorem dX9_weighTold_81 : decode cX9_weighTold 81 = .ok (.aload_n 0, 1) := by decide +kernel
theorem dX9_weighTold_82 : decode cX9_weighTold 82 = .ok (.getfield 72, 3) := by decide +kernel
theorem dX9_weighTold_85 : decode cX9_weighTold 85 = .ok (.getfield 242, 3) := by decide +kernel
theorem dX9_weighTold_88 : decode cX9_weighTold 88 = .ok (.ifCond .ne 24, 3) := by decide +kernel
theorem dX9_weighTold_91 : decode cX9_weighTold 91 = .ok (.aload_n 0, 1) := by decide +kernel
theorem dX9_weighTold_92 : decode cX9_weighTold 92 = .ok (.getfield 79, 3) := by decide +kernel
theorem dX9_weighTold_95 : decode cX9_weighTold 95 = .ok (.aload_n 0, 1) := by decide +kernel
theorem dX9_weighTold_96 : decode cX9_weighTold 96 = .ok (.getfield 72, 3) := by decide +kernel
theorem dX9_weighTold_99 : decode cX9_weighTold 99 = .ok (.getfield 245, 3) := by decide +kernel
theorem dX9_weighTold_102 : decode cX9_weighTold 102 = .ok (.iload 4, 2) := by decide +kernel
theorem dX9_weighTold_104 : decode cX9_weighTold 104 = .ok (.iload_n 2, 1) := by decide +kernel
theorem dX9_weighTold_105 : decode cX9_weighTold 105 = .ok (.iload_n 3, 1) := by decide +kernel
theorem dX9_weighTold_106 : decode cX9_weighTold 106 = .ok (.invokevirtual 303, 3) := by decide +kernel
theorem dX9_weighTold_109 : decode cX9_weighTold 109 = .ok (.goto 6, 3) := by decide +kernel
theorem dX9_weighTold_112 : decode cX9_weighTold 112 = .ok (.iinc 1 1, 3) := by decide +kernel
theorem dX9_weighTold_115 : decode cX9_weighTold 115 = .ok (.iinc 3 1, 3) := by decide +kernel
theorem dX9_weighTold_118 : decode cX9_weighTold 118 = .ok (.goto (-81), 3) := by decide +kernel
theorem dX9_weighTold_121 : decode cX9_weighTold 121 = .ok (.iinc 2 1, 3) := by decide +kernel
theorem dX9_weighTold_124 : decode cX9_weighTold 124 = .ok (.goto (-102), 3) := by decide +kernel
theorem dX9_weighTold_127 : decode cX9_weighTold 127 = .ok (.iload_n 1, 1) := by decide +kernel
theorem dX9_weighTold_128 : decode cX9_weighTold 128 = .ok (.ireturn, 1) := by decide +kernel
theorem dX9_parts_0 : decode cX9_parts 0 = .ok (.aload_n 0, 1) := by decide +kernel
theorem dX9_parts_1 : decode cX9_parts 1 = .ok (.getfield 58, 3) := by decide +kernel
theorem dX9_parts_4 : decode cX9_parts 4 = .ok (.aload_n 0, 1) := by decide +kernel
theorem dX9_parts_5 : decode cX9_parts 5 = .ok (.getfield 10, 3) := by decide +kernel
theorem dX9_parts_8 : decode cX9_parts 8 = .ok (.invokevirtual 182, 3) := by decide +kernel
theorem dX9_parts_11 : decode cX9_parts 11 = .ok (.iconst 0, 1) := by decide +kernel
theorem dX9_parts_12 : decode cX9_parts 12 = .ok (.istore_n 1, 1) := by decide +kernel
theorem dX9_parts_13 : decode cX9_parts 13 = .ok (.iconst 0, 1) := by decide +kernel
theorem dX9_parts_14 : decode cX9_parts 14 = .ok (.istore_n 2, 1) := by decide +kernel
theorem dX9_parts_15 : decode cX9_parts 15 = .ok (.iload_n 2, 1) := by decide +kernel
theorem dX9_parts_16 : decode cX9_parts 16 = .ok (.aload_n 0, 1) := by decide +kernel
theorem dX9_parts_17 : decode cX9_parts 17 = .ok (.getfield 10, 3) := by decide +kernel
theorem dX9_parts_20 : decode cX9_parts 20 = .ok (.getfield 152, 3) := by decide +kernel
theorem dX9_parts_23 : decode cX9_parts 23 = .ok (.if_icmp .ge 43, 3) := by decide +kernel
theorem dX9_parts_26 : decode cX9_parts 26 = .ok (.iconst 0, 1) := by decide +kernel
theorem dX9_parts_27 : decode cX9_parts 27 = .ok (.istore_n 3, 1) := by decide +kernel
theorem dX9_parts_28 : decode cX9_parts 28 = .ok (.iload_n 3, 1) := by decide +kernel
theorem dX9_parts_29 : decode cX9_parts 29 = .ok (.iload_n 2, 1) := by decide +kernel
theorem dX9_parts_30 : decode cX9_parts 30 = .ok (.if_icmp .ge 22, 3) := by decide +kernel
theorem dX9_parts_33 : decode cX9_parts 33 = .ok (.aload_n 0, 1) := by decide +kernel
theorem dX9_parts_34 : decode cX9_parts 34 = .ok (.getfield 58, 3) := by decide +kernel
theorem dX9_parts_37 : decode cX9_parts 37 = .ok (.iload_n 3, 1) := by decide +kernel
theorem dX9_parts_38 : decode cX9_parts 38 = .ok (.iload_n 2, 1) := by decide +kernel
theorem dX9_parts_39 : decode cX9_parts 39 = .ok (.invokevirtual 184, 3) := by decide +kernel
theorem dX9_parts_42 : decode cX9_parts 42 = .ok (.iconst (-1), 1) := by decide +kernel
theorem dX9_parts_43 : decode cX9_parts 43 = .ok (.if_icmp .ne 9, 3) := by decide +kernel
theorem dX9_parts_46 : decode cX9_parts 46 = .ok (.iinc 3 1, 3) := by decide +kernel
theorem dX9_parts_49 : decode cX9_parts 49 = .ok (.goto (-21), 3) := by decide +kernel
theorem dX9_parts_52 : decode cX9_parts 52 = .ok (.iload_n 3, 1) := by decide +kernel
theorem dX9_parts_53 : decode cX9_parts 53 = .ok (.iload_n 2, 1) := by decide +kernel
theorem dX9_parts_54 : decode cX9_parts 54 = .ok (.if_icmp .ne 6, 3) := by decide +kernel
theorem dX9_parts_57 : decode cX9_parts 57 = .ok (.iinc 1 1, 3) := by decide +kernel
theorem dX9_parts_60 : decode cX9_parts 60 = .ok (.iinc 2 1, 3) := by decide +kernel
theorem dX9_parts_63 : decode cX9_parts 63 = .ok (.goto (-48), 3) := by decide +kernel
theorem dX9_parts_66 : decode cX9_parts 66 = .ok (.iload_n 1, 1) := by decide +kernel
theorem dX9_parts_67 : decode cX9_parts 67 = .ok (.ireturn, 1) := by decide +kernel
theorem dX9_writtenNotes_0 : decode cX9_writtenNotes 0 = .ok (.iconst 0, 1) := by decide +kernel
theorem dX9_writtenNotes_1 : decode cX9_writtenNotes 1 = .ok (.istore_n 1, 1) := by decide +kernel
theorem dX9_writtenNotes_2 : decode cX9_writtenNotes 2 = .ok (.iconst 0, 1) := by decide +kernel
theorem dX9_writtenNotes_3 : decode cX9_writtenNotes 3 = .ok (.istore_n 2, 1) := by decide +kernel
theorem dX9_writtenNotes_4 : decode cX9_writtenNotes 4 = .ok (.iload_n 2, 1) := by decide +kernel
theorem dX9_writtenNotes_5 : decode cX9_writtenNotes 5 = .ok (.aload_n 0, 1) := by decide +kernel
theorem dX9_writtenNotes_6 : decode cX9_writtenNotes 6 = .ok (.getfield 10, 3) := by decide +kernel
theorem dX9_writtenNotes_9 : decode cX9_writtenNotes 9 = .ok (.getfield 152, 3) := by decide +kernel
theorem dX9_writtenNotes_12 : decode cX9_writtenNotes 12 = .ok (.if_icmp .ge 24, 3) := by decide +kernel
theorem dX9_writtenNotes_15 : decode cX9_writtenNotes 15 = .ok (.aload_n 0, 1) := by decide +kernel
theorem dX9_writtenNotes_16 : decode cX9_writtenNotes 16 = .ok (.getfield 37, 3) := by decide +kernel
theorem dX9_writtenNotes_19 : decode cX9_writtenNotes 19 = .ok (.iload_n 2, 1) := by decide +kernel
theorem dX9_writtenNotes_20 : decode cX9_writtenNotes 20 = .ok (.aaload, 1) := by decide +kernel
theorem dX9_writtenNotes_21 : decode cX9_writtenNotes 21 = .ok (.getfield 232, 3) := by decide +kernel
theorem dX9_writtenNotes_24 : decode cX9_writtenNotes 24 = .ok (.ifCond .eq 6, 3) := by decide +kernel
theorem dX9_writtenNotes_27 : decode cX9_writtenNotes 27 = .ok (.iinc 1 1, 3) := by decide +kernel
theorem dX9_writtenNotes_30 : decode cX9_writtenNotes 30 = .ok (.iinc 2 1, 3) := by decide +kernel
theorem dX9_writtenNotes_33 : decode cX9_writtenNotes 33 = .ok (.goto (-29), 3) := by decide +kernel
theorem dX9_writtenNotes_36 : decode cX9_writtenNotes 36 = .ok (.iload_n 1, 1) := by decide +kernel
theorem dX9_writtenNotes_37 : decode cX9_writtenNotes 37 = .ok (.ireturn, 1) := by decide +kernel
theorem dX9_freshNotes_0 : decode cX9_freshNotes 0 = .ok (.iconst 0, 1) := by decide +kernel
theorem dX9_freshNotes_1 : decode cX9_freshNotes 1 = .ok (.istore_n 1, 1) := by decide +kernel
theorem dX9_freshNotes_2 : decode cX9_freshNotes 2 = .ok (.iconst 0, 1) := by decide +kernel
theorem dX9_freshNotes_3 : decode cX9_freshNotes 3 = .ok (.istore_n 2, 1) := by decide +kernel
theorem dX9_freshNotes_4 : decode cX9_freshNotes 4 = .ok (.iload_n 2, 1) := by decide +kernel
theorem dX9_freshNotes_5 : decode cX9_freshNotes 5 = .ok (.aload_n 0, 1) := by decide +kernel
theorem dX9_freshNotes_6 : decode cX9_freshNotes 6 = .ok (.getfield 10, 3) := by decide +kernel
theorem dX9_freshNotes_9 : decode cX9_freshNotes 9 = .ok (.getfield 152, 3) := by decide +kernel
theorem dX9_freshNotes_12 : decode cX9_freshNotes 12 = .ok (.if_icmp .ge 20, 3) := by decide +kernel
theorem dX9_freshNotes_15 : decode cX9_freshNotes 15 = .ok (.aload_n 0, 1) := by decide +kernel
theorem dX9_freshNotes_16 : decode cX9_freshNotes 16 = .ok (.iload_n 2, 1) := by decide +kernel
theorem dX9_freshNotes_17 : decode cX9_freshNotes 17 = .ok (.invokevirtual 229, 3) := by decide +kernel
theorem dX9_freshNotes_20 : decode cX9_freshNotes 20 = .ok (.ifCond .eq 6, 3) := by decide +kernel
theorem dX9_freshNotes_23 : decode cX9_freshNotes 23 = .ok (.iinc 1 1, 3) := by decide +kernel
theorem dX9_freshNotes_26 : decode cX9_freshNotes 26 = .ok (.iinc 2 1, 3) := by decide +kernel
theorem dX9_freshNotes_29 : decode cX9_freshNotes 29 = .ok (.goto (-25), 3) := by decide +kernel
theorem dX9_freshNotes_32 : decode cX9_freshNotes 32 = .ok (.iload_n 1, 1) := by decide +kernel
theorem dX9_freshNotes_33 : decode cX9_freshNotes 33 = .ok (.ireturn, 1) := by decide +kernel
theorem dX9_nodesInNotes_0 : decode cX9_nodesInNotes 0 = .ok (.iconst 0, 1) := by decide +kernel
theorem dX9_nodesInNotes_1 : decode cX9_nodesInNotes 1 = .ok (.istore_n 1, 1) := by decide +kernel
theorem dX9_nodesInNotes_2 : decode cX9_nodesInNotes 2 = .ok (.iconst 0, 1) := by decide +kernel
theorem dX9_nodesInNotes_3 : decode cX9_nodesInNotes 3 = .ok (.istore_n 2, 1) := by decide +kernel
theorem dX9_nodesInNotes_4 : decode cX9_nodesInNotes 4 = .ok (.iload_n 2, 1) := by decide +kernel
theorem dX9_nodesInNotes_5 : decode cX9_nodesInNotes 5 = .ok (.aload_n 0, 1) := by decide +kernel
theorem dX9_nodesInNotes_6 : decode cX9_nodesInNotes 6 = .ok (.getfield 10, 3) := by decide +kernel
theorem dX9_nodesInNotes_9 : decode cX9_nodesInNotes 9 = .ok (.getfield 152, 3) := by decide +kernel
theorem dX9_nodesInNotes_12 : decode cX9_nodesInNotes 12 = .ok (.if_icmp .ge 36, 3) := by decide +kernel
theorem dX9_nodesInNotes_15 : decode cX9_nodesInNotes 15 = .ok (.aload_n 0, 1) := by decide +kernel
theorem dX9_nodesInNotes_16 : decode cX9_nodesInNotes 16 = .ok (.getfield 37, 3) := by decide +kernel
theorem dX9_nodesInNotes_19 : decode cX9_nodesInNotes 19 = .ok (.iload_n 2, 1) := by decide +kernel
theorem dX9_nodesInNotes_20 : decode cX9_nodesInNotes 20 = .ok (.aaload, 1) := by decide +kernel
theorem dX9_nodesInNotes_21 : decode cX9_nodesInNotes 21 = .ok (.getfield 232, 3) := by decide +kernel
theorem dX9_nodesInNotes_24 : decode cX9_nodesInNotes 24 = .ok (.ifCond .eq 18, 3) := by decide +kernel
theorem dX9_nodesInNotes_27 : decode cX9_nodesInNotes 27 = .ok (.iload_n 1, 1) := by decide +kernel
theorem dX9_nodesInNotes_28 : decode cX9_nodesInNotes 28 = .ok (.aload_n 0, 1) := by decide +kernel
theorem dX9_nodesInNotes_29 : decode cX9_nodesInNotes 29 = .ok (.getfield 37, 3) := by decide +kernel
theorem dX9_nodesInNotes_32 : decode cX9_nodesInNotes 32 = .ok (.iload_n 2, 1) := by decide +kernel
theorem dX9_nodesInNotes_33 : decode cX9_nodesInNotes 33 = .ok (.aaload, 1) := by decide +kernel
theorem dX9_nodesInNotes_34 : decode cX9_nodesInNotes 34 = .ok (.getfield 199, 3) := by decide +kernel
theorem dX9_nodesInNotes_37 : decode cX9_nodesInNotes 37 = .ok (.invokestatic 224, 3) := by decide +kernel
theorem dX9_nodesInNotes_40 : decode cX9_nodesInNotes 40 = .ok (.iadd, 1) := by decide +kernel
theorem dX9_nodesInNotes_41 : decode cX9_nodesInNotes 41 = .ok (.istore_n 1, 1) := by decide +kernel
theorem dX9_nodesInNotes_42 : decode cX9_nodesInNotes 42 = .ok (.iinc 2 1, 3) := by decide +kernel
theorem dX9_nodesInNotes_45 : decode cX9_nodesInNotes 45 = .ok (.goto (-41), 3) := by decide +kernel
theorem dX9_nodesInNotes_48 : decode cX9_nodesInNotes 48 = .ok (.iload_n 1, 1) := by decide +kernel
theorem dX9_nodesInNotes_49 : decode cX9_nodesInNotes 49 = .ok (.ireturn, 1) := by decide +kernel
theorem dX10_init_0 : decode cX10_init 0 = .ok (.aload_n 0, 1) := by decide +kernel
theorem dX10_init_1 : decode cX10_init 1 = .ok (.invokespecial 1, 3) := by decide +kernel
theorem dX10_init_4 : decode cX10_init 4 = .ok (.aload_n 0, 1) := by decide +kernel
theorem dX10_init_5 : decode cX10_init 5 = .ok (.sipush 1727, 3) := by decide +kernel
theorem dX10_init_8 : decode cX10_init 8 = .ok (.newarray .int, 2) := by decide +kernel
theorem dX10_init_10 : decode cX10_init 10 = .ok (.putfield 7, 3) := by decide +kernel
theorem dX10_init_13 : decode cX10_init 13 = .ok (.aload_n 0, 1) := by decide +kernel
theorem dX10_init_14 : decode cX10_init 14 = .ok (.iconst 2, 1) := by decide +kernel
theorem dX10_init_15 : decode cX10_init 15 = .ok (.putfield 13, 3) := by decide +kernel
theorem dX10_init_18 : decode cX10_init 18 = .ok (.aload_n 0, 1) := by decide +kernel
theorem dX10_init_19 : decode cX10_init 19 = .ok (.sipush 720, 3) := by decide +kernel
theorem dX10_init_22 : decode cX10_init 22 = .ok (.newarray .int, 2) := by decide +kernel
theorem dX10_init_24 : decode cX10_init 24 = .ok (.putfield 17, 3) := by decide +kernel
theorem dX10_init_27 : decode cX10_init 27 = .ok (.aload_n 0, 1) := by decide +kernel
theorem dX10_init_28 : decode cX10_init 28 = .ok (.iconst 2, 1) := by decide +kernel
theorem dX10_init_29 : decode cX10_init 29 = .ok (.newarray .boolean, 2) := by decide +kernel
theorem dX10_init_31 : decode cX10_init 31 = .ok (.putfield 20, 3) := by decide +kernel
theorem dX10_init_34 : decode cX10_init 34 = .ok (.aload_n 0, 1) := by decide +kernel
theorem dX10_init_35 : decode cX10_init 35 = .ok (.sipush 200, 3) := by decide +kernel
theorem dX10_init_38 : decode cX10_init 38 = .ok (.newarray .int, 2) := by decide +kernel
theorem dX10_init_40 : decode cX10_init 40 = .ok (.putfield 24, 3) := by decide +kernel
theorem dX10_init_43 : decode cX10_init 43 = .ok (.aload_n 0, 1) := by decide +kernel
theorem dX10_init_44 : decode cX10_init 44 = .ok (.sipush 144, 3) := by decide +kernel
theorem dX10_init_47 : decode cX10_init 47 = .ok (.newarray .boolean, 2) := by decide +kernel
theorem dX10_init_49 : decode cX10_init 49 = .ok (.putfield 27, 3) := by decide +kernel
theorem dX10_init_52 : decode cX10_init 52 = .ok (.aload_n 0, 1) := by decide +kernel
theorem dX10_init_53 : decode cX10_init 53 = .ok (.iconst 3, 1) := by decide +kernel
theorem dX10_init_54 : decode cX10_init 54 = .ok (.newarray .int, 2) := by decide +kernel
theorem dX10_init_56 : decode cX10_init 56 = .ok (.putfield 30, 3) := by decide +kernel
theorem dX10_init_59 : decode cX10_init 59 = .ok (.aload_n 0, 1) := by decide +kernel
theorem dX10_init_60 : decode cX10_init 60 = .ok (.bipush 15, 2) := by decide +kernel
theorem dX10_init_62 : decode cX10_init 62 = .ok (.newarray .int, 2) := by decide +kernel
theorem dX10_init_64 : decode cX10_init 64 = .ok (.dup, 1) := by decide +kernel
theorem dX10_init_65 : decode cX10_init 65 = .ok (.iconst 0, 1) := by decide +kernel
theorem dX10_init_66 : decode cX10_init 66 = .ok (.bipush 110, 2) := by decide +kernel
theorem dX10_init_68 : decode cX10_init 68 = .ok (.iastore, 1) := by decide +kernel
theorem dX10_init_69 : decode cX10_init 69 = .ok (.dup, 1) := by decide +kernel
theorem dX10_init_70 : decode cX10_init 70 = .ok (.iconst 1, 1) := by decide +kernel
theorem dX10_init_71 : decode cX10_init 71 = .ok (.bipush 101, 2) := by decide +kernel
theorem dX10_init_73 : decode cX10_init 73 = .ok (.iastore, 1) := by decide +kernel
theorem dX10_init_74 : decode cX10_init 74 = .ok (.dup, 1) := by decide +kernel
theorem dX10_init_75 : decode cX10_init 75 = .ok (.iconst 2, 1) := by decide +kernel
theorem dX10_init_76 : decode cX10_init 76 = .ok (.bipush 116, 2) := by decide +kernel
theorem dX10_init_78 : decode cX10_init 78 = .ok (.iastore, 1) := by decide +kernel
theorem dX10_init_79 : decode cX10_init 79 = .ok (.dup, 1) := by decide +kernel
theorem dX10_init_80 : decode cX10_init 80 = .ok (.iconst 3, 1) := by decide +kernel
theorem dX10_init_81 : decode cX10_init 81 = .ok (.iconst 0, 1) := by decide +kernel
theorem dX10_init_82 : decode cX10_init 82 = .ok (.iastore, 1) := by decide +kernel
theorem dX10_init_83 : decode cX10_init 83 = .ok (.dup, 1) := by decide +kernel
theorem dX10_init_84 : decode cX10_init 84 = .ok (.iconst 4, 1) := by decide +kernel
theorem dX10_init_85 : decode cX10_init 85 = .ok (.iconst 0, 1) := by decide +kernel
theorem dX10_init_86 : decode cX10_init 86 = .ok (.iastore, 1) := by decide +kernel
theorem dX10_init_87 : decode cX10_init 87 = .ok (.dup, 1) := by decide +kernel
theorem dX10_init_88 : decode cX10_init 88 = .ok (.iconst 5, 1) := by decide +kernel
theorem dX10_init_89 : decode cX10_init 89 = .ok (.bipush 108, 2) := by decide +kernel
theorem dX10_init_91 : decode cX10_init 91 = .ok (.iastore, 1) := by decide +kernel
theorem dX10_init_92 : decode cX10_init 92 = .ok (.dup, 1) := by decide +kernel
theorem dX10_init_93 : decode cX10_init 93 = .ok (.bipush 6, 2) := by decide +kernel
theorem dX10_init_95 : decode cX10_init 95 = .ok (.bipush 105, 2) := by decide +kernel
theorem dX10_init_97 : decode cX10_init 97 = .ok (.iastore, 1) := by decide +kernel
theorem dX10_init_98 : decode cX10_init 98 = .ok (.dup, 1) := by decide +kernel
theorem dX10_init_99 : decode cX10_init 99 = .ok (.bipush 7, 2) := by decide +kernel
theorem dX10_init_101 : decode cX10_init 101 = .ok (.bipush 110, 2) := by decide +kernel
theorem dX10_init_103 : decode cX10_init 103 = .ok (.iastore, 1) := by decide +kernel
theorem dX10_init_104 : decode cX10_init 104 = .ok (.dup, 1) := by decide +kernel
theorem dX10_init_105 : decode cX10_init 105 = .ok (.bipush 8, 2) := by decide +kernel
theorem dX10_init_107 : decode cX10_init 107 = .ok (.bipush 107, 2) := by decide +kernel
theorem dX10_init_109 : decode cX10_init 109 = .ok (.iastore, 1) := by decide +kernel
theorem dX10_init_110 : decode cX10_init 110 = .ok (.dup, 1) := by decide +kernel
theorem dX10_init_111 : decode cX10_init 111 = .ok (.bipush 9, 2) := by decide +kernel
theorem dX10_init_113 : decode cX10_init 113 = .ok (.iconst 0, 1) := by decide +kernel
theorem dX10_init_114 : decode cX10_init 114 = .ok (.iastore, 1) := by decide +kernel
theorem dX10_init_115 : decode cX10_init 115 = .ok (.dup, 1) := by decide +kernel
theorem dX10_init_116 : decode cX10_init 116 = .ok (.bipush 10, 2) := by decide +kernel
theorem dX10_init_118 : decode cX10_init 118 = .ok (.bipush 108, 2) := by decide +kernel
theorem dX10_init_120 : decode cX10_init 120 = .ok (.iastore, 1) := by decide +kernel
theorem dX10_init_121 : decode cX10_init 121 = .ok (.dup, 1) := by decide +kernel
theorem dX10_init_122 : decode cX10_init 122 = .ok (.bipush 11, 2) := by decide +kernel
theorem dX10_init_124 : decode cX10_init 124 = .ok (.bipush 101, 2) := by decide +kernel
theorem dX10_init_126 : decode cX10_init 126 = .ok (.iastore, 1) := by decide +kernel
theorem dX10_init_127 : decode cX10_init 127 = .ok (.dup, 1) := by decide +kernel
theorem dX10_init_128 : decode cX10_init 128 = .ok (.bipush 12, 2) := by decide +kernel
theorem dX10_init_130 : decode cX10_init 130 = .ok (.bipush 118, 2) := by decide +kernel
theorem dX10_init_132 : decode cX10_init 132 = .ok (.iastore, 1) := by decide +kernel
theorem dX10_init_133 : decode cX10_init 133 = .ok (.dup, 1) := by decide +kernel
theorem dX10_init_134 : decode cX10_init 134 = .ok (.bipush 13, 2) := by decide +kernel
theorem dX10_init_136 : decode cX10_init 136 = .ok (.bipush 101, 2) := by decide +kernel
theorem dX10_init_138 : decode cX10_init 138 = .ok (.iastore, 1) := by decide +kernel
theorem dX10_init_139 : decode cX10_init 139 = .ok (.dup, 1) := by decide +kernel
theorem dX10_init_140 : decode cX10_init 140 = .ok (.bipush 14, 2) := by decide +kernel
theorem dX10_init_142 : decode cX10_init 142 = .ok (.bipush 108, 2) := by decide +kernel
theorem dX10_init_144 : decode cX10_init 144 = .ok (.iastore, 1) := by decide +kernel
theorem dX10_init_145 : decode cX10_init 145 = .ok (.putfield 33, 3) := by decide +kernel
theorem dX10_init_148 : decode cX10_init 148 = .ok (.aload_n 0, 1) := by decide +kernel
theorem dX10_init_149 : decode cX10_init 149 = .ok (.sipush 144, 3) := by decide +kernel
theorem dX10_init_152 : decode cX10_init 152 = .ok (.newarray .int, 2) := by decide +kernel
theorem dX10_init_154 : decode cX10_init 154 = .ok (.putfield 36, 3) := by decide +kernel
theorem dX10_init_157 : decode cX10_init 157 = .ok (.aload_n 0, 1) := by decide +kernel
theorem dX10_init_158 : decode cX10_init 158 = .ok (.sipush 144, 3) := by decide +kernel
theorem dX10_init_161 : decode cX10_init 161 = .ok (.newarray .boolean, 2) := by decide +kernel
theorem dX10_init_163 : decode cX10_init 163 = .ok (.putfield 39, 3) := by decide +kernel
theorem dX10_init_166 : decode cX10_init 166 = .ok (.aload_n 0, 1) := by decide +kernel
theorem dX10_init_167 : decode cX10_init 167 = .ok (.sipush 144, 3) := by decide +kernel
theorem dX10_init_170 : decode cX10_init 170 = .ok (.newarray .int, 2) := by decide +kernel
theorem dX10_init_172 : decode cX10_init 172 = .ok (.putfield 42, 3) := by decide +kernel
theorem dX10_init_175 : decode cX10_init 175 = .ok (.aload_n 0, 1) := by decide +kernel
theorem dX10_init_176 : decode cX10_init 176 = .ok (.bipush 20, 2) := by decide +kernel
theorem dX10_init_178 : decode cX10_init 178 = .ok (.newarray .int, 2) := by decide +kernel
theorem dX10_init_180 : decode cX10_init 180 = .ok (.putfield 45, 3) := by decide +kernel
theorem dX10_init_183 : decode cX10_init 183 = .ok (.aload_n 0, 1) := by decide +kernel
theorem dX10_init_184 : decode cX10_init 184 = .ok (.getfield 7, 3) := by decide +kernel
theorem dX10_init_187 : decode cX10_init 187 = .ok (.sipush 156, 3) := by decide +kernel
theorem dX10_init_190 : decode cX10_init 190 = .ok (.iconst 1, 1) := by decide +kernel
theorem dX10_init_191 : decode cX10_init 191 = .ok (.iastore, 1) := by decide +kernel
theorem dX10_init_192 : decode cX10_init 192 = .ok (.return_, 1) := by decide +kernel
theorem dX10_in_0 : decode cX10_in 0 = .ok (.lload_n 0, 1) := by decide +kernel
theorem dX10_in_1 : decode cX10_in 1 = .ok (.lload_n 2, 1) := by decide +kernel
theorem dX10_in_2 : decode cX10_in 2 = .ok (.lcmp, 1) := by decide +kernel
theorem dX10_in_3 : decode cX10_in 3 = .ok (.ifCond .lt 14, 3) := by decide +kernel
theorem dX10_in_6 : decode cX10_in 6 = .ok (.lload_n 0, 1) := by decide +kernel
theorem dX10_in_7 : decode cX10_in 7 = .ok (.lload 4, 2) := by decide +kernel
theorem dX10_in_9 : decode cX10_in 9 = .ok (.lcmp, 1) := by decide +kernel
theorem dX10_in_10 : decode cX10_in 10 = .ok (.ifCond .gt 7, 3) := by decide +kernel
theorem dX10_in_13 : decode cX10_in 13 = .ok (.iconst 1, 1) := by decide +kernel
theorem dX10_in_14 : decode cX10_in 14 = .ok (.goto 4, 3) := by decide +kernel
theorem dX10_in_17 : decode cX10_in 17 = .ok (.iconst 0, 1) := by decide +kernel
theorem dX10_in_18 : decode cX10_in 18 = .ok (.ireturn, 1) := by decide +kernel
theorem dX10_isNode_0 : decode cX10_isNode 0 = .ok (.iload_n 1, 1) := by decide +kernel
theorem dX10_isNode_1 : decode cX10_isNode 1 = .ok (.i2l, 1) := by decide +kernel
theorem dX10_isNode_2 : decode cX10_isNode 2 = .ok (.lconst 0, 1) := by decide +kernel
theorem dX10_isNode_3 : decode cX10_isNode 3 = .ok (.aload_n 0, 1) := by decide +kernel
theorem dX10_isNode_4 : decode cX10_isNode 4 = .ok (.getfield 13, 3) := by decide +kernel
theorem dX10_isNode_7 : decode cX10_isNode 7 = .ok (.iconst 1, 1) := by decide +kernel
theorem dX10_isNode_8 : decode cX10_isNode 8 = .ok (.isub, 1) := by decide +kernel
theorem dX10_isNode_9 : decode cX10_isNode 9 = .ok (.i2l, 1) := by decide +kernel
theorem dX10_isNode_10 : decode cX10_isNode 10 = .ok (.invokestatic 48, 3) := by decide +kernel
theorem dX10_isNode_13 : decode cX10_isNode 13 = .ok (.ireturn, 1) := by decide +kernel
theorem dX10_has_0 : decode cX10_has 0 = .ok (.iload_n 0, 1) := by decide +kernel
theorem dX10_has_1 : decode cX10_has 1 = .ok (.iload_n 1, 1) := by decide +kernel
theorem dX10_has_2 : decode cX10_has 2 = .ok (.ishr, 1) := by decide +kernel
theorem dX10_has_3 : decode cX10_has 3 = .ok (.iconst 1, 1) := by decide +kernel
theorem dX10_has_4 : decode cX10_has 4 = .ok (.iand, 1) := by decide +kernel
theorem dX10_has_5 : decode cX10_has 5 = .ok (.iconst 1, 1) := by decide +kernel
theorem dX10_has_6 : decode cX10_has 6 = .ok (.if_icmp .ne 7, 3) := by decide +kernel
theorem dX10_has_9 : decode cX10_has 9 = .ok (.iconst 1, 1) := by decide +kernel
theorem dX10_has_10 : decode cX10_has 10 = .ok (.goto 4, 3) := by decide +kernel
theorem dX10_has_13 : decode cX10_has 13 = .ok (.iconst 0, 1) := by decide +kernel
theorem dX10_has_14 : decode cX10_has 14 = .ok (.ireturn, 1) := by decide +kernel
theorem dX10_ones_0 : decode cX10_ones 0 = .ok (.iconst 0, 1) := by decide +kernel
theorem dX10_ones_1 : decode cX10_ones 1 = .ok (.istore_n 1, 1) := by decide +kernel
theorem dX10_ones_2 : decode cX10_ones 2 = .ok (.iconst 0, 1) := by decide +kernel
theorem dX10_ones_3 : decode cX10_ones 3 = .ok (.istore_n 2, 1) := by decide +kernel
theorem dX10_ones_4 : decode cX10_ones 4 = .ok (.iload_n 2, 1) := by decide +kernel
theorem dX10_ones_5 : decode cX10_ones 5 = .ok (.bipush 12, 2) := by decide +kernel
theorem dX10_ones_7 : decode cX10_ones 7 = .ok (.if_icmp .ge 17, 3) := by decide +kernel
theorem dX10_ones_10 : decode cX10_ones 10 = .ok (.iload_n 1, 1) := by decide +kernel
theorem dX10_ones_11 : decode cX10_ones 11 = .ok (.iload_n 0, 1) := by decide +kernel
theorem dX10_ones_12 : decode cX10_ones 12 = .ok (.iload_n 2, 1) := by decide +kernel
theorem dX10_ones_13 : decode cX10_ones 13 = .ok (.ishr, 1) := by decide +kernel
theorem dX10_ones_14 : decode cX10_ones 14 = .ok (.iconst 1, 1) := by decide +kernel
theorem dX10_ones_15 : decode cX10_ones 15 = .ok (.iand, 1) := by decide +kernel
theorem dX10_ones_16 : decode cX10_ones 16 = .ok (.iadd, 1) := by decide +kernel
theorem dX10_ones_17 : decode cX10_ones 17 = .ok (.istore_n 1, 1) := by decide +kernel
theorem dX10_ones_18 : decode cX10_ones 18 = .ok (.iinc 2 1, 3) := by decide +kernel
theorem dX10_ones_21 : decode cX10_ones 21 = .ok (.goto (-17), 3) := by decide +kernel
theorem dX10_ones_24 : decode cX10_ones 24 = .ok (.iload_n 1, 1) := by decide +kernel
theorem dX10_ones_25 : decode cX10_ones 25 = .ok (.ireturn, 1) := by decide +kernel
theorem dX10_length_0 : decode cX10_length 0 = .ok (.aload_n 0, 1) := by decide +kernel
theorem dX10_length_1 : decode cX10_length 1 = .ok (.getfield 7, 3) := by decide +kernel
theorem dX10_length_4 : decode cX10_length 4 = .ok (.bipush 12, 2) := by decide +kernel
theorem dX10_length_6 : decode cX10_length 6 = .ok (.iload_n 1, 1) := by decide +kernel
theorem dX10_length_7 : decode cX10_length 7 = .ok (.imul, 1) := by decide +kernel
theorem dX10_length_8 : decode cX10_length 8 = .ok (.iload_n 2, 1) := by decide +kernel
theorem dX10_length_9 : decode cX10_length 9 = .ok (.iadd, 1) := by decide +kernel
theorem dX10_length_10 : decode cX10_length 10 = .ok (.iaload, 1) := by decide +kernel
theorem dX10_length_11 : decode cX10_length 11 = .ok (.ireturn, 1) := by decide +kernel
theorem dX10_lies_0 : decode cX10_lies 0 = .ok (.aload_n 0, 1) := by decide +kernel
theorem dX10_lies_1 : decode cX10_lies 1 = .ok (.getfield 7, 3) := by decide +kernel
theorem dX10_lies_4 : decode cX10_lies 4 = .ok (.bipush 12, 2) := by decide +kernel
theorem dX10_lies_6 : decode cX10_lies 6 = .ok (.iload_n 1, 1) := by decide +kernel
theorem dX10_lies_7 : decode cX10_lies 7 = .ok (.imul, 1) := by decide +kernel
theorem dX10_lies_8 : decode cX10_lies 8 = .ok (.iload_n 2, 1) := by decide +kernel
theorem dX10_lies_9 : decode cX10_lies 9 = .ok (.iadd, 1) := by decide +kernel
theorem dX10_lies_10 : decode cX10_lies 10 = .ok (.iload_n 3, 1) := by decide +kernel
theorem dX10_lies_11 : decode cX10_lies 11 = .ok (.iastore, 1) := by decide +kernel
theorem dX10_lies_12 : decode cX10_lies 12 = .ok (.aload_n 0, 1) := by decide +kernel
theorem dX10_lies_13 : decode cX10_lies 13 = .ok (.getfield 7, 3) := by decide +kernel
theorem dX10_lies_16 : decode cX10_lies 16 = .ok (.bipush 12, 2) := by decide +kernel
theorem dX10_lies_18 : decode cX10_lies 18 = .ok (.iload_n 2, 1) := by decide +kernel
theorem dX10_lies_19 : decode cX10_lies 19 = .ok (.imul, 1) := by decide +kernel
theorem dX10_lies_20 : decode cX10_lies 20 = .ok (.iload_n 1, 1) := by decide +kernel
theorem dX10_lies_21 : decode cX10_lies 21 = .ok (.iadd, 1) := by decide +kernel
theorem dX10_lies_22 : decode cX10_lies 22 = .ok (.iload_n 3, 1) := by decide +kernel
theorem dX10_lies_23 : decode cX10_lies 23 = .ok (.iastore, 1) := by decide +kernel
theorem dX10_lies_24 : decode cX10_lies 24 = .ok (.return_, 1) := by decide +kernel
theorem dX10_links_0 : decode cX10_links 0 = .ok (.iconst 0, 1) := by decide +kernel
theorem dX10_links_1 : decode cX10_links 1 = .ok (.istore_n 1, 1) := by decide +kernel
theorem dX10_links_2 : decode cX10_links 2 = .ok (.iconst 0, 1) := by decide +kernel
theorem dX10_links_3 : decode cX10_links 3 = .ok (.istore_n 2, 1) := by decide +kernel
theorem dX10_links_4 : decode cX10_links 4 = .ok (.iload_n 2, 1) := by decide +kernel
theorem dX10_links_5 : decode cX10_links 5 = .ok (.sipush 144, 3) := by decide +kernel
theorem dX10_links_8 : decode cX10_links 8 = .ok (.if_icmp .ge 26, 3) := by decide +kernel
theorem dX10_links_11 : decode cX10_links 11 = .ok (.iload_n 1, 1) := by decide +kernel
theorem dX10_links_12 : decode cX10_links 12 = .ok (.aload_n 0, 1) := by decide +kernel
theorem dX10_links_13 : decode cX10_links 13 = .ok (.getfield 7, 3) := by decide +kernel
theorem dX10_links_16 : decode cX10_links 16 = .ok (.iload_n 2, 1) := by decide +kernel
theorem dX10_links_17 : decode cX10_links 17 = .ok (.iaload, 1) := by decide +kernel
theorem dX10_links_18 : decode cX10_links 18 = .ok (.ifCond .le 7, 3) := by decide +kernel
theorem dX10_links_21 : decode cX10_links 21 = .ok (.iconst 1, 1) := by decide +kernel
theorem dX10_links_22 : decode cX10_links 22 = .ok (.goto 4, 3) := by decide +kernel
theorem dX10_links_25 : decode cX10_links 25 = .ok (.iconst 0, 1) := by decide +kernel
theorem dX10_links_26 : decode cX10_links 26 = .ok (.iadd, 1) := by decide +kernel
theorem dX10_links_27 : decode cX10_links 27 = .ok (.istore_n 1, 1) := by decide +kernel
theorem dX10_links_28 : decode cX10_links 28 = .ok (.iinc 2 1, 3) := by decide +kernel
theorem dX10_links_31 : decode cX10_links 31 = .ok (.goto (-27), 3) := by decide +kernel
theorem dX10_links_34 : decode cX10_links 34 = .ok (.iload_n 1, 1) := by decide +kernel
theorem dX10_links_35 : decode cX10_links 35 = .ok (.iconst 2, 1) := by decide +kernel
theorem dX10_links_36 : decode cX10_links 36 = .ok (.idiv, 1) := by decide +kernel
theorem dX10_links_37 : decode cX10_links 37 = .ok (.ireturn, 1) := by decide +kernel
theorem dX10_pairOf_0 : decode cX10_pairOf 0 = .ok (.iload_n 1, 1) := by decide +kernel
theorem dX10_pairOf_1 : decode cX10_pairOf 1 = .ok (.istore_n 2, 1) := by decide +kernel
theorem dX10_pairOf_2 : decode cX10_pairOf 2 = .ok (.iconst 0, 1) := by decide +kernel
theorem dX10_pairOf_3 : decode cX10_pairOf 3 = .ok (.istore_n 3, 1) := by decide +kernel
theorem dX10_pairOf_4 : decode cX10_pairOf 4 = .ok (.iload_n 3, 1) := by decide +kernel
theorem dX10_pairOf_5 : decode cX10_pairOf 5 = .ok (.sipush 144, 3) := by decide +kernel
theorem dX10_pairOf_8 : decode cX10_pairOf 8 = .ok (.if_icmp .ge 42, 3) := by decide +kernel
theorem dX10_pairOf_11 : decode cX10_pairOf 11 = .ok (.iload_n 1, 1) := by decide +kernel
theorem dX10_pairOf_12 : decode cX10_pairOf 12 = .ok (.ifCond .lt 38, 3) := by decide +kernel
theorem dX10_pairOf_15 : decode cX10_pairOf 15 = .ok (.iload_n 3, 1) := by decide +kernel
theorem dX10_pairOf_16 : decode cX10_pairOf 16 = .ok (.bipush 12, 2) := by decide +kernel
theorem dX10_pairOf_18 : decode cX10_pairOf 18 = .ok (.idiv, 1) := by decide +kernel
theorem dX10_pairOf_19 : decode cX10_pairOf 19 = .ok (.iload_n 3, 1) := by decide +kernel
theorem dX10_pairOf_20 : decode cX10_pairOf 20 = .ok (.bipush 12, 2) := by decide +kernel
theorem dX10_pairOf_22 : decode cX10_pairOf 22 = .ok (.irem, 1) := by decide +kernel
theorem dX10_pairOf_23 : decode cX10_pairOf 23 = .ok (.if_icmp .ge 21, 3) := by decide +kernel
theorem dX10_pairOf_26 : decode cX10_pairOf 26 = .ok (.aload_n 0, 1) := by decide +kernel
theorem dX10_pairOf_27 : decode cX10_pairOf 27 = .ok (.getfield 7, 3) := by decide +kernel
theorem dX10_pairOf_30 : decode cX10_pairOf 30 = .ok (.iload_n 3, 1) := by decide +kernel
theorem dX10_pairOf_31 : decode cX10_pairOf 31 = .ok (.iaload, 1) := by decide +kernel
theorem dX10_pairOf_32 : decode cX10_pairOf 32 = .ok (.ifCond .le 12, 3) := by decide +kernel
theorem dX10_pairOf_35 : decode cX10_pairOf 35 = .ok (.iload_n 2, 1) := by decide +kernel
theorem dX10_pairOf_36 : decode cX10_pairOf 36 = .ok (.ifCond .ne 5, 3) := by decide +kernel
theorem dX10_pairOf_39 : decode cX10_pairOf 39 = .ok (.iload_n 3, 1) := by decide +kernel
theorem dX10_pairOf_40 : decode cX10_pairOf 40 = .ok (.ireturn, 1) := by decide +kernel
theorem dX10_pairOf_41 : decode cX10_pairOf 41 = .ok (.iinc 2 (-1), 3) := by decide +kernel
theorem dX10_pairOf_44 : decode cX10_pairOf 44 = .ok (.iinc 3 1, 3) := by decide +kernel
theorem dX10_pairOf_47 : decode cX10_pairOf 47 = .ok (.goto (-43), 3) := by decide +kernel
theorem dX10_pairOf_50 : decode cX10_pairOf 50 = .ok (.iconst (-1), 1) := by decide +kernel
theorem dX10_pairOf_51 : decode cX10_pairOf 51 = .ok (.ireturn, 1) := by decide +kernel
theorem dX10_type_0 : decode cX10_type 0 = .ok (.iload_n 1, 1) := by decide +kernel
theorem dX10_type_1 : decode cX10_type 1 = .ok (.i2l, 1) := by decide +kernel
theorem dX10_type_2 : decode cX10_type 2 = .ok (.lconst 0, 1) := by decide +kernel
theorem dX10_type_3 : decode cX10_type 3 = .ok (.ldc2_w 52, 3) := by decide +kernel
theorem dX10_type_6 : decode cX10_type 6 = .ok (.invokestatic 48, 3) := by decide +kernel
theorem dX10_type_9 : decode cX10_type 9 = .ok (.ifCond .ne 6, 3) := by decide +kernel
theorem dX10_type_12 : decode cX10_type 12 = .ok (.bipush (-3), 2) := by decide +kernel
theorem dX10_type_14 : decode cX10_type 14 = .ok (.ireturn, 1) := by decide +kernel
theorem dX10_type_15 : decode cX10_type 15 = .ok (.aload_n 0, 1) := by decide +kernel
theorem dX10_type_16 : decode cX10_type 16 = .ok (.getfield 54, 3) := by decide +kernel
theorem dX10_type_19 : decode cX10_type 19 = .ok (.sipush 200, 3) := by decide +kernel
theorem dX10_type_22 : decode cX10_type 22 = .ok (.if_icmp .ne 6, 3) := by decide +kernel
theorem dX10_type_25 : decode cX10_type 25 = .ok (.bipush (-5), 2) := by decide +kernel
theorem dX10_type_27 : decode cX10_type 27 = .ok (.ireturn, 1) := by decide +kernel
theorem dX10_type_28 : decode cX10_type 28 = .ok (.aload_n 0, 1) := by decide +kernel
theorem dX10_type_29 : decode cX10_type 29 = .ok (.getfield 24, 3) := by decide +kernel
theorem dX10_type_32 : decode cX10_type 32 = .ok (.aload_n 0, 1) := by decide +kernel
theorem dX10_type_33 : decode cX10_type 33 = .ok (.getfield 54, 3) := by decide +kernel
theorem dX10_type_36 : decode cX10_type 36 = .ok (.iload_n 1, 1) := by decide +kernel
theorem dX10_type_37 : decode cX10_type 37 = .ok (.iastore, 1) := by decide +kernel
theorem dX10_type_38 : decode cX10_type 38 = .ok (.aload_n 0, 1) := by decide +kernel
theorem dX10_type_39 : decode cX10_type 39 = .ok (.dup, 1) := by decide +kernel
theorem dX10_type_40 : decode cX10_type 40 = .ok (.getfield 54, 3) := by decide +kernel
theorem dX10_type_43 : decode cX10_type 43 = .ok (.iconst 1, 1) := by decide +kernel
theorem dX10_type_44 : decode cX10_type 44 = .ok (.iadd, 1) := by decide +kernel
theorem dX10_type_45 : decode cX10_type 45 = .ok (.putfield 54, 3) := by decide +kernel
theorem dX10_type_48 : decode cX10_type 48 = .ok (.aload_n 0, 1) := by decide +kernel
theorem dX10_type_49 : decode cX10_type 49 = .ok (.getfield 54, 3) := by decide +kernel
theorem dX10_type_52 : decode cX10_type 52 = .ok (.ireturn, 1) := by decide +kernel
theorem dX10_erase_0 : decode cX10_erase 0 = .ok (.aload_n 0, 1) := by decide +kernel
theorem dX10_erase_1 : decode cX10_erase 1 = .ok (.getfield 54, 3) := by decide +kernel
theorem dX10_erase_4 : decode cX10_erase 4 = .ok (.istore_n 1, 1) := by decide +kernel
theorem dX10_erase_5 : decode cX10_erase 5 = .ok (.aload_n 0, 1) := by decide +kernel
theorem dX10_erase_6 : decode cX10_erase 6 = .ok (.iconst 0, 1) := by decide +kernel
theorem dX10_erase_7 : decode cX10_erase 7 = .ok (.putfield 54, 3) := by decide +kernel
theorem dX10_erase_10 : decode cX10_erase 10 = .ok (.iload_n 1, 1) := by decide +kernel
theorem dX10_erase_11 : decode cX10_erase 11 = .ok (.ireturn, 1) := by decide +kernel
theorem dX10_isSmall_0 : decode cX10_isSmall 0 = .ok (.iload_n 0, 1) := by decide +kernel
theorem dX10_isSmall_1 : decode cX10_isSmall 1 = .ok (.i2l, 1) := by decide +kernel
theorem dX10_isSmall_2 : decode cX10_isSmall 2 = .ok (.ldc2_w 57, 3) := by decide +kernel
theorem dX10_isSmall_5 : decode cX10_isSmall 5 = .ok (.ldc2_w 59, 3) := by decide +kernel
theorem dX10_isSmall_8 : decode cX10_isSmall 8 = .ok (.invokestatic 48, 3) := by decide +kernel
theorem dX10_isSmall_11 : decode cX10_isSmall 11 = .ok (.ireturn, 1) := by decide +kernel
theorem dX10_isDigit_0 : decode cX10_isDigit 0 = .ok (.iload_n 0, 1) := by decide +kernel
theorem dX10_isDigit_1 : decode cX10_isDigit 1 = .ok (.i2l, 1) := by decide +kernel
theorem dX10_isDigit_2 : decode cX10_isDigit 2 = .ok (.ldc2_w 61, 3) := by decide +kernel
theorem dX10_isDigit_5 : decode cX10_isDigit 5 = .ok (.ldc2_w 63, 3) := by decide +kernel
theorem dX10_isDigit_8 : decode cX10_isDigit 8 = .ok (.invokestatic 48, 3) := by decide +kernel
theorem dX10_isDigit_11 : decode cX10_isDigit 11 = .ok (.ireturn, 1) := by decide +kernel
theorem dX10_nextToken_0 : decode cX10_nextToken 0 = .ok (.aload_n 0, 1) := by decide +kernel
theorem dX10_nextToken_1 : decode cX10_nextToken 1 = .ok (.aload_n 0, 1) := by decide +kernel
theorem dX10_nextToken_2 : decode cX10_nextToken 2 = .ok (.getfield 65, 3) := by decide +kernel
theorem dX10_nextToken_5 : decode cX10_nextToken 5 = .ok (.putfield 68, 3) := by decide +kernel
theorem dX10_nextToken_8 : decode cX10_nextToken 8 = .ok (.aload_n 0, 1) := by decide +kernel
theorem dX10_nextToken_9 : decode cX10_nextToken 9 = .ok (.getfield 68, 3) := by decide +kernel
theorem dX10_nextToken_12 : decode cX10_nextToken 12 = .ok (.aload_n 0, 1) := by decide +kernel
theorem dX10_nextToken_13 : decode cX10_nextToken 13 = .ok (.getfield 54, 3) := by decide +kernel
theorem dX10_nextToken_16 : decode cX10_nextToken 16 = .ok (.if_icmp .ge 30, 3) := by decide +kernel
theorem dX10_nextToken_19 : decode cX10_nextToken 19 = .ok (.aload_n 0, 1) := by decide +kernel
theorem dX10_nextToken_20 : decode cX10_nextToken 20 = .ok (.getfield 24, 3) := by decide +kernel
theorem dX10_nextToken_23 : decode cX10_nextToken 23 = .ok (.aload_n 0, 1) := by decide +kernel
theorem dX10_nextToken_24 : decode cX10_nextToken 24 = .ok (.getfield 68, 3) := by decide +kernel
theorem dX10_nextToken_27 : decode cX10_nextToken 27 = .ok (.iaload, 1) := by decide +kernel
theorem dX10_nextToken_28 : decode cX10_nextToken 28 = .ok (.bipush 32, 2) := by decide +kernel
theorem dX10_nextToken_30 : decode cX10_nextToken 30 = .ok (.if_icmp .ne 16, 3) := by decide +kernel
theorem dX10_nextToken_33 : decode cX10_nextToken 33 = .ok (.aload_n 0, 1) := by decide +kernel
theorem dX10_nextToken_34 : decode cX10_nextToken 34 = .ok (.dup, 1) := by decide +kernel
theorem dX10_nextToken_35 : decode cX10_nextToken 35 = .ok (.getfield 68, 3) := by decide +kernel
theorem dX10_nextToken_38 : decode cX10_nextToken 38 = .ok (.iconst 1, 1) := by decide +kernel
theorem dX10_nextToken_39 : decode cX10_nextToken 39 = .ok (.iadd, 1) := by decide +kernel
theorem dX10_nextToken_40 : decode cX10_nextToken 40 = .ok (.putfield 68, 3) := by decide +kernel
theorem dX10_nextToken_43 : decode cX10_nextToken 43 = .ok (.goto (-35), 3) := by decide +kernel
theorem dX10_nextToken_46 : decode cX10_nextToken 46 = .ok (.aload_n 0, 1) := by decide +kernel
theorem dX10_nextToken_47 : decode cX10_nextToken 47 = .ok (.aload_n 0, 1) := by decide +kernel
theorem dX10_nextToken_48 : decode cX10_nextToken 48 = .ok (.getfield 68, 3) := by decide +kernel
theorem dX10_nextToken_51 : decode cX10_nextToken 51 = .ok (.aload_n 0, 1) := by decide +kernel
theorem dX10_nextToken_52 : decode cX10_nextToken 52 = .ok (.getfield 54, 3) := by decide +kernel
theorem dX10_nextToken_55 : decode cX10_nextToken 55 = .ok (.if_icmp .ge 12, 3) := by decide +kernel
theorem dX10_nextToken_58 : decode cX10_nextToken 58 = .ok (.aload_n 0, 1) := by decide +kernel
theorem dX10_nextToken_59 : decode cX10_nextToken 59 = .ok (.getfield 68, 3) := by decide +kernel
theorem dX10_nextToken_62 : decode cX10_nextToken 62 = .ok (.iconst 1, 1) := by decide +kernel
theorem dX10_nextToken_63 : decode cX10_nextToken 63 = .ok (.iadd, 1) := by decide +kernel
theorem dX10_nextToken_64 : decode cX10_nextToken 64 = .ok (.goto 7, 3) := by decide +kernel
theorem dX10_nextToken_67 : decode cX10_nextToken 67 = .ok (.aload_n 0, 1) := by decide +kernel
theorem dX10_nextToken_68 : decode cX10_nextToken 68 = .ok (.getfield 68, 3) := by decide +kernel
theorem dX10_nextToken_71 : decode cX10_nextToken 71 = .ok (.putfield 65, 3) := by decide +kernel
theorem dX10_nextToken_74 : decode cX10_nextToken 74 = .ok (.aload_n 0, 1) := by decide +kernel
theorem dX10_nextToken_75 : decode cX10_nextToken 75 = .ok (.getfield 68, 3) := by decide +kernel
theorem dX10_nextToken_78 : decode cX10_nextToken 78 = .ok (.aload_n 0, 1) := by decide +kernel
theorem dX10_nextToken_79 : decode cX10_nextToken 79 = .ok (.getfield 54, 3) := by decide +kernel
theorem dX10_nextToken_82 : decode cX10_nextToken 82 = .ok (.if_icmp .ge 57, 3) := by decide +kernel
theorem dX10_nextToken_85 : decode cX10_nextToken 85 = .ok (.aload_n 0, 1) := by decide +kernel
theorem dX10_nextToken_86 : decode cX10_nextToken 86 = .ok (.getfield 24, 3) := by decide +kernel
theorem dX10_nextToken_89 : decode cX10_nextToken 89 = .ok (.aload_n 0, 1) := by decide +kernel
theorem dX10_nextToken_90 : decode cX10_nextToken 90 = .ok (.getfield 68, 3) := by decide +kernel
theorem dX10_nextToken_93 : decode cX10_nextToken 93 = .ok (.iaload, 1) := by decide +kernel
theorem dX10_nextToken_94 : decode cX10_nextToken 94 = .ok (.invokestatic 71, 3) := by decide +kernel
theorem dX10_nextToken_97 : decode cX10_nextToken 97 = .ok (.ifCond .eq 42, 3) := by decide +kernel
theorem dX10_nextToken_100 : decode cX10_nextToken 100 = .ok (.aload_n 0, 1) := by decide +kernel
theorem dX10_nextToken_101 : decode cX10_nextToken 101 = .ok (.getfield 65, 3) := by decide +kernel
theorem dX10_nextToken_104 : decode cX10_nextToken 104 = .ok (.aload_n 0, 1) := by decide +kernel
theorem dX10_nextToken_105 : decode cX10_nextToken 105 = .ok (.getfield 54, 3) := by decide +kernel
theorem dX10_nextToken_108 : decode cX10_nextToken 108 = .ok (.if_icmp .ge 96, 3) := by decide +kernel
theorem dX10_nextToken_111 : decode cX10_nextToken 111 = .ok (.aload_n 0, 1) := by decide +kernel
theorem dX10_nextToken_112 : decode cX10_nextToken 112 = .ok (.getfield 24, 3) := by decide +kernel
theorem dX10_nextToken_115 : decode cX10_nextToken 115 = .ok (.aload_n 0, 1) := by decide +kernel
theorem dX10_nextToken_116 : decode cX10_nextToken 116 = .ok (.getfield 65, 3) := by decide +kernel
theorem dX10_nextToken_119 : decode cX10_nextToken 119 = .ok (.iaload, 1) := by decide +kernel
theorem dX10_nextToken_120 : decode cX10_nextToken 120 = .ok (.invokestatic 71, 3) := by decide +kernel
theorem dX10_nextToken_123 : decode cX10_nextToken 123 = .ok (.ifCond .eq 81, 3) := by decide +kernel
theorem dX10_nextToken_126 : decode cX10_nextToken 126 = .ok (.aload_n 0, 1) := by decide +kernel
theorem dX10_nextToken_127 : decode cX10_nextToken 127 = .ok (.dup, 1) := by decide +kernel
theorem dX10_nextToken_128 : decode cX10_nextToken 128 = .ok (.getfield 65, 3) := by decide +kernel
theorem dX10_nextToken_131 : decode cX10_nextToken 131 = .ok (.iconst 1, 1) := by decide +kernel
theorem dX10_nextToken_132 : decode cX10_nextToken 132 = .ok (.iadd, 1) := by decide +kernel
theorem dX10_nextToken_133 : decode cX10_nextToken 133 = .ok (.putfield 65, 3) := by decide +kernel
theorem dX10_nextToken_136 : decode cX10_nextToken 136 = .ok (.goto (-36), 3) := by decide +kernel
theorem dX10_nextToken_139 : decode cX10_nextToken 139 = .ok (.aload_n 0, 1) := by decide +kernel
theorem dX10_nextToken_140 : decode cX10_nextToken 140 = .ok (.getfield 68, 3) := by decide +kernel
theorem dX10_nextToken_143 : decode cX10_nextToken 143 = .ok (.aload_n 0, 1) := by decide +kernel
theorem dX10_nextToken_144 : decode cX10_nextToken 144 = .ok (.getfield 54, 3) := by decide +kernel
theorem dX10_nextToken_147 : decode cX10_nextToken 147 = .ok (.if_icmp .ge 57, 3) := by decide +kernel
theorem dX10_nextToken_150 : decode cX10_nextToken 150 = .ok (.aload_n 0, 1) := by decide +kernel
theorem dX10_nextToken_151 : decode cX10_nextToken 151 = .ok (.getfield 24, 3) := by decide +kernel
theorem dX10_nextToken_154 : decode cX10_nextToken 154 = .ok (.aload_n 0, 1) := by decide +kernel
theorem dX10_nextToken_155 : decode cX10_nextToken 155 = .ok (.getfield 68, 3) := by decide +kernel
theorem dX10_nextToken_158 : decode cX10_nextToken 158 = .ok (.iaload, 1) := by decide +kernel
theorem dX10_nextToken_159 : decode cX10_nextToken 159 = .ok (.invokestatic 75, 3) := by decide +kernel
theorem dX10_nextToken_162 : decode cX10_nextToken 162 = .ok (.ifCond .eq 42, 3) := by decide +kernel
theorem dX10_nextToken_165 : decode cX10_nextToken 165 = .ok (.aload_n 0, 1) := by decide +kernel
theorem dX10_nextToken_166 : decode cX10_nextToken 166 = .ok (.getfield 65, 3) := by decide +kernel
theorem dX10_nextToken_169 : decode cX10_nextToken 169 = .ok (.aload_n 0, 1) := by decide +kernel
theorem dX10_nextToken_170 : decode cX10_nextToken 170 = .ok (.getfield 54, 3) := by decide +kernel
theorem dX10_nextToken_173 : decode cX10_nextToken 173 = .ok (.if_icmp .ge 31, 3) := by decide +kernel
theorem dX10_nextToken_176 : decode cX10_nextToken 176 = .ok (.aload_n 0, 1) := by decide +kernel
theorem dX10_nextToken_177 : decode cX10_nextToken 177 = .ok (.getfield 24, 3) := by decide +kernel
theorem dX10_nextToken_180 : decode cX10_nextToken 180 = .ok (.aload_n 0, 1) := by decide +kernel
theorem dX10_nextToken_181 : decode cX10_nextToken 181 = .ok (.getfield 65, 3) := by decide +kernel
theorem dX10_nextToken_184 : decode cX10_nextToken 184 = .ok (.iaload, 1) := by decide +kernel
theorem dX10_nextToken_185 : decode cX10_nextToken 185 = .ok (.invokestatic 75, 3) := by decide +kernel
theorem dX10_nextToken_188 : decode cX10_nextToken 188 = .ok (.ifCond .eq 16, 3) := by decide +kernel
theorem dX10_nextToken_191 : decode cX10_nextToken 191 = .ok (.aload_n 0, 1) := by decide +kernel
theorem dX10_nextToken_192 : decode cX10_nextToken 192 = .ok (.dup, 1) := by decide +kernel
theorem dX10_nextToken_193 : decode cX10_nextToken 193 = .ok (.getfield 65, 3) := by decide +kernel
theorem dX10_nextToken_196 : decode cX10_nextToken 196 = .ok (.iconst 1, 1) := by decide +kernel
theorem dX10_nextToken_197 : decode cX10_nextToken 197 = .ok (.iadd, 1) := by decide +kernel
theorem dX10_nextToken_198 : decode cX10_nextToken 198 = .ok (.putfield 65, 3) := by decide +kernel
theorem dX10_nextToken_201 : decode cX10_nextToken 201 = .ok (.goto (-36), 3) := by decide +kernel
theorem dX10_nextToken_204 : decode cX10_nextToken 204 = .ok (.return_, 1) := by decide +kernel
theorem dX10_wordHere_0 : decode cX10_wordHere 0 = .ok (.iconst 0, 1) := by decide +kernel
theorem dX10_wordHere_1 : decode cX10_wordHere 1 = .ok (.istore_n 1, 1) := by decide +kernel
theorem dX10_wordHere_2 : decode cX10_wordHere 2 = .ok (.iload_n 1, 1) := by decide +kernel
theorem dX10_wordHere_3 : decode cX10_wordHere 3 = .ok (.iconst 2, 1) := by decide +kernel
theorem dX10_wordHere_4 : decode cX10_wordHere 4 = .ok (.if_icmp .gt 110, 3) := by decide +kernel
theorem dX10_wordHere_7 : decode cX10_wordHere 7 = .ok (.aload_n 0, 1) := by decide +kernel
theorem dX10_wordHere_8 : decode cX10_wordHere 8 = .ok (.getfield 65, 3) := by decide +kernel
theorem dX10_wordHere_11 : decode cX10_wordHere 11 = .ok (.aload_n 0, 1) := by decide +kernel
theorem dX10_wordHere_12 : decode cX10_wordHere 12 = .ok (.getfield 68, 3) := by decide +kernel
theorem dX10_wordHere_15 : decode cX10_wordHere 15 = .ok (.if_icmp .le 21, 3) := by decide +kernel
theorem dX10_wordHere_18 : decode cX10_wordHere 18 = .ok (.aload_n 0, 1) := by decide +kernel
theorem dX10_wordHere_19 : decode cX10_wordHere 19 = .ok (.getfield 65, 3) := by decide +kernel
theorem dX10_wordHere_22 : decode cX10_wordHere 22 = .ok (.aload_n 0, 1) := by decide +kernel
theorem dX10_wordHere_23 : decode cX10_wordHere 23 = .ok (.getfield 68, 3) := by decide +kernel
theorem dX10_wordHere_26 : decode cX10_wordHere 26 = .ok (.isub, 1) := by decide +kernel
theorem dX10_wordHere_27 : decode cX10_wordHere 27 = .ok (.bipush 6, 2) := by decide +kernel
theorem dX10_wordHere_29 : decode cX10_wordHere 29 = .ok (.if_icmp .ge 7, 3) := by decide +kernel
theorem dX10_wordHere_32 : decode cX10_wordHere 32 = .ok (.iconst 1, 1) := by decide +kernel
theorem dX10_wordHere_33 : decode cX10_wordHere 33 = .ok (.goto 4, 3) := by decide +kernel
theorem dX10_wordHere_36 : decode cX10_wordHere 36 = .ok (.iconst 0, 1) := by decide +kernel
theorem dX10_wordHere_37 : decode cX10_wordHere 37 = .ok (.istore_n 2, 1) := by decide +kernel
theorem dX10_wordHere_38 : decode cX10_wordHere 38 = .ok (.iconst 0, 1) := by decide +kernel
theorem dX10_wordHere_39 : decode cX10_wordHere 39 = .ok (.istore_n 3, 1) := by decide +kernel
theorem dX10_wordHere_40 : decode cX10_wordHere 40 = .ok (.iload_n 3, 1) := by decide +kernel
theorem dX10_wordHere_41 : decode cX10_wordHere 41 = .ok (.iconst 5, 1) := by decide +kernel
theorem dX10_wordHere_42 : decode cX10_wordHere 42 = .ok (.if_icmp .ge 60, 3) := by decide +kernel
theorem dX10_wordHere_45 : decode cX10_wordHere 45 = .ok (.iload_n 2, 1) := by decide +kernel
theorem dX10_wordHere_46 : decode cX10_wordHere 46 = .ok (.ifCond .eq 56, 3) := by decide +kernel
theorem dX10_wordHere_49 : decode cX10_wordHere 49 = .ok (.aload_n 0, 1) := by decide +kernel
theorem dX10_wordHere_50 : decode cX10_wordHere 50 = .ok (.getfield 33, 3) := by decide +kernel
theorem dX10_wordHere_53 : decode cX10_wordHere 53 = .ok (.iconst 5, 1) := by decide +kernel
theorem dX10_wordHere_54 : decode cX10_wordHere 54 = .ok (.iload_n 1, 1) := by decide +kernel
theorem dX10_wordHere_55 : decode cX10_wordHere 55 = .ok (.imul, 1) := by decide +kernel
theorem dX10_wordHere_56 : decode cX10_wordHere 56 = .ok (.iload_n 3, 1) := by decide +kernel
theorem dX10_wordHere_57 : decode cX10_wordHere 57 = .ok (.iadd, 1) := by decide +kernel
theorem dX10_wordHere_58 : decode cX10_wordHere 58 = .ok (.iaload, 1) := by decide +kernel
theorem dX10_wordHere_59 : decode cX10_wordHere 59 = .ok (.aload_n 0, 1) := by decide +kernel
theorem dX10_wordHere_60 : decode cX10_wordHere 60 = .ok (.getfield 68, 3) := by decide +kernel
theorem dX10_wordHere_63 : decode cX10_wordHere 63 = .ok (.iload_n 3, 1) := by decide +kernel
theorem dX10_wordHere_64 : decode cX10_wordHere 64 = .ok (.iadd, 1) := by decide +kernel
theorem dX10_wordHere_65 : decode cX10_wordHere 65 = .ok (.aload_n 0, 1) := by decide +kernel
theorem dX10_wordHere_66 : decode cX10_wordHere 66 = .ok (.getfield 65, 3) := by decide +kernel
theorem dX10_wordHere_69 : decode cX10_wordHere 69 = .ok (.if_icmp .ge 17, 3) := by decide +kernel
theorem dX10_wordHere_72 : decode cX10_wordHere 72 = .ok (.aload_n 0, 1) := by decide +kernel
theorem dX10_wordHere_73 : decode cX10_wordHere 73 = .ok (.getfield 24, 3) := by decide +kernel
theorem dX10_wordHere_76 : decode cX10_wordHere 76 = .ok (.aload_n 0, 1) := by decide +kernel
theorem dX10_wordHere_77 : decode cX10_wordHere 77 = .ok (.getfield 68, 3) := by decide +kernel
theorem dX10_wordHere_80 : decode cX10_wordHere 80 = .ok (.iload_n 3, 1) := by decide +kernel
theorem dX10_wordHere_81 : decode cX10_wordHere 81 = .ok (.iadd, 1) := by decide +kernel
theorem dX10_wordHere_82 : decode cX10_wordHere 82 = .ok (.iaload, 1) := by decide +kernel
theorem dX10_wordHere_83 : decode cX10_wordHere 83 = .ok (.goto 4, 3) := by decide +kernel
theorem dX10_wordHere_86 : decode cX10_wordHere 86 = .ok (.iconst 0, 1) := by decide +kernel
theorem dX10_wordHere_87 : decode cX10_wordHere 87 = .ok (.if_icmp .ne 7, 3) := by decide +kernel
theorem dX10_wordHere_90 : decode cX10_wordHere 90 = .ok (.iconst 1, 1) := by decide +kernel
theorem dX10_wordHere_91 : decode cX10_wordHere 91 = .ok (.goto 4, 3) := by decide +kernel
theorem dX10_wordHere_94 : decode cX10_wordHere 94 = .ok (.iconst 0, 1) := by decide +kernel
theorem dX10_wordHere_95 : decode cX10_wordHere 95 = .ok (.istore_n 2, 1) := by decide +kernel
theorem dX10_wordHere_96 : decode cX10_wordHere 96 = .ok (.iinc 3 1, 3) := by decide +kernel
theorem dX10_wordHere_99 : decode cX10_wordHere 99 = .ok (.goto (-59), 3) := by decide +kernel
theorem dX10_wordHere_102 : decode cX10_wordHere 102 = .ok (.iload_n 2, 1) := by decide +kernel
theorem dX10_wordHere_103 : decode cX10_wordHere 103 = .ok (.ifCond .eq 5, 3) := by decide +kernel
theorem dX10_wordHere_106 : decode cX10_wordHere 106 = .ok (.iload_n 1, 1) := by decide +kernel
theorem dX10_wordHere_107 : decode cX10_wordHere 107 = .ok (.ireturn, 1) := by decide +kernel
theorem dX10_wordHere_108 : decode cX10_wordHere 108 = .ok (.iinc 1 1, 3) := by decide +kernel
theorem dX10_wordHere_111 : decode cX10_wordHere 111 = .ok (.goto (-109), 3) := by decide +kernel
theorem dX10_wordHere_114 : decode cX10_wordHere 114 = .ok (.iconst (-1), 1) := by decide +kernel
theorem dX10_wordHere_115 : decode cX10_wordHere 115 = .ok (.ireturn, 1) := by decide +kernel
theorem dX10_numberHere_0 : decode cX10_numberHere 0 = .ok (.aload_n 0, 1) := by decide +kernel
theorem dX10_numberHere_1 : decode cX10_numberHere 1 = .ok (.getfield 68, 3) := by decide +kernel
theorem dX10_numberHere_4 : decode cX10_numberHere 4 = .ok (.aload_n 0, 1) := by decide +kernel
theorem dX10_numberHere_5 : decode cX10_numberHere 5 = .ok (.getfield 54, 3) := by decide +kernel
theorem dX10_numberHere_8 : decode cX10_numberHere 8 = .ok (.if_icmp .eq 31, 3) := by decide +kernel
theorem dX10_numberHere_11 : decode cX10_numberHere 11 = .ok (.aload_n 0, 1) := by decide +kernel
theorem dX10_numberHere_12 : decode cX10_numberHere 12 = .ok (.getfield 24, 3) := by decide +kernel
theorem dX10_numberHere_15 : decode cX10_numberHere 15 = .ok (.aload_n 0, 1) := by decide +kernel
theorem dX10_numberHere_16 : decode cX10_numberHere 16 = .ok (.getfield 68, 3) := by decide +kernel
theorem dX10_numberHere_19 : decode cX10_numberHere 19 = .ok (.iaload, 1) := by decide +kernel
theorem dX10_numberHere_20 : decode cX10_numberHere 20 = .ok (.invokestatic 75, 3) := by decide +kernel
theorem dX10_numberHere_23 : decode cX10_numberHere 23 = .ok (.ifCond .eq 16, 3) := by decide +kernel
theorem dX10_numberHere_26 : decode cX10_numberHere 26 = .ok (.aload_n 0, 1) := by decide +kernel
theorem dX10_numberHere_27 : decode cX10_numberHere 27 = .ok (.getfield 65, 3) := by decide +kernel
theorem dX10_numberHere_30 : decode cX10_numberHere 30 = .ok (.aload_n 0, 1) := by decide +kernel
theorem dX10_numberHere_31 : decode cX10_numberHere 31 = .ok (.getfield 68, 3) := by decide +kernel
theorem dX10_numberHere_34 : decode cX10_numberHere 34 = .ok (.isub, 1) := by decide +kernel
theorem dX10_numberHere_35 : decode cX10_numberHere 35 = .ok (.iconst 2, 1) := by decide +kernel
theorem dX10_numberHere_36 : decode cX10_numberHere 36 = .ok (.if_icmp .le 5, 3) := by decide +kernel
theorem dX10_numberHere_39 : decode cX10_numberHere 39 = .ok (.iconst (-1), 1) := by decide +kernel
theorem dX10_numberHere_40 : decode cX10_numberHere 40 = .ok (.ireturn, 1) := by decide +kernel
theorem dX10_numberHere_41 : decode cX10_numberHere 41 = .ok (.iconst 0, 1) := by decide +kernel
theorem dX10_numberHere_42 : decode cX10_numberHere 42 = .ok (.istore_n 1, 1) := by decide +kernel
theorem dX10_numberHere_43 : decode cX10_numberHere 43 = .ok (.aload_n 0, 1) := by decide +kernel
theorem dX10_numberHere_44 : decode cX10_numberHere 44 = .ok (.getfield 68, 3) := by decide +kernel
theorem dX10_numberHere_47 : decode cX10_numberHere 47 = .ok (.istore_n 2, 1) := by decide +kernel
theorem dX10_numberHere_48 : decode cX10_numberHere 48 = .ok (.iload_n 2, 1) := by decide +kernel
theorem dX10_numberHere_49 : decode cX10_numberHere 49 = .ok (.aload_n 0, 1) := by decide +kernel
theorem dX10_numberHere_50 : decode cX10_numberHere 50 = .ok (.getfield 65, 3) := by decide +kernel
theorem dX10_numberHere_53 : decode cX10_numberHere 53 = .ok (.if_icmp .ge 24, 3) := by decide +kernel
theorem dX10_numberHere_56 : decode cX10_numberHere 56 = .ok (.bipush 10, 2) := by decide +kernel
theorem dX10_numberHere_58 : decode cX10_numberHere 58 = .ok (.iload_n 1, 1) := by decide +kernel
theorem dX10_numberHere_59 : decode cX10_numberHere 59 = .ok (.imul, 1) := by decide +kernel
theorem dX10_numberHere_60 : decode cX10_numberHere 60 = .ok (.aload_n 0, 1) := by decide +kernel
theorem dX10_numberHere_61 : decode cX10_numberHere 61 = .ok (.getfield 24, 3) := by decide +kernel
theorem dX10_numberHere_64 : decode cX10_numberHere 64 = .ok (.iload_n 2, 1) := by decide +kernel
theorem dX10_numberHere_65 : decode cX10_numberHere 65 = .ok (.iaload, 1) := by decide +kernel
theorem dX10_numberHere_66 : decode cX10_numberHere 66 = .ok (.iadd, 1) := by decide +kernel
theorem dX10_numberHere_67 : decode cX10_numberHere 67 = .ok (.bipush 48, 2) := by decide +kernel
theorem dX10_numberHere_69 : decode cX10_numberHere 69 = .ok (.isub, 1) := by decide +kernel
theorem dX10_numberHere_70 : decode cX10_numberHere 70 = .ok (.istore_n 1, 1) := by decide +kernel
theorem dX10_numberHere_71 : decode cX10_numberHere 71 = .ok (.iinc 2 1, 3) := by decide +kernel
theorem dX10_numberHere_74 : decode cX10_numberHere 74 = .ok (.goto (-26), 3) := by decide +kernel
theorem dX10_numberHere_77 : decode cX10_numberHere 77 = .ok (.iload_n 1, 1) := by decide +kernel
theorem dX10_numberHere_78 : decode cX10_numberHere 78 = .ok (.ireturn, 1) := by decide +kernel
theorem dX10_number_0 : decode cX10_number 0 = .ok (.aload_n 0, 1) := by decide +kernel
theorem dX10_number_1 : decode cX10_number 1 = .ok (.invokevirtual 78, 3) := by decide +kernel
theorem dX10_number_4 : decode cX10_number 4 = .ok (.istore 4, 2) := by decide +kernel
theorem dX10_number_6 : decode cX10_number 6 = .ok (.iload 4, 2) := by decide +kernel
theorem dX10_number_8 : decode cX10_number 8 = .ok (.ifCond .lt 16, 3) := by decide +kernel
theorem dX10_number_11 : decode cX10_number 11 = .ok (.iload 4, 2) := by decide +kernel
theorem dX10_number_13 : decode cX10_number 13 = .ok (.i2l, 1) := by decide +kernel
theorem dX10_number_14 : decode cX10_number 14 = .ok (.iload_n 2, 1) := by decide +kernel
theorem dX10_number_15 : decode cX10_number 15 = .ok (.i2l, 1) := by decide +kernel
theorem dX10_number_16 : decode cX10_number 16 = .ok (.iload_n 3, 1) := by decide +kernel
theorem dX10_number_17 : decode cX10_number 17 = .ok (.i2l, 1) := by decide +kernel
theorem dX10_number_18 : decode cX10_number 18 = .ok (.invokestatic 48, 3) := by decide +kernel
theorem dX10_number_21 : decode cX10_number 21 = .ok (.ifCond .ne 5, 3) := by decide +kernel
theorem dX10_number_24 : decode cX10_number 24 = .ok (.iconst 0, 1) := by decide +kernel
theorem dX10_number_25 : decode cX10_number 25 = .ok (.ireturn, 1) := by decide +kernel
theorem dX10_number_26 : decode cX10_number 26 = .ok (.aload_n 0, 1) := by decide +kernel
theorem dX10_number_27 : decode cX10_number 27 = .ok (.getfield 30, 3) := by decide +kernel
theorem dX10_number_30 : decode cX10_number 30 = .ok (.iload_n 1, 1) := by decide +kernel
theorem dX10_number_31 : decode cX10_number 31 = .ok (.iload 4, 2) := by decide +kernel
theorem dX10_number_33 : decode cX10_number 33 = .ok (.iastore, 1) := by decide +kernel
theorem dX10_number_34 : decode cX10_number 34 = .ok (.aload_n 0, 1) := by decide +kernel
theorem dX10_number_35 : decode cX10_number 35 = .ok (.invokevirtual 82, 3) := by decide +kernel
theorem dX10_number_38 : decode cX10_number 38 = .ok (.iconst 1, 1) := by decide +kernel
theorem dX10_number_39 : decode cX10_number 39 = .ok (.ireturn, 1) := by decide +kernel
theorem dX10_otherNode_0 : decode cX10_otherNode 0 = .ok (.aload_n 0, 1) := by decide +kernel
theorem dX10_otherNode_1 : decode cX10_otherNode 1 = .ok (.getfield 30, 3) := by decide +kernel
theorem dX10_otherNode_4 : decode cX10_otherNode 4 = .ok (.iconst 0, 1) := by decide +kernel
theorem dX10_otherNode_5 : decode cX10_otherNode 5 = .ok (.iaload, 1) := by decide +kernel
theorem dX10_otherNode_6 : decode cX10_otherNode 6 = .ok (.istore_n 1, 1) := by decide +kernel
theorem dX10_otherNode_7 : decode cX10_otherNode 7 = .ok (.aload_n 0, 1) := by decide +kernel
theorem dX10_otherNode_8 : decode cX10_otherNode 8 = .ok (.invokevirtual 78, 3) := by decide +kernel
theorem dX10_otherNode_11 : decode cX10_otherNode 11 = .ok (.istore_n 2, 1) := by decide +kernel
theorem dX10_otherNode_12 : decode cX10_otherNode 12 = .ok (.iload_n 2, 1) := by decide +kernel
theorem dX10_otherNode_13 : decode cX10_otherNode 13 = .ok (.i2l, 1) := by decide +kernel
theorem dX10_otherNode_14 : decode cX10_otherNode 14 = .ok (.lconst 0, 1) := by decide +kernel
theorem dX10_otherNode_15 : decode cX10_otherNode 15 = .ok (.aload_n 0, 1) := by decide +kernel
theorem dX10_otherNode_16 : decode cX10_otherNode 16 = .ok (.getfield 85, 3) := by decide +kernel
theorem dX10_otherNode_19 : decode cX10_otherNode 19 = .ok (.iconst 1, 1) := by decide +kernel
theorem dX10_otherNode_20 : decode cX10_otherNode 20 = .ok (.isub, 1) := by decide +kernel
theorem dX10_otherNode_21 : decode cX10_otherNode 21 = .ok (.i2l, 1) := by decide +kernel
theorem dX10_otherNode_22 : decode cX10_otherNode 22 = .ok (.invokestatic 48, 3) := by decide +kernel
theorem dX10_otherNode_25 : decode cX10_otherNode 25 = .ok (.ifCond .eq 35, 3) := by decide +kernel
theorem dX10_otherNode_28 : decode cX10_otherNode 28 = .ok (.iload_n 2, 1) := by decide +kernel
theorem dX10_otherNode_29 : decode cX10_otherNode 29 = .ok (.iload_n 1, 1) := by decide +kernel
theorem dX10_otherNode_30 : decode cX10_otherNode 30 = .ok (.if_icmp .eq 30, 3) := by decide +kernel
theorem dX10_otherNode_33 : decode cX10_otherNode 33 = .ok (.aload_n 0, 1) := by decide +kernel
theorem dX10_otherNode_34 : decode cX10_otherNode 34 = .ok (.getfield 27, 3) := by decide +kernel
theorem dX10_otherNode_37 : decode cX10_otherNode 37 = .ok (.bipush 12, 2) := by decide +kernel
theorem dX10_otherNode_39 : decode cX10_otherNode 39 = .ok (.iload_n 1, 1) := by decide +kernel
theorem dX10_otherNode_40 : decode cX10_otherNode 40 = .ok (.imul, 1) := by decide +kernel
theorem dX10_otherNode_41 : decode cX10_otherNode 41 = .ok (.iload_n 2, 1) := by decide +kernel
theorem dX10_otherNode_42 : decode cX10_otherNode 42 = .ok (.iadd, 1) := by decide +kernel
theorem dX10_otherNode_43 : decode cX10_otherNode 43 = .ok (.baload, 1) := by decide +kernel
theorem dX10_otherNode_44 : decode cX10_otherNode 44 = .ok (.ifCond .ne 12, 3) := by decide +kernel
theorem dX10_otherNode_47 : decode cX10_otherNode 47 = .ok (.aload_n 0, 1) := by decide +kernel
theorem dX10_otherNode_48 : decode cX10_otherNode 48 = .ok (.getfield 88, 3) := by decide +kernel
theorem dX10_otherNode_51 : decode cX10_otherNode 51 = .ok (.bipush 30, 2) := by decide +kernel
theorem dX10_otherNode_53 : decode cX10_otherNode 53 = .ok (.if_icmp .ge 7, 3) := by decide +kernel
theorem dX10_otherNode_56 : decode cX10_otherNode 56 = .ok (.iconst 1, 1) := by decide +kernel
theorem dX10_otherNode_57 : decode cX10_otherNode 57 = .ok (.goto 4, 3) := by decide +kernel
theorem dX10_otherNode_60 : decode cX10_otherNode 60 = .ok (.iconst 0, 1) := by decide +kernel
theorem dX10_otherNode_61 : decode cX10_otherNode 61 = .ok (.istore_n 3, 1) := by decide +kernel
theorem dX10_otherNode_62 : decode cX10_otherNode 62 = .ok (.iload_n 3, 1) := by decide +kernel
theorem dX10_otherNode_63 : decode cX10_otherNode 63 = .ok (.ifCond .eq 22, 3) := by decide +kernel
theorem dX10_otherNode_66 : decode cX10_otherNode 66 = .ok (.aload_n 0, 1) := by decide +kernel
theorem dX10_otherNode_67 : decode cX10_otherNode 67 = .ok (.iconst 1, 1) := by decide +kernel
theorem dX10_otherNode_68 : decode cX10_otherNode 68 = .ok (.iconst 0, 1) := by decide +kernel
theorem dX10_otherNode_69 : decode cX10_otherNode 69 = .ok (.aload_n 0, 1) := by decide +kernel
theorem dX10_otherNode_70 : decode cX10_otherNode 70 = .ok (.getfield 85, 3) := by decide +kernel
theorem dX10_otherNode_73 : decode cX10_otherNode 73 = .ok (.iconst 1, 1) := by decide +kernel
theorem dX10_otherNode_74 : decode cX10_otherNode 74 = .ok (.isub, 1) := by decide +kernel
theorem dX10_otherNode_75 : decode cX10_otherNode 75 = .ok (.invokevirtual 91, 3) := by decide +kernel
theorem dX10_otherNode_78 : decode cX10_otherNode 78 = .ok (.ifCond .eq 7, 3) := by decide +kernel
theorem dX10_otherNode_81 : decode cX10_otherNode 81 = .ok (.iconst 1, 1) := by decide +kernel
theorem dX10_otherNode_82 : decode cX10_otherNode 82 = .ok (.goto 4, 3) := by decide +kernel
theorem dX10_otherNode_85 : decode cX10_otherNode 85 = .ok (.iconst 0, 1) := by decide +kernel
theorem dX10_otherNode_86 : decode cX10_otherNode 86 = .ok (.ireturn, 1) := by decide +kernel
theorem dX10_tellsNet_0 : decode cX10_tellsNet 0 = .ok (.aload_n 0, 1) := by decide +kernel
theorem dX10_tellsNet_1 : decode cX10_tellsNet 1 = .ok (.aload_n 0, 1) := by decide +kernel
theorem dX10_tellsNet_2 : decode cX10_tellsNet 2 = .ok (.getfield 30, 3) := by decide +kernel
theorem dX10_tellsNet_5 : decode cX10_tellsNet 5 = .ok (.iconst 0, 1) := by decide +kernel
theorem dX10_tellsNet_6 : decode cX10_tellsNet 6 = .ok (.iaload, 1) := by decide +kernel
theorem dX10_tellsNet_7 : decode cX10_tellsNet 7 = .ok (.putfield 85, 3) := by decide +kernel
theorem dX10_tellsNet_10 : decode cX10_tellsNet 10 = .ok (.aload_n 0, 1) := by decide +kernel
theorem dX10_tellsNet_11 : decode cX10_tellsNet 11 = .ok (.iconst 0, 1) := by decide +kernel
theorem dX10_tellsNet_12 : decode cX10_tellsNet 12 = .ok (.putfield 88, 3) := by decide +kernel
theorem dX10_tellsNet_15 : decode cX10_tellsNet 15 = .ok (.iconst 0, 1) := by decide +kernel
theorem dX10_tellsNet_16 : decode cX10_tellsNet 16 = .ok (.istore_n 1, 1) := by decide +kernel
theorem dX10_tellsNet_17 : decode cX10_tellsNet 17 = .ok (.iload_n 1, 1) := by decide +kernel
theorem dX10_tellsNet_18 : decode cX10_tellsNet 18 = .ok (.sipush 144, 3) := by decide +kernel
theorem dX10_tellsNet_21 : decode cX10_tellsNet 21 = .ok (.if_icmp .ge 16, 3) := by decide +kernel
theorem dX10_tellsNet_24 : decode cX10_tellsNet 24 = .ok (.aload_n 0, 1) := by decide +kernel
theorem dX10_tellsNet_25 : decode cX10_tellsNet 25 = .ok (.getfield 27, 3) := by decide +kernel
theorem dX10_tellsNet_28 : decode cX10_tellsNet 28 = .ok (.iload_n 1, 1) := by decide +kernel
theorem dX10_tellsNet_29 : decode cX10_tellsNet 29 = .ok (.iconst 0, 1) := by decide +kernel
theorem dX10_tellsNet_30 : decode cX10_tellsNet 30 = .ok (.bastore, 1) := by decide +kernel
theorem dX10_tellsNet_31 : decode cX10_tellsNet 31 = .ok (.iinc 1 1, 3) := by decide +kernel
theorem dX10_tellsNet_34 : decode cX10_tellsNet 34 = .ok (.goto (-17), 3) := by decide +kernel
theorem dX10_tellsNet_37 : decode cX10_tellsNet 37 = .ok (.return_, 1) := by decide +kernel
theorem dX10_tellsLink_0 : decode cX10_tellsLink 0 = .ok (.aload_n 0, 1) := by decide +kernel
theorem dX10_tellsLink_1 : decode cX10_tellsLink 1 = .ok (.getfield 30, 3) := by decide +kernel
theorem dX10_tellsLink_4 : decode cX10_tellsLink 4 = .ok (.iconst 0, 1) := by decide +kernel
theorem dX10_tellsLink_5 : decode cX10_tellsLink 5 = .ok (.iaload, 1) := by decide +kernel
theorem dX10_tellsLink_6 : decode cX10_tellsLink 6 = .ok (.istore_n 1, 1) := by decide +kernel
theorem dX10_tellsLink_7 : decode cX10_tellsLink 7 = .ok (.aload_n 0, 1) := by decide +kernel
theorem dX10_tellsLink_8 : decode cX10_tellsLink 8 = .ok (.getfield 30, 3) := by decide +kernel
theorem dX10_tellsLink_11 : decode cX10_tellsLink 11 = .ok (.iconst 1, 1) := by decide +kernel
theorem dX10_tellsLink_12 : decode cX10_tellsLink 12 = .ok (.iaload, 1) := by decide +kernel
theorem dX10_tellsLink_13 : decode cX10_tellsLink 13 = .ok (.istore_n 2, 1) := by decide +kernel
theorem dX10_tellsLink_14 : decode cX10_tellsLink 14 = .ok (.aload_n 0, 1) := by decide +kernel
theorem dX10_tellsLink_15 : decode cX10_tellsLink 15 = .ok (.dup, 1) := by decide +kernel
theorem dX10_tellsLink_16 : decode cX10_tellsLink 16 = .ok (.getfield 88, 3) := by decide +kernel
theorem dX10_tellsLink_19 : decode cX10_tellsLink 19 = .ok (.aload_n 0, 1) := by decide +kernel
theorem dX10_tellsLink_20 : decode cX10_tellsLink 20 = .ok (.getfield 27, 3) := by decide +kernel
theorem dX10_tellsLink_23 : decode cX10_tellsLink 23 = .ok (.bipush 12, 2) := by decide +kernel
theorem dX10_tellsLink_25 : decode cX10_tellsLink 25 = .ok (.iload_n 1, 1) := by decide +kernel
theorem dX10_tellsLink_26 : decode cX10_tellsLink 26 = .ok (.imul, 1) := by decide +kernel
theorem dX10_tellsLink_27 : decode cX10_tellsLink 27 = .ok (.iload_n 2, 1) := by decide +kernel
theorem dX10_tellsLink_28 : decode cX10_tellsLink 28 = .ok (.iadd, 1) := by decide +kernel
theorem dX10_tellsLink_29 : decode cX10_tellsLink 29 = .ok (.baload, 1) := by decide +kernel
theorem dX10_tellsLink_30 : decode cX10_tellsLink 30 = .ok (.ifCond .eq 7, 3) := by decide +kernel
theorem dX10_tellsLink_33 : decode cX10_tellsLink 33 = .ok (.iconst 0, 1) := by decide +kernel
theorem dX10_tellsLink_34 : decode cX10_tellsLink 34 = .ok (.goto 4, 3) := by decide +kernel
theorem dX10_tellsLink_37 : decode cX10_tellsLink 37 = .ok (.iconst 1, 1) := by decide +kernel
theorem dX10_tellsLink_38 : decode cX10_tellsLink 38 = .ok (.iadd, 1) := by decide +kernel
theorem dX10_tellsLink_39 : decode cX10_tellsLink 39 = .ok (.putfield 88, 3) := by decide +kernel
theorem dX10_tellsLink_42 : decode cX10_tellsLink 42 = .ok (.aload_n 0, 1) := by decide +kernel
theorem dX10_tellsLink_43 : decode cX10_tellsLink 43 = .ok (.getfield 27, 3) := by decide +kernel
theorem dX10_tellsLink_46 : decode cX10_tellsLink 46 = .ok (.bipush 12, 2) := by decide +kernel
theorem dX10_tellsLink_48 : decode cX10_tellsLink 48 = .ok (.iload_n 1, 1) := by decide +kernel
theorem dX10_tellsLink_49 : decode cX10_tellsLink 49 = .ok (.imul, 1) := by decide +kernel
theorem dX10_tellsLink_50 : decode cX10_tellsLink 50 = .ok (.iload_n 2, 1) := by decide +kernel
theorem dX10_tellsLink_51 : decode cX10_tellsLink 51 = .ok (.iadd, 1) := by decide +kernel
theorem dX10_tellsLink_52 : decode cX10_tellsLink 52 = .ok (.iconst 1, 1) := by decide +kernel
theorem dX10_tellsLink_53 : decode cX10_tellsLink 53 = .ok (.bastore, 1) := by decide +kernel
theorem dX10_tellsLink_54 : decode cX10_tellsLink 54 = .ok (.aload_n 0, 1) := by decide +kernel
theorem dX10_tellsLink_55 : decode cX10_tellsLink 55 = .ok (.getfield 27, 3) := by decide +kernel
theorem dX10_tellsLink_58 : decode cX10_tellsLink 58 = .ok (.bipush 12, 2) := by decide +kernel
theorem dX10_tellsLink_60 : decode cX10_tellsLink 60 = .ok (.iload_n 2, 1) := by decide +kernel
theorem dX10_tellsLink_61 : decode cX10_tellsLink 61 = .ok (.imul, 1) := by decide +kernel
theorem dX10_tellsLink_62 : decode cX10_tellsLink 62 = .ok (.iload_n 1, 1) := by decide +kernel
theorem dX10_tellsLink_63 : decode cX10_tellsLink 63 = .ok (.iadd, 1) := by decide +kernel
theorem dX10_tellsLink_64 : decode cX10_tellsLink 64 = .ok (.iconst 1, 1) := by decide +kernel
theorem dX10_tellsLink_65 : decode cX10_tellsLink 65 = .ok (.bastore, 1) := by decide +kernel
theorem dX10_tellsLink_66 : decode cX10_tellsLink 66 = .ok (.return_, 1) := by decide +kernel
theorem dX10_does_0 : decode cX10_does 0 = .ok (.iload_n 1, 1) := by decide +kernel
theorem dX10_does_1 : decode cX10_does 1 = .ok (.ifCond .ne 60, 3) := by decide +kernel
theorem dX10_does_4 : decode cX10_does 4 = .ok (.aload_n 0, 1) := by decide +kernel
theorem dX10_does_5 : decode cX10_does 5 = .ok (.aload_n 0, 1) := by decide +kernel
theorem dX10_does_6 : decode cX10_does 6 = .ok (.getfield 30, 3) := by decide +kernel
theorem dX10_does_9 : decode cX10_does 9 = .ok (.iconst 0, 1) := by decide +kernel
theorem dX10_does_10 : decode cX10_does 10 = .ok (.iaload, 1) := by decide +kernel
theorem dX10_does_11 : decode cX10_does 11 = .ok (.putfield 13, 3) := by decide +kernel
theorem dX10_does_14 : decode cX10_does 14 = .ok (.iconst 0, 1) := by decide +kernel
theorem dX10_does_15 : decode cX10_does 15 = .ok (.istore_n 2, 1) := by decide +kernel
theorem dX10_does_16 : decode cX10_does 16 = .ok (.iload_n 2, 1) := by decide +kernel
theorem dX10_does_17 : decode cX10_does 17 = .ok (.sipush 156, 3) := by decide +kernel
theorem dX10_does_20 : decode cX10_does 20 = .ok (.if_icmp .ge 16, 3) := by decide +kernel
theorem dX10_does_23 : decode cX10_does 23 = .ok (.aload_n 0, 1) := by decide +kernel
theorem dX10_does_24 : decode cX10_does 24 = .ok (.getfield 7, 3) := by decide +kernel
theorem dX10_does_27 : decode cX10_does 27 = .ok (.iload_n 2, 1) := by decide +kernel
theorem dX10_does_28 : decode cX10_does 28 = .ok (.iconst 0, 1) := by decide +kernel
theorem dX10_does_29 : decode cX10_does 29 = .ok (.iastore, 1) := by decide +kernel
theorem dX10_does_30 : decode cX10_does 30 = .ok (.iinc 2 1, 3) := by decide +kernel
theorem dX10_does_33 : decode cX10_does 33 = .ok (.goto (-17), 3) := by decide +kernel
theorem dX10_does_36 : decode cX10_does 36 = .ok (.iconst 0, 1) := by decide +kernel
theorem dX10_does_37 : decode cX10_does 37 = .ok (.istore_n 2, 1) := by decide +kernel
theorem dX10_does_38 : decode cX10_does 38 = .ok (.iload_n 2, 1) := by decide +kernel
theorem dX10_does_39 : decode cX10_does 39 = .ok (.sipush 240, 3) := by decide +kernel
theorem dX10_does_42 : decode cX10_does 42 = .ok (.if_icmp .ge 16, 3) := by decide +kernel
theorem dX10_does_45 : decode cX10_does 45 = .ok (.aload_n 0, 1) := by decide +kernel
theorem dX10_does_46 : decode cX10_does 46 = .ok (.getfield 17, 3) := by decide +kernel
theorem dX10_does_49 : decode cX10_does 49 = .ok (.iload_n 2, 1) := by decide +kernel
theorem dX10_does_50 : decode cX10_does 50 = .ok (.iconst 0, 1) := by decide +kernel
theorem dX10_does_51 : decode cX10_does 51 = .ok (.iastore, 1) := by decide +kernel
theorem dX10_does_52 : decode cX10_does 52 = .ok (.iinc 2 1, 3) := by decide +kernel
theorem dX10_does_55 : decode cX10_does 55 = .ok (.goto (-17), 3) := by decide +kernel
theorem dX10_does_58 : decode cX10_does 58 = .ok (.goto 54, 3) := by decide +kernel
theorem dX10_does_61 : decode cX10_does 61 = .ok (.iload_n 1, 1) := by decide +kernel
theorem dX10_does_62 : decode cX10_does 62 = .ok (.iconst 1, 1) := by decide +kernel
theorem dX10_does_63 : decode cX10_does 63 = .ok (.if_icmp .ne 28, 3) := by decide +kernel
theorem dX10_does_66 : decode cX10_does 66 = .ok (.aload_n 0, 1) := by decide +kernel
theorem dX10_does_67 : decode cX10_does 67 = .ok (.aload_n 0, 1) := by decide +kernel
theorem dX10_does_68 : decode cX10_does 68 = .ok (.getfield 30, 3) := by decide +kernel
theorem dX10_does_71 : decode cX10_does 71 = .ok (.iconst 0, 1) := by decide +kernel
theorem dX10_does_72 : decode cX10_does 72 = .ok (.iaload, 1) := by decide +kernel
theorem dX10_does_73 : decode cX10_does 73 = .ok (.aload_n 0, 1) := by decide +kernel
theorem dX10_does_74 : decode cX10_does 74 = .ok (.getfield 30, 3) := by decide +kernel
theorem dX10_does_77 : decode cX10_does 77 = .ok (.iconst 1, 1) := by decide +kernel
theorem dX10_does_78 : decode cX10_does 78 = .ok (.iaload, 1) := by decide +kernel
theorem dX10_does_79 : decode cX10_does 79 = .ok (.aload_n 0, 1) := by decide +kernel
theorem dX10_does_80 : decode cX10_does 80 = .ok (.getfield 30, 3) := by decide +kernel
theorem dX10_does_83 : decode cX10_does 83 = .ok (.iconst 2, 1) := by decide +kernel
theorem dX10_does_84 : decode cX10_does 84 = .ok (.iaload, 1) := by decide +kernel
theorem dX10_does_85 : decode cX10_does 85 = .ok (.invokevirtual 95, 3) := by decide +kernel
theorem dX10_does_88 : decode cX10_does 88 = .ok (.goto 24, 3) := by decide +kernel
theorem dX10_does_91 : decode cX10_does 91 = .ok (.aload_n 0, 1) := by decide +kernel
theorem dX10_does_92 : decode cX10_does 92 = .ok (.getfield 7, 3) := by decide +kernel
theorem dX10_does_95 : decode cX10_does 95 = .ok (.sipush 144, 3) := by decide +kernel
theorem dX10_does_98 : decode cX10_does 98 = .ok (.aload_n 0, 1) := by decide +kernel
theorem dX10_does_99 : decode cX10_does 99 = .ok (.getfield 30, 3) := by decide +kernel
theorem dX10_does_102 : decode cX10_does 102 = .ok (.iconst 0, 1) := by decide +kernel
theorem dX10_does_103 : decode cX10_does 103 = .ok (.iaload, 1) := by decide +kernel
theorem dX10_does_104 : decode cX10_does 104 = .ok (.iadd, 1) := by decide +kernel
theorem dX10_does_105 : decode cX10_does 105 = .ok (.aload_n 0, 1) := by decide +kernel
theorem dX10_does_106 : decode cX10_does 106 = .ok (.getfield 30, 3) := by decide +kernel
theorem dX10_does_109 : decode cX10_does 109 = .ok (.iconst 1, 1) := by decide +kernel
theorem dX10_does_110 : decode cX10_does 110 = .ok (.iaload, 1) := by decide +kernel
theorem dX10_does_111 : decode cX10_does 111 = .ok (.iastore, 1) := by decide +kernel
theorem dX10_does_112 : decode cX10_does 112 = .ok (.return_, 1) := by decide +kernel
theorem dX10_readsClause_0 : decode cX10_readsClause 0 = .ok (.aload_n 0, 1) := by decide +kernel
theorem dX10_readsClause_1 : decode cX10_readsClause 1 = .ok (.invokevirtual 99, 3) := by decide +kernel
theorem dX10_readsClause_4 : decode cX10_readsClause 4 = .ok (.istore_n 1, 1) := by decide +kernel
theorem dX10_readsClause_5 : decode cX10_readsClause 5 = .ok (.iload_n 1, 1) := by decide +kernel
theorem dX10_readsClause_6 : decode cX10_readsClause 6 = .ok (.iconst (-1), 1) := by decide +kernel
theorem dX10_readsClause_7 : decode cX10_readsClause 7 = .ok (.if_icmp .ne 5, 3) := by decide +kernel
theorem dX10_readsClause_10 : decode cX10_readsClause 10 = .ok (.iconst 0, 1) := by decide +kernel
theorem dX10_readsClause_11 : decode cX10_readsClause 11 = .ok (.ireturn, 1) := by decide +kernel
theorem dX10_readsClause_12 : decode cX10_readsClause 12 = .ok (.aload_n 0, 1) := by decide +kernel
theorem dX10_readsClause_13 : decode cX10_readsClause 13 = .ok (.invokevirtual 82, 3) := by decide +kernel
theorem dX10_readsClause_16 : decode cX10_readsClause 16 = .ok (.iload_n 1, 1) := by decide +kernel
theorem dX10_readsClause_17 : decode cX10_readsClause 17 = .ok (.ifCond .ne 14, 3) := by decide +kernel
theorem dX10_readsClause_20 : decode cX10_readsClause 20 = .ok (.aload_n 0, 1) := by decide +kernel
theorem dX10_readsClause_21 : decode cX10_readsClause 21 = .ok (.iconst 0, 1) := by decide +kernel
theorem dX10_readsClause_22 : decode cX10_readsClause 22 = .ok (.iconst 2, 1) := by decide +kernel
theorem dX10_readsClause_23 : decode cX10_readsClause 23 = .ok (.bipush 12, 2) := by decide +kernel
theorem dX10_readsClause_25 : decode cX10_readsClause 25 = .ok (.invokevirtual 91, 3) := by decide +kernel
theorem dX10_readsClause_28 : decode cX10_readsClause 28 = .ok (.goto 79, 3) := by decide +kernel
theorem dX10_readsClause_31 : decode cX10_readsClause 31 = .ok (.iload_n 1, 1) := by decide +kernel
theorem dX10_readsClause_32 : decode cX10_readsClause 32 = .ok (.iconst 1, 1) := by decide +kernel
theorem dX10_readsClause_33 : decode cX10_readsClause 33 = .ok (.if_icmp .ne 44, 3) := by decide +kernel
theorem dX10_readsClause_36 : decode cX10_readsClause 36 = .ok (.aload_n 0, 1) := by decide +kernel
theorem dX10_readsClause_37 : decode cX10_readsClause 37 = .ok (.iconst 0, 1) := by decide +kernel
theorem dX10_readsClause_38 : decode cX10_readsClause 38 = .ok (.iconst 0, 1) := by decide +kernel
theorem dX10_readsClause_39 : decode cX10_readsClause 39 = .ok (.aload_n 0, 1) := by decide +kernel
theorem dX10_readsClause_40 : decode cX10_readsClause 40 = .ok (.getfield 85, 3) := by decide +kernel
theorem dX10_readsClause_43 : decode cX10_readsClause 43 = .ok (.iconst 1, 1) := by decide +kernel
theorem dX10_readsClause_44 : decode cX10_readsClause 44 = .ok (.isub, 1) := by decide +kernel
theorem dX10_readsClause_45 : decode cX10_readsClause 45 = .ok (.invokevirtual 91, 3) := by decide +kernel
theorem dX10_readsClause_48 : decode cX10_readsClause 48 = .ok (.ifCond .eq 25, 3) := by decide +kernel
theorem dX10_readsClause_51 : decode cX10_readsClause 51 = .ok (.aload_n 0, 1) := by decide +kernel
theorem dX10_readsClause_52 : decode cX10_readsClause 52 = .ok (.invokevirtual 102, 3) := by decide +kernel
theorem dX10_readsClause_55 : decode cX10_readsClause 55 = .ok (.ifCond .eq 18, 3) := by decide +kernel
theorem dX10_readsClause_58 : decode cX10_readsClause 58 = .ok (.aload_n 0, 1) := by decide +kernel
theorem dX10_readsClause_59 : decode cX10_readsClause 59 = .ok (.iconst 2, 1) := by decide +kernel
theorem dX10_readsClause_60 : decode cX10_readsClause 60 = .ok (.iconst 1, 1) := by decide +kernel
theorem dX10_readsClause_61 : decode cX10_readsClause 61 = .ok (.bipush 99, 2) := by decide +kernel
theorem dX10_readsClause_63 : decode cX10_readsClause 63 = .ok (.invokevirtual 91, 3) := by decide +kernel
theorem dX10_readsClause_66 : decode cX10_readsClause 66 = .ok (.ifCond .eq 7, 3) := by decide +kernel
theorem dX10_readsClause_69 : decode cX10_readsClause 69 = .ok (.iconst 1, 1) := by decide +kernel
theorem dX10_readsClause_70 : decode cX10_readsClause 70 = .ok (.goto 37, 3) := by decide +kernel
theorem dX10_readsClause_73 : decode cX10_readsClause 73 = .ok (.iconst 0, 1) := by decide +kernel
theorem dX10_readsClause_74 : decode cX10_readsClause 74 = .ok (.goto 33, 3) := by decide +kernel
theorem dX10_readsClause_77 : decode cX10_readsClause 77 = .ok (.aload_n 0, 1) := by decide +kernel
theorem dX10_readsClause_78 : decode cX10_readsClause 78 = .ok (.iconst 0, 1) := by decide +kernel
theorem dX10_readsClause_79 : decode cX10_readsClause 79 = .ok (.iconst 0, 1) := by decide +kernel
theorem dX10_readsClause_80 : decode cX10_readsClause 80 = .ok (.aload_n 0, 1) := by decide +kernel
theorem dX10_readsClause_81 : decode cX10_readsClause 81 = .ok (.getfield 85, 3) := by decide +kernel
theorem dX10_readsClause_84 : decode cX10_readsClause 84 = .ok (.iconst 1, 1) := by decide +kernel
theorem dX10_readsClause_85 : decode cX10_readsClause 85 = .ok (.isub, 1) := by decide +kernel
theorem dX10_readsClause_86 : decode cX10_readsClause 86 = .ok (.invokevirtual 91, 3) := by decide +kernel
theorem dX10_readsClause_89 : decode cX10_readsClause 89 = .ok (.ifCond .eq 17, 3) := by decide +kernel
theorem dX10_readsClause_92 : decode cX10_readsClause 92 = .ok (.aload_n 0, 1) := by decide +kernel
theorem dX10_readsClause_93 : decode cX10_readsClause 93 = .ok (.iconst 1, 1) := by decide +kernel
theorem dX10_readsClause_94 : decode cX10_readsClause 94 = .ok (.iconst 0, 1) := by decide +kernel
theorem dX10_readsClause_95 : decode cX10_readsClause 95 = .ok (.iconst 2, 1) := by decide +kernel
theorem dX10_readsClause_96 : decode cX10_readsClause 96 = .ok (.invokevirtual 91, 3) := by decide +kernel
theorem dX10_readsClause_99 : decode cX10_readsClause 99 = .ok (.ifCond .eq 7, 3) := by decide +kernel
theorem dX10_readsClause_102 : decode cX10_readsClause 102 = .ok (.iconst 1, 1) := by decide +kernel
theorem dX10_readsClause_103 : decode cX10_readsClause 103 = .ok (.goto 4, 3) := by decide +kernel
theorem dX10_readsClause_106 : decode cX10_readsClause 106 = .ok (.iconst 0, 1) := by decide +kernel
theorem dX10_readsClause_107 : decode cX10_readsClause 107 = .ok (.istore_n 2, 1) := by decide +kernel
theorem dX10_readsClause_108 : decode cX10_readsClause 108 = .ok (.iload_n 2, 1) := by decide +kernel
theorem dX10_readsClause_109 : decode cX10_readsClause 109 = .ok (.ifCond .ne 5, 3) := by decide +kernel
theorem dX10_readsClause_112 : decode cX10_readsClause 112 = .ok (.iconst 0, 1) := by decide +kernel
theorem dX10_readsClause_113 : decode cX10_readsClause 113 = .ok (.ireturn, 1) := by decide +kernel
theorem dX10_readsClause_114 : decode cX10_readsClause 114 = .ok (.iload_n 1, 1) := by decide +kernel
theorem dX10_readsClause_115 : decode cX10_readsClause 115 = .ok (.ifCond .ne 10, 3) := by decide +kernel
theorem dX10_readsClause_118 : decode cX10_readsClause 118 = .ok (.aload_n 0, 1) := by decide +kernel
theorem dX10_readsClause_119 : decode cX10_readsClause 119 = .ok (.invokevirtual 106, 3) := by decide +kernel
theorem dX10_readsClause_122 : decode cX10_readsClause 122 = .ok (.goto 12, 3) := by decide +kernel
theorem dX10_readsClause_125 : decode cX10_readsClause 125 = .ok (.iload_n 1, 1) := by decide +kernel
theorem dX10_readsClause_126 : decode cX10_readsClause 126 = .ok (.iconst 1, 1) := by decide +kernel
theorem dX10_readsClause_127 : decode cX10_readsClause 127 = .ok (.if_icmp .ne 7, 3) := by decide +kernel
theorem dX10_readsClause_130 : decode cX10_readsClause 130 = .ok (.aload_n 0, 1) := by decide +kernel
theorem dX10_readsClause_131 : decode cX10_readsClause 131 = .ok (.invokevirtual 109, 3) := by decide +kernel
theorem dX10_readsClause_134 : decode cX10_readsClause 134 = .ok (.aload_n 0, 1) := by decide +kernel
theorem dX10_readsClause_135 : decode cX10_readsClause 135 = .ok (.getfield 112, 3) := by decide +kernel
theorem dX10_readsClause_138 : decode cX10_readsClause 138 = .ok (.ifCond .eq 8, 3) := by decide +kernel
theorem dX10_readsClause_141 : decode cX10_readsClause 141 = .ok (.aload_n 0, 1) := by decide +kernel
theorem dX10_readsClause_142 : decode cX10_readsClause 142 = .ok (.iload_n 1, 1) := by decide +kernel
theorem dX10_readsClause_143 : decode cX10_readsClause 143 = .ok (.invokevirtual 116, 3) := by decide +kernel
theorem dX10_readsClause_146 : decode cX10_readsClause 146 = .ok (.iconst 1, 1) := by decide +kernel
theorem dX10_readsClause_147 : decode cX10_readsClause 147 = .ok (.ireturn, 1) := by decide +kernel
theorem dX10_reads_0 : decode cX10_reads 0 = .ok (.aload_n 0, 1) := by decide +kernel
theorem dX10_reads_1 : decode cX10_reads 1 = .ok (.iload_n 1, 1) := by decide +kernel
theorem dX10_reads_2 : decode cX10_reads 2 = .ok (.putfield 112, 3) := by decide +kernel
theorem dX10_reads_5 : decode cX10_reads 5 = .ok (.aload_n 0, 1) := by decide +kernel
end
section
theorem dX10_reads_6 : decode cX10_reads 6 = .ok (.iconst 0, 1) := by decide +kernel
theorem dX10_reads_7 : decode cX10_reads 7 = .ok (.putfield 65, 3) := by decide +kernel
theorem dX10_reads_10 : decode cX10_reads 10 = .ok (.aload_n 0, 1) := by decide +kernel
theorem dX10_reads_11 : decode cX10_reads 11 = .ok (.iconst 1, 1) := by decide +kernel
theorem dX10_reads_12 : decode cX10_reads 12 = .ok (.putfield 120, 3) := by decide +kernel
theorem dX10_reads_15 : decode cX10_reads 15 = .ok (.aload_n 0, 1) := by decide +kernel
theorem dX10_reads_16 : decode cX10_reads 16 = .ok (.aload_n 0, 1) := by decide +kernel
theorem dX10_reads_17 : decode cX10_reads 17 = .ok (.getfield 13, 3) := by decide +kernel
theorem dX10_reads_20 : decode cX10_reads 20 = .ok (.putfield 85, 3) := by decide +kernel
theorem dX10_reads_23 : decode cX10_reads 23 = .ok (.aload_n 0, 1) := by decide +kernel
theorem dX10_reads_24 : decode cX10_reads 24 = .ok (.aload_n 0, 1) := by decide +kernel
theorem dX10_reads_25 : decode cX10_reads 25 = .ok (.invokevirtual 123, 3) := by decide +kernel
theorem dX10_reads_28 : decode cX10_reads 28 = .ok (.putfield 88, 3) := by decide +kernel
theorem dX10_reads_31 : decode cX10_reads 31 = .ok (.iconst 0, 1) := by decide +kernel
theorem dX10_reads_32 : decode cX10_reads 32 = .ok (.istore_n 2, 1) := by decide +kernel
theorem dX10_reads_33 : decode cX10_reads 33 = .ok (.iload_n 2, 1) := by decide +kernel
theorem dX10_reads_34 : decode cX10_reads 34 = .ok (.sipush 144, 3) := by decide +kernel
theorem dX10_reads_37 : decode cX10_reads 37 = .ok (.if_icmp .ge 29, 3) := by decide +kernel
theorem dX10_reads_40 : decode cX10_reads 40 = .ok (.aload_n 0, 1) := by decide +kernel
theorem dX10_reads_41 : decode cX10_reads 41 = .ok (.getfield 27, 3) := by decide +kernel
theorem dX10_reads_44 : decode cX10_reads 44 = .ok (.iload_n 2, 1) := by decide +kernel
theorem dX10_reads_45 : decode cX10_reads 45 = .ok (.aload_n 0, 1) := by decide +kernel
theorem dX10_reads_46 : decode cX10_reads 46 = .ok (.getfield 7, 3) := by decide +kernel
theorem dX10_reads_49 : decode cX10_reads 49 = .ok (.iload_n 2, 1) := by decide +kernel
theorem dX10_reads_50 : decode cX10_reads 50 = .ok (.iaload, 1) := by decide +kernel
theorem dX10_reads_51 : decode cX10_reads 51 = .ok (.ifCond .le 7, 3) := by decide +kernel
theorem dX10_reads_54 : decode cX10_reads 54 = .ok (.iconst 1, 1) := by decide +kernel
theorem dX10_reads_55 : decode cX10_reads 55 = .ok (.goto 4, 3) := by decide +kernel
theorem dX10_reads_58 : decode cX10_reads 58 = .ok (.iconst 0, 1) := by decide +kernel
theorem dX10_reads_59 : decode cX10_reads 59 = .ok (.bastore, 1) := by decide +kernel
theorem dX10_reads_60 : decode cX10_reads 60 = .ok (.iinc 2 1, 3) := by decide +kernel
theorem dX10_reads_63 : decode cX10_reads 63 = .ok (.goto (-30), 3) := by decide +kernel
theorem dX10_reads_66 : decode cX10_reads 66 = .ok (.aload_n 0, 1) := by decide +kernel
theorem dX10_reads_67 : decode cX10_reads 67 = .ok (.invokevirtual 82, 3) := by decide +kernel
theorem dX10_reads_70 : decode cX10_reads 70 = .ok (.aload_n 0, 1) := by decide +kernel
theorem dX10_reads_71 : decode cX10_reads 71 = .ok (.invokevirtual 126, 3) := by decide +kernel
theorem dX10_reads_74 : decode cX10_reads 74 = .ok (.istore_n 2, 1) := by decide +kernel
theorem dX10_reads_75 : decode cX10_reads 75 = .ok (.iload_n 2, 1) := by decide +kernel
theorem dX10_reads_76 : decode cX10_reads 76 = .ok (.ifCond .eq 69, 3) := by decide +kernel
theorem dX10_reads_79 : decode cX10_reads 79 = .ok (.aload_n 0, 1) := by decide +kernel
theorem dX10_reads_80 : decode cX10_reads 80 = .ok (.getfield 68, 3) := by decide +kernel
theorem dX10_reads_83 : decode cX10_reads 83 = .ok (.aload_n 0, 1) := by decide +kernel
theorem dX10_reads_84 : decode cX10_reads 84 = .ok (.getfield 54, 3) := by decide +kernel
theorem dX10_reads_87 : decode cX10_reads 87 = .ok (.if_icmp .ge 58, 3) := by decide +kernel
theorem dX10_reads_90 : decode cX10_reads 90 = .ok (.aload_n 0, 1) := by decide +kernel
theorem dX10_reads_91 : decode cX10_reads 91 = .ok (.getfield 120, 3) := by decide +kernel
theorem dX10_reads_94 : decode cX10_reads 94 = .ok (.bipush 24, 2) := by decide +kernel
theorem dX10_reads_96 : decode cX10_reads 96 = .ok (.if_icmp .ge 21, 3) := by decide +kernel
theorem dX10_reads_99 : decode cX10_reads 99 = .ok (.aload_n 0, 1) := by decide +kernel
theorem dX10_reads_100 : decode cX10_reads 100 = .ok (.getfield 24, 3) := by decide +kernel
theorem dX10_reads_103 : decode cX10_reads 103 = .ok (.aload_n 0, 1) := by decide +kernel
theorem dX10_reads_104 : decode cX10_reads 104 = .ok (.getfield 68, 3) := by decide +kernel
theorem dX10_reads_107 : decode cX10_reads 107 = .ok (.iaload, 1) := by decide +kernel
theorem dX10_reads_108 : decode cX10_reads 108 = .ok (.bipush 59, 2) := by decide +kernel
theorem dX10_reads_110 : decode cX10_reads 110 = .ok (.if_icmp .ne 7, 3) := by decide +kernel
theorem dX10_reads_113 : decode cX10_reads 113 = .ok (.iconst 1, 1) := by decide +kernel
theorem dX10_reads_114 : decode cX10_reads 114 = .ok (.goto 4, 3) := by decide +kernel
theorem dX10_reads_117 : decode cX10_reads 117 = .ok (.iconst 0, 1) := by decide +kernel
theorem dX10_reads_118 : decode cX10_reads 118 = .ok (.istore_n 2, 1) := by decide +kernel
theorem dX10_reads_119 : decode cX10_reads 119 = .ok (.iload_n 2, 1) := by decide +kernel
theorem dX10_reads_120 : decode cX10_reads 120 = .ok (.ifCond .eq (-45), 3) := by decide +kernel
theorem dX10_reads_123 : decode cX10_reads 123 = .ok (.aload_n 0, 1) := by decide +kernel
theorem dX10_reads_124 : decode cX10_reads 124 = .ok (.invokevirtual 82, 3) := by decide +kernel
theorem dX10_reads_127 : decode cX10_reads 127 = .ok (.aload_n 0, 1) := by decide +kernel
theorem dX10_reads_128 : decode cX10_reads 128 = .ok (.invokevirtual 126, 3) := by decide +kernel
theorem dX10_reads_131 : decode cX10_reads 131 = .ok (.istore_n 2, 1) := by decide +kernel
theorem dX10_reads_132 : decode cX10_reads 132 = .ok (.aload_n 0, 1) := by decide +kernel
theorem dX10_reads_133 : decode cX10_reads 133 = .ok (.dup, 1) := by decide +kernel
theorem dX10_reads_134 : decode cX10_reads 134 = .ok (.getfield 120, 3) := by decide +kernel
theorem dX10_reads_137 : decode cX10_reads 137 = .ok (.iconst 1, 1) := by decide +kernel
theorem dX10_reads_138 : decode cX10_reads 138 = .ok (.iadd, 1) := by decide +kernel
theorem dX10_reads_139 : decode cX10_reads 139 = .ok (.putfield 120, 3) := by decide +kernel
theorem dX10_reads_142 : decode cX10_reads 142 = .ok (.goto (-67), 3) := by decide +kernel
theorem dX10_reads_145 : decode cX10_reads 145 = .ok (.iload_n 2, 1) := by decide +kernel
theorem dX10_reads_146 : decode cX10_reads 146 = .ok (.ireturn, 1) := by decide +kernel
theorem dX10_fault_0 : decode cX10_fault 0 = .ok (.aload_n 0, 1) := by decide +kernel
theorem dX10_fault_1 : decode cX10_fault 1 = .ok (.iconst 0, 1) := by decide +kernel
theorem dX10_fault_2 : decode cX10_fault 2 = .ok (.invokevirtual 129, 3) := by decide +kernel
theorem dX10_fault_5 : decode cX10_fault 5 = .ok (.ifCond .eq 7, 3) := by decide +kernel
theorem dX10_fault_8 : decode cX10_fault 8 = .ok (.iconst (-1), 1) := by decide +kernel
theorem dX10_fault_9 : decode cX10_fault 9 = .ok (.goto 7, 3) := by decide +kernel
theorem dX10_fault_12 : decode cX10_fault 12 = .ok (.aload_n 0, 1) := by decide +kernel
theorem dX10_fault_13 : decode cX10_fault 13 = .ok (.getfield 68, 3) := by decide +kernel
theorem dX10_fault_16 : decode cX10_fault 16 = .ok (.ireturn, 1) := by decide +kernel
theorem dX10_net_0 : decode cX10_net 0 = .ok (.aload_n 0, 1) := by decide +kernel
theorem dX10_net_1 : decode cX10_net 1 = .ok (.iconst 0, 1) := by decide +kernel
theorem dX10_net_2 : decode cX10_net 2 = .ok (.invokevirtual 129, 3) := by decide +kernel
theorem dX10_net_5 : decode cX10_net 5 = .ok (.ifCond .ne 6, 3) := by decide +kernel
theorem dX10_net_8 : decode cX10_net 8 = .ok (.bipush (-4), 2) := by decide +kernel
theorem dX10_net_10 : decode cX10_net 10 = .ok (.ireturn, 1) := by decide +kernel
theorem dX10_net_11 : decode cX10_net 11 = .ok (.aload_n 0, 1) := by decide +kernel
theorem dX10_net_12 : decode cX10_net 12 = .ok (.iconst 1, 1) := by decide +kernel
theorem dX10_net_13 : decode cX10_net 13 = .ok (.invokevirtual 129, 3) := by decide +kernel
theorem dX10_net_16 : decode cX10_net 16 = .ok (.pop, 1) := by decide +kernel
theorem dX10_net_17 : decode cX10_net 17 = .ok (.aload_n 0, 1) := by decide +kernel
theorem dX10_net_18 : decode cX10_net 18 = .ok (.iconst 0, 1) := by decide +kernel
theorem dX10_net_19 : decode cX10_net 19 = .ok (.putfield 54, 3) := by decide +kernel
theorem dX10_net_22 : decode cX10_net 22 = .ok (.aload_n 0, 1) := by decide +kernel
theorem dX10_net_23 : decode cX10_net 23 = .ok (.iconst 0, 1) := by decide +kernel
theorem dX10_net_24 : decode cX10_net 24 = .ok (.putfield 133, 3) := by decide +kernel
theorem dX10_net_27 : decode cX10_net 27 = .ok (.aload_n 0, 1) := by decide +kernel
theorem dX10_net_28 : decode cX10_net 28 = .ok (.getfield 20, 3) := by decide +kernel
theorem dX10_net_31 : decode cX10_net 31 = .ok (.iconst 0, 1) := by decide +kernel
theorem dX10_net_32 : decode cX10_net 32 = .ok (.iconst 0, 1) := by decide +kernel
theorem dX10_net_33 : decode cX10_net 33 = .ok (.bastore, 1) := by decide +kernel
theorem dX10_net_34 : decode cX10_net 34 = .ok (.aload_n 0, 1) := by decide +kernel
theorem dX10_net_35 : decode cX10_net 35 = .ok (.getfield 20, 3) := by decide +kernel
theorem dX10_net_38 : decode cX10_net 38 = .ok (.iconst 1, 1) := by decide +kernel
theorem dX10_net_39 : decode cX10_net 39 = .ok (.iconst 0, 1) := by decide +kernel
theorem dX10_net_40 : decode cX10_net 40 = .ok (.bastore, 1) := by decide +kernel
theorem dX10_net_41 : decode cX10_net 41 = .ok (.aload_n 0, 1) := by decide +kernel
theorem dX10_net_42 : decode cX10_net 42 = .ok (.getfield 120, 3) := by decide +kernel
theorem dX10_net_45 : decode cX10_net 45 = .ok (.ireturn, 1) := by decide +kernel
theorem dX10_link_0 : decode cX10_link 0 = .ok (.aload_n 0, 1) := by decide +kernel
theorem dX10_link_1 : decode cX10_link 1 = .ok (.iload_n 1, 1) := by decide +kernel
theorem dX10_link_2 : decode cX10_link 2 = .ok (.invokevirtual 136, 3) := by decide +kernel
theorem dX10_link_5 : decode cX10_link 5 = .ok (.istore_n 3, 1) := by decide +kernel
theorem dX10_link_6 : decode cX10_link 6 = .ok (.iload_n 3, 1) := by decide +kernel
theorem dX10_link_7 : decode cX10_link 7 = .ok (.ifCond .ge 6, 3) := by decide +kernel
theorem dX10_link_10 : decode cX10_link 10 = .ok (.bipush (-2), 2) := by decide +kernel
theorem dX10_link_12 : decode cX10_link 12 = .ok (.ireturn, 1) := by decide +kernel
theorem dX10_link_13 : decode cX10_link 13 = .ok (.iload_n 2, 1) := by decide +kernel
theorem dX10_link_14 : decode cX10_link 14 = .ok (.tableswitch 43 0 2 #[26, 31, 36], 26) := by decide +kernel
theorem dX10_link_40 : decode cX10_link 40 = .ok (.iload_n 3, 1) := by decide +kernel
theorem dX10_link_41 : decode cX10_link 41 = .ok (.bipush 12, 2) := by decide +kernel
theorem dX10_link_43 : decode cX10_link 43 = .ok (.idiv, 1) := by decide +kernel
theorem dX10_link_44 : decode cX10_link 44 = .ok (.ireturn, 1) := by decide +kernel
theorem dX10_link_45 : decode cX10_link 45 = .ok (.iload_n 3, 1) := by decide +kernel
theorem dX10_link_46 : decode cX10_link 46 = .ok (.bipush 12, 2) := by decide +kernel
theorem dX10_link_48 : decode cX10_link 48 = .ok (.irem, 1) := by decide +kernel
theorem dX10_link_49 : decode cX10_link 49 = .ok (.ireturn, 1) := by decide +kernel
theorem dX10_link_50 : decode cX10_link 50 = .ok (.aload_n 0, 1) := by decide +kernel
theorem dX10_link_51 : decode cX10_link 51 = .ok (.getfield 7, 3) := by decide +kernel
theorem dX10_link_54 : decode cX10_link 54 = .ok (.iload_n 3, 1) := by decide +kernel
theorem dX10_link_55 : decode cX10_link 55 = .ok (.iaload, 1) := by decide +kernel
theorem dX10_link_56 : decode cX10_link 56 = .ok (.ireturn, 1) := by decide +kernel
theorem dX10_link_57 : decode cX10_link 57 = .ok (.bipush (-3), 2) := by decide +kernel
theorem dX10_link_59 : decode cX10_link 59 = .ok (.ireturn, 1) := by decide +kernel
theorem dX10_level_0 : decode cX10_level 0 = .ok (.aload_n 0, 1) := by decide +kernel
theorem dX10_level_1 : decode cX10_level 1 = .ok (.iload_n 1, 1) := by decide +kernel
theorem dX10_level_2 : decode cX10_level 2 = .ok (.invokevirtual 140, 3) := by decide +kernel
theorem dX10_level_5 : decode cX10_level 5 = .ok (.ifCond .eq 16, 3) := by decide +kernel
theorem dX10_level_8 : decode cX10_level 8 = .ok (.aload_n 0, 1) := by decide +kernel
theorem dX10_level_9 : decode cX10_level 9 = .ok (.getfield 7, 3) := by decide +kernel
theorem dX10_level_12 : decode cX10_level 12 = .ok (.sipush 144, 3) := by decide +kernel
theorem dX10_level_15 : decode cX10_level 15 = .ok (.iload_n 1, 1) := by decide +kernel
theorem dX10_level_16 : decode cX10_level 16 = .ok (.iadd, 1) := by decide +kernel
theorem dX10_level_17 : decode cX10_level 17 = .ok (.iaload, 1) := by decide +kernel
theorem dX10_level_18 : decode cX10_level 18 = .ok (.goto 5, 3) := by decide +kernel
theorem dX10_level_21 : decode cX10_level 21 = .ok (.bipush (-2), 2) := by decide +kernel
theorem dX10_level_23 : decode cX10_level 23 = .ok (.ireturn, 1) := by decide +kernel
theorem dX10_finds_0 : decode cX10_finds 0 = .ok (.iconst 0, 1) := by decide +kernel
theorem dX10_finds_1 : decode cX10_finds 1 = .ok (.istore_n 2, 1) := by decide +kernel
theorem dX10_finds_2 : decode cX10_finds 2 = .ok (.iload_n 2, 1) := by decide +kernel
theorem dX10_finds_3 : decode cX10_finds 3 = .ok (.sipush 144, 3) := by decide +kernel
theorem dX10_finds_6 : decode cX10_finds 6 = .ok (.if_icmp .ge 73, 3) := by decide +kernel
theorem dX10_finds_9 : decode cX10_finds 9 = .ok (.aload_n 0, 1) := by decide +kernel
theorem dX10_finds_10 : decode cX10_finds 10 = .ok (.getfield 7, 3) := by decide +kernel
theorem dX10_finds_13 : decode cX10_finds 13 = .ok (.iload_n 2, 1) := by decide +kernel
theorem dX10_finds_14 : decode cX10_finds 14 = .ok (.iaload, 1) := by decide +kernel
theorem dX10_finds_15 : decode cX10_finds 15 = .ok (.ifCond .le 20, 3) := by decide +kernel
theorem dX10_finds_18 : decode cX10_finds 18 = .ok (.iload_n 1, 1) := by decide +kernel
theorem dX10_finds_19 : decode cX10_finds 19 = .ok (.ifCond .eq 12, 3) := by decide +kernel
theorem dX10_finds_22 : decode cX10_finds 22 = .ok (.aload_n 0, 1) := by decide +kernel
theorem dX10_finds_23 : decode cX10_finds 23 = .ok (.getfield 39, 3) := by decide +kernel
theorem dX10_finds_26 : decode cX10_finds 26 = .ok (.iload_n 2, 1) := by decide +kernel
theorem dX10_finds_27 : decode cX10_finds 27 = .ok (.baload, 1) := by decide +kernel
theorem dX10_finds_28 : decode cX10_finds 28 = .ok (.ifCond .eq 7, 3) := by decide +kernel
theorem dX10_finds_31 : decode cX10_finds 31 = .ok (.iconst 1, 1) := by decide +kernel
theorem dX10_finds_32 : decode cX10_finds 32 = .ok (.goto 4, 3) := by decide +kernel
theorem dX10_finds_35 : decode cX10_finds 35 = .ok (.iconst 0, 1) := by decide +kernel
theorem dX10_finds_36 : decode cX10_finds 36 = .ok (.istore_n 3, 1) := by decide +kernel
theorem dX10_finds_37 : decode cX10_finds 37 = .ok (.aload_n 0, 1) := by decide +kernel
theorem dX10_finds_38 : decode cX10_finds 38 = .ok (.getfield 36, 3) := by decide +kernel
theorem dX10_finds_41 : decode cX10_finds 41 = .ok (.iload_n 2, 1) := by decide +kernel
theorem dX10_finds_42 : decode cX10_finds 42 = .ok (.iload_n 2, 1) := by decide +kernel
theorem dX10_finds_43 : decode cX10_finds 43 = .ok (.bipush 12, 2) := by decide +kernel
theorem dX10_finds_45 : decode cX10_finds 45 = .ok (.idiv, 1) := by decide +kernel
theorem dX10_finds_46 : decode cX10_finds 46 = .ok (.iload_n 2, 1) := by decide +kernel
theorem dX10_finds_47 : decode cX10_finds 47 = .ok (.bipush 12, 2) := by decide +kernel
theorem dX10_finds_49 : decode cX10_finds 49 = .ok (.irem, 1) := by decide +kernel
theorem dX10_finds_50 : decode cX10_finds 50 = .ok (.if_icmp .ne 7, 3) := by decide +kernel
theorem dX10_finds_53 : decode cX10_finds 53 = .ok (.iconst 0, 1) := by decide +kernel
theorem dX10_finds_54 : decode cX10_finds 54 = .ok (.goto 18, 3) := by decide +kernel
theorem dX10_finds_57 : decode cX10_finds 57 = .ok (.iload_n 3, 1) := by decide +kernel
theorem dX10_finds_58 : decode cX10_finds 58 = .ok (.ifCond .eq 12, 3) := by decide +kernel
theorem dX10_finds_61 : decode cX10_finds 61 = .ok (.aload_n 0, 1) := by decide +kernel
theorem dX10_finds_62 : decode cX10_finds 62 = .ok (.getfield 7, 3) := by decide +kernel
theorem dX10_finds_65 : decode cX10_finds 65 = .ok (.iload_n 2, 1) := by decide +kernel
theorem dX10_finds_66 : decode cX10_finds 66 = .ok (.iaload, 1) := by decide +kernel
theorem dX10_finds_67 : decode cX10_finds 67 = .ok (.goto 5, 3) := by decide +kernel
theorem dX10_finds_70 : decode cX10_finds 70 = .ok (.ldc 143, 2) := by decide +kernel
theorem dX10_finds_72 : decode cX10_finds 72 = .ok (.iastore, 1) := by decide +kernel
theorem dX10_finds_73 : decode cX10_finds 73 = .ok (.iinc 2 1, 3) := by decide +kernel
theorem dX10_finds_76 : decode cX10_finds 76 = .ok (.goto (-74), 3) := by decide +kernel
theorem dX10_finds_79 : decode cX10_finds 79 = .ok (.iconst 0, 1) := by decide +kernel
theorem dX10_finds_80 : decode cX10_finds 80 = .ok (.istore_n 2, 1) := by decide +kernel
theorem dX10_finds_81 : decode cX10_finds 81 = .ok (.iload_n 2, 1) := by decide +kernel
theorem dX10_finds_82 : decode cX10_finds 82 = .ok (.aload_n 0, 1) := by decide +kernel
theorem dX10_finds_83 : decode cX10_finds 83 = .ok (.getfield 13, 3) := by decide +kernel
theorem dX10_finds_86 : decode cX10_finds 86 = .ok (.if_icmp .ge 115, 3) := by decide +kernel
theorem dX10_finds_89 : decode cX10_finds 89 = .ok (.iconst 0, 1) := by decide +kernel
theorem dX10_finds_90 : decode cX10_finds 90 = .ok (.istore_n 3, 1) := by decide +kernel
theorem dX10_finds_91 : decode cX10_finds 91 = .ok (.iload_n 3, 1) := by decide +kernel
theorem dX10_finds_92 : decode cX10_finds 92 = .ok (.aload_n 0, 1) := by decide +kernel
theorem dX10_finds_93 : decode cX10_finds 93 = .ok (.getfield 13, 3) := by decide +kernel
theorem dX10_finds_96 : decode cX10_finds 96 = .ok (.if_icmp .ge 99, 3) := by decide +kernel
theorem dX10_finds_99 : decode cX10_finds 99 = .ok (.iconst 0, 1) := by decide +kernel
theorem dX10_finds_100 : decode cX10_finds 100 = .ok (.istore 4, 2) := by decide +kernel
theorem dX10_finds_102 : decode cX10_finds 102 = .ok (.iload 4, 2) := by decide +kernel
theorem dX10_finds_104 : decode cX10_finds 104 = .ok (.aload_n 0, 1) := by decide +kernel
theorem dX10_finds_105 : decode cX10_finds 105 = .ok (.getfield 13, 3) := by decide +kernel
theorem dX10_finds_108 : decode cX10_finds 108 = .ok (.if_icmp .ge 81, 3) := by decide +kernel
theorem dX10_finds_111 : decode cX10_finds 111 = .ok (.aload_n 0, 1) := by decide +kernel
theorem dX10_finds_112 : decode cX10_finds 112 = .ok (.getfield 36, 3) := by decide +kernel
theorem dX10_finds_115 : decode cX10_finds 115 = .ok (.bipush 12, 2) := by decide +kernel
theorem dX10_finds_117 : decode cX10_finds 117 = .ok (.iload_n 3, 1) := by decide +kernel
theorem dX10_finds_118 : decode cX10_finds 118 = .ok (.imul, 1) := by decide +kernel
theorem dX10_finds_119 : decode cX10_finds 119 = .ok (.iload_n 2, 1) := by decide +kernel
theorem dX10_finds_120 : decode cX10_finds 120 = .ok (.iadd, 1) := by decide +kernel
theorem dX10_finds_121 : decode cX10_finds 121 = .ok (.iaload, 1) := by decide +kernel
theorem dX10_finds_122 : decode cX10_finds 122 = .ok (.aload_n 0, 1) := by decide +kernel
theorem dX10_finds_123 : decode cX10_finds 123 = .ok (.getfield 36, 3) := by decide +kernel
theorem dX10_finds_126 : decode cX10_finds 126 = .ok (.bipush 12, 2) := by decide +kernel
theorem dX10_finds_128 : decode cX10_finds 128 = .ok (.iload_n 2, 1) := by decide +kernel
theorem dX10_finds_129 : decode cX10_finds 129 = .ok (.imul, 1) := by decide +kernel
theorem dX10_finds_130 : decode cX10_finds 130 = .ok (.iload 4, 2) := by decide +kernel
theorem dX10_finds_132 : decode cX10_finds 132 = .ok (.iadd, 1) := by decide +kernel
theorem dX10_finds_133 : decode cX10_finds 133 = .ok (.iaload, 1) := by decide +kernel
theorem dX10_finds_134 : decode cX10_finds 134 = .ok (.iadd, 1) := by decide +kernel
theorem dX10_finds_135 : decode cX10_finds 135 = .ok (.istore 5, 2) := by decide +kernel
theorem dX10_finds_137 : decode cX10_finds 137 = .ok (.aload_n 0, 1) := by decide +kernel
theorem dX10_finds_138 : decode cX10_finds 138 = .ok (.getfield 36, 3) := by decide +kernel
theorem dX10_finds_141 : decode cX10_finds 141 = .ok (.bipush 12, 2) := by decide +kernel
theorem dX10_finds_143 : decode cX10_finds 143 = .ok (.iload_n 3, 1) := by decide +kernel
theorem dX10_finds_144 : decode cX10_finds 144 = .ok (.imul, 1) := by decide +kernel
theorem dX10_finds_145 : decode cX10_finds 145 = .ok (.iload 4, 2) := by decide +kernel
theorem dX10_finds_147 : decode cX10_finds 147 = .ok (.iadd, 1) := by decide +kernel
theorem dX10_finds_148 : decode cX10_finds 148 = .ok (.iload 5, 2) := by decide +kernel
theorem dX10_finds_150 : decode cX10_finds 150 = .ok (.aload_n 0, 1) := by decide +kernel
theorem dX10_finds_151 : decode cX10_finds 151 = .ok (.getfield 36, 3) := by decide +kernel
theorem dX10_finds_154 : decode cX10_finds 154 = .ok (.bipush 12, 2) := by decide +kernel
theorem dX10_finds_156 : decode cX10_finds 156 = .ok (.iload_n 3, 1) := by decide +kernel
theorem dX10_finds_157 : decode cX10_finds 157 = .ok (.imul, 1) := by decide +kernel
theorem dX10_finds_158 : decode cX10_finds 158 = .ok (.iload 4, 2) := by decide +kernel
theorem dX10_finds_160 : decode cX10_finds 160 = .ok (.iadd, 1) := by decide +kernel
theorem dX10_finds_161 : decode cX10_finds 161 = .ok (.iaload, 1) := by decide +kernel
theorem dX10_finds_162 : decode cX10_finds 162 = .ok (.if_icmp .ge 8, 3) := by decide +kernel
theorem dX10_finds_165 : decode cX10_finds 165 = .ok (.iload 5, 2) := by decide +kernel
theorem dX10_finds_167 : decode cX10_finds 167 = .ok (.goto 15, 3) := by decide +kernel
theorem dX10_finds_170 : decode cX10_finds 170 = .ok (.aload_n 0, 1) := by decide +kernel
theorem dX10_finds_171 : decode cX10_finds 171 = .ok (.getfield 36, 3) := by decide +kernel
theorem dX10_finds_174 : decode cX10_finds 174 = .ok (.bipush 12, 2) := by decide +kernel
theorem dX10_finds_176 : decode cX10_finds 176 = .ok (.iload_n 3, 1) := by decide +kernel
theorem dX10_finds_177 : decode cX10_finds 177 = .ok (.imul, 1) := by decide +kernel
theorem dX10_finds_178 : decode cX10_finds 178 = .ok (.iload 4, 2) := by decide +kernel
theorem dX10_finds_180 : decode cX10_finds 180 = .ok (.iadd, 1) := by decide +kernel
theorem dX10_finds_181 : decode cX10_finds 181 = .ok (.iaload, 1) := by decide +kernel
theorem dX10_finds_182 : decode cX10_finds 182 = .ok (.iastore, 1) := by decide +kernel
theorem dX10_finds_183 : decode cX10_finds 183 = .ok (.iinc 4 1, 3) := by decide +kernel
theorem dX10_finds_186 : decode cX10_finds 186 = .ok (.goto (-84), 3) := by decide +kernel
theorem dX10_finds_189 : decode cX10_finds 189 = .ok (.iinc 3 1, 3) := by decide +kernel
theorem dX10_finds_192 : decode cX10_finds 192 = .ok (.goto (-101), 3) := by decide +kernel
theorem dX10_finds_195 : decode cX10_finds 195 = .ok (.iinc 2 1, 3) := by decide +kernel
theorem dX10_finds_198 : decode cX10_finds 198 = .ok (.goto (-117), 3) := by decide +kernel
theorem dX10_finds_201 : decode cX10_finds 201 = .ok (.return_, 1) := by decide +kernel
theorem dX10_isWay_0 : decode cX10_isWay 0 = .ok (.aload_n 0, 1) := by decide +kernel
theorem dX10_isWay_1 : decode cX10_isWay 1 = .ok (.getfield 36, 3) := by decide +kernel
theorem dX10_isWay_4 : decode cX10_isWay 4 = .ok (.bipush 12, 2) := by decide +kernel
theorem dX10_isWay_6 : decode cX10_isWay 6 = .ok (.iload_n 1, 1) := by decide +kernel
theorem dX10_isWay_7 : decode cX10_isWay 7 = .ok (.imul, 1) := by decide +kernel
theorem dX10_isWay_8 : decode cX10_isWay 8 = .ok (.iload_n 2, 1) := by decide +kernel
theorem dX10_isWay_9 : decode cX10_isWay 9 = .ok (.iadd, 1) := by decide +kernel
theorem dX10_isWay_10 : decode cX10_isWay 10 = .ok (.iaload, 1) := by decide +kernel
theorem dX10_isWay_11 : decode cX10_isWay 11 = .ok (.ldc 143, 2) := by decide +kernel
theorem dX10_isWay_13 : decode cX10_isWay 13 = .ok (.if_icmp .ge 7, 3) := by decide +kernel
theorem dX10_isWay_16 : decode cX10_isWay 16 = .ok (.iconst 1, 1) := by decide +kernel
theorem dX10_isWay_17 : decode cX10_isWay 17 = .ok (.goto 4, 3) := by decide +kernel
theorem dX10_isWay_20 : decode cX10_isWay 20 = .ok (.iconst 0, 1) := by decide +kernel
theorem dX10_isWay_21 : decode cX10_isWay 21 = .ok (.ireturn, 1) := by decide +kernel
theorem dX10_distance_0 : decode cX10_distance 0 = .ok (.aload_n 0, 1) := by decide +kernel
theorem dX10_distance_1 : decode cX10_distance 1 = .ok (.iload_n 1, 1) := by decide +kernel
theorem dX10_distance_2 : decode cX10_distance 2 = .ok (.invokevirtual 140, 3) := by decide +kernel
theorem dX10_distance_5 : decode cX10_distance 5 = .ok (.ifCond .eq 11, 3) := by decide +kernel
theorem dX10_distance_8 : decode cX10_distance 8 = .ok (.aload_n 0, 1) := by decide +kernel
theorem dX10_distance_9 : decode cX10_distance 9 = .ok (.iload_n 2, 1) := by decide +kernel
theorem dX10_distance_10 : decode cX10_distance 10 = .ok (.invokevirtual 140, 3) := by decide +kernel
theorem dX10_distance_13 : decode cX10_distance 13 = .ok (.ifCond .ne 6, 3) := by decide +kernel
theorem dX10_distance_16 : decode cX10_distance 16 = .ok (.bipush (-2), 2) := by decide +kernel
theorem dX10_distance_18 : decode cX10_distance 18 = .ok (.ireturn, 1) := by decide +kernel
theorem dX10_distance_19 : decode cX10_distance 19 = .ok (.aload_n 0, 1) := by decide +kernel
theorem dX10_distance_20 : decode cX10_distance 20 = .ok (.iconst 0, 1) := by decide +kernel
theorem dX10_distance_21 : decode cX10_distance 21 = .ok (.invokevirtual 144, 3) := by decide +kernel
theorem dX10_distance_24 : decode cX10_distance 24 = .ok (.aload_n 0, 1) := by decide +kernel
theorem dX10_distance_25 : decode cX10_distance 25 = .ok (.iload_n 1, 1) := by decide +kernel
theorem dX10_distance_26 : decode cX10_distance 26 = .ok (.iload_n 2, 1) := by decide +kernel
theorem dX10_distance_27 : decode cX10_distance 27 = .ok (.invokevirtual 148, 3) := by decide +kernel
theorem dX10_distance_30 : decode cX10_distance 30 = .ok (.ifCond .eq 17, 3) := by decide +kernel
theorem dX10_distance_33 : decode cX10_distance 33 = .ok (.aload_n 0, 1) := by decide +kernel
theorem dX10_distance_34 : decode cX10_distance 34 = .ok (.getfield 36, 3) := by decide +kernel
theorem dX10_distance_37 : decode cX10_distance 37 = .ok (.bipush 12, 2) := by decide +kernel
theorem dX10_distance_39 : decode cX10_distance 39 = .ok (.iload_n 1, 1) := by decide +kernel
theorem dX10_distance_40 : decode cX10_distance 40 = .ok (.imul, 1) := by decide +kernel
theorem dX10_distance_41 : decode cX10_distance 41 = .ok (.iload_n 2, 1) := by decide +kernel
theorem dX10_distance_42 : decode cX10_distance 42 = .ok (.iadd, 1) := by decide +kernel
theorem dX10_distance_43 : decode cX10_distance 43 = .ok (.iaload, 1) := by decide +kernel
theorem dX10_distance_44 : decode cX10_distance 44 = .ok (.goto 4, 3) := by decide +kernel
theorem dX10_distance_47 : decode cX10_distance 47 = .ok (.iconst (-1), 1) := by decide +kernel
theorem dX10_distance_48 : decode cX10_distance 48 = .ok (.ireturn, 1) := by decide +kernel
theorem dX10_nearestOf_0 : decode cX10_nearestOf 0 = .ok (.iconst (-1), 1) := by decide +kernel
theorem dX10_nearestOf_1 : decode cX10_nearestOf 1 = .ok (.istore_n 3, 1) := by decide +kernel
theorem dX10_nearestOf_2 : decode cX10_nearestOf 2 = .ok (.iconst 0, 1) := by decide +kernel
theorem dX10_nearestOf_3 : decode cX10_nearestOf 3 = .ok (.istore 4, 2) := by decide +kernel
theorem dX10_nearestOf_5 : decode cX10_nearestOf 5 = .ok (.iload 4, 2) := by decide +kernel
theorem dX10_nearestOf_7 : decode cX10_nearestOf 7 = .ok (.aload_n 0, 1) := by decide +kernel
theorem dX10_nearestOf_8 : decode cX10_nearestOf 8 = .ok (.getfield 13, 3) := by decide +kernel
theorem dX10_nearestOf_11 : decode cX10_nearestOf 11 = .ok (.if_icmp .ge 68, 3) := by decide +kernel
theorem dX10_nearestOf_14 : decode cX10_nearestOf 14 = .ok (.aload_n 0, 1) := by decide +kernel
theorem dX10_nearestOf_15 : decode cX10_nearestOf 15 = .ok (.getfield 7, 3) := by decide +kernel
theorem dX10_nearestOf_18 : decode cX10_nearestOf 18 = .ok (.sipush 144, 3) := by decide +kernel
theorem dX10_nearestOf_21 : decode cX10_nearestOf 21 = .ok (.iload 4, 2) := by decide +kernel
theorem dX10_nearestOf_23 : decode cX10_nearestOf 23 = .ok (.iadd, 1) := by decide +kernel
theorem dX10_nearestOf_24 : decode cX10_nearestOf 24 = .ok (.iaload, 1) := by decide +kernel
theorem dX10_nearestOf_25 : decode cX10_nearestOf 25 = .ok (.iload_n 2, 1) := by decide +kernel
theorem dX10_nearestOf_26 : decode cX10_nearestOf 26 = .ok (.if_icmp .lt 47, 3) := by decide +kernel
theorem dX10_nearestOf_29 : decode cX10_nearestOf 29 = .ok (.aload_n 0, 1) := by decide +kernel
theorem dX10_nearestOf_30 : decode cX10_nearestOf 30 = .ok (.iload_n 1, 1) := by decide +kernel
theorem dX10_nearestOf_31 : decode cX10_nearestOf 31 = .ok (.iload 4, 2) := by decide +kernel
theorem dX10_nearestOf_33 : decode cX10_nearestOf 33 = .ok (.invokevirtual 148, 3) := by decide +kernel
theorem dX10_nearestOf_36 : decode cX10_nearestOf 36 = .ok (.ifCond .eq 37, 3) := by decide +kernel
theorem dX10_nearestOf_39 : decode cX10_nearestOf 39 = .ok (.iload_n 3, 1) := by decide +kernel
theorem dX10_nearestOf_40 : decode cX10_nearestOf 40 = .ok (.iconst (-1), 1) := by decide +kernel
theorem dX10_nearestOf_41 : decode cX10_nearestOf 41 = .ok (.if_icmp .eq 29, 3) := by decide +kernel
theorem dX10_nearestOf_44 : decode cX10_nearestOf 44 = .ok (.aload_n 0, 1) := by decide +kernel
theorem dX10_nearestOf_45 : decode cX10_nearestOf 45 = .ok (.getfield 36, 3) := by decide +kernel
theorem dX10_nearestOf_48 : decode cX10_nearestOf 48 = .ok (.bipush 12, 2) := by decide +kernel
theorem dX10_nearestOf_50 : decode cX10_nearestOf 50 = .ok (.iload_n 1, 1) := by decide +kernel
theorem dX10_nearestOf_51 : decode cX10_nearestOf 51 = .ok (.imul, 1) := by decide +kernel
theorem dX10_nearestOf_52 : decode cX10_nearestOf 52 = .ok (.iload 4, 2) := by decide +kernel
theorem dX10_nearestOf_54 : decode cX10_nearestOf 54 = .ok (.iadd, 1) := by decide +kernel
theorem dX10_nearestOf_55 : decode cX10_nearestOf 55 = .ok (.iaload, 1) := by decide +kernel
theorem dX10_nearestOf_56 : decode cX10_nearestOf 56 = .ok (.aload_n 0, 1) := by decide +kernel
theorem dX10_nearestOf_57 : decode cX10_nearestOf 57 = .ok (.getfield 36, 3) := by decide +kernel
theorem dX10_nearestOf_60 : decode cX10_nearestOf 60 = .ok (.bipush 12, 2) := by decide +kernel
theorem dX10_nearestOf_62 : decode cX10_nearestOf 62 = .ok (.iload_n 1, 1) := by decide +kernel
theorem dX10_nearestOf_63 : decode cX10_nearestOf 63 = .ok (.imul, 1) := by decide +kernel
theorem dX10_nearestOf_64 : decode cX10_nearestOf 64 = .ok (.iload_n 3, 1) := by decide +kernel
theorem dX10_nearestOf_65 : decode cX10_nearestOf 65 = .ok (.iadd, 1) := by decide +kernel
theorem dX10_nearestOf_66 : decode cX10_nearestOf 66 = .ok (.iaload, 1) := by decide +kernel
theorem dX10_nearestOf_67 : decode cX10_nearestOf 67 = .ok (.if_icmp .ge 6, 3) := by decide +kernel
theorem dX10_nearestOf_70 : decode cX10_nearestOf 70 = .ok (.iload 4, 2) := by decide +kernel
theorem dX10_nearestOf_72 : decode cX10_nearestOf 72 = .ok (.istore_n 3, 1) := by decide +kernel
theorem dX10_nearestOf_73 : decode cX10_nearestOf 73 = .ok (.iinc 4 1, 3) := by decide +kernel
theorem dX10_nearestOf_76 : decode cX10_nearestOf 76 = .ok (.goto (-71), 3) := by decide +kernel
theorem dX10_nearestOf_79 : decode cX10_nearestOf 79 = .ok (.iload_n 3, 1) := by decide +kernel
theorem dX10_nearestOf_80 : decode cX10_nearestOf 80 = .ok (.ireturn, 1) := by decide +kernel
theorem dX10_isInBunch_0 : decode cX10_isInBunch 0 = .ok (.aload_n 0, 1) := by decide +kernel
theorem dX10_isInBunch_1 : decode cX10_isInBunch 1 = .ok (.iload_n 1, 1) := by decide +kernel
theorem dX10_isInBunch_2 : decode cX10_isInBunch 2 = .ok (.aload_n 0, 1) := by decide +kernel
theorem dX10_isInBunch_3 : decode cX10_isInBunch 3 = .ok (.getfield 7, 3) := by decide +kernel
theorem dX10_isInBunch_6 : decode cX10_isInBunch 6 = .ok (.sipush 144, 3) := by decide +kernel
theorem dX10_isInBunch_9 : decode cX10_isInBunch 9 = .ok (.iload_n 2, 1) := by decide +kernel
theorem dX10_isInBunch_10 : decode cX10_isInBunch 10 = .ok (.iadd, 1) := by decide +kernel
theorem dX10_isInBunch_11 : decode cX10_isInBunch 11 = .ok (.iaload, 1) := by decide +kernel
theorem dX10_isInBunch_12 : decode cX10_isInBunch 12 = .ok (.iconst 1, 1) := by decide +kernel
theorem dX10_isInBunch_13 : decode cX10_isInBunch 13 = .ok (.iadd, 1) := by decide +kernel
theorem dX10_isInBunch_14 : decode cX10_isInBunch 14 = .ok (.invokevirtual 152, 3) := by decide +kernel
theorem dX10_isInBunch_17 : decode cX10_isInBunch 17 = .ok (.istore_n 3, 1) := by decide +kernel
theorem dX10_isInBunch_18 : decode cX10_isInBunch 18 = .ok (.aload_n 0, 1) := by decide +kernel
theorem dX10_isInBunch_19 : decode cX10_isInBunch 19 = .ok (.iload_n 1, 1) := by decide +kernel
theorem dX10_isInBunch_20 : decode cX10_isInBunch 20 = .ok (.iload_n 2, 1) := by decide +kernel
theorem dX10_isInBunch_21 : decode cX10_isInBunch 21 = .ok (.invokevirtual 148, 3) := by decide +kernel
theorem dX10_isInBunch_24 : decode cX10_isInBunch 24 = .ok (.ifCond .eq 37, 3) := by decide +kernel
theorem dX10_isInBunch_27 : decode cX10_isInBunch 27 = .ok (.iload_n 3, 1) := by decide +kernel
theorem dX10_isInBunch_28 : decode cX10_isInBunch 28 = .ok (.iconst (-1), 1) := by decide +kernel
theorem dX10_isInBunch_29 : decode cX10_isInBunch 29 = .ok (.if_icmp .eq 28, 3) := by decide +kernel
theorem dX10_isInBunch_32 : decode cX10_isInBunch 32 = .ok (.aload_n 0, 1) := by decide +kernel
theorem dX10_isInBunch_33 : decode cX10_isInBunch 33 = .ok (.getfield 36, 3) := by decide +kernel
theorem dX10_isInBunch_36 : decode cX10_isInBunch 36 = .ok (.bipush 12, 2) := by decide +kernel
theorem dX10_isInBunch_38 : decode cX10_isInBunch 38 = .ok (.iload_n 1, 1) := by decide +kernel
theorem dX10_isInBunch_39 : decode cX10_isInBunch 39 = .ok (.imul, 1) := by decide +kernel
theorem dX10_isInBunch_40 : decode cX10_isInBunch 40 = .ok (.iload_n 2, 1) := by decide +kernel
theorem dX10_isInBunch_41 : decode cX10_isInBunch 41 = .ok (.iadd, 1) := by decide +kernel
theorem dX10_isInBunch_42 : decode cX10_isInBunch 42 = .ok (.iaload, 1) := by decide +kernel
theorem dX10_isInBunch_43 : decode cX10_isInBunch 43 = .ok (.aload_n 0, 1) := by decide +kernel
theorem dX10_isInBunch_44 : decode cX10_isInBunch 44 = .ok (.getfield 36, 3) := by decide +kernel
theorem dX10_isInBunch_47 : decode cX10_isInBunch 47 = .ok (.bipush 12, 2) := by decide +kernel
theorem dX10_isInBunch_49 : decode cX10_isInBunch 49 = .ok (.iload_n 1, 1) := by decide +kernel
theorem dX10_isInBunch_50 : decode cX10_isInBunch 50 = .ok (.imul, 1) := by decide +kernel
theorem dX10_isInBunch_51 : decode cX10_isInBunch 51 = .ok (.iload_n 3, 1) := by decide +kernel
theorem dX10_isInBunch_52 : decode cX10_isInBunch 52 = .ok (.iadd, 1) := by decide +kernel
theorem dX10_isInBunch_53 : decode cX10_isInBunch 53 = .ok (.iaload, 1) := by decide +kernel
theorem dX10_isInBunch_54 : decode cX10_isInBunch 54 = .ok (.if_icmp .ge 7, 3) := by decide +kernel
theorem dX10_isInBunch_57 : decode cX10_isInBunch 57 = .ok (.iconst 1, 1) := by decide +kernel
theorem dX10_isInBunch_58 : decode cX10_isInBunch 58 = .ok (.goto 4, 3) := by decide +kernel
theorem dX10_isInBunch_61 : decode cX10_isInBunch 61 = .ok (.iconst 0, 1) := by decide +kernel
theorem dX10_isInBunch_62 : decode cX10_isInBunch 62 = .ok (.ireturn, 1) := by decide +kernel
theorem dX10_bunchOf_0 : decode cX10_bunchOf 0 = .ok (.iconst 0, 1) := by decide +kernel
theorem dX10_bunchOf_1 : decode cX10_bunchOf 1 = .ok (.istore_n 2, 1) := by decide +kernel
theorem dX10_bunchOf_2 : decode cX10_bunchOf 2 = .ok (.iconst 0, 1) := by decide +kernel
theorem dX10_bunchOf_3 : decode cX10_bunchOf 3 = .ok (.istore_n 3, 1) := by decide +kernel
theorem dX10_bunchOf_4 : decode cX10_bunchOf 4 = .ok (.iload_n 3, 1) := by decide +kernel
theorem dX10_bunchOf_5 : decode cX10_bunchOf 5 = .ok (.aload_n 0, 1) := by decide +kernel
theorem dX10_bunchOf_6 : decode cX10_bunchOf 6 = .ok (.getfield 13, 3) := by decide +kernel
theorem dX10_bunchOf_9 : decode cX10_bunchOf 9 = .ok (.if_icmp .ge 28, 3) := by decide +kernel
theorem dX10_bunchOf_12 : decode cX10_bunchOf 12 = .ok (.iload_n 2, 1) := by decide +kernel
theorem dX10_bunchOf_13 : decode cX10_bunchOf 13 = .ok (.aload_n 0, 1) := by decide +kernel
theorem dX10_bunchOf_14 : decode cX10_bunchOf 14 = .ok (.iload_n 1, 1) := by decide +kernel
theorem dX10_bunchOf_15 : decode cX10_bunchOf 15 = .ok (.iload_n 3, 1) := by decide +kernel
theorem dX10_bunchOf_16 : decode cX10_bunchOf 16 = .ok (.invokevirtual 156, 3) := by decide +kernel
theorem dX10_bunchOf_19 : decode cX10_bunchOf 19 = .ok (.ifCond .eq 9, 3) := by decide +kernel
theorem dX10_bunchOf_22 : decode cX10_bunchOf 22 = .ok (.iconst 1, 1) := by decide +kernel
theorem dX10_bunchOf_23 : decode cX10_bunchOf 23 = .ok (.iload_n 3, 1) := by decide +kernel
theorem dX10_bunchOf_24 : decode cX10_bunchOf 24 = .ok (.ishl, 1) := by decide +kernel
theorem dX10_bunchOf_25 : decode cX10_bunchOf 25 = .ok (.goto 4, 3) := by decide +kernel
theorem dX10_bunchOf_28 : decode cX10_bunchOf 28 = .ok (.iconst 0, 1) := by decide +kernel
theorem dX10_bunchOf_29 : decode cX10_bunchOf 29 = .ok (.ior, 1) := by decide +kernel
theorem dX10_bunchOf_30 : decode cX10_bunchOf 30 = .ok (.istore_n 2, 1) := by decide +kernel
theorem dX10_bunchOf_31 : decode cX10_bunchOf 31 = .ok (.iinc 3 1, 3) := by decide +kernel
theorem dX10_bunchOf_34 : decode cX10_bunchOf 34 = .ok (.goto (-30), 3) := by decide +kernel
theorem dX10_bunchOf_37 : decode cX10_bunchOf 37 = .ok (.iload_n 2, 1) := by decide +kernel
theorem dX10_bunchOf_38 : decode cX10_bunchOf 38 = .ok (.ireturn, 1) := by decide +kernel
theorem dX10_nearest_0 : decode cX10_nearest 0 = .ok (.aload_n 0, 1) := by decide +kernel
theorem dX10_nearest_1 : decode cX10_nearest 1 = .ok (.iload_n 1, 1) := by decide +kernel
theorem dX10_nearest_2 : decode cX10_nearest 2 = .ok (.invokevirtual 140, 3) := by decide +kernel
theorem dX10_nearest_5 : decode cX10_nearest 5 = .ok (.ifCond .ne 6, 3) := by decide +kernel
theorem dX10_nearest_8 : decode cX10_nearest 8 = .ok (.bipush (-2), 2) := by decide +kernel
theorem dX10_nearest_10 : decode cX10_nearest 10 = .ok (.ireturn, 1) := by decide +kernel
theorem dX10_nearest_11 : decode cX10_nearest 11 = .ok (.iload_n 2, 1) := by decide +kernel
theorem dX10_nearest_12 : decode cX10_nearest 12 = .ok (.i2l, 1) := by decide +kernel
theorem dX10_nearest_13 : decode cX10_nearest 13 = .ok (.lconst 0, 1) := by decide +kernel
theorem dX10_nearest_14 : decode cX10_nearest 14 = .ok (.ldc2_w 159, 3) := by decide +kernel
theorem dX10_nearest_17 : decode cX10_nearest 17 = .ok (.invokestatic 48, 3) := by decide +kernel
theorem dX10_nearest_20 : decode cX10_nearest 20 = .ok (.ifCond .eq 13, 3) := by decide +kernel
theorem dX10_nearest_23 : decode cX10_nearest 23 = .ok (.iload_n 3, 1) := by decide +kernel
theorem dX10_nearest_24 : decode cX10_nearest 24 = .ok (.i2l, 1) := by decide +kernel
theorem dX10_nearest_25 : decode cX10_nearest 25 = .ok (.lconst 0, 1) := by decide +kernel
theorem dX10_nearest_26 : decode cX10_nearest 26 = .ok (.lconst 1, 1) := by decide +kernel
theorem dX10_nearest_27 : decode cX10_nearest 27 = .ok (.invokestatic 48, 3) := by decide +kernel
theorem dX10_nearest_30 : decode cX10_nearest 30 = .ok (.ifCond .ne 6, 3) := by decide +kernel
theorem dX10_nearest_33 : decode cX10_nearest 33 = .ok (.bipush (-3), 2) := by decide +kernel
theorem dX10_nearest_35 : decode cX10_nearest 35 = .ok (.ireturn, 1) := by decide +kernel
theorem dX10_nearest_36 : decode cX10_nearest 36 = .ok (.aload_n 0, 1) := by decide +kernel
theorem dX10_nearest_37 : decode cX10_nearest 37 = .ok (.iconst 0, 1) := by decide +kernel
theorem dX10_nearest_38 : decode cX10_nearest 38 = .ok (.invokevirtual 144, 3) := by decide +kernel
theorem dX10_nearest_41 : decode cX10_nearest 41 = .ok (.aload_n 0, 1) := by decide +kernel
theorem dX10_nearest_42 : decode cX10_nearest 42 = .ok (.iload_n 1, 1) := by decide +kernel
theorem dX10_nearest_43 : decode cX10_nearest 43 = .ok (.iload_n 2, 1) := by decide +kernel
theorem dX10_nearest_44 : decode cX10_nearest 44 = .ok (.invokevirtual 152, 3) := by decide +kernel
theorem dX10_nearest_47 : decode cX10_nearest 47 = .ok (.istore 4, 2) := by decide +kernel
theorem dX10_nearest_49 : decode cX10_nearest 49 = .ok (.iload 4, 2) := by decide +kernel
theorem dX10_nearest_51 : decode cX10_nearest 51 = .ok (.iconst (-1), 1) := by decide +kernel
theorem dX10_nearest_52 : decode cX10_nearest 52 = .ok (.if_icmp .eq 7, 3) := by decide +kernel
theorem dX10_nearest_55 : decode cX10_nearest 55 = .ok (.iload_n 3, 1) := by decide +kernel
theorem dX10_nearest_56 : decode cX10_nearest 56 = .ok (.ifCond .ne 8, 3) := by decide +kernel
theorem dX10_nearest_59 : decode cX10_nearest 59 = .ok (.iload 4, 2) := by decide +kernel
theorem dX10_nearest_61 : decode cX10_nearest 61 = .ok (.goto 15, 3) := by decide +kernel
theorem dX10_nearest_64 : decode cX10_nearest 64 = .ok (.aload_n 0, 1) := by decide +kernel
theorem dX10_nearest_65 : decode cX10_nearest 65 = .ok (.getfield 36, 3) := by decide +kernel
theorem dX10_nearest_68 : decode cX10_nearest 68 = .ok (.bipush 12, 2) := by decide +kernel
theorem dX10_nearest_70 : decode cX10_nearest 70 = .ok (.iload_n 1, 1) := by decide +kernel
theorem dX10_nearest_71 : decode cX10_nearest 71 = .ok (.imul, 1) := by decide +kernel
theorem dX10_nearest_72 : decode cX10_nearest 72 = .ok (.iload 4, 2) := by decide +kernel
theorem dX10_nearest_74 : decode cX10_nearest 74 = .ok (.iadd, 1) := by decide +kernel
theorem dX10_nearest_75 : decode cX10_nearest 75 = .ok (.iaload, 1) := by decide +kernel
theorem dX10_nearest_76 : decode cX10_nearest 76 = .ok (.ireturn, 1) := by decide +kernel
theorem dX10_bunch_0 : decode cX10_bunch 0 = .ok (.aload_n 0, 1) := by decide +kernel
theorem dX10_bunch_1 : decode cX10_bunch 1 = .ok (.iload_n 1, 1) := by decide +kernel
theorem dX10_bunch_2 : decode cX10_bunch 2 = .ok (.invokevirtual 140, 3) := by decide +kernel
theorem dX10_bunch_5 : decode cX10_bunch 5 = .ok (.ifCond .ne 6, 3) := by decide +kernel
theorem dX10_bunch_8 : decode cX10_bunch 8 = .ok (.bipush (-2), 2) := by decide +kernel
theorem dX10_bunch_10 : decode cX10_bunch 10 = .ok (.ireturn, 1) := by decide +kernel
theorem dX10_bunch_11 : decode cX10_bunch 11 = .ok (.iload_n 2, 1) := by decide +kernel
theorem dX10_bunch_12 : decode cX10_bunch 12 = .ok (.i2l, 1) := by decide +kernel
theorem dX10_bunch_13 : decode cX10_bunch 13 = .ok (.lconst 0, 1) := by decide +kernel
theorem dX10_bunch_14 : decode cX10_bunch 14 = .ok (.lconst 1, 1) := by decide +kernel
theorem dX10_bunch_15 : decode cX10_bunch 15 = .ok (.invokestatic 48, 3) := by decide +kernel
theorem dX10_bunch_18 : decode cX10_bunch 18 = .ok (.ifCond .ne 6, 3) := by decide +kernel
theorem dX10_bunch_21 : decode cX10_bunch 21 = .ok (.bipush (-3), 2) := by decide +kernel
theorem dX10_bunch_23 : decode cX10_bunch 23 = .ok (.ireturn, 1) := by decide +kernel
theorem dX10_bunch_24 : decode cX10_bunch 24 = .ok (.aload_n 0, 1) := by decide +kernel
theorem dX10_bunch_25 : decode cX10_bunch 25 = .ok (.iconst 0, 1) := by decide +kernel
theorem dX10_bunch_26 : decode cX10_bunch 26 = .ok (.invokevirtual 144, 3) := by decide +kernel
theorem dX10_bunch_29 : decode cX10_bunch 29 = .ok (.iload_n 2, 1) := by decide +kernel
theorem dX10_bunch_30 : decode cX10_bunch 30 = .ok (.ifCond .ne 9, 3) := by decide +kernel
theorem dX10_bunch_33 : decode cX10_bunch 33 = .ok (.aload_n 0, 1) := by decide +kernel
theorem dX10_bunch_34 : decode cX10_bunch 34 = .ok (.iload_n 1, 1) := by decide +kernel
theorem dX10_bunch_35 : decode cX10_bunch 35 = .ok (.invokevirtual 161, 3) := by decide +kernel
theorem dX10_bunch_38 : decode cX10_bunch 38 = .ok (.ireturn, 1) := by decide +kernel
theorem dX10_bunch_39 : decode cX10_bunch 39 = .ok (.iconst 0, 1) := by decide +kernel
theorem dX10_bunch_40 : decode cX10_bunch 40 = .ok (.istore_n 3, 1) := by decide +kernel
theorem dX10_bunch_41 : decode cX10_bunch 41 = .ok (.iconst 0, 1) := by decide +kernel
theorem dX10_bunch_42 : decode cX10_bunch 42 = .ok (.istore 4, 2) := by decide +kernel
theorem dX10_bunch_44 : decode cX10_bunch 44 = .ok (.iload 4, 2) := by decide +kernel
theorem dX10_bunch_46 : decode cX10_bunch 46 = .ok (.aload_n 0, 1) := by decide +kernel
theorem dX10_bunch_47 : decode cX10_bunch 47 = .ok (.getfield 13, 3) := by decide +kernel
theorem dX10_bunch_50 : decode cX10_bunch 50 = .ok (.if_icmp .ge 30, 3) := by decide +kernel
theorem dX10_bunch_53 : decode cX10_bunch 53 = .ok (.iload_n 3, 1) := by decide +kernel
theorem dX10_bunch_54 : decode cX10_bunch 54 = .ok (.aload_n 0, 1) := by decide +kernel
theorem dX10_bunch_55 : decode cX10_bunch 55 = .ok (.iload 4, 2) := by decide +kernel
theorem dX10_bunch_57 : decode cX10_bunch 57 = .ok (.iload_n 1, 1) := by decide +kernel
theorem dX10_bunch_58 : decode cX10_bunch 58 = .ok (.invokevirtual 156, 3) := by decide +kernel
theorem dX10_bunch_61 : decode cX10_bunch 61 = .ok (.ifCond .eq 10, 3) := by decide +kernel
theorem dX10_bunch_64 : decode cX10_bunch 64 = .ok (.iconst 1, 1) := by decide +kernel
theorem dX10_bunch_65 : decode cX10_bunch 65 = .ok (.iload 4, 2) := by decide +kernel
theorem dX10_bunch_67 : decode cX10_bunch 67 = .ok (.ishl, 1) := by decide +kernel
theorem dX10_bunch_68 : decode cX10_bunch 68 = .ok (.goto 4, 3) := by decide +kernel
theorem dX10_bunch_71 : decode cX10_bunch 71 = .ok (.iconst 0, 1) := by decide +kernel
theorem dX10_bunch_72 : decode cX10_bunch 72 = .ok (.ior, 1) := by decide +kernel
theorem dX10_bunch_73 : decode cX10_bunch 73 = .ok (.istore_n 3, 1) := by decide +kernel
theorem dX10_bunch_74 : decode cX10_bunch 74 = .ok (.iinc 4 1, 3) := by decide +kernel
theorem dX10_bunch_77 : decode cX10_bunch 77 = .ok (.goto (-33), 3) := by decide +kernel
theorem dX10_bunch_80 : decode cX10_bunch 80 = .ok (.iload_n 3, 1) := by decide +kernel
theorem dX10_bunch_81 : decode cX10_bunch 81 = .ok (.ireturn, 1) := by decide +kernel
theorem dX10_nextOf_0 : decode cX10_nextOf 0 = .ok (.iconst 0, 1) := by decide +kernel
theorem dX10_nextOf_1 : decode cX10_nextOf 1 = .ok (.istore_n 3, 1) := by decide +kernel
theorem dX10_nextOf_2 : decode cX10_nextOf 2 = .ok (.iload_n 3, 1) := by decide +kernel
theorem dX10_nextOf_3 : decode cX10_nextOf 3 = .ok (.aload_n 0, 1) := by decide +kernel
theorem dX10_nextOf_4 : decode cX10_nextOf 4 = .ok (.getfield 13, 3) := by decide +kernel
theorem dX10_nextOf_7 : decode cX10_nextOf 7 = .ok (.if_icmp .ge 66, 3) := by decide +kernel
theorem dX10_nextOf_10 : decode cX10_nextOf 10 = .ok (.iload_n 1, 1) := by decide +kernel
theorem dX10_nextOf_11 : decode cX10_nextOf 11 = .ok (.iload_n 2, 1) := by decide +kernel
theorem dX10_nextOf_12 : decode cX10_nextOf 12 = .ok (.if_icmp .eq 61, 3) := by decide +kernel
theorem dX10_nextOf_15 : decode cX10_nextOf 15 = .ok (.aload_n 0, 1) := by decide +kernel
theorem dX10_nextOf_16 : decode cX10_nextOf 16 = .ok (.iload_n 1, 1) := by decide +kernel
theorem dX10_nextOf_17 : decode cX10_nextOf 17 = .ok (.iload_n 2, 1) := by decide +kernel
theorem dX10_nextOf_18 : decode cX10_nextOf 18 = .ok (.invokevirtual 148, 3) := by decide +kernel
theorem dX10_nextOf_21 : decode cX10_nextOf 21 = .ok (.ifCond .eq 52, 3) := by decide +kernel
theorem dX10_nextOf_24 : decode cX10_nextOf 24 = .ok (.aload_n 0, 1) := by decide +kernel
theorem dX10_nextOf_25 : decode cX10_nextOf 25 = .ok (.iload_n 1, 1) := by decide +kernel
theorem dX10_nextOf_26 : decode cX10_nextOf 26 = .ok (.iload_n 3, 1) := by decide +kernel
theorem dX10_nextOf_27 : decode cX10_nextOf 27 = .ok (.invokevirtual 164, 3) := by decide +kernel
theorem dX10_nextOf_30 : decode cX10_nextOf 30 = .ok (.ifCond .le 37, 3) := by decide +kernel
theorem dX10_nextOf_33 : decode cX10_nextOf 33 = .ok (.aload_n 0, 1) := by decide +kernel
theorem dX10_nextOf_34 : decode cX10_nextOf 34 = .ok (.iload_n 1, 1) := by decide +kernel
theorem dX10_nextOf_35 : decode cX10_nextOf 35 = .ok (.iload_n 3, 1) := by decide +kernel
theorem dX10_nextOf_36 : decode cX10_nextOf 36 = .ok (.invokevirtual 164, 3) := by decide +kernel
theorem dX10_nextOf_39 : decode cX10_nextOf 39 = .ok (.aload_n 0, 1) := by decide +kernel
theorem dX10_nextOf_40 : decode cX10_nextOf 40 = .ok (.getfield 36, 3) := by decide +kernel
theorem dX10_nextOf_43 : decode cX10_nextOf 43 = .ok (.bipush 12, 2) := by decide +kernel
theorem dX10_nextOf_45 : decode cX10_nextOf 45 = .ok (.iload_n 3, 1) := by decide +kernel
theorem dX10_nextOf_46 : decode cX10_nextOf 46 = .ok (.imul, 1) := by decide +kernel
theorem dX10_nextOf_47 : decode cX10_nextOf 47 = .ok (.iload_n 2, 1) := by decide +kernel
theorem dX10_nextOf_48 : decode cX10_nextOf 48 = .ok (.iadd, 1) := by decide +kernel
theorem dX10_nextOf_49 : decode cX10_nextOf 49 = .ok (.iaload, 1) := by decide +kernel
theorem dX10_nextOf_50 : decode cX10_nextOf 50 = .ok (.iadd, 1) := by decide +kernel
theorem dX10_nextOf_51 : decode cX10_nextOf 51 = .ok (.aload_n 0, 1) := by decide +kernel
theorem dX10_nextOf_52 : decode cX10_nextOf 52 = .ok (.getfield 36, 3) := by decide +kernel
theorem dX10_nextOf_55 : decode cX10_nextOf 55 = .ok (.bipush 12, 2) := by decide +kernel
theorem dX10_nextOf_57 : decode cX10_nextOf 57 = .ok (.iload_n 1, 1) := by decide +kernel
theorem dX10_nextOf_58 : decode cX10_nextOf 58 = .ok (.imul, 1) := by decide +kernel
theorem dX10_nextOf_59 : decode cX10_nextOf 59 = .ok (.iload_n 2, 1) := by decide +kernel
theorem dX10_nextOf_60 : decode cX10_nextOf 60 = .ok (.iadd, 1) := by decide +kernel
theorem dX10_nextOf_61 : decode cX10_nextOf 61 = .ok (.iaload, 1) := by decide +kernel
theorem dX10_nextOf_62 : decode cX10_nextOf 62 = .ok (.if_icmp .ne 5, 3) := by decide +kernel
theorem dX10_nextOf_65 : decode cX10_nextOf 65 = .ok (.iload_n 3, 1) := by decide +kernel
theorem dX10_nextOf_66 : decode cX10_nextOf 66 = .ok (.ireturn, 1) := by decide +kernel
theorem dX10_nextOf_67 : decode cX10_nextOf 67 = .ok (.iinc 3 1, 3) := by decide +kernel
theorem dX10_nextOf_70 : decode cX10_nextOf 70 = .ok (.goto (-68), 3) := by decide +kernel
theorem dX10_nextOf_73 : decode cX10_nextOf 73 = .ok (.iconst (-1), 1) := by decide +kernel
theorem dX10_nextOf_74 : decode cX10_nextOf 74 = .ok (.ireturn, 1) := by decide +kernel
theorem dX10_next_0 : decode cX10_next 0 = .ok (.aload_n 0, 1) := by decide +kernel
theorem dX10_next_1 : decode cX10_next 1 = .ok (.iload_n 1, 1) := by decide +kernel
theorem dX10_next_2 : decode cX10_next 2 = .ok (.invokevirtual 140, 3) := by decide +kernel
theorem dX10_next_5 : decode cX10_next 5 = .ok (.ifCond .eq 11, 3) := by decide +kernel
theorem dX10_next_8 : decode cX10_next 8 = .ok (.aload_n 0, 1) := by decide +kernel
theorem dX10_next_9 : decode cX10_next 9 = .ok (.iload_n 2, 1) := by decide +kernel
theorem dX10_next_10 : decode cX10_next 10 = .ok (.invokevirtual 140, 3) := by decide +kernel
theorem dX10_next_13 : decode cX10_next 13 = .ok (.ifCond .ne 6, 3) := by decide +kernel
theorem dX10_next_16 : decode cX10_next 16 = .ok (.bipush (-2), 2) := by decide +kernel
theorem dX10_next_18 : decode cX10_next 18 = .ok (.ireturn, 1) := by decide +kernel
theorem dX10_next_19 : decode cX10_next 19 = .ok (.aload_n 0, 1) := by decide +kernel
theorem dX10_next_20 : decode cX10_next 20 = .ok (.iconst 0, 1) := by decide +kernel
theorem dX10_next_21 : decode cX10_next 21 = .ok (.invokevirtual 144, 3) := by decide +kernel
theorem dX10_next_24 : decode cX10_next 24 = .ok (.aload_n 0, 1) := by decide +kernel
theorem dX10_next_25 : decode cX10_next 25 = .ok (.iload_n 1, 1) := by decide +kernel
theorem dX10_next_26 : decode cX10_next 26 = .ok (.iload_n 2, 1) := by decide +kernel
theorem dX10_next_27 : decode cX10_next 27 = .ok (.invokevirtual 166, 3) := by decide +kernel
theorem dX10_next_30 : decode cX10_next 30 = .ok (.ireturn, 1) := by decide +kernel
theorem dX10_takes_0 : decode cX10_takes 0 = .ok (.iconst 0, 1) := by decide +kernel
theorem dX10_takes_1 : decode cX10_takes 1 = .ok (.istore_n 3, 1) := by decide +kernel
theorem dX10_takes_2 : decode cX10_takes 2 = .ok (.iload_n 3, 1) := by decide +kernel
theorem dX10_takes_3 : decode cX10_takes 3 = .ok (.sipush 144, 3) := by decide +kernel
theorem dX10_takes_6 : decode cX10_takes 6 = .ok (.if_icmp .ge 81, 3) := by decide +kernel
theorem dX10_takes_9 : decode cX10_takes 9 = .ok (.iload_n 3, 1) := by decide +kernel
theorem dX10_takes_10 : decode cX10_takes 10 = .ok (.bipush 12, 2) := by decide +kernel
theorem dX10_takes_12 : decode cX10_takes 12 = .ok (.idiv, 1) := by decide +kernel
theorem dX10_takes_13 : decode cX10_takes 13 = .ok (.iload_n 3, 1) := by decide +kernel
theorem dX10_takes_14 : decode cX10_takes 14 = .ok (.bipush 12, 2) := by decide +kernel
theorem dX10_takes_16 : decode cX10_takes 16 = .ok (.irem, 1) := by decide +kernel
theorem dX10_takes_17 : decode cX10_takes 17 = .ok (.if_icmp .ge 64, 3) := by decide +kernel
theorem dX10_takes_20 : decode cX10_takes 20 = .ok (.aload_n 0, 1) := by decide +kernel
theorem dX10_takes_21 : decode cX10_takes 21 = .ok (.getfield 7, 3) := by decide +kernel
theorem dX10_takes_24 : decode cX10_takes 24 = .ok (.iload_n 3, 1) := by decide +kernel
theorem dX10_takes_25 : decode cX10_takes 25 = .ok (.iaload, 1) := by decide +kernel
theorem dX10_takes_26 : decode cX10_takes 26 = .ok (.iload_n 2, 1) := by decide +kernel
theorem dX10_takes_27 : decode cX10_takes 27 = .ok (.if_icmp .ne 54, 3) := by decide +kernel
theorem dX10_takes_30 : decode cX10_takes 30 = .ok (.aload_n 0, 1) := by decide +kernel
theorem dX10_takes_31 : decode cX10_takes 31 = .ok (.iconst 1, 1) := by decide +kernel
theorem dX10_takes_32 : decode cX10_takes 32 = .ok (.invokevirtual 144, 3) := by decide +kernel
theorem dX10_takes_35 : decode cX10_takes 35 = .ok (.aload_n 0, 1) := by decide +kernel
theorem dX10_takes_36 : decode cX10_takes 36 = .ok (.getfield 36, 3) := by decide +kernel
theorem dX10_takes_39 : decode cX10_takes 39 = .ok (.iload_n 3, 1) := by decide +kernel
theorem dX10_takes_40 : decode cX10_takes 40 = .ok (.iaload, 1) := by decide +kernel
theorem dX10_takes_41 : decode cX10_takes 41 = .ok (.iload_n 1, 1) := by decide +kernel
theorem dX10_takes_42 : decode cX10_takes 42 = .ok (.iload_n 2, 1) := by decide +kernel
theorem dX10_takes_43 : decode cX10_takes 43 = .ok (.imul, 1) := by decide +kernel
theorem dX10_takes_44 : decode cX10_takes 44 = .ok (.if_icmp .le 7, 3) := by decide +kernel
theorem dX10_takes_47 : decode cX10_takes 47 = .ok (.iconst 1, 1) := by decide +kernel
theorem dX10_takes_48 : decode cX10_takes 48 = .ok (.goto 4, 3) := by decide +kernel
theorem dX10_takes_51 : decode cX10_takes 51 = .ok (.iconst 0, 1) := by decide +kernel
theorem dX10_takes_52 : decode cX10_takes 52 = .ok (.istore 4, 2) := by decide +kernel
theorem dX10_takes_54 : decode cX10_takes 54 = .ok (.aload_n 0, 1) := by decide +kernel
theorem dX10_takes_55 : decode cX10_takes 55 = .ok (.getfield 39, 3) := by decide +kernel
theorem dX10_takes_58 : decode cX10_takes 58 = .ok (.iload_n 3, 1) := by decide +kernel
theorem dX10_takes_59 : decode cX10_takes 59 = .ok (.iload 4, 2) := by decide +kernel
theorem dX10_takes_61 : decode cX10_takes 61 = .ok (.bastore, 1) := by decide +kernel
theorem dX10_takes_62 : decode cX10_takes 62 = .ok (.aload_n 0, 1) := by decide +kernel
theorem dX10_takes_63 : decode cX10_takes 63 = .ok (.getfield 39, 3) := by decide +kernel
theorem dX10_takes_66 : decode cX10_takes 66 = .ok (.iload_n 3, 1) := by decide +kernel
theorem dX10_takes_67 : decode cX10_takes 67 = .ok (.bipush 12, 2) := by decide +kernel
theorem dX10_takes_69 : decode cX10_takes 69 = .ok (.irem, 1) := by decide +kernel
theorem dX10_takes_70 : decode cX10_takes 70 = .ok (.bipush 12, 2) := by decide +kernel
theorem dX10_takes_72 : decode cX10_takes 72 = .ok (.imul, 1) := by decide +kernel
theorem dX10_takes_73 : decode cX10_takes 73 = .ok (.iload_n 3, 1) := by decide +kernel
theorem dX10_takes_74 : decode cX10_takes 74 = .ok (.bipush 12, 2) := by decide +kernel
theorem dX10_takes_76 : decode cX10_takes 76 = .ok (.idiv, 1) := by decide +kernel
theorem dX10_takes_77 : decode cX10_takes 77 = .ok (.iadd, 1) := by decide +kernel
theorem dX10_takes_78 : decode cX10_takes 78 = .ok (.iload 4, 2) := by decide +kernel
theorem dX10_takes_80 : decode cX10_takes 80 = .ok (.bastore, 1) := by decide +kernel
theorem dX10_takes_81 : decode cX10_takes 81 = .ok (.iinc 3 1, 3) := by decide +kernel
theorem dX10_takes_84 : decode cX10_takes 84 = .ok (.goto (-82), 3) := by decide +kernel
theorem dX10_takes_87 : decode cX10_takes 87 = .ok (.return_, 1) := by decide +kernel
theorem dX10_thins_0 : decode cX10_thins 0 = .ok (.iconst 0, 1) := by decide +kernel
theorem dX10_thins_1 : decode cX10_thins 1 = .ok (.istore_n 2, 1) := by decide +kernel
theorem dX10_thins_2 : decode cX10_thins 2 = .ok (.iload_n 2, 1) := by decide +kernel
theorem dX10_thins_3 : decode cX10_thins 3 = .ok (.sipush 144, 3) := by decide +kernel
theorem dX10_thins_6 : decode cX10_thins 6 = .ok (.if_icmp .ge 16, 3) := by decide +kernel
theorem dX10_thins_9 : decode cX10_thins 9 = .ok (.aload_n 0, 1) := by decide +kernel
theorem dX10_thins_10 : decode cX10_thins 10 = .ok (.getfield 39, 3) := by decide +kernel
theorem dX10_thins_13 : decode cX10_thins 13 = .ok (.iload_n 2, 1) := by decide +kernel
theorem dX10_thins_14 : decode cX10_thins 14 = .ok (.iconst 0, 1) := by decide +kernel
theorem dX10_thins_15 : decode cX10_thins 15 = .ok (.bastore, 1) := by decide +kernel
theorem dX10_thins_16 : decode cX10_thins 16 = .ok (.iinc 2 1, 3) := by decide +kernel
theorem dX10_thins_19 : decode cX10_thins 19 = .ok (.goto (-17), 3) := by decide +kernel
theorem dX10_thins_22 : decode cX10_thins 22 = .ok (.iconst 1, 1) := by decide +kernel
theorem dX10_thins_23 : decode cX10_thins 23 = .ok (.istore_n 2, 1) := by decide +kernel
theorem dX10_thins_24 : decode cX10_thins 24 = .ok (.iload_n 2, 1) := by decide +kernel
theorem dX10_thins_25 : decode cX10_thins 25 = .ok (.bipush 100, 2) := by decide +kernel
theorem dX10_thins_27 : decode cX10_thins 27 = .ok (.if_icmp .ge 15, 3) := by decide +kernel
theorem dX10_thins_30 : decode cX10_thins 30 = .ok (.aload_n 0, 1) := by decide +kernel
theorem dX10_thins_31 : decode cX10_thins 31 = .ok (.iload_n 1, 1) := by decide +kernel
theorem dX10_thins_32 : decode cX10_thins 32 = .ok (.iload_n 2, 1) := by decide +kernel
theorem dX10_thins_33 : decode cX10_thins 33 = .ok (.invokevirtual 169, 3) := by decide +kernel
theorem dX10_thins_36 : decode cX10_thins 36 = .ok (.iinc 2 1, 3) := by decide +kernel
theorem dX10_thins_39 : decode cX10_thins 39 = .ok (.goto (-15), 3) := by decide +kernel
theorem dX10_thins_42 : decode cX10_thins 42 = .ok (.return_, 1) := by decide +kernel
theorem dX10_thinned_0 : decode cX10_thinned 0 = .ok (.iload_n 1, 1) := by decide +kernel
theorem dX10_thinned_1 : decode cX10_thinned 1 = .ok (.i2l, 1) := by decide +kernel
theorem dX10_thinned_2 : decode cX10_thinned 2 = .ok (.lconst 1, 1) := by decide +kernel
theorem dX10_thinned_3 : decode cX10_thinned 3 = .ok (.ldc2_w 173, 3) := by decide +kernel
theorem dX10_thinned_6 : decode cX10_thinned 6 = .ok (.invokestatic 48, 3) := by decide +kernel
theorem dX10_thinned_9 : decode cX10_thinned 9 = .ok (.ifCond .ne 6, 3) := by decide +kernel
theorem dX10_thinned_12 : decode cX10_thinned 12 = .ok (.bipush (-3), 2) := by decide +kernel
theorem dX10_thinned_14 : decode cX10_thinned 14 = .ok (.ireturn, 1) := by decide +kernel
theorem dX10_thinned_15 : decode cX10_thinned 15 = .ok (.iload_n 2, 1) := by decide +kernel
theorem dX10_thinned_16 : decode cX10_thinned 16 = .ok (.iconst (-1), 1) := by decide +kernel
theorem dX10_thinned_17 : decode cX10_thinned 17 = .ok (.if_icmp .ne 7, 3) := by decide +kernel
theorem dX10_thinned_20 : decode cX10_thinned 20 = .ok (.iconst 0, 1) := by decide +kernel
theorem dX10_thinned_21 : decode cX10_thinned 21 = .ok (.goto 8, 3) := by decide +kernel
theorem dX10_thinned_24 : decode cX10_thinned 24 = .ok (.aload_n 0, 1) := by decide +kernel
theorem dX10_thinned_25 : decode cX10_thinned 25 = .ok (.iload_n 2, 1) := by decide +kernel
theorem dX10_thinned_26 : decode cX10_thinned 26 = .ok (.invokevirtual 136, 3) := by decide +kernel
theorem dX10_thinned_29 : decode cX10_thinned 29 = .ok (.istore_n 3, 1) := by decide +kernel
theorem dX10_thinned_30 : decode cX10_thinned 30 = .ok (.iload_n 3, 1) := by decide +kernel
theorem dX10_thinned_31 : decode cX10_thinned 31 = .ok (.ifCond .ge 6, 3) := by decide +kernel
theorem dX10_thinned_34 : decode cX10_thinned 34 = .ok (.bipush (-2), 2) := by decide +kernel
theorem dX10_thinned_36 : decode cX10_thinned 36 = .ok (.ireturn, 1) := by decide +kernel
theorem dX10_thinned_37 : decode cX10_thinned 37 = .ok (.aload_n 0, 1) := by decide +kernel
theorem dX10_thinned_38 : decode cX10_thinned 38 = .ok (.iload_n 1, 1) := by decide +kernel
theorem dX10_thinned_39 : decode cX10_thinned 39 = .ok (.invokevirtual 175, 3) := by decide +kernel
theorem dX10_thinned_42 : decode cX10_thinned 42 = .ok (.iload_n 2, 1) := by decide +kernel
theorem dX10_thinned_43 : decode cX10_thinned 43 = .ok (.iconst (-1), 1) := by decide +kernel
theorem dX10_thinned_44 : decode cX10_thinned 44 = .ok (.if_icmp .eq 18, 3) := by decide +kernel
theorem dX10_thinned_47 : decode cX10_thinned 47 = .ok (.aload_n 0, 1) := by decide +kernel
theorem dX10_thinned_48 : decode cX10_thinned 48 = .ok (.getfield 39, 3) := by decide +kernel
theorem dX10_thinned_51 : decode cX10_thinned 51 = .ok (.iload_n 3, 1) := by decide +kernel
theorem dX10_thinned_52 : decode cX10_thinned 52 = .ok (.baload, 1) := by decide +kernel
theorem dX10_thinned_53 : decode cX10_thinned 53 = .ok (.ifCond .eq 7, 3) := by decide +kernel
theorem dX10_thinned_56 : decode cX10_thinned 56 = .ok (.iconst 1, 1) := by decide +kernel
theorem dX10_thinned_57 : decode cX10_thinned 57 = .ok (.goto 4, 3) := by decide +kernel
theorem dX10_thinned_60 : decode cX10_thinned 60 = .ok (.iconst 0, 1) := by decide +kernel
theorem dX10_thinned_61 : decode cX10_thinned 61 = .ok (.ireturn, 1) := by decide +kernel
theorem dX10_thinned_62 : decode cX10_thinned 62 = .ok (.iconst 0, 1) := by decide +kernel
theorem dX10_thinned_63 : decode cX10_thinned 63 = .ok (.istore 4, 2) := by decide +kernel
theorem dX10_thinned_65 : decode cX10_thinned 65 = .ok (.iconst 0, 1) := by decide +kernel
theorem dX10_thinned_66 : decode cX10_thinned 66 = .ok (.istore 5, 2) := by decide +kernel
theorem dX10_thinned_68 : decode cX10_thinned 68 = .ok (.iload 5, 2) := by decide +kernel
theorem dX10_thinned_70 : decode cX10_thinned 70 = .ok (.sipush 144, 3) := by decide +kernel
theorem dX10_thinned_73 : decode cX10_thinned 73 = .ok (.if_icmp .ge 29, 3) := by decide +kernel
theorem dX10_thinned_76 : decode cX10_thinned 76 = .ok (.iload 4, 2) := by decide +kernel
theorem dX10_thinned_78 : decode cX10_thinned 78 = .ok (.aload_n 0, 1) := by decide +kernel
theorem dX10_thinned_79 : decode cX10_thinned 79 = .ok (.getfield 39, 3) := by decide +kernel
theorem dX10_thinned_82 : decode cX10_thinned 82 = .ok (.iload 5, 2) := by decide +kernel
theorem dX10_thinned_84 : decode cX10_thinned 84 = .ok (.baload, 1) := by decide +kernel
theorem dX10_thinned_85 : decode cX10_thinned 85 = .ok (.ifCond .eq 7, 3) := by decide +kernel
theorem dX10_thinned_88 : decode cX10_thinned 88 = .ok (.iconst 1, 1) := by decide +kernel
theorem dX10_thinned_89 : decode cX10_thinned 89 = .ok (.goto 4, 3) := by decide +kernel
theorem dX10_thinned_92 : decode cX10_thinned 92 = .ok (.iconst 0, 1) := by decide +kernel
theorem dX10_thinned_93 : decode cX10_thinned 93 = .ok (.iadd, 1) := by decide +kernel
theorem dX10_thinned_94 : decode cX10_thinned 94 = .ok (.istore 4, 2) := by decide +kernel
theorem dX10_thinned_96 : decode cX10_thinned 96 = .ok (.iinc 5 1, 3) := by decide +kernel
theorem dX10_thinned_99 : decode cX10_thinned 99 = .ok (.goto (-31), 3) := by decide +kernel
theorem dX10_thinned_102 : decode cX10_thinned 102 = .ok (.iload 4, 2) := by decide +kernel
theorem dX10_thinned_104 : decode cX10_thinned 104 = .ok (.iconst 2, 1) := by decide +kernel
theorem dX10_thinned_105 : decode cX10_thinned 105 = .ok (.idiv, 1) := by decide +kernel
theorem dX10_thinned_106 : decode cX10_thinned 106 = .ok (.ireturn, 1) := by decide +kernel
theorem dX10_divisor_0 : decode cX10_divisor 0 = .ok (.iload_n 0, 1) := by decide +kernel
theorem dX10_divisor_1 : decode cX10_divisor 1 = .ok (.istore_n 2, 1) := by decide +kernel
theorem dX10_divisor_2 : decode cX10_divisor 2 = .ok (.iload_n 1, 1) := by decide +kernel
theorem dX10_divisor_3 : decode cX10_divisor 3 = .ok (.istore_n 3, 1) := by decide +kernel
theorem dX10_divisor_4 : decode cX10_divisor 4 = .ok (.iload_n 3, 1) := by decide +kernel
theorem dX10_divisor_5 : decode cX10_divisor 5 = .ok (.ifCond .eq 16, 3) := by decide +kernel
theorem dX10_divisor_8 : decode cX10_divisor 8 = .ok (.iload_n 2, 1) := by decide +kernel
theorem dX10_divisor_9 : decode cX10_divisor 9 = .ok (.iload_n 3, 1) := by decide +kernel
theorem dX10_divisor_10 : decode cX10_divisor 10 = .ok (.irem, 1) := by decide +kernel
theorem dX10_divisor_11 : decode cX10_divisor 11 = .ok (.istore 4, 2) := by decide +kernel
theorem dX10_divisor_13 : decode cX10_divisor 13 = .ok (.iload_n 3, 1) := by decide +kernel
theorem dX10_divisor_14 : decode cX10_divisor 14 = .ok (.istore_n 2, 1) := by decide +kernel
theorem dX10_divisor_15 : decode cX10_divisor 15 = .ok (.iload 4, 2) := by decide +kernel
theorem dX10_divisor_17 : decode cX10_divisor 17 = .ok (.istore_n 3, 1) := by decide +kernel
theorem dX10_divisor_18 : decode cX10_divisor 18 = .ok (.goto (-14), 3) := by decide +kernel
theorem dX10_divisor_21 : decode cX10_divisor 21 = .ok (.iload_n 2, 1) := by decide +kernel
theorem dX10_divisor_22 : decode cX10_divisor 22 = .ok (.ireturn, 1) := by decide +kernel
theorem dX10_worst_0 : decode cX10_worst 0 = .ok (.iload_n 1, 1) := by decide +kernel
theorem dX10_worst_1 : decode cX10_worst 1 = .ok (.i2l, 1) := by decide +kernel
theorem dX10_worst_2 : decode cX10_worst 2 = .ok (.lconst 1, 1) := by decide +kernel
theorem dX10_worst_3 : decode cX10_worst 3 = .ok (.ldc2_w 173, 3) := by decide +kernel
theorem dX10_worst_6 : decode cX10_worst 6 = .ok (.invokestatic 48, 3) := by decide +kernel
theorem dX10_worst_9 : decode cX10_worst 9 = .ok (.ifCond .eq 13, 3) := by decide +kernel
theorem dX10_worst_12 : decode cX10_worst 12 = .ok (.iload_n 2, 1) := by decide +kernel
theorem dX10_worst_13 : decode cX10_worst 13 = .ok (.i2l, 1) := by decide +kernel
theorem dX10_worst_14 : decode cX10_worst 14 = .ok (.lconst 0, 1) := by decide +kernel
theorem dX10_worst_15 : decode cX10_worst 15 = .ok (.lconst 1, 1) := by decide +kernel
theorem dX10_worst_16 : decode cX10_worst 16 = .ok (.invokestatic 48, 3) := by decide +kernel
theorem dX10_worst_19 : decode cX10_worst 19 = .ok (.ifCond .ne 6, 3) := by decide +kernel
theorem dX10_worst_22 : decode cX10_worst 22 = .ok (.bipush (-3), 2) := by decide +kernel
theorem dX10_worst_24 : decode cX10_worst 24 = .ok (.ireturn, 1) := by decide +kernel
theorem dX10_worst_25 : decode cX10_worst 25 = .ok (.aload_n 0, 1) := by decide +kernel
theorem dX10_worst_26 : decode cX10_worst 26 = .ok (.iconst 0, 1) := by decide +kernel
theorem dX10_worst_27 : decode cX10_worst 27 = .ok (.invokevirtual 144, 3) := by decide +kernel
theorem dX10_worst_30 : decode cX10_worst 30 = .ok (.iconst 0, 1) := by decide +kernel
theorem dX10_worst_31 : decode cX10_worst 31 = .ok (.istore_n 3, 1) := by decide +kernel
theorem dX10_worst_32 : decode cX10_worst 32 = .ok (.iload_n 3, 1) := by decide +kernel
theorem dX10_worst_33 : decode cX10_worst 33 = .ok (.sipush 144, 3) := by decide +kernel
theorem dX10_worst_36 : decode cX10_worst 36 = .ok (.if_icmp .ge 21, 3) := by decide +kernel
theorem dX10_worst_39 : decode cX10_worst 39 = .ok (.aload_n 0, 1) := by decide +kernel
theorem dX10_worst_40 : decode cX10_worst 40 = .ok (.getfield 42, 3) := by decide +kernel
theorem dX10_worst_43 : decode cX10_worst 43 = .ok (.iload_n 3, 1) := by decide +kernel
theorem dX10_worst_44 : decode cX10_worst 44 = .ok (.aload_n 0, 1) := by decide +kernel
theorem dX10_worst_45 : decode cX10_worst 45 = .ok (.getfield 36, 3) := by decide +kernel
theorem dX10_worst_48 : decode cX10_worst 48 = .ok (.iload_n 3, 1) := by decide +kernel
theorem dX10_worst_49 : decode cX10_worst 49 = .ok (.iaload, 1) := by decide +kernel
theorem dX10_worst_50 : decode cX10_worst 50 = .ok (.iastore, 1) := by decide +kernel
theorem dX10_worst_51 : decode cX10_worst 51 = .ok (.iinc 3 1, 3) := by decide +kernel
theorem dX10_worst_54 : decode cX10_worst 54 = .ok (.goto (-22), 3) := by decide +kernel
theorem dX10_worst_57 : decode cX10_worst 57 = .ok (.aload_n 0, 1) := by decide +kernel
theorem dX10_worst_58 : decode cX10_worst 58 = .ok (.iload_n 1, 1) := by decide +kernel
theorem dX10_worst_59 : decode cX10_worst 59 = .ok (.invokevirtual 175, 3) := by decide +kernel
theorem dX10_worst_62 : decode cX10_worst 62 = .ok (.aload_n 0, 1) := by decide +kernel
theorem dX10_worst_63 : decode cX10_worst 63 = .ok (.iconst 1, 1) := by decide +kernel
theorem dX10_worst_64 : decode cX10_worst 64 = .ok (.invokevirtual 144, 3) := by decide +kernel
theorem dX10_worst_67 : decode cX10_worst 67 = .ok (.iconst 0, 1) := by decide +kernel
theorem dX10_worst_68 : decode cX10_worst 68 = .ok (.istore_n 3, 1) := by decide +kernel
theorem dX10_worst_69 : decode cX10_worst 69 = .ok (.iconst 1, 1) := by decide +kernel
theorem dX10_worst_70 : decode cX10_worst 70 = .ok (.istore 4, 2) := by decide +kernel
theorem dX10_worst_72 : decode cX10_worst 72 = .ok (.iconst 0, 1) := by decide +kernel
theorem dX10_worst_73 : decode cX10_worst 73 = .ok (.istore 5, 2) := by decide +kernel
theorem dX10_worst_75 : decode cX10_worst 75 = .ok (.iload 5, 2) := by decide +kernel
theorem dX10_worst_77 : decode cX10_worst 77 = .ok (.aload_n 0, 1) := by decide +kernel
theorem dX10_worst_78 : decode cX10_worst 78 = .ok (.getfield 13, 3) := by decide +kernel
theorem dX10_worst_81 : decode cX10_worst 81 = .ok (.if_icmp .ge 91, 3) := by decide +kernel
theorem dX10_worst_84 : decode cX10_worst 84 = .ok (.iload 5, 2) := by decide +kernel
theorem dX10_worst_86 : decode cX10_worst 86 = .ok (.iconst 1, 1) := by decide +kernel
theorem dX10_worst_87 : decode cX10_worst 87 = .ok (.iadd, 1) := by decide +kernel
theorem dX10_worst_88 : decode cX10_worst 88 = .ok (.istore 6, 2) := by decide +kernel
theorem dX10_worst_90 : decode cX10_worst 90 = .ok (.iload 6, 2) := by decide +kernel
theorem dX10_worst_92 : decode cX10_worst 92 = .ok (.aload_n 0, 1) := by decide +kernel
theorem dX10_worst_93 : decode cX10_worst 93 = .ok (.getfield 13, 3) := by decide +kernel
theorem dX10_worst_96 : decode cX10_worst 96 = .ok (.if_icmp .ge 70, 3) := by decide +kernel
theorem dX10_worst_99 : decode cX10_worst 99 = .ok (.bipush 12, 2) := by decide +kernel
theorem dX10_worst_101 : decode cX10_worst 101 = .ok (.iload 5, 2) := by decide +kernel
theorem dX10_worst_103 : decode cX10_worst 103 = .ok (.imul, 1) := by decide +kernel
theorem dX10_worst_104 : decode cX10_worst 104 = .ok (.iload 6, 2) := by decide +kernel
theorem dX10_worst_106 : decode cX10_worst 106 = .ok (.iadd, 1) := by decide +kernel
theorem dX10_worst_107 : decode cX10_worst 107 = .ok (.istore 7, 2) := by decide +kernel
theorem dX10_worst_109 : decode cX10_worst 109 = .ok (.aload_n 0, 1) := by decide +kernel
theorem dX10_worst_110 : decode cX10_worst 110 = .ok (.getfield 42, 3) := by decide +kernel
theorem dX10_worst_113 : decode cX10_worst 113 = .ok (.iload 7, 2) := by decide +kernel
theorem dX10_worst_115 : decode cX10_worst 115 = .ok (.iaload, 1) := by decide +kernel
theorem dX10_worst_116 : decode cX10_worst 116 = .ok (.ldc 143, 2) := by decide +kernel
theorem dX10_worst_118 : decode cX10_worst 118 = .ok (.if_icmp .ge 42, 3) := by decide +kernel
theorem dX10_worst_121 : decode cX10_worst 121 = .ok (.aload_n 0, 1) := by decide +kernel
theorem dX10_worst_122 : decode cX10_worst 122 = .ok (.getfield 36, 3) := by decide +kernel
theorem dX10_worst_125 : decode cX10_worst 125 = .ok (.iload 7, 2) := by decide +kernel
theorem dX10_worst_127 : decode cX10_worst 127 = .ok (.iaload, 1) := by decide +kernel
theorem dX10_worst_128 : decode cX10_worst 128 = .ok (.iload 4, 2) := by decide +kernel
theorem dX10_worst_130 : decode cX10_worst 130 = .ok (.imul, 1) := by decide +kernel
theorem dX10_worst_131 : decode cX10_worst 131 = .ok (.iload_n 3, 1) := by decide +kernel
theorem dX10_worst_132 : decode cX10_worst 132 = .ok (.aload_n 0, 1) := by decide +kernel
theorem dX10_worst_133 : decode cX10_worst 133 = .ok (.getfield 42, 3) := by decide +kernel
theorem dX10_worst_136 : decode cX10_worst 136 = .ok (.iload 7, 2) := by decide +kernel
theorem dX10_worst_138 : decode cX10_worst 138 = .ok (.iaload, 1) := by decide +kernel
theorem dX10_worst_139 : decode cX10_worst 139 = .ok (.imul, 1) := by decide +kernel
theorem dX10_worst_140 : decode cX10_worst 140 = .ok (.if_icmp .le 20, 3) := by decide +kernel
theorem dX10_worst_143 : decode cX10_worst 143 = .ok (.aload_n 0, 1) := by decide +kernel
theorem dX10_worst_144 : decode cX10_worst 144 = .ok (.getfield 36, 3) := by decide +kernel
theorem dX10_worst_147 : decode cX10_worst 147 = .ok (.iload 7, 2) := by decide +kernel
theorem dX10_worst_149 : decode cX10_worst 149 = .ok (.iaload, 1) := by decide +kernel
theorem dX10_worst_150 : decode cX10_worst 150 = .ok (.istore_n 3, 1) := by decide +kernel
theorem dX10_worst_151 : decode cX10_worst 151 = .ok (.aload_n 0, 1) := by decide +kernel
theorem dX10_worst_152 : decode cX10_worst 152 = .ok (.getfield 42, 3) := by decide +kernel
theorem dX10_worst_155 : decode cX10_worst 155 = .ok (.iload 7, 2) := by decide +kernel
theorem dX10_worst_157 : decode cX10_worst 157 = .ok (.iaload, 1) := by decide +kernel
theorem dX10_worst_158 : decode cX10_worst 158 = .ok (.istore 4, 2) := by decide +kernel
theorem dX10_worst_160 : decode cX10_worst 160 = .ok (.iinc 6 1, 3) := by decide +kernel
theorem dX10_worst_163 : decode cX10_worst 163 = .ok (.goto (-73), 3) := by decide +kernel
theorem dX10_worst_166 : decode cX10_worst 166 = .ok (.iinc 5 1, 3) := by decide +kernel
theorem dX10_worst_169 : decode cX10_worst 169 = .ok (.goto (-94), 3) := by decide +kernel
theorem dX10_worst_172 : decode cX10_worst 172 = .ok (.iload_n 3, 1) := by decide +kernel
theorem dX10_worst_173 : decode cX10_worst 173 = .ok (.ifCond .ne 5, 3) := by decide +kernel
theorem dX10_worst_176 : decode cX10_worst 176 = .ok (.iconst (-1), 1) := by decide +kernel
theorem dX10_worst_177 : decode cX10_worst 177 = .ok (.ireturn, 1) := by decide +kernel
theorem dX10_worst_178 : decode cX10_worst 178 = .ok (.iload_n 3, 1) := by decide +kernel
theorem dX10_worst_179 : decode cX10_worst 179 = .ok (.iload 4, 2) := by decide +kernel
theorem dX10_worst_181 : decode cX10_worst 181 = .ok (.invokestatic 178, 3) := by decide +kernel
theorem dX10_worst_184 : decode cX10_worst 184 = .ok (.istore 5, 2) := by decide +kernel
theorem dX10_worst_186 : decode cX10_worst 186 = .ok (.iload_n 2, 1) := by decide +kernel
theorem dX10_worst_187 : decode cX10_worst 187 = .ok (.ifCond .ne 10, 3) := by decide +kernel
theorem dX10_worst_190 : decode cX10_worst 190 = .ok (.iload_n 3, 1) := by decide +kernel
theorem dX10_worst_191 : decode cX10_worst 191 = .ok (.iload 5, 2) := by decide +kernel
theorem dX10_worst_193 : decode cX10_worst 193 = .ok (.idiv, 1) := by decide +kernel
theorem dX10_worst_194 : decode cX10_worst 194 = .ok (.goto 8, 3) := by decide +kernel
theorem dX10_worst_197 : decode cX10_worst 197 = .ok (.iload 4, 2) := by decide +kernel
theorem dX10_worst_199 : decode cX10_worst 199 = .ok (.iload 5, 2) := by decide +kernel
theorem dX10_worst_201 : decode cX10_worst 201 = .ok (.idiv, 1) := by decide +kernel
theorem dX10_worst_202 : decode cX10_worst 202 = .ok (.ireturn, 1) := by decide +kernel
theorem dX10_keepPast_0 : decode cX10_keepPast 0 = .ok (.iconst 0, 1) := by decide +kernel
theorem dX10_keepPast_1 : decode cX10_keepPast 1 = .ok (.istore_n 1, 1) := by decide +kernel
theorem dX10_keepPast_2 : decode cX10_keepPast 2 = .ok (.iload_n 1, 1) := by decide +kernel
theorem dX10_keepPast_3 : decode cX10_keepPast 3 = .ok (.sipush 1099, 3) := by decide +kernel
theorem dX10_keepPast_6 : decode cX10_keepPast 6 = .ok (.if_icmp .ge 38, 3) := by decide +kernel
theorem dX10_keepPast_9 : decode cX10_keepPast 9 = .ok (.aload_n 0, 1) := by decide +kernel
theorem dX10_keepPast_10 : decode cX10_keepPast 10 = .ok (.getfield 133, 3) := by decide +kernel
theorem dX10_keepPast_13 : decode cX10_keepPast 13 = .ok (.bipush 8, 2) := by decide +kernel
theorem dX10_keepPast_15 : decode cX10_keepPast 15 = .ok (.if_icmp .ne 29, 3) := by decide +kernel
theorem dX10_keepPast_18 : decode cX10_keepPast 18 = .ok (.aload_n 0, 1) := by decide +kernel
theorem dX10_keepPast_19 : decode cX10_keepPast 19 = .ok (.getfield 7, 3) := by decide +kernel
theorem dX10_keepPast_22 : decode cX10_keepPast 22 = .ok (.sipush 157, 3) := by decide +kernel
theorem dX10_keepPast_25 : decode cX10_keepPast 25 = .ok (.iload_n 1, 1) := by decide +kernel
theorem dX10_keepPast_26 : decode cX10_keepPast 26 = .ok (.iadd, 1) := by decide +kernel
theorem dX10_keepPast_27 : decode cX10_keepPast 27 = .ok (.aload_n 0, 1) := by decide +kernel
theorem dX10_keepPast_28 : decode cX10_keepPast 28 = .ok (.getfield 7, 3) := by decide +kernel
theorem dX10_keepPast_31 : decode cX10_keepPast 31 = .ok (.sipush 314, 3) := by decide +kernel
theorem dX10_keepPast_34 : decode cX10_keepPast 34 = .ok (.iload_n 1, 1) := by decide +kernel
theorem dX10_keepPast_35 : decode cX10_keepPast 35 = .ok (.iadd, 1) := by decide +kernel
theorem dX10_keepPast_36 : decode cX10_keepPast 36 = .ok (.iaload, 1) := by decide +kernel
theorem dX10_keepPast_37 : decode cX10_keepPast 37 = .ok (.iastore, 1) := by decide +kernel
theorem dX10_keepPast_38 : decode cX10_keepPast 38 = .ok (.iinc 1 1, 3) := by decide +kernel
theorem dX10_keepPast_41 : decode cX10_keepPast 41 = .ok (.goto (-39), 3) := by decide +kernel
theorem dX10_keepPast_44 : decode cX10_keepPast 44 = .ok (.aload_n 0, 1) := by decide +kernel
theorem dX10_keepPast_45 : decode cX10_keepPast 45 = .ok (.dup, 1) := by decide +kernel
theorem dX10_keepPast_46 : decode cX10_keepPast 46 = .ok (.getfield 133, 3) := by decide +kernel
theorem dX10_keepPast_49 : decode cX10_keepPast 49 = .ok (.aload_n 0, 1) := by decide +kernel
theorem dX10_keepPast_50 : decode cX10_keepPast 50 = .ok (.getfield 133, 3) := by decide +kernel
theorem dX10_keepPast_53 : decode cX10_keepPast 53 = .ok (.bipush 8, 2) := by decide +kernel
theorem dX10_keepPast_55 : decode cX10_keepPast 55 = .ok (.if_icmp .ne 7, 3) := by decide +kernel
theorem dX10_keepPast_58 : decode cX10_keepPast 58 = .ok (.iconst 1, 1) := by decide +kernel
theorem dX10_keepPast_59 : decode cX10_keepPast 59 = .ok (.goto 4, 3) := by decide +kernel
theorem dX10_keepPast_62 : decode cX10_keepPast 62 = .ok (.iconst 0, 1) := by decide +kernel
theorem dX10_keepPast_63 : decode cX10_keepPast 63 = .ok (.isub, 1) := by decide +kernel
theorem dX10_keepPast_64 : decode cX10_keepPast 64 = .ok (.putfield 133, 3) := by decide +kernel
theorem dX10_keepPast_67 : decode cX10_keepPast 67 = .ok (.aload_n 0, 1) := by decide +kernel
theorem dX10_keepPast_68 : decode cX10_keepPast 68 = .ok (.iconst 0, 1) := by decide +kernel
theorem dX10_keepPast_69 : decode cX10_keepPast 69 = .ok (.sipush 157, 3) := by decide +kernel
theorem dX10_keepPast_72 : decode cX10_keepPast 72 = .ok (.sipush 157, 3) := by decide +kernel
theorem dX10_keepPast_75 : decode cX10_keepPast 75 = .ok (.aload_n 0, 1) := by decide +kernel
theorem dX10_keepPast_76 : decode cX10_keepPast 76 = .ok (.getfield 133, 3) := by decide +kernel
theorem dX10_keepPast_79 : decode cX10_keepPast 79 = .ok (.imul, 1) := by decide +kernel
theorem dX10_keepPast_80 : decode cX10_keepPast 80 = .ok (.iadd, 1) := by decide +kernel
theorem dX10_keepPast_81 : decode cX10_keepPast 81 = .ok (.invokevirtual 181, 3) := by decide +kernel
theorem dX10_keepPast_84 : decode cX10_keepPast 84 = .ok (.aload_n 0, 1) := by decide +kernel
theorem dX10_keepPast_85 : decode cX10_keepPast 85 = .ok (.dup, 1) := by decide +kernel
theorem dX10_keepPast_86 : decode cX10_keepPast 86 = .ok (.getfield 133, 3) := by decide +kernel
theorem dX10_keepPast_89 : decode cX10_keepPast 89 = .ok (.iconst 1, 1) := by decide +kernel
theorem dX10_keepPast_90 : decode cX10_keepPast 90 = .ok (.iadd, 1) := by decide +kernel
theorem dX10_keepPast_91 : decode cX10_keepPast 91 = .ok (.putfield 133, 3) := by decide +kernel
theorem dX10_keepPast_94 : decode cX10_keepPast 94 = .ok (.return_, 1) := by decide +kernel
theorem dX10_copyRow_0 : decode cX10_copyRow 0 = .ok (.iconst 0, 1) := by decide +kernel
theorem dX10_copyRow_1 : decode cX10_copyRow 1 = .ok (.istore_n 3, 1) := by decide +kernel
theorem dX10_copyRow_2 : decode cX10_copyRow 2 = .ok (.iload_n 3, 1) := by decide +kernel
theorem dX10_copyRow_3 : decode cX10_copyRow 3 = .ok (.sipush 157, 3) := by decide +kernel
theorem dX10_copyRow_6 : decode cX10_copyRow 6 = .ok (.if_icmp .ge 25, 3) := by decide +kernel
theorem dX10_copyRow_9 : decode cX10_copyRow 9 = .ok (.aload_n 0, 1) := by decide +kernel
theorem dX10_copyRow_10 : decode cX10_copyRow 10 = .ok (.getfield 7, 3) := by decide +kernel
theorem dX10_copyRow_13 : decode cX10_copyRow 13 = .ok (.iload_n 2, 1) := by decide +kernel
theorem dX10_copyRow_14 : decode cX10_copyRow 14 = .ok (.iload_n 3, 1) := by decide +kernel
theorem dX10_copyRow_15 : decode cX10_copyRow 15 = .ok (.iadd, 1) := by decide +kernel
theorem dX10_copyRow_16 : decode cX10_copyRow 16 = .ok (.aload_n 0, 1) := by decide +kernel
theorem dX10_copyRow_17 : decode cX10_copyRow 17 = .ok (.getfield 7, 3) := by decide +kernel
theorem dX10_copyRow_20 : decode cX10_copyRow 20 = .ok (.iload_n 1, 1) := by decide +kernel
theorem dX10_copyRow_21 : decode cX10_copyRow 21 = .ok (.iload_n 3, 1) := by decide +kernel
theorem dX10_copyRow_22 : decode cX10_copyRow 22 = .ok (.iadd, 1) := by decide +kernel
theorem dX10_copyRow_23 : decode cX10_copyRow 23 = .ok (.iaload, 1) := by decide +kernel
theorem dX10_copyRow_24 : decode cX10_copyRow 24 = .ok (.iastore, 1) := by decide +kernel
theorem dX10_copyRow_25 : decode cX10_copyRow 25 = .ok (.iinc 3 1, 3) := by decide +kernel
theorem dX10_copyRow_28 : decode cX10_copyRow 28 = .ok (.goto (-26), 3) := by decide +kernel
theorem dX10_copyRow_31 : decode cX10_copyRow 31 = .ok (.return_, 1) := by decide +kernel
theorem dX10_join_0 : decode cX10_join 0 = .ok (.aload_n 0, 1) := by decide +kernel
theorem dX10_join_1 : decode cX10_join 1 = .ok (.iload_n 1, 1) := by decide +kernel
theorem dX10_join_2 : decode cX10_join 2 = .ok (.invokevirtual 140, 3) := by decide +kernel
theorem dX10_join_5 : decode cX10_join 5 = .ok (.ifCond .eq 16, 3) := by decide +kernel
theorem dX10_join_8 : decode cX10_join 8 = .ok (.aload_n 0, 1) := by decide +kernel
theorem dX10_join_9 : decode cX10_join 9 = .ok (.iload_n 2, 1) := by decide +kernel
theorem dX10_join_10 : decode cX10_join 10 = .ok (.invokevirtual 140, 3) := by decide +kernel
theorem dX10_join_13 : decode cX10_join 13 = .ok (.ifCond .eq 8, 3) := by decide +kernel
theorem dX10_join_16 : decode cX10_join 16 = .ok (.iload_n 1, 1) := by decide +kernel
theorem dX10_join_17 : decode cX10_join 17 = .ok (.iload_n 2, 1) := by decide +kernel
theorem dX10_join_18 : decode cX10_join 18 = .ok (.if_icmp .ne 6, 3) := by decide +kernel
theorem dX10_join_21 : decode cX10_join 21 = .ok (.bipush (-2), 2) := by decide +kernel
theorem dX10_join_23 : decode cX10_join 23 = .ok (.ireturn, 1) := by decide +kernel
theorem dX10_join_24 : decode cX10_join 24 = .ok (.iload_n 3, 1) := by decide +kernel
theorem dX10_join_25 : decode cX10_join 25 = .ok (.i2l, 1) := by decide +kernel
theorem dX10_join_26 : decode cX10_join 26 = .ok (.lconst 1, 1) := by decide +kernel
theorem dX10_join_27 : decode cX10_join 27 = .ok (.ldc2_w 184, 3) := by decide +kernel
theorem dX10_join_30 : decode cX10_join 30 = .ok (.invokestatic 48, 3) := by decide +kernel
theorem dX10_join_33 : decode cX10_join 33 = .ok (.ifCond .ne 6, 3) := by decide +kernel
theorem dX10_join_36 : decode cX10_join 36 = .ok (.bipush (-3), 2) := by decide +kernel
theorem dX10_join_38 : decode cX10_join 38 = .ok (.ireturn, 1) := by decide +kernel
theorem dX10_join_39 : decode cX10_join 39 = .ok (.aload_n 0, 1) := by decide +kernel
theorem dX10_join_40 : decode cX10_join 40 = .ok (.iload_n 1, 1) := by decide +kernel
theorem dX10_join_41 : decode cX10_join 41 = .ok (.iload_n 2, 1) := by decide +kernel
theorem dX10_join_42 : decode cX10_join 42 = .ok (.invokevirtual 164, 3) := by decide +kernel
theorem dX10_join_45 : decode cX10_join 45 = .ok (.ifCond .ne 15, 3) := by decide +kernel
theorem dX10_join_48 : decode cX10_join 48 = .ok (.aload_n 0, 1) := by decide +kernel
theorem dX10_join_49 : decode cX10_join 49 = .ok (.invokevirtual 123, 3) := by decide +kernel
theorem dX10_join_52 : decode cX10_join 52 = .ok (.bipush 30, 2) := by decide +kernel
theorem dX10_join_54 : decode cX10_join 54 = .ok (.if_icmp .ne 6, 3) := by decide +kernel
theorem dX10_join_57 : decode cX10_join 57 = .ok (.bipush (-5), 2) := by decide +kernel
theorem dX10_join_59 : decode cX10_join 59 = .ok (.ireturn, 1) := by decide +kernel
theorem dX10_join_60 : decode cX10_join 60 = .ok (.aload_n 0, 1) := by decide +kernel
theorem dX10_join_61 : decode cX10_join 61 = .ok (.invokevirtual 186, 3) := by decide +kernel
theorem dX10_join_64 : decode cX10_join 64 = .ok (.aload_n 0, 1) := by decide +kernel
theorem dX10_join_65 : decode cX10_join 65 = .ok (.iload_n 1, 1) := by decide +kernel
theorem dX10_join_66 : decode cX10_join 66 = .ok (.iload_n 2, 1) := by decide +kernel
theorem dX10_join_67 : decode cX10_join 67 = .ok (.iload_n 3, 1) := by decide +kernel
theorem dX10_join_68 : decode cX10_join 68 = .ok (.invokevirtual 95, 3) := by decide +kernel
theorem dX10_join_71 : decode cX10_join 71 = .ok (.aload_n 0, 1) := by decide +kernel
theorem dX10_join_72 : decode cX10_join 72 = .ok (.invokevirtual 123, 3) := by decide +kernel
theorem dX10_join_75 : decode cX10_join 75 = .ok (.ireturn, 1) := by decide +kernel
theorem dX10_cut_0 : decode cX10_cut 0 = .ok (.aload_n 0, 1) := by decide +kernel
theorem dX10_cut_1 : decode cX10_cut 1 = .ok (.iload_n 1, 1) := by decide +kernel
theorem dX10_cut_2 : decode cX10_cut 2 = .ok (.invokevirtual 140, 3) := by decide +kernel
theorem dX10_cut_5 : decode cX10_cut 5 = .ok (.ifCond .eq 11, 3) := by decide +kernel
theorem dX10_cut_8 : decode cX10_cut 8 = .ok (.aload_n 0, 1) := by decide +kernel
theorem dX10_cut_9 : decode cX10_cut 9 = .ok (.iload_n 2, 1) := by decide +kernel
theorem dX10_cut_10 : decode cX10_cut 10 = .ok (.invokevirtual 140, 3) := by decide +kernel
theorem dX10_cut_13 : decode cX10_cut 13 = .ok (.ifCond .ne 6, 3) := by decide +kernel
theorem dX10_cut_16 : decode cX10_cut 16 = .ok (.bipush (-2), 2) := by decide +kernel
theorem dX10_cut_18 : decode cX10_cut 18 = .ok (.ireturn, 1) := by decide +kernel
theorem dX10_cut_19 : decode cX10_cut 19 = .ok (.aload_n 0, 1) := by decide +kernel
theorem dX10_cut_20 : decode cX10_cut 20 = .ok (.iload_n 1, 1) := by decide +kernel
theorem dX10_cut_21 : decode cX10_cut 21 = .ok (.iload_n 2, 1) := by decide +kernel
theorem dX10_cut_22 : decode cX10_cut 22 = .ok (.invokevirtual 164, 3) := by decide +kernel
theorem dX10_cut_25 : decode cX10_cut 25 = .ok (.istore_n 3, 1) := by decide +kernel
theorem dX10_cut_26 : decode cX10_cut 26 = .ok (.iload_n 3, 1) := by decide +kernel
theorem dX10_cut_27 : decode cX10_cut 27 = .ok (.ifCond .ne 6, 3) := by decide +kernel
theorem dX10_cut_30 : decode cX10_cut 30 = .ok (.bipush (-4), 2) := by decide +kernel
theorem dX10_cut_32 : decode cX10_cut 32 = .ok (.ireturn, 1) := by decide +kernel
theorem dX10_cut_33 : decode cX10_cut 33 = .ok (.aload_n 0, 1) := by decide +kernel
theorem dX10_cut_34 : decode cX10_cut 34 = .ok (.invokevirtual 186, 3) := by decide +kernel
theorem dX10_cut_37 : decode cX10_cut 37 = .ok (.aload_n 0, 1) := by decide +kernel
theorem dX10_cut_38 : decode cX10_cut 38 = .ok (.iload_n 1, 1) := by decide +kernel
theorem dX10_cut_39 : decode cX10_cut 39 = .ok (.iload_n 2, 1) := by decide +kernel
theorem dX10_cut_40 : decode cX10_cut 40 = .ok (.iconst 0, 1) := by decide +kernel
theorem dX10_cut_41 : decode cX10_cut 41 = .ok (.invokevirtual 95, 3) := by decide +kernel
theorem dX10_cut_44 : decode cX10_cut 44 = .ok (.iload_n 3, 1) := by decide +kernel
theorem dX10_cut_45 : decode cX10_cut 45 = .ok (.ireturn, 1) := by decide +kernel
theorem dX10_lift_0 : decode cX10_lift 0 = .ok (.aload_n 0, 1) := by decide +kernel
theorem dX10_lift_1 : decode cX10_lift 1 = .ok (.iload_n 1, 1) := by decide +kernel
theorem dX10_lift_2 : decode cX10_lift 2 = .ok (.invokevirtual 140, 3) := by decide +kernel
theorem dX10_lift_5 : decode cX10_lift 5 = .ok (.ifCond .ne 6, 3) := by decide +kernel
theorem dX10_lift_8 : decode cX10_lift 8 = .ok (.bipush (-2), 2) := by decide +kernel
theorem dX10_lift_10 : decode cX10_lift 10 = .ok (.ireturn, 1) := by decide +kernel
theorem dX10_lift_11 : decode cX10_lift 11 = .ok (.iload_n 2, 1) := by decide +kernel
theorem dX10_lift_12 : decode cX10_lift 12 = .ok (.i2l, 1) := by decide +kernel
theorem dX10_lift_13 : decode cX10_lift 13 = .ok (.lconst 0, 1) := by decide +kernel
theorem dX10_lift_14 : decode cX10_lift 14 = .ok (.ldc2_w 159, 3) := by decide +kernel
theorem dX10_lift_17 : decode cX10_lift 17 = .ok (.invokestatic 48, 3) := by decide +kernel
theorem dX10_lift_20 : decode cX10_lift 20 = .ok (.ifCond .ne 6, 3) := by decide +kernel
end
section
theorem dX10_lift_23 : decode cX10_lift 23 = .ok (.bipush (-3), 2) := by decide +kernel
theorem dX10_lift_25 : decode cX10_lift 25 = .ok (.ireturn, 1) := by decide +kernel
theorem dX10_lift_26 : decode cX10_lift 26 = .ok (.aload_n 0, 1) := by decide +kernel
theorem dX10_lift_27 : decode cX10_lift 27 = .ok (.invokevirtual 186, 3) := by decide +kernel
theorem dX10_lift_30 : decode cX10_lift 30 = .ok (.aload_n 0, 1) := by decide +kernel
theorem dX10_lift_31 : decode cX10_lift 31 = .ok (.getfield 7, 3) := by decide +kernel
theorem dX10_lift_34 : decode cX10_lift 34 = .ok (.sipush 144, 3) := by decide +kernel
theorem dX10_lift_37 : decode cX10_lift 37 = .ok (.iload_n 1, 1) := by decide +kernel
theorem dX10_lift_38 : decode cX10_lift 38 = .ok (.iadd, 1) := by decide +kernel
theorem dX10_lift_39 : decode cX10_lift 39 = .ok (.iaload, 1) := by decide +kernel
theorem dX10_lift_40 : decode cX10_lift 40 = .ok (.istore_n 3, 1) := by decide +kernel
theorem dX10_lift_41 : decode cX10_lift 41 = .ok (.aload_n 0, 1) := by decide +kernel
theorem dX10_lift_42 : decode cX10_lift 42 = .ok (.getfield 7, 3) := by decide +kernel
theorem dX10_lift_45 : decode cX10_lift 45 = .ok (.sipush 144, 3) := by decide +kernel
theorem dX10_lift_48 : decode cX10_lift 48 = .ok (.iload_n 1, 1) := by decide +kernel
theorem dX10_lift_49 : decode cX10_lift 49 = .ok (.iadd, 1) := by decide +kernel
theorem dX10_lift_50 : decode cX10_lift 50 = .ok (.iload_n 2, 1) := by decide +kernel
theorem dX10_lift_51 : decode cX10_lift 51 = .ok (.iastore, 1) := by decide +kernel
theorem dX10_lift_52 : decode cX10_lift 52 = .ok (.iload_n 3, 1) := by decide +kernel
theorem dX10_lift_53 : decode cX10_lift 53 = .ok (.ireturn, 1) := by decide +kernel
theorem dX10_draw_0 : decode cX10_draw 0 = .ok (.aload_n 0, 1) := by decide +kernel
theorem dX10_draw_1 : decode cX10_draw 1 = .ok (.invokevirtual 186, 3) := by decide +kernel
theorem dX10_draw_4 : decode cX10_draw 4 = .ok (.aload_n 0, 1) := by decide +kernel
theorem dX10_draw_5 : decode cX10_draw 5 = .ok (.getfield 7, 3) := by decide +kernel
theorem dX10_draw_8 : decode cX10_draw 8 = .ok (.sipush 156, 3) := by decide +kernel
theorem dX10_draw_11 : decode cX10_draw 11 = .ok (.iload_n 1, 1) := by decide +kernel
theorem dX10_draw_12 : decode cX10_draw 12 = .ok (.iastore, 1) := by decide +kernel
theorem dX10_draw_13 : decode cX10_draw 13 = .ok (.iconst 0, 1) := by decide +kernel
theorem dX10_draw_14 : decode cX10_draw 14 = .ok (.istore_n 2, 1) := by decide +kernel
theorem dX10_draw_15 : decode cX10_draw 15 = .ok (.iconst 0, 1) := by decide +kernel
theorem dX10_draw_16 : decode cX10_draw 16 = .ok (.istore_n 3, 1) := by decide +kernel
theorem dX10_draw_17 : decode cX10_draw 17 = .ok (.iload_n 3, 1) := by decide +kernel
theorem dX10_draw_18 : decode cX10_draw 18 = .ok (.aload_n 0, 1) := by decide +kernel
theorem dX10_draw_19 : decode cX10_draw 19 = .ok (.getfield 13, 3) := by decide +kernel
theorem dX10_draw_22 : decode cX10_draw 22 = .ok (.if_icmp .ge 90, 3) := by decide +kernel
theorem dX10_draw_25 : decode cX10_draw 25 = .ok (.aload_n 0, 1) := by decide +kernel
theorem dX10_draw_26 : decode cX10_draw 26 = .ok (.getfield 7, 3) := by decide +kernel
theorem dX10_draw_29 : decode cX10_draw 29 = .ok (.sipush 156, 3) := by decide +kernel
theorem dX10_draw_32 : decode cX10_draw 32 = .ok (.aload_n 0, 1) := by decide +kernel
theorem dX10_draw_33 : decode cX10_draw 33 = .ok (.getfield 7, 3) := by decide +kernel
theorem dX10_draw_36 : decode cX10_draw 36 = .ok (.sipush 156, 3) := by decide +kernel
theorem dX10_draw_39 : decode cX10_draw 39 = .ok (.iaload, 1) := by decide +kernel
theorem dX10_draw_40 : decode cX10_draw 40 = .ok (.ldc 189, 2) := by decide +kernel
theorem dX10_draw_42 : decode cX10_draw 42 = .ok (.imul, 1) := by decide +kernel
theorem dX10_draw_43 : decode cX10_draw 43 = .ok (.iconst 1, 1) := by decide +kernel
theorem dX10_draw_44 : decode cX10_draw 44 = .ok (.iadd, 1) := by decide +kernel
theorem dX10_draw_45 : decode cX10_draw 45 = .ok (.iastore, 1) := by decide +kernel
theorem dX10_draw_46 : decode cX10_draw 46 = .ok (.aload_n 0, 1) := by decide +kernel
theorem dX10_draw_47 : decode cX10_draw 47 = .ok (.getfield 7, 3) := by decide +kernel
theorem dX10_draw_50 : decode cX10_draw 50 = .ok (.sipush 156, 3) := by decide +kernel
theorem dX10_draw_53 : decode cX10_draw 53 = .ok (.iaload, 1) := by decide +kernel
theorem dX10_draw_54 : decode cX10_draw 54 = .ok (.bipush 16, 2) := by decide +kernel
theorem dX10_draw_56 : decode cX10_draw 56 = .ok (.iushr, 1) := by decide +kernel
theorem dX10_draw_57 : decode cX10_draw 57 = .ok (.bipush 8, 2) := by decide +kernel
theorem dX10_draw_59 : decode cX10_draw 59 = .ok (.irem, 1) := by decide +kernel
theorem dX10_draw_60 : decode cX10_draw 60 = .ok (.istore 4, 2) := by decide +kernel
theorem dX10_draw_62 : decode cX10_draw 62 = .ok (.aload_n 0, 1) := by decide +kernel
theorem dX10_draw_63 : decode cX10_draw 63 = .ok (.getfield 7, 3) := by decide +kernel
theorem dX10_draw_66 : decode cX10_draw 66 = .ok (.sipush 144, 3) := by decide +kernel
theorem dX10_draw_69 : decode cX10_draw 69 = .ok (.iload_n 3, 1) := by decide +kernel
theorem dX10_draw_70 : decode cX10_draw 70 = .ok (.iadd, 1) := by decide +kernel
theorem dX10_draw_71 : decode cX10_draw 71 = .ok (.iload 4, 2) := by decide +kernel
theorem dX10_draw_73 : decode cX10_draw 73 = .ok (.ifCond .ne 7, 3) := by decide +kernel
theorem dX10_draw_76 : decode cX10_draw 76 = .ok (.iconst 2, 1) := by decide +kernel
theorem dX10_draw_77 : decode cX10_draw 77 = .ok (.goto 14, 3) := by decide +kernel
theorem dX10_draw_80 : decode cX10_draw 80 = .ok (.iload 4, 2) := by decide +kernel
theorem dX10_draw_82 : decode cX10_draw 82 = .ok (.iconst 3, 1) := by decide +kernel
theorem dX10_draw_83 : decode cX10_draw 83 = .ok (.if_icmp .ge 7, 3) := by decide +kernel
theorem dX10_draw_86 : decode cX10_draw 86 = .ok (.iconst 1, 1) := by decide +kernel
theorem dX10_draw_87 : decode cX10_draw 87 = .ok (.goto 4, 3) := by decide +kernel
theorem dX10_draw_90 : decode cX10_draw 90 = .ok (.iconst 0, 1) := by decide +kernel
theorem dX10_draw_91 : decode cX10_draw 91 = .ok (.iastore, 1) := by decide +kernel
theorem dX10_draw_92 : decode cX10_draw 92 = .ok (.iload_n 2, 1) := by decide +kernel
theorem dX10_draw_93 : decode cX10_draw 93 = .ok (.iload 4, 2) := by decide +kernel
theorem dX10_draw_95 : decode cX10_draw 95 = .ok (.iconst 3, 1) := by decide +kernel
theorem dX10_draw_96 : decode cX10_draw 96 = .ok (.if_icmp .ge 7, 3) := by decide +kernel
theorem dX10_draw_99 : decode cX10_draw 99 = .ok (.iconst 1, 1) := by decide +kernel
theorem dX10_draw_100 : decode cX10_draw 100 = .ok (.goto 4, 3) := by decide +kernel
theorem dX10_draw_103 : decode cX10_draw 103 = .ok (.iconst 0, 1) := by decide +kernel
theorem dX10_draw_104 : decode cX10_draw 104 = .ok (.iadd, 1) := by decide +kernel
theorem dX10_draw_105 : decode cX10_draw 105 = .ok (.istore_n 2, 1) := by decide +kernel
theorem dX10_draw_106 : decode cX10_draw 106 = .ok (.iinc 3 1, 3) := by decide +kernel
theorem dX10_draw_109 : decode cX10_draw 109 = .ok (.goto (-92), 3) := by decide +kernel
theorem dX10_draw_112 : decode cX10_draw 112 = .ok (.iload_n 2, 1) := by decide +kernel
theorem dX10_draw_113 : decode cX10_draw 113 = .ok (.ireturn, 1) := by decide +kernel
theorem dX10_thin_0 : decode cX10_thin 0 = .ok (.iload_n 1, 1) := by decide +kernel
theorem dX10_thin_1 : decode cX10_thin 1 = .ok (.i2l, 1) := by decide +kernel
theorem dX10_thin_2 : decode cX10_thin 2 = .ok (.lconst 1, 1) := by decide +kernel
theorem dX10_thin_3 : decode cX10_thin 3 = .ok (.ldc2_w 173, 3) := by decide +kernel
theorem dX10_thin_6 : decode cX10_thin 6 = .ok (.invokestatic 48, 3) := by decide +kernel
theorem dX10_thin_9 : decode cX10_thin 9 = .ok (.ifCond .ne 6, 3) := by decide +kernel
theorem dX10_thin_12 : decode cX10_thin 12 = .ok (.bipush (-3), 2) := by decide +kernel
theorem dX10_thin_14 : decode cX10_thin 14 = .ok (.ireturn, 1) := by decide +kernel
theorem dX10_thin_15 : decode cX10_thin 15 = .ok (.aload_n 0, 1) := by decide +kernel
theorem dX10_thin_16 : decode cX10_thin 16 = .ok (.iload_n 1, 1) := by decide +kernel
theorem dX10_thin_17 : decode cX10_thin 17 = .ok (.invokevirtual 175, 3) := by decide +kernel
theorem dX10_thin_20 : decode cX10_thin 20 = .ok (.aload_n 0, 1) := by decide +kernel
theorem dX10_thin_21 : decode cX10_thin 21 = .ok (.invokevirtual 186, 3) := by decide +kernel
theorem dX10_thin_24 : decode cX10_thin 24 = .ok (.iconst 0, 1) := by decide +kernel
theorem dX10_thin_25 : decode cX10_thin 25 = .ok (.istore_n 2, 1) := by decide +kernel
theorem dX10_thin_26 : decode cX10_thin 26 = .ok (.iload_n 2, 1) := by decide +kernel
theorem dX10_thin_27 : decode cX10_thin 27 = .ok (.sipush 144, 3) := by decide +kernel
theorem dX10_thin_30 : decode cX10_thin 30 = .ok (.if_icmp .ge 34, 3) := by decide +kernel
theorem dX10_thin_33 : decode cX10_thin 33 = .ok (.aload_n 0, 1) := by decide +kernel
theorem dX10_thin_34 : decode cX10_thin 34 = .ok (.getfield 7, 3) := by decide +kernel
theorem dX10_thin_37 : decode cX10_thin 37 = .ok (.iload_n 2, 1) := by decide +kernel
theorem dX10_thin_38 : decode cX10_thin 38 = .ok (.aload_n 0, 1) := by decide +kernel
theorem dX10_thin_39 : decode cX10_thin 39 = .ok (.getfield 39, 3) := by decide +kernel
theorem dX10_thin_42 : decode cX10_thin 42 = .ok (.iload_n 2, 1) := by decide +kernel
theorem dX10_thin_43 : decode cX10_thin 43 = .ok (.baload, 1) := by decide +kernel
theorem dX10_thin_44 : decode cX10_thin 44 = .ok (.ifCond .eq 12, 3) := by decide +kernel
theorem dX10_thin_47 : decode cX10_thin 47 = .ok (.aload_n 0, 1) := by decide +kernel
theorem dX10_thin_48 : decode cX10_thin 48 = .ok (.getfield 7, 3) := by decide +kernel
theorem dX10_thin_51 : decode cX10_thin 51 = .ok (.iload_n 2, 1) := by decide +kernel
theorem dX10_thin_52 : decode cX10_thin 52 = .ok (.iaload, 1) := by decide +kernel
theorem dX10_thin_53 : decode cX10_thin 53 = .ok (.goto 4, 3) := by decide +kernel
theorem dX10_thin_56 : decode cX10_thin 56 = .ok (.iconst 0, 1) := by decide +kernel
theorem dX10_thin_57 : decode cX10_thin 57 = .ok (.iastore, 1) := by decide +kernel
theorem dX10_thin_58 : decode cX10_thin 58 = .ok (.iinc 2 1, 3) := by decide +kernel
theorem dX10_thin_61 : decode cX10_thin 61 = .ok (.goto (-35), 3) := by decide +kernel
theorem dX10_thin_64 : decode cX10_thin 64 = .ok (.aload_n 0, 1) := by decide +kernel
theorem dX10_thin_65 : decode cX10_thin 65 = .ok (.invokevirtual 123, 3) := by decide +kernel
theorem dX10_thin_68 : decode cX10_thin 68 = .ok (.ireturn, 1) := by decide +kernel
theorem dX10_undo_0 : decode cX10_undo 0 = .ok (.aload_n 0, 1) := by decide +kernel
theorem dX10_undo_1 : decode cX10_undo 1 = .ok (.getfield 133, 3) := by decide +kernel
theorem dX10_undo_4 : decode cX10_undo 4 = .ok (.ifCond .ne 6, 3) := by decide +kernel
theorem dX10_undo_7 : decode cX10_undo 7 = .ok (.bipush (-4), 2) := by decide +kernel
theorem dX10_undo_9 : decode cX10_undo 9 = .ok (.ireturn, 1) := by decide +kernel
theorem dX10_undo_10 : decode cX10_undo 10 = .ok (.aload_n 0, 1) := by decide +kernel
theorem dX10_undo_11 : decode cX10_undo 11 = .ok (.dup, 1) := by decide +kernel
theorem dX10_undo_12 : decode cX10_undo 12 = .ok (.getfield 133, 3) := by decide +kernel
theorem dX10_undo_15 : decode cX10_undo 15 = .ok (.iconst 1, 1) := by decide +kernel
theorem dX10_undo_16 : decode cX10_undo 16 = .ok (.isub, 1) := by decide +kernel
theorem dX10_undo_17 : decode cX10_undo 17 = .ok (.putfield 133, 3) := by decide +kernel
theorem dX10_undo_20 : decode cX10_undo 20 = .ok (.aload_n 0, 1) := by decide +kernel
theorem dX10_undo_21 : decode cX10_undo 21 = .ok (.sipush 157, 3) := by decide +kernel
theorem dX10_undo_24 : decode cX10_undo 24 = .ok (.sipush 157, 3) := by decide +kernel
theorem dX10_undo_27 : decode cX10_undo 27 = .ok (.aload_n 0, 1) := by decide +kernel
theorem dX10_undo_28 : decode cX10_undo 28 = .ok (.getfield 133, 3) := by decide +kernel
theorem dX10_undo_31 : decode cX10_undo 31 = .ok (.imul, 1) := by decide +kernel
theorem dX10_undo_32 : decode cX10_undo 32 = .ok (.iadd, 1) := by decide +kernel
theorem dX10_undo_33 : decode cX10_undo 33 = .ok (.iconst 0, 1) := by decide +kernel
theorem dX10_undo_34 : decode cX10_undo 34 = .ok (.invokevirtual 181, 3) := by decide +kernel
theorem dX10_undo_37 : decode cX10_undo 37 = .ok (.aload_n 0, 1) := by decide +kernel
theorem dX10_undo_38 : decode cX10_undo 38 = .ok (.getfield 133, 3) := by decide +kernel
theorem dX10_undo_41 : decode cX10_undo 41 = .ok (.ireturn, 1) := by decide +kernel
theorem dX10_isWritten_0 : decode cX10_isWritten 0 = .ok (.aload_n 0, 1) := by decide +kernel
theorem dX10_isWritten_1 : decode cX10_isWritten 1 = .ok (.getfield 17, 3) := by decide +kernel
theorem dX10_isWritten_4 : decode cX10_isWritten 4 = .ok (.bipush 20, 2) := by decide +kernel
theorem dX10_isWritten_6 : decode cX10_isWritten 6 = .ok (.iload_n 1, 1) := by decide +kernel
theorem dX10_isWritten_7 : decode cX10_isWritten 7 = .ok (.imul, 1) := by decide +kernel
theorem dX10_isWritten_8 : decode cX10_isWritten 8 = .ok (.iaload, 1) := by decide +kernel
theorem dX10_isWritten_9 : decode cX10_isWritten 9 = .ok (.iconst 1, 1) := by decide +kernel
theorem dX10_isWritten_10 : decode cX10_isWritten 10 = .ok (.if_icmp .ne 7, 3) := by decide +kernel
theorem dX10_isWritten_13 : decode cX10_isWritten 13 = .ok (.iconst 1, 1) := by decide +kernel
theorem dX10_isWritten_14 : decode cX10_isWritten 14 = .ok (.goto 4, 3) := by decide +kernel
theorem dX10_isWritten_17 : decode cX10_isWritten 17 = .ok (.iconst 0, 1) := by decide +kernel
theorem dX10_isWritten_18 : decode cX10_isWritten 18 = .ok (.ireturn, 1) := by decide +kernel
theorem dX10_written_0 : decode cX10_written 0 = .ok (.iconst 0, 1) := by decide +kernel
theorem dX10_written_1 : decode cX10_written 1 = .ok (.istore_n 1, 1) := by decide +kernel
theorem dX10_written_2 : decode cX10_written 2 = .ok (.iconst 0, 1) := by decide +kernel
theorem dX10_written_3 : decode cX10_written 3 = .ok (.istore_n 2, 1) := by decide +kernel
theorem dX10_written_4 : decode cX10_written 4 = .ok (.iload_n 2, 1) := by decide +kernel
theorem dX10_written_5 : decode cX10_written 5 = .ok (.aload_n 0, 1) := by decide +kernel
theorem dX10_written_6 : decode cX10_written 6 = .ok (.getfield 13, 3) := by decide +kernel
theorem dX10_written_9 : decode cX10_written 9 = .ok (.if_icmp .ge 25, 3) := by decide +kernel
theorem dX10_written_12 : decode cX10_written 12 = .ok (.iload_n 1, 1) := by decide +kernel
theorem dX10_written_13 : decode cX10_written 13 = .ok (.aload_n 0, 1) := by decide +kernel
theorem dX10_written_14 : decode cX10_written 14 = .ok (.iload_n 2, 1) := by decide +kernel
theorem dX10_written_15 : decode cX10_written 15 = .ok (.invokevirtual 190, 3) := by decide +kernel
theorem dX10_written_18 : decode cX10_written 18 = .ok (.ifCond .eq 7, 3) := by decide +kernel
theorem dX10_written_21 : decode cX10_written 21 = .ok (.iconst 1, 1) := by decide +kernel
theorem dX10_written_22 : decode cX10_written 22 = .ok (.goto 4, 3) := by decide +kernel
theorem dX10_written_25 : decode cX10_written 25 = .ok (.iconst 0, 1) := by decide +kernel
theorem dX10_written_26 : decode cX10_written 26 = .ok (.iadd, 1) := by decide +kernel
theorem dX10_written_27 : decode cX10_written 27 = .ok (.istore_n 1, 1) := by decide +kernel
theorem dX10_written_28 : decode cX10_written 28 = .ok (.iinc 2 1, 3) := by decide +kernel
theorem dX10_written_31 : decode cX10_written 31 = .ok (.goto (-27), 3) := by decide +kernel
theorem dX10_written_34 : decode cX10_written 34 = .ok (.iload_n 1, 1) := by decide +kernel
theorem dX10_written_35 : decode cX10_written 35 = .ok (.ireturn, 1) := by decide +kernel
theorem dX10_keep_0 : decode cX10_keep 0 = .ok (.iload_n 1, 1) := by decide +kernel
theorem dX10_keep_1 : decode cX10_keep 1 = .ok (.i2l, 1) := by decide +kernel
theorem dX10_keep_2 : decode cX10_keep 2 = .ok (.lconst 0, 1) := by decide +kernel
theorem dX10_keep_3 : decode cX10_keep 3 = .ok (.lconst 1, 1) := by decide +kernel
theorem dX10_keep_4 : decode cX10_keep 4 = .ok (.invokestatic 48, 3) := by decide +kernel
theorem dX10_keep_7 : decode cX10_keep 7 = .ok (.ifCond .ne 6, 3) := by decide +kernel
theorem dX10_keep_10 : decode cX10_keep 10 = .ok (.bipush (-3), 2) := by decide +kernel
theorem dX10_keep_12 : decode cX10_keep 12 = .ok (.ireturn, 1) := by decide +kernel
theorem dX10_keep_13 : decode cX10_keep 13 = .ok (.aload_n 0, 1) := by decide +kernel
theorem dX10_keep_14 : decode cX10_keep 14 = .ok (.iconst 0, 1) := by decide +kernel
theorem dX10_keep_15 : decode cX10_keep 15 = .ok (.sipush 1413, 3) := by decide +kernel
theorem dX10_keep_18 : decode cX10_keep 18 = .ok (.sipush 157, 3) := by decide +kernel
theorem dX10_keep_21 : decode cX10_keep 21 = .ok (.iload_n 1, 1) := by decide +kernel
theorem dX10_keep_22 : decode cX10_keep 22 = .ok (.imul, 1) := by decide +kernel
theorem dX10_keep_23 : decode cX10_keep 23 = .ok (.iadd, 1) := by decide +kernel
theorem dX10_keep_24 : decode cX10_keep 24 = .ok (.invokevirtual 181, 3) := by decide +kernel
theorem dX10_keep_27 : decode cX10_keep 27 = .ok (.iconst 0, 1) := by decide +kernel
theorem dX10_keep_28 : decode cX10_keep 28 = .ok (.istore_n 2, 1) := by decide +kernel
theorem dX10_keep_29 : decode cX10_keep 29 = .ok (.iload_n 2, 1) := by decide +kernel
theorem dX10_keep_30 : decode cX10_keep 30 = .ok (.sipush 240, 3) := by decide +kernel
theorem dX10_keep_33 : decode cX10_keep 33 = .ok (.if_icmp .ge 31, 3) := by decide +kernel
theorem dX10_keep_36 : decode cX10_keep 36 = .ok (.aload_n 0, 1) := by decide +kernel
theorem dX10_keep_37 : decode cX10_keep 37 = .ok (.getfield 17, 3) := by decide +kernel
theorem dX10_keep_40 : decode cX10_keep 40 = .ok (.sipush 240, 3) := by decide +kernel
theorem dX10_keep_43 : decode cX10_keep 43 = .ok (.sipush 240, 3) := by decide +kernel
theorem dX10_keep_46 : decode cX10_keep 46 = .ok (.iload_n 1, 1) := by decide +kernel
theorem dX10_keep_47 : decode cX10_keep 47 = .ok (.imul, 1) := by decide +kernel
theorem dX10_keep_48 : decode cX10_keep 48 = .ok (.iadd, 1) := by decide +kernel
theorem dX10_keep_49 : decode cX10_keep 49 = .ok (.iload_n 2, 1) := by decide +kernel
theorem dX10_keep_50 : decode cX10_keep 50 = .ok (.iadd, 1) := by decide +kernel
theorem dX10_keep_51 : decode cX10_keep 51 = .ok (.aload_n 0, 1) := by decide +kernel
theorem dX10_keep_52 : decode cX10_keep 52 = .ok (.getfield 17, 3) := by decide +kernel
theorem dX10_keep_55 : decode cX10_keep 55 = .ok (.iload_n 2, 1) := by decide +kernel
theorem dX10_keep_56 : decode cX10_keep 56 = .ok (.iaload, 1) := by decide +kernel
theorem dX10_keep_57 : decode cX10_keep 57 = .ok (.iastore, 1) := by decide +kernel
theorem dX10_keep_58 : decode cX10_keep 58 = .ok (.iinc 2 1, 3) := by decide +kernel
theorem dX10_keep_61 : decode cX10_keep 61 = .ok (.goto (-32), 3) := by decide +kernel
theorem dX10_keep_64 : decode cX10_keep 64 = .ok (.aload_n 0, 1) := by decide +kernel
theorem dX10_keep_65 : decode cX10_keep 65 = .ok (.getfield 20, 3) := by decide +kernel
theorem dX10_keep_68 : decode cX10_keep 68 = .ok (.iload_n 1, 1) := by decide +kernel
theorem dX10_keep_69 : decode cX10_keep 69 = .ok (.iconst 1, 1) := by decide +kernel
theorem dX10_keep_70 : decode cX10_keep 70 = .ok (.bastore, 1) := by decide +kernel
theorem dX10_keep_71 : decode cX10_keep 71 = .ok (.aload_n 0, 1) := by decide +kernel
theorem dX10_keep_72 : decode cX10_keep 72 = .ok (.invokevirtual 193, 3) := by decide +kernel
theorem dX10_keep_75 : decode cX10_keep 75 = .ok (.ireturn, 1) := by decide +kernel
theorem dX10_back_0 : decode cX10_back 0 = .ok (.iload_n 1, 1) := by decide +kernel
theorem dX10_back_1 : decode cX10_back 1 = .ok (.i2l, 1) := by decide +kernel
theorem dX10_back_2 : decode cX10_back 2 = .ok (.lconst 0, 1) := by decide +kernel
theorem dX10_back_3 : decode cX10_back 3 = .ok (.lconst 1, 1) := by decide +kernel
theorem dX10_back_4 : decode cX10_back 4 = .ok (.invokestatic 48, 3) := by decide +kernel
theorem dX10_back_7 : decode cX10_back 7 = .ok (.ifCond .ne 6, 3) := by decide +kernel
theorem dX10_back_10 : decode cX10_back 10 = .ok (.bipush (-3), 2) := by decide +kernel
theorem dX10_back_12 : decode cX10_back 12 = .ok (.ireturn, 1) := by decide +kernel
theorem dX10_back_13 : decode cX10_back 13 = .ok (.aload_n 0, 1) := by decide +kernel
theorem dX10_back_14 : decode cX10_back 14 = .ok (.getfield 20, 3) := by decide +kernel
theorem dX10_back_17 : decode cX10_back 17 = .ok (.iload_n 1, 1) := by decide +kernel
theorem dX10_back_18 : decode cX10_back 18 = .ok (.baload, 1) := by decide +kernel
theorem dX10_back_19 : decode cX10_back 19 = .ok (.ifCond .ne 6, 3) := by decide +kernel
theorem dX10_back_22 : decode cX10_back 22 = .ok (.bipush (-4), 2) := by decide +kernel
theorem dX10_back_24 : decode cX10_back 24 = .ok (.ireturn, 1) := by decide +kernel
theorem dX10_back_25 : decode cX10_back 25 = .ok (.aload_n 0, 1) := by decide +kernel
theorem dX10_back_26 : decode cX10_back 26 = .ok (.sipush 1413, 3) := by decide +kernel
theorem dX10_back_29 : decode cX10_back 29 = .ok (.sipush 157, 3) := by decide +kernel
theorem dX10_back_32 : decode cX10_back 32 = .ok (.iload_n 1, 1) := by decide +kernel
theorem dX10_back_33 : decode cX10_back 33 = .ok (.imul, 1) := by decide +kernel
theorem dX10_back_34 : decode cX10_back 34 = .ok (.iadd, 1) := by decide +kernel
theorem dX10_back_35 : decode cX10_back 35 = .ok (.iconst 0, 1) := by decide +kernel
theorem dX10_back_36 : decode cX10_back 36 = .ok (.invokevirtual 181, 3) := by decide +kernel
theorem dX10_back_39 : decode cX10_back 39 = .ok (.iconst 0, 1) := by decide +kernel
theorem dX10_back_40 : decode cX10_back 40 = .ok (.istore_n 2, 1) := by decide +kernel
theorem dX10_back_41 : decode cX10_back 41 = .ok (.iload_n 2, 1) := by decide +kernel
theorem dX10_back_42 : decode cX10_back 42 = .ok (.sipush 240, 3) := by decide +kernel
theorem dX10_back_45 : decode cX10_back 45 = .ok (.if_icmp .ge 31, 3) := by decide +kernel
theorem dX10_back_48 : decode cX10_back 48 = .ok (.aload_n 0, 1) := by decide +kernel
theorem dX10_back_49 : decode cX10_back 49 = .ok (.getfield 17, 3) := by decide +kernel
theorem dX10_back_52 : decode cX10_back 52 = .ok (.iload_n 2, 1) := by decide +kernel
theorem dX10_back_53 : decode cX10_back 53 = .ok (.aload_n 0, 1) := by decide +kernel
theorem dX10_back_54 : decode cX10_back 54 = .ok (.getfield 17, 3) := by decide +kernel
theorem dX10_back_57 : decode cX10_back 57 = .ok (.sipush 240, 3) := by decide +kernel
theorem dX10_back_60 : decode cX10_back 60 = .ok (.sipush 240, 3) := by decide +kernel
theorem dX10_back_63 : decode cX10_back 63 = .ok (.iload_n 1, 1) := by decide +kernel
theorem dX10_back_64 : decode cX10_back 64 = .ok (.imul, 1) := by decide +kernel
theorem dX10_back_65 : decode cX10_back 65 = .ok (.iadd, 1) := by decide +kernel
theorem dX10_back_66 : decode cX10_back 66 = .ok (.iload_n 2, 1) := by decide +kernel
theorem dX10_back_67 : decode cX10_back 67 = .ok (.iadd, 1) := by decide +kernel
theorem dX10_back_68 : decode cX10_back 68 = .ok (.iaload, 1) := by decide +kernel
theorem dX10_back_69 : decode cX10_back 69 = .ok (.iastore, 1) := by decide +kernel
theorem dX10_back_70 : decode cX10_back 70 = .ok (.iinc 2 1, 3) := by decide +kernel
theorem dX10_back_73 : decode cX10_back 73 = .ok (.goto (-32), 3) := by decide +kernel
theorem dX10_back_76 : decode cX10_back 76 = .ok (.aload_n 0, 1) := by decide +kernel
theorem dX10_back_77 : decode cX10_back 77 = .ok (.iconst 0, 1) := by decide +kernel
theorem dX10_back_78 : decode cX10_back 78 = .ok (.putfield 133, 3) := by decide +kernel
theorem dX10_back_81 : decode cX10_back 81 = .ok (.aload_n 0, 1) := by decide +kernel
theorem dX10_back_82 : decode cX10_back 82 = .ok (.invokevirtual 193, 3) := by decide +kernel
theorem dX10_back_85 : decode cX10_back 85 = .ok (.ireturn, 1) := by decide +kernel
theorem dX10_freshens_0 : decode cX10_freshens 0 = .ok (.aload_n 0, 1) := by decide +kernel
theorem dX10_freshens_1 : decode cX10_freshens 1 = .ok (.getfield 45, 3) := by decide +kernel
theorem dX10_freshens_4 : decode cX10_freshens 4 = .ok (.iconst 0, 1) := by decide +kernel
theorem dX10_freshens_5 : decode cX10_freshens 5 = .ok (.iconst 1, 1) := by decide +kernel
theorem dX10_freshens_6 : decode cX10_freshens 6 = .ok (.iastore, 1) := by decide +kernel
theorem dX10_freshens_7 : decode cX10_freshens 7 = .ok (.iconst 0, 1) := by decide +kernel
theorem dX10_freshens_8 : decode cX10_freshens 8 = .ok (.istore_n 2, 1) := by decide +kernel
theorem dX10_freshens_9 : decode cX10_freshens 9 = .ok (.iload_n 2, 1) := by decide +kernel
theorem dX10_freshens_10 : decode cX10_freshens 10 = .ok (.iconst 3, 1) := by decide +kernel
theorem dX10_freshens_11 : decode cX10_freshens 11 = .ok (.if_icmp .ge 53, 3) := by decide +kernel
theorem dX10_freshens_14 : decode cX10_freshens 14 = .ok (.aload_n 0, 1) := by decide +kernel
theorem dX10_freshens_15 : decode cX10_freshens 15 = .ok (.iload_n 1, 1) := by decide +kernel
theorem dX10_freshens_16 : decode cX10_freshens 16 = .ok (.iload_n 2, 1) := by decide +kernel
theorem dX10_freshens_17 : decode cX10_freshens 17 = .ok (.invokevirtual 152, 3) := by decide +kernel
theorem dX10_freshens_20 : decode cX10_freshens 20 = .ok (.istore_n 3, 1) := by decide +kernel
theorem dX10_freshens_21 : decode cX10_freshens 21 = .ok (.aload_n 0, 1) := by decide +kernel
theorem dX10_freshens_22 : decode cX10_freshens 22 = .ok (.getfield 45, 3) := by decide +kernel
theorem dX10_freshens_25 : decode cX10_freshens 25 = .ok (.iconst 1, 1) := by decide +kernel
theorem dX10_freshens_26 : decode cX10_freshens 26 = .ok (.iload_n 2, 1) := by decide +kernel
theorem dX10_freshens_27 : decode cX10_freshens 27 = .ok (.iadd, 1) := by decide +kernel
theorem dX10_freshens_28 : decode cX10_freshens 28 = .ok (.iload_n 3, 1) := by decide +kernel
theorem dX10_freshens_29 : decode cX10_freshens 29 = .ok (.iastore, 1) := by decide +kernel
theorem dX10_freshens_30 : decode cX10_freshens 30 = .ok (.aload_n 0, 1) := by decide +kernel
theorem dX10_freshens_31 : decode cX10_freshens 31 = .ok (.getfield 45, 3) := by decide +kernel
theorem dX10_freshens_34 : decode cX10_freshens 34 = .ok (.iconst 4, 1) := by decide +kernel
theorem dX10_freshens_35 : decode cX10_freshens 35 = .ok (.iload_n 2, 1) := by decide +kernel
theorem dX10_freshens_36 : decode cX10_freshens 36 = .ok (.iadd, 1) := by decide +kernel
theorem dX10_freshens_37 : decode cX10_freshens 37 = .ok (.iload_n 3, 1) := by decide +kernel
theorem dX10_freshens_38 : decode cX10_freshens 38 = .ok (.iconst (-1), 1) := by decide +kernel
theorem dX10_freshens_39 : decode cX10_freshens 39 = .ok (.if_icmp .ne 7, 3) := by decide +kernel
theorem dX10_freshens_42 : decode cX10_freshens 42 = .ok (.iconst (-1), 1) := by decide +kernel
theorem dX10_freshens_43 : decode cX10_freshens 43 = .ok (.goto 14, 3) := by decide +kernel
theorem dX10_freshens_46 : decode cX10_freshens 46 = .ok (.aload_n 0, 1) := by decide +kernel
theorem dX10_freshens_47 : decode cX10_freshens 47 = .ok (.getfield 36, 3) := by decide +kernel
theorem dX10_freshens_50 : decode cX10_freshens 50 = .ok (.bipush 12, 2) := by decide +kernel
theorem dX10_freshens_52 : decode cX10_freshens 52 = .ok (.iload_n 1, 1) := by decide +kernel
theorem dX10_freshens_53 : decode cX10_freshens 53 = .ok (.imul, 1) := by decide +kernel
theorem dX10_freshens_54 : decode cX10_freshens 54 = .ok (.iload_n 3, 1) := by decide +kernel
theorem dX10_freshens_55 : decode cX10_freshens 55 = .ok (.iadd, 1) := by decide +kernel
theorem dX10_freshens_56 : decode cX10_freshens 56 = .ok (.iaload, 1) := by decide +kernel
theorem dX10_freshens_57 : decode cX10_freshens 57 = .ok (.iastore, 1) := by decide +kernel
theorem dX10_freshens_58 : decode cX10_freshens 58 = .ok (.iinc 2 1, 3) := by decide +kernel
theorem dX10_freshens_61 : decode cX10_freshens 61 = .ok (.goto (-52), 3) := by decide +kernel
theorem dX10_freshens_64 : decode cX10_freshens 64 = .ok (.aload_n 0, 1) := by decide +kernel
theorem dX10_freshens_65 : decode cX10_freshens 65 = .ok (.getfield 45, 3) := by decide +kernel
theorem dX10_freshens_68 : decode cX10_freshens 68 = .ok (.bipush 7, 2) := by decide +kernel
theorem dX10_freshens_70 : decode cX10_freshens 70 = .ok (.aload_n 0, 1) := by decide +kernel
theorem dX10_freshens_71 : decode cX10_freshens 71 = .ok (.iload_n 1, 1) := by decide +kernel
theorem dX10_freshens_72 : decode cX10_freshens 72 = .ok (.invokevirtual 161, 3) := by decide +kernel
theorem dX10_freshens_75 : decode cX10_freshens 75 = .ok (.iastore, 1) := by decide +kernel
theorem dX10_freshens_76 : decode cX10_freshens 76 = .ok (.iconst 0, 1) := by decide +kernel
theorem dX10_freshens_77 : decode cX10_freshens 77 = .ok (.istore_n 2, 1) := by decide +kernel
theorem dX10_freshens_78 : decode cX10_freshens 78 = .ok (.iload_n 2, 1) := by decide +kernel
theorem dX10_freshens_79 : decode cX10_freshens 79 = .ok (.bipush 12, 2) := by decide +kernel
theorem dX10_freshens_81 : decode cX10_freshens 81 = .ok (.if_icmp .ge 47, 3) := by decide +kernel
theorem dX10_freshens_84 : decode cX10_freshens 84 = .ok (.aload_n 0, 1) := by decide +kernel
theorem dX10_freshens_85 : decode cX10_freshens 85 = .ok (.getfield 45, 3) := by decide +kernel
theorem dX10_freshens_88 : decode cX10_freshens 88 = .ok (.bipush 8, 2) := by decide +kernel
theorem dX10_freshens_90 : decode cX10_freshens 90 = .ok (.iload_n 2, 1) := by decide +kernel
theorem dX10_freshens_91 : decode cX10_freshens 91 = .ok (.iadd, 1) := by decide +kernel
theorem dX10_freshens_92 : decode cX10_freshens 92 = .ok (.aload_n 0, 1) := by decide +kernel
theorem dX10_freshens_93 : decode cX10_freshens 93 = .ok (.getfield 45, 3) := by decide +kernel
theorem dX10_freshens_96 : decode cX10_freshens 96 = .ok (.bipush 7, 2) := by decide +kernel
theorem dX10_freshens_98 : decode cX10_freshens 98 = .ok (.iaload, 1) := by decide +kernel
theorem dX10_freshens_99 : decode cX10_freshens 99 = .ok (.iload_n 2, 1) := by decide +kernel
theorem dX10_freshens_100 : decode cX10_freshens 100 = .ok (.invokestatic 196, 3) := by decide +kernel
theorem dX10_freshens_103 : decode cX10_freshens 103 = .ok (.ifCond .eq 17, 3) := by decide +kernel
theorem dX10_freshens_106 : decode cX10_freshens 106 = .ok (.aload_n 0, 1) := by decide +kernel
theorem dX10_freshens_107 : decode cX10_freshens 107 = .ok (.getfield 36, 3) := by decide +kernel
theorem dX10_freshens_110 : decode cX10_freshens 110 = .ok (.bipush 12, 2) := by decide +kernel
theorem dX10_freshens_112 : decode cX10_freshens 112 = .ok (.iload_n 1, 1) := by decide +kernel
theorem dX10_freshens_113 : decode cX10_freshens 113 = .ok (.imul, 1) := by decide +kernel
theorem dX10_freshens_114 : decode cX10_freshens 114 = .ok (.iload_n 2, 1) := by decide +kernel
theorem dX10_freshens_115 : decode cX10_freshens 115 = .ok (.iadd, 1) := by decide +kernel
theorem dX10_freshens_116 : decode cX10_freshens 116 = .ok (.iaload, 1) := by decide +kernel
theorem dX10_freshens_117 : decode cX10_freshens 117 = .ok (.goto 4, 3) := by decide +kernel
theorem dX10_freshens_120 : decode cX10_freshens 120 = .ok (.iconst (-1), 1) := by decide +kernel
theorem dX10_freshens_121 : decode cX10_freshens 121 = .ok (.iastore, 1) := by decide +kernel
theorem dX10_freshens_122 : decode cX10_freshens 122 = .ok (.iinc 2 1, 3) := by decide +kernel
theorem dX10_freshens_125 : decode cX10_freshens 125 = .ok (.goto (-47), 3) := by decide +kernel
theorem dX10_freshens_128 : decode cX10_freshens 128 = .ok (.return_, 1) := by decide +kernel
theorem dX10_isFresh_0 : decode cX10_isFresh 0 = .ok (.aload_n 0, 1) := by decide +kernel
theorem dX10_isFresh_1 : decode cX10_isFresh 1 = .ok (.iload_n 1, 1) := by decide +kernel
theorem dX10_isFresh_2 : decode cX10_isFresh 2 = .ok (.invokevirtual 199, 3) := by decide +kernel
theorem dX10_isFresh_5 : decode cX10_isFresh 5 = .ok (.iconst 1, 1) := by decide +kernel
theorem dX10_isFresh_6 : decode cX10_isFresh 6 = .ok (.istore_n 2, 1) := by decide +kernel
theorem dX10_isFresh_7 : decode cX10_isFresh 7 = .ok (.iconst 0, 1) := by decide +kernel
theorem dX10_isFresh_8 : decode cX10_isFresh 8 = .ok (.istore_n 3, 1) := by decide +kernel
theorem dX10_isFresh_9 : decode cX10_isFresh 9 = .ok (.iload_n 3, 1) := by decide +kernel
theorem dX10_isFresh_10 : decode cX10_isFresh 10 = .ok (.bipush 20, 2) := by decide +kernel
theorem dX10_isFresh_12 : decode cX10_isFresh 12 = .ok (.if_icmp .ge 39, 3) := by decide +kernel
theorem dX10_isFresh_15 : decode cX10_isFresh 15 = .ok (.iload_n 2, 1) := by decide +kernel
theorem dX10_isFresh_16 : decode cX10_isFresh 16 = .ok (.ifCond .eq 27, 3) := by decide +kernel
theorem dX10_isFresh_19 : decode cX10_isFresh 19 = .ok (.aload_n 0, 1) := by decide +kernel
theorem dX10_isFresh_20 : decode cX10_isFresh 20 = .ok (.getfield 17, 3) := by decide +kernel
theorem dX10_isFresh_23 : decode cX10_isFresh 23 = .ok (.bipush 20, 2) := by decide +kernel
theorem dX10_isFresh_25 : decode cX10_isFresh 25 = .ok (.iload_n 1, 1) := by decide +kernel
theorem dX10_isFresh_26 : decode cX10_isFresh 26 = .ok (.imul, 1) := by decide +kernel
theorem dX10_isFresh_27 : decode cX10_isFresh 27 = .ok (.iload_n 3, 1) := by decide +kernel
theorem dX10_isFresh_28 : decode cX10_isFresh 28 = .ok (.iadd, 1) := by decide +kernel
theorem dX10_isFresh_29 : decode cX10_isFresh 29 = .ok (.iaload, 1) := by decide +kernel
theorem dX10_isFresh_30 : decode cX10_isFresh 30 = .ok (.aload_n 0, 1) := by decide +kernel
theorem dX10_isFresh_31 : decode cX10_isFresh 31 = .ok (.getfield 45, 3) := by decide +kernel
theorem dX10_isFresh_34 : decode cX10_isFresh 34 = .ok (.iload_n 3, 1) := by decide +kernel
theorem dX10_isFresh_35 : decode cX10_isFresh 35 = .ok (.iaload, 1) := by decide +kernel
theorem dX10_isFresh_36 : decode cX10_isFresh 36 = .ok (.if_icmp .ne 7, 3) := by decide +kernel
theorem dX10_isFresh_39 : decode cX10_isFresh 39 = .ok (.iconst 1, 1) := by decide +kernel
theorem dX10_isFresh_40 : decode cX10_isFresh 40 = .ok (.goto 4, 3) := by decide +kernel
theorem dX10_isFresh_43 : decode cX10_isFresh 43 = .ok (.iconst 0, 1) := by decide +kernel
theorem dX10_isFresh_44 : decode cX10_isFresh 44 = .ok (.istore_n 2, 1) := by decide +kernel
theorem dX10_isFresh_45 : decode cX10_isFresh 45 = .ok (.iinc 3 1, 3) := by decide +kernel
theorem dX10_isFresh_48 : decode cX10_isFresh 48 = .ok (.goto (-39), 3) := by decide +kernel
theorem dX10_isFresh_51 : decode cX10_isFresh 51 = .ok (.iload_n 2, 1) := by decide +kernel
theorem dX10_isFresh_52 : decode cX10_isFresh 52 = .ok (.ireturn, 1) := by decide +kernel
theorem dX10_writes_0 : decode cX10_writes 0 = .ok (.aload_n 0, 1) := by decide +kernel
theorem dX10_writes_1 : decode cX10_writes 1 = .ok (.iload_n 1, 1) := by decide +kernel
theorem dX10_writes_2 : decode cX10_writes 2 = .ok (.invokevirtual 199, 3) := by decide +kernel
theorem dX10_writes_5 : decode cX10_writes 5 = .ok (.iconst 0, 1) := by decide +kernel
theorem dX10_writes_6 : decode cX10_writes 6 = .ok (.istore_n 2, 1) := by decide +kernel
theorem dX10_writes_7 : decode cX10_writes 7 = .ok (.iload_n 2, 1) := by decide +kernel
theorem dX10_writes_8 : decode cX10_writes 8 = .ok (.bipush 20, 2) := by decide +kernel
theorem dX10_writes_10 : decode cX10_writes 10 = .ok (.if_icmp .ge 26, 3) := by decide +kernel
theorem dX10_writes_13 : decode cX10_writes 13 = .ok (.aload_n 0, 1) := by decide +kernel
theorem dX10_writes_14 : decode cX10_writes 14 = .ok (.getfield 17, 3) := by decide +kernel
theorem dX10_writes_17 : decode cX10_writes 17 = .ok (.bipush 20, 2) := by decide +kernel
theorem dX10_writes_19 : decode cX10_writes 19 = .ok (.iload_n 1, 1) := by decide +kernel
theorem dX10_writes_20 : decode cX10_writes 20 = .ok (.imul, 1) := by decide +kernel
theorem dX10_writes_21 : decode cX10_writes 21 = .ok (.iload_n 2, 1) := by decide +kernel
theorem dX10_writes_22 : decode cX10_writes 22 = .ok (.iadd, 1) := by decide +kernel
theorem dX10_writes_23 : decode cX10_writes 23 = .ok (.aload_n 0, 1) := by decide +kernel
theorem dX10_writes_24 : decode cX10_writes 24 = .ok (.getfield 45, 3) := by decide +kernel
theorem dX10_writes_27 : decode cX10_writes 27 = .ok (.iload_n 2, 1) := by decide +kernel
theorem dX10_writes_28 : decode cX10_writes 28 = .ok (.iaload, 1) := by decide +kernel
theorem dX10_writes_29 : decode cX10_writes 29 = .ok (.iastore, 1) := by decide +kernel
theorem dX10_writes_30 : decode cX10_writes 30 = .ok (.iinc 2 1, 3) := by decide +kernel
theorem dX10_writes_33 : decode cX10_writes 33 = .ok (.goto (-26), 3) := by decide +kernel
theorem dX10_writes_36 : decode cX10_writes 36 = .ok (.return_, 1) := by decide +kernel
theorem dX10_note_0 : decode cX10_note 0 = .ok (.aload_n 0, 1) := by decide +kernel
theorem dX10_note_1 : decode cX10_note 1 = .ok (.iload_n 1, 1) := by decide +kernel
theorem dX10_note_2 : decode cX10_note 2 = .ok (.invokevirtual 140, 3) := by decide +kernel
theorem dX10_note_5 : decode cX10_note 5 = .ok (.ifCond .ne 6, 3) := by decide +kernel
theorem dX10_note_8 : decode cX10_note 8 = .ok (.bipush (-2), 2) := by decide +kernel
theorem dX10_note_10 : decode cX10_note 10 = .ok (.ireturn, 1) := by decide +kernel
theorem dX10_note_11 : decode cX10_note 11 = .ok (.aload_n 0, 1) := by decide +kernel
theorem dX10_note_12 : decode cX10_note 12 = .ok (.iconst 0, 1) := by decide +kernel
theorem dX10_note_13 : decode cX10_note 13 = .ok (.invokevirtual 144, 3) := by decide +kernel
theorem dX10_note_16 : decode cX10_note 16 = .ok (.aload_n 0, 1) := by decide +kernel
theorem dX10_note_17 : decode cX10_note 17 = .ok (.iload_n 1, 1) := by decide +kernel
theorem dX10_note_18 : decode cX10_note 18 = .ok (.invokevirtual 202, 3) := by decide +kernel
theorem dX10_note_21 : decode cX10_note 21 = .ok (.aload_n 0, 1) := by decide +kernel
theorem dX10_note_22 : decode cX10_note 22 = .ok (.getfield 17, 3) := by decide +kernel
theorem dX10_note_25 : decode cX10_note 25 = .ok (.bipush 20, 2) := by decide +kernel
theorem dX10_note_27 : decode cX10_note 27 = .ok (.iload_n 1, 1) := by decide +kernel
theorem dX10_note_28 : decode cX10_note 28 = .ok (.imul, 1) := by decide +kernel
theorem dX10_note_29 : decode cX10_note 29 = .ok (.bipush 7, 2) := by decide +kernel
theorem dX10_note_31 : decode cX10_note 31 = .ok (.iadd, 1) := by decide +kernel
theorem dX10_note_32 : decode cX10_note 32 = .ok (.iaload, 1) := by decide +kernel
theorem dX10_note_33 : decode cX10_note 33 = .ok (.invokestatic 205, 3) := by decide +kernel
theorem dX10_note_36 : decode cX10_note 36 = .ok (.ireturn, 1) := by decide +kernel
theorem dX10_mend_0 : decode cX10_mend 0 = .ok (.aload_n 0, 1) := by decide +kernel
theorem dX10_mend_1 : decode cX10_mend 1 = .ok (.iconst 0, 1) := by decide +kernel
theorem dX10_mend_2 : decode cX10_mend 2 = .ok (.invokevirtual 144, 3) := by decide +kernel
theorem dX10_mend_5 : decode cX10_mend 5 = .ok (.iconst 0, 1) := by decide +kernel
theorem dX10_mend_6 : decode cX10_mend 6 = .ok (.istore_n 1, 1) := by decide +kernel
theorem dX10_mend_7 : decode cX10_mend 7 = .ok (.iconst 0, 1) := by decide +kernel
theorem dX10_mend_8 : decode cX10_mend 8 = .ok (.istore_n 2, 1) := by decide +kernel
theorem dX10_mend_9 : decode cX10_mend 9 = .ok (.iload_n 2, 1) := by decide +kernel
theorem dX10_mend_10 : decode cX10_mend 10 = .ok (.aload_n 0, 1) := by decide +kernel
theorem dX10_mend_11 : decode cX10_mend 11 = .ok (.getfield 13, 3) := by decide +kernel
theorem dX10_mend_14 : decode cX10_mend 14 = .ok (.if_icmp .ge 25, 3) := by decide +kernel
theorem dX10_mend_17 : decode cX10_mend 17 = .ok (.aload_n 0, 1) := by decide +kernel
theorem dX10_mend_18 : decode cX10_mend 18 = .ok (.iload_n 2, 1) := by decide +kernel
theorem dX10_mend_19 : decode cX10_mend 19 = .ok (.invokevirtual 208, 3) := by decide +kernel
theorem dX10_mend_22 : decode cX10_mend 22 = .ok (.ifCond .ne 11, 3) := by decide +kernel
theorem dX10_mend_25 : decode cX10_mend 25 = .ok (.aload_n 0, 1) := by decide +kernel
theorem dX10_mend_26 : decode cX10_mend 26 = .ok (.iload_n 2, 1) := by decide +kernel
theorem dX10_mend_27 : decode cX10_mend 27 = .ok (.invokevirtual 202, 3) := by decide +kernel
theorem dX10_mend_30 : decode cX10_mend 30 = .ok (.iinc 1 1, 3) := by decide +kernel
theorem dX10_mend_33 : decode cX10_mend 33 = .ok (.iinc 2 1, 3) := by decide +kernel
theorem dX10_mend_36 : decode cX10_mend 36 = .ok (.goto (-27), 3) := by decide +kernel
theorem dX10_mend_39 : decode cX10_mend 39 = .ok (.iload_n 1, 1) := by decide +kernel
theorem dX10_mend_40 : decode cX10_mend 40 = .ok (.ireturn, 1) := by decide +kernel
theorem dX10_tear_0 : decode cX10_tear 0 = .ok (.aload_n 0, 1) := by decide +kernel
theorem dX10_tear_1 : decode cX10_tear 1 = .ok (.iload_n 1, 1) := by decide +kernel
theorem dX10_tear_2 : decode cX10_tear 2 = .ok (.invokevirtual 140, 3) := by decide +kernel
theorem dX10_tear_5 : decode cX10_tear 5 = .ok (.ifCond .ne 6, 3) := by decide +kernel
theorem dX10_tear_8 : decode cX10_tear 8 = .ok (.bipush (-2), 2) := by decide +kernel
theorem dX10_tear_10 : decode cX10_tear 10 = .ok (.ireturn, 1) := by decide +kernel
theorem dX10_tear_11 : decode cX10_tear 11 = .ok (.aload_n 0, 1) := by decide +kernel
theorem dX10_tear_12 : decode cX10_tear 12 = .ok (.getfield 17, 3) := by decide +kernel
theorem dX10_tear_15 : decode cX10_tear 15 = .ok (.bipush 20, 2) := by decide +kernel
theorem dX10_tear_17 : decode cX10_tear 17 = .ok (.iload_n 1, 1) := by decide +kernel
theorem dX10_tear_18 : decode cX10_tear 18 = .ok (.imul, 1) := by decide +kernel
theorem dX10_tear_19 : decode cX10_tear 19 = .ok (.iaload, 1) := by decide +kernel
theorem dX10_tear_20 : decode cX10_tear 20 = .ok (.istore_n 2, 1) := by decide +kernel
theorem dX10_tear_21 : decode cX10_tear 21 = .ok (.iconst 0, 1) := by decide +kernel
theorem dX10_tear_22 : decode cX10_tear 22 = .ok (.istore_n 3, 1) := by decide +kernel
theorem dX10_tear_23 : decode cX10_tear 23 = .ok (.iload_n 3, 1) := by decide +kernel
theorem dX10_tear_24 : decode cX10_tear 24 = .ok (.bipush 20, 2) := by decide +kernel
theorem dX10_tear_26 : decode cX10_tear 26 = .ok (.if_icmp .ge 21, 3) := by decide +kernel
theorem dX10_tear_29 : decode cX10_tear 29 = .ok (.aload_n 0, 1) := by decide +kernel
theorem dX10_tear_30 : decode cX10_tear 30 = .ok (.getfield 17, 3) := by decide +kernel
theorem dX10_tear_33 : decode cX10_tear 33 = .ok (.bipush 20, 2) := by decide +kernel
theorem dX10_tear_35 : decode cX10_tear 35 = .ok (.iload_n 1, 1) := by decide +kernel
theorem dX10_tear_36 : decode cX10_tear 36 = .ok (.imul, 1) := by decide +kernel
theorem dX10_tear_37 : decode cX10_tear 37 = .ok (.iload_n 3, 1) := by decide +kernel
theorem dX10_tear_38 : decode cX10_tear 38 = .ok (.iadd, 1) := by decide +kernel
theorem dX10_tear_39 : decode cX10_tear 39 = .ok (.iconst 0, 1) := by decide +kernel
theorem dX10_tear_40 : decode cX10_tear 40 = .ok (.iastore, 1) := by decide +kernel
theorem dX10_tear_41 : decode cX10_tear 41 = .ok (.iinc 3 1, 3) := by decide +kernel
theorem dX10_tear_44 : decode cX10_tear 44 = .ok (.goto (-21), 3) := by decide +kernel
theorem dX10_tear_47 : decode cX10_tear 47 = .ok (.iload_n 2, 1) := by decide +kernel
theorem dX10_tear_48 : decode cX10_tear 48 = .ok (.ireturn, 1) := by decide +kernel
theorem dX10_noted_0 : decode cX10_noted 0 = .ok (.aload_n 0, 1) := by decide +kernel
theorem dX10_noted_1 : decode cX10_noted 1 = .ok (.iload_n 1, 1) := by decide +kernel
theorem dX10_noted_2 : decode cX10_noted 2 = .ok (.invokevirtual 140, 3) := by decide +kernel
theorem dX10_noted_5 : decode cX10_noted 5 = .ok (.ifCond .ne 6, 3) := by decide +kernel
theorem dX10_noted_8 : decode cX10_noted 8 = .ok (.bipush (-2), 2) := by decide +kernel
theorem dX10_noted_10 : decode cX10_noted 10 = .ok (.ireturn, 1) := by decide +kernel
theorem dX10_noted_11 : decode cX10_noted 11 = .ok (.iload_n 2, 1) := by decide +kernel
theorem dX10_noted_12 : decode cX10_noted 12 = .ok (.i2l, 1) := by decide +kernel
theorem dX10_noted_13 : decode cX10_noted 13 = .ok (.lconst 0, 1) := by decide +kernel
theorem dX10_noted_14 : decode cX10_noted 14 = .ok (.ldc2_w 211, 3) := by decide +kernel
theorem dX10_noted_17 : decode cX10_noted 17 = .ok (.invokestatic 48, 3) := by decide +kernel
theorem dX10_noted_20 : decode cX10_noted 20 = .ok (.ifCond .ne 6, 3) := by decide +kernel
theorem dX10_noted_23 : decode cX10_noted 23 = .ok (.bipush (-3), 2) := by decide +kernel
theorem dX10_noted_25 : decode cX10_noted 25 = .ok (.ireturn, 1) := by decide +kernel
theorem dX10_noted_26 : decode cX10_noted 26 = .ok (.iload_n 2, 1) := by decide +kernel
theorem dX10_noted_27 : decode cX10_noted 27 = .ok (.ifCond .ne 22, 3) := by decide +kernel
theorem dX10_noted_30 : decode cX10_noted 30 = .ok (.aload_n 0, 1) := by decide +kernel
theorem dX10_noted_31 : decode cX10_noted 31 = .ok (.iconst 0, 1) := by decide +kernel
theorem dX10_noted_32 : decode cX10_noted 32 = .ok (.invokevirtual 144, 3) := by decide +kernel
theorem dX10_noted_35 : decode cX10_noted 35 = .ok (.aload_n 0, 1) := by decide +kernel
theorem dX10_noted_36 : decode cX10_noted 36 = .ok (.iload_n 1, 1) := by decide +kernel
theorem dX10_noted_37 : decode cX10_noted 37 = .ok (.invokevirtual 208, 3) := by decide +kernel
theorem dX10_noted_40 : decode cX10_noted 40 = .ok (.ifCond .eq 7, 3) := by decide +kernel
theorem dX10_noted_43 : decode cX10_noted 43 = .ok (.iconst 1, 1) := by decide +kernel
theorem dX10_noted_44 : decode cX10_noted 44 = .ok (.goto 4, 3) := by decide +kernel
theorem dX10_noted_47 : decode cX10_noted 47 = .ok (.iconst 0, 1) := by decide +kernel
theorem dX10_noted_48 : decode cX10_noted 48 = .ok (.ireturn, 1) := by decide +kernel
theorem dX10_noted_49 : decode cX10_noted 49 = .ok (.aload_n 0, 1) := by decide +kernel
theorem dX10_noted_50 : decode cX10_noted 50 = .ok (.iload_n 1, 1) := by decide +kernel
theorem dX10_noted_51 : decode cX10_noted 51 = .ok (.invokevirtual 190, 3) := by decide +kernel
theorem dX10_noted_54 : decode cX10_noted 54 = .ok (.ifCond .eq 17, 3) := by decide +kernel
theorem dX10_noted_57 : decode cX10_noted 57 = .ok (.aload_n 0, 1) := by decide +kernel
theorem dX10_noted_58 : decode cX10_noted 58 = .ok (.getfield 17, 3) := by decide +kernel
theorem dX10_noted_61 : decode cX10_noted 61 = .ok (.bipush 20, 2) := by decide +kernel
theorem dX10_noted_63 : decode cX10_noted 63 = .ok (.iload_n 1, 1) := by decide +kernel
theorem dX10_noted_64 : decode cX10_noted 64 = .ok (.imul, 1) := by decide +kernel
theorem dX10_noted_65 : decode cX10_noted 65 = .ok (.iload_n 2, 1) := by decide +kernel
theorem dX10_noted_66 : decode cX10_noted 66 = .ok (.iadd, 1) := by decide +kernel
theorem dX10_noted_67 : decode cX10_noted 67 = .ok (.iaload, 1) := by decide +kernel
theorem dX10_noted_68 : decode cX10_noted 68 = .ok (.goto 5, 3) := by decide +kernel
theorem dX10_noted_71 : decode cX10_noted 71 = .ok (.bipush (-4), 2) := by decide +kernel
theorem dX10_noted_73 : decode cX10_noted 73 = .ok (.ireturn, 1) := by decide +kernel
theorem dX10_notedFar_0 : decode cX10_notedFar 0 = .ok (.aload_n 0, 1) := by decide +kernel
theorem dX10_notedFar_1 : decode cX10_notedFar 1 = .ok (.iload_n 1, 1) := by decide +kernel
theorem dX10_notedFar_2 : decode cX10_notedFar 2 = .ok (.invokevirtual 140, 3) := by decide +kernel
theorem dX10_notedFar_5 : decode cX10_notedFar 5 = .ok (.ifCond .eq 11, 3) := by decide +kernel
theorem dX10_notedFar_8 : decode cX10_notedFar 8 = .ok (.aload_n 0, 1) := by decide +kernel
theorem dX10_notedFar_9 : decode cX10_notedFar 9 = .ok (.iload_n 2, 1) := by decide +kernel
theorem dX10_notedFar_10 : decode cX10_notedFar 10 = .ok (.invokevirtual 140, 3) := by decide +kernel
theorem dX10_notedFar_13 : decode cX10_notedFar 13 = .ok (.ifCond .ne 6, 3) := by decide +kernel
theorem dX10_notedFar_16 : decode cX10_notedFar 16 = .ok (.bipush (-2), 2) := by decide +kernel
theorem dX10_notedFar_18 : decode cX10_notedFar 18 = .ok (.ireturn, 1) := by decide +kernel
theorem dX10_notedFar_19 : decode cX10_notedFar 19 = .ok (.aload_n 0, 1) := by decide +kernel
theorem dX10_notedFar_20 : decode cX10_notedFar 20 = .ok (.iload_n 1, 1) := by decide +kernel
theorem dX10_notedFar_21 : decode cX10_notedFar 21 = .ok (.invokevirtual 190, 3) := by decide +kernel
theorem dX10_notedFar_24 : decode cX10_notedFar 24 = .ok (.ifCond .eq 20, 3) := by decide +kernel
theorem dX10_notedFar_27 : decode cX10_notedFar 27 = .ok (.aload_n 0, 1) := by decide +kernel
theorem dX10_notedFar_28 : decode cX10_notedFar 28 = .ok (.getfield 17, 3) := by decide +kernel
theorem dX10_notedFar_31 : decode cX10_notedFar 31 = .ok (.bipush 20, 2) := by decide +kernel
theorem dX10_notedFar_33 : decode cX10_notedFar 33 = .ok (.iload_n 1, 1) := by decide +kernel
theorem dX10_notedFar_34 : decode cX10_notedFar 34 = .ok (.imul, 1) := by decide +kernel
theorem dX10_notedFar_35 : decode cX10_notedFar 35 = .ok (.bipush 8, 2) := by decide +kernel
theorem dX10_notedFar_37 : decode cX10_notedFar 37 = .ok (.iadd, 1) := by decide +kernel
theorem dX10_notedFar_38 : decode cX10_notedFar 38 = .ok (.iload_n 2, 1) := by decide +kernel
theorem dX10_notedFar_39 : decode cX10_notedFar 39 = .ok (.iadd, 1) := by decide +kernel
theorem dX10_notedFar_40 : decode cX10_notedFar 40 = .ok (.iaload, 1) := by decide +kernel
theorem dX10_notedFar_41 : decode cX10_notedFar 41 = .ok (.goto 4, 3) := by decide +kernel
theorem dX10_notedFar_44 : decode cX10_notedFar 44 = .ok (.iconst (-1), 1) := by decide +kernel
theorem dX10_notedFar_45 : decode cX10_notedFar 45 = .ok (.ireturn, 1) := by decide +kernel
theorem dX10_untold_0 : decode cX10_untold 0 = .ok (.aload_n 0, 1) := by decide +kernel
theorem dX10_untold_1 : decode cX10_untold 1 = .ok (.iload_n 1, 1) := by decide +kernel
theorem dX10_untold_2 : decode cX10_untold 2 = .ok (.putfield 213, 3) := by decide +kernel
theorem dX10_untold_5 : decode cX10_untold 5 = .ok (.aload_n 0, 1) := by decide +kernel
theorem dX10_untold_6 : decode cX10_untold 6 = .ok (.iload_n 2, 1) := by decide +kernel
theorem dX10_untold_7 : decode cX10_untold 7 = .ok (.putfield 216, 3) := by decide +kernel
theorem dX10_untold_10 : decode cX10_untold 10 = .ok (.aload_n 0, 1) := by decide +kernel
theorem dX10_untold_11 : decode cX10_untold 11 = .ok (.iconst (-1), 1) := by decide +kernel
theorem dX10_untold_12 : decode cX10_untold 12 = .ok (.putfield 219, 3) := by decide +kernel
theorem dX10_untold_15 : decode cX10_untold 15 = .ok (.aload_n 0, 1) := by decide +kernel
theorem dX10_untold_16 : decode cX10_untold 16 = .ok (.iconst (-1), 1) := by decide +kernel
theorem dX10_untold_17 : decode cX10_untold 17 = .ok (.putfield 222, 3) := by decide +kernel
theorem dX10_untold_20 : decode cX10_untold 20 = .ok (.iconst 0, 1) := by decide +kernel
theorem dX10_untold_21 : decode cX10_untold 21 = .ok (.ireturn, 1) := by decide +kernel
theorem dX10_tells_0 : decode cX10_tells 0 = .ok (.iload_n 1, 1) := by decide +kernel
theorem dX10_tells_1 : decode cX10_tells 1 = .ok (.istore_n 3, 1) := by decide +kernel
theorem dX10_tells_2 : decode cX10_tells 2 = .ok (.iload_n 2, 1) := by decide +kernel
theorem dX10_tells_3 : decode cX10_tells 3 = .ok (.istore 4, 2) := by decide +kernel
theorem dX10_tells_5 : decode cX10_tells 5 = .ok (.iconst 0, 1) := by decide +kernel
theorem dX10_tells_6 : decode cX10_tells 6 = .ok (.istore 5, 2) := by decide +kernel
theorem dX10_tells_8 : decode cX10_tells 8 = .ok (.iload 5, 2) := by decide +kernel
theorem dX10_tells_10 : decode cX10_tells 10 = .ok (.iconst 3, 1) := by decide +kernel
theorem dX10_tells_11 : decode cX10_tells 11 = .ok (.if_icmp .ge 155, 3) := by decide +kernel
theorem dX10_tells_14 : decode cX10_tells 14 = .ok (.aload_n 0, 1) := by decide +kernel
theorem dX10_tells_15 : decode cX10_tells 15 = .ok (.iload 5, 2) := by decide +kernel
theorem dX10_tells_17 : decode cX10_tells 17 = .ok (.putfield 225, 3) := by decide +kernel
theorem dX10_tells_20 : decode cX10_tells 20 = .ok (.aload_n 0, 1) := by decide +kernel
theorem dX10_tells_21 : decode cX10_tells 21 = .ok (.iload_n 3, 1) := by decide +kernel
theorem dX10_tells_22 : decode cX10_tells 22 = .ok (.invokevirtual 190, 3) := by decide +kernel
theorem dX10_tells_25 : decode cX10_tells 25 = .ok (.ifCond .ne 10, 3) := by decide +kernel
theorem dX10_tells_28 : decode cX10_tells 28 = .ok (.aload_n 0, 1) := by decide +kernel
theorem dX10_tells_29 : decode cX10_tells 29 = .ok (.iconst 1, 1) := by decide +kernel
theorem dX10_tells_30 : decode cX10_tells 30 = .ok (.iload_n 3, 1) := by decide +kernel
theorem dX10_tells_31 : decode cX10_tells 31 = .ok (.invokevirtual 228, 3) := by decide +kernel
theorem dX10_tells_34 : decode cX10_tells 34 = .ok (.ireturn, 1) := by decide +kernel
theorem dX10_tells_35 : decode cX10_tells 35 = .ok (.aload_n 0, 1) := by decide +kernel
theorem dX10_tells_36 : decode cX10_tells 36 = .ok (.getfield 17, 3) := by decide +kernel
theorem dX10_tells_39 : decode cX10_tells 39 = .ok (.bipush 20, 2) := by decide +kernel
theorem dX10_tells_41 : decode cX10_tells 41 = .ok (.iload_n 3, 1) := by decide +kernel
theorem dX10_tells_42 : decode cX10_tells 42 = .ok (.imul, 1) := by decide +kernel
theorem dX10_tells_43 : decode cX10_tells 43 = .ok (.iconst 1, 1) := by decide +kernel
theorem dX10_tells_44 : decode cX10_tells 44 = .ok (.iadd, 1) := by decide +kernel
theorem dX10_tells_45 : decode cX10_tells 45 = .ok (.iload 5, 2) := by decide +kernel
theorem dX10_tells_47 : decode cX10_tells 47 = .ok (.iadd, 1) := by decide +kernel
theorem dX10_tells_48 : decode cX10_tells 48 = .ok (.iaload, 1) := by decide +kernel
theorem dX10_tells_49 : decode cX10_tells 49 = .ok (.istore 6, 2) := by decide +kernel
theorem dX10_tells_51 : decode cX10_tells 51 = .ok (.iload 6, 2) := by decide +kernel
theorem dX10_tells_53 : decode cX10_tells 53 = .ok (.iconst (-1), 1) := by decide +kernel
theorem dX10_tells_54 : decode cX10_tells 54 = .ok (.if_icmp .ne 10, 3) := by decide +kernel
theorem dX10_tells_57 : decode cX10_tells 57 = .ok (.aload_n 0, 1) := by decide +kernel
theorem dX10_tells_58 : decode cX10_tells 58 = .ok (.iconst 2, 1) := by decide +kernel
theorem dX10_tells_59 : decode cX10_tells 59 = .ok (.iload_n 3, 1) := by decide +kernel
theorem dX10_tells_60 : decode cX10_tells 60 = .ok (.invokevirtual 228, 3) := by decide +kernel
theorem dX10_tells_63 : decode cX10_tells 63 = .ok (.ireturn, 1) := by decide +kernel
theorem dX10_tells_64 : decode cX10_tells 64 = .ok (.aload_n 0, 1) := by decide +kernel
theorem dX10_tells_65 : decode cX10_tells 65 = .ok (.iload 4, 2) := by decide +kernel
theorem dX10_tells_67 : decode cX10_tells 67 = .ok (.invokevirtual 190, 3) := by decide +kernel
theorem dX10_tells_70 : decode cX10_tells 70 = .ok (.ifCond .ne 11, 3) := by decide +kernel
theorem dX10_tells_73 : decode cX10_tells 73 = .ok (.aload_n 0, 1) := by decide +kernel
theorem dX10_tells_74 : decode cX10_tells 74 = .ok (.iconst 1, 1) := by decide +kernel
theorem dX10_tells_75 : decode cX10_tells 75 = .ok (.iload 4, 2) := by decide +kernel
theorem dX10_tells_77 : decode cX10_tells 77 = .ok (.invokevirtual 228, 3) := by decide +kernel
theorem dX10_tells_80 : decode cX10_tells 80 = .ok (.ireturn, 1) := by decide +kernel
theorem dX10_tells_81 : decode cX10_tells 81 = .ok (.aload_n 0, 1) := by decide +kernel
theorem dX10_tells_82 : decode cX10_tells 82 = .ok (.getfield 17, 3) := by decide +kernel
theorem dX10_tells_85 : decode cX10_tells 85 = .ok (.bipush 20, 2) := by decide +kernel
theorem dX10_tells_87 : decode cX10_tells 87 = .ok (.iload 4, 2) := by decide +kernel
theorem dX10_tells_89 : decode cX10_tells 89 = .ok (.imul, 1) := by decide +kernel
theorem dX10_tells_90 : decode cX10_tells 90 = .ok (.bipush 8, 2) := by decide +kernel
theorem dX10_tells_92 : decode cX10_tells 92 = .ok (.iadd, 1) := by decide +kernel
theorem dX10_tells_93 : decode cX10_tells 93 = .ok (.iload 6, 2) := by decide +kernel
theorem dX10_tells_95 : decode cX10_tells 95 = .ok (.iadd, 1) := by decide +kernel
theorem dX10_tells_96 : decode cX10_tells 96 = .ok (.iaload, 1) := by decide +kernel
theorem dX10_tells_97 : decode cX10_tells 97 = .ok (.iconst (-1), 1) := by decide +kernel
theorem dX10_tells_98 : decode cX10_tells 98 = .ok (.if_icmp .eq 46, 3) := by decide +kernel
theorem dX10_tells_101 : decode cX10_tells 101 = .ok (.aload_n 0, 1) := by decide +kernel
theorem dX10_tells_102 : decode cX10_tells 102 = .ok (.iload 6, 2) := by decide +kernel
theorem dX10_tells_104 : decode cX10_tells 104 = .ok (.putfield 222, 3) := by decide +kernel
theorem dX10_tells_107 : decode cX10_tells 107 = .ok (.aload_n 0, 1) := by decide +kernel
theorem dX10_tells_108 : decode cX10_tells 108 = .ok (.aload_n 0, 1) := by decide +kernel
theorem dX10_tells_109 : decode cX10_tells 109 = .ok (.getfield 17, 3) := by decide +kernel
theorem dX10_tells_112 : decode cX10_tells 112 = .ok (.bipush 20, 2) := by decide +kernel
theorem dX10_tells_114 : decode cX10_tells 114 = .ok (.iload 4, 2) := by decide +kernel
theorem dX10_tells_116 : decode cX10_tells 116 = .ok (.imul, 1) := by decide +kernel
theorem dX10_tells_117 : decode cX10_tells 117 = .ok (.bipush 8, 2) := by decide +kernel
theorem dX10_tells_119 : decode cX10_tells 119 = .ok (.iadd, 1) := by decide +kernel
theorem dX10_tells_120 : decode cX10_tells 120 = .ok (.iload 6, 2) := by decide +kernel
theorem dX10_tells_122 : decode cX10_tells 122 = .ok (.iadd, 1) := by decide +kernel
theorem dX10_tells_123 : decode cX10_tells 123 = .ok (.iaload, 1) := by decide +kernel
theorem dX10_tells_124 : decode cX10_tells 124 = .ok (.aload_n 0, 1) := by decide +kernel
theorem dX10_tells_125 : decode cX10_tells 125 = .ok (.getfield 17, 3) := by decide +kernel
theorem dX10_tells_128 : decode cX10_tells 128 = .ok (.bipush 20, 2) := by decide +kernel
theorem dX10_tells_130 : decode cX10_tells 130 = .ok (.iload_n 3, 1) := by decide +kernel
theorem dX10_tells_131 : decode cX10_tells 131 = .ok (.imul, 1) := by decide +kernel
theorem dX10_tells_132 : decode cX10_tells 132 = .ok (.iconst 4, 1) := by decide +kernel
theorem dX10_tells_133 : decode cX10_tells 133 = .ok (.iadd, 1) := by decide +kernel
theorem dX10_tells_134 : decode cX10_tells 134 = .ok (.iload 5, 2) := by decide +kernel
theorem dX10_tells_136 : decode cX10_tells 136 = .ok (.iadd, 1) := by decide +kernel
theorem dX10_tells_137 : decode cX10_tells 137 = .ok (.iaload, 1) := by decide +kernel
theorem dX10_tells_138 : decode cX10_tells 138 = .ok (.iadd, 1) := by decide +kernel
theorem dX10_tells_139 : decode cX10_tells 139 = .ok (.putfield 219, 3) := by decide +kernel
theorem dX10_tells_142 : decode cX10_tells 142 = .ok (.iconst 1, 1) := by decide +kernel
theorem dX10_tells_143 : decode cX10_tells 143 = .ok (.ireturn, 1) := by decide +kernel
theorem dX10_tells_144 : decode cX10_tells 144 = .ok (.aload_n 0, 1) := by decide +kernel
theorem dX10_tells_145 : decode cX10_tells 145 = .ok (.iload 4, 2) := by decide +kernel
theorem dX10_tells_147 : decode cX10_tells 147 = .ok (.putfield 216, 3) := by decide +kernel
theorem dX10_tells_150 : decode cX10_tells 150 = .ok (.iload_n 3, 1) := by decide +kernel
theorem dX10_tells_151 : decode cX10_tells 151 = .ok (.istore 7, 2) := by decide +kernel
theorem dX10_tells_153 : decode cX10_tells 153 = .ok (.iload 4, 2) := by decide +kernel
theorem dX10_tells_155 : decode cX10_tells 155 = .ok (.istore_n 3, 1) := by decide +kernel
theorem dX10_tells_156 : decode cX10_tells 156 = .ok (.iload 7, 2) := by decide +kernel
theorem dX10_tells_158 : decode cX10_tells 158 = .ok (.istore 4, 2) := by decide +kernel
theorem dX10_tells_160 : decode cX10_tells 160 = .ok (.iinc 5 1, 3) := by decide +kernel
theorem dX10_tells_163 : decode cX10_tells 163 = .ok (.goto (-155), 3) := by decide +kernel
theorem dX10_tells_166 : decode cX10_tells 166 = .ok (.aload_n 0, 1) := by decide +kernel
theorem dX10_tells_167 : decode cX10_tells 167 = .ok (.iconst 3, 1) := by decide +kernel
theorem dX10_tells_168 : decode cX10_tells 168 = .ok (.aload_n 0, 1) := by decide +kernel
theorem dX10_tells_169 : decode cX10_tells 169 = .ok (.getfield 216, 3) := by decide +kernel
theorem dX10_tells_172 : decode cX10_tells 172 = .ok (.invokevirtual 228, 3) := by decide +kernel
theorem dX10_tells_175 : decode cX10_tells 175 = .ok (.ireturn, 1) := by decide +kernel
theorem dX10_told_0 : decode cX10_told 0 = .ok (.aload_n 0, 1) := by decide +kernel
theorem dX10_told_1 : decode cX10_told 1 = .ok (.iload_n 1, 1) := by decide +kernel
theorem dX10_told_2 : decode cX10_told 2 = .ok (.invokevirtual 140, 3) := by decide +kernel
theorem dX10_told_5 : decode cX10_told 5 = .ok (.ifCond .eq 11, 3) := by decide +kernel
theorem dX10_told_8 : decode cX10_told 8 = .ok (.aload_n 0, 1) := by decide +kernel
theorem dX10_told_9 : decode cX10_told 9 = .ok (.iload_n 2, 1) := by decide +kernel
theorem dX10_told_10 : decode cX10_told 10 = .ok (.invokevirtual 140, 3) := by decide +kernel
theorem dX10_told_13 : decode cX10_told 13 = .ok (.ifCond .ne 6, 3) := by decide +kernel
theorem dX10_told_16 : decode cX10_told 16 = .ok (.bipush (-2), 2) := by decide +kernel
theorem dX10_told_18 : decode cX10_told 18 = .ok (.ireturn, 1) := by decide +kernel
theorem dX10_told_19 : decode cX10_told 19 = .ok (.iload_n 3, 1) := by decide +kernel
theorem dX10_told_20 : decode cX10_told 20 = .ok (.i2l, 1) := by decide +kernel
theorem dX10_told_21 : decode cX10_told 21 = .ok (.lconst 0, 1) := by decide +kernel
theorem dX10_told_22 : decode cX10_told 22 = .ok (.ldc2_w 159, 3) := by decide +kernel
theorem dX10_told_25 : decode cX10_told 25 = .ok (.invokestatic 48, 3) := by decide +kernel
theorem dX10_told_28 : decode cX10_told 28 = .ok (.ifCond .ne 6, 3) := by decide +kernel
theorem dX10_told_31 : decode cX10_told 31 = .ok (.bipush (-3), 2) := by decide +kernel
theorem dX10_told_33 : decode cX10_told 33 = .ok (.ireturn, 1) := by decide +kernel
theorem dX10_told_34 : decode cX10_told 34 = .ok (.aload_n 0, 1) := by decide +kernel
theorem dX10_told_35 : decode cX10_told 35 = .ok (.iload_n 1, 1) := by decide +kernel
theorem dX10_told_36 : decode cX10_told 36 = .ok (.iload_n 2, 1) := by decide +kernel
theorem dX10_told_37 : decode cX10_told 37 = .ok (.invokevirtual 231, 3) := by decide +kernel
theorem dX10_told_40 : decode cX10_told 40 = .ok (.istore 4, 2) := by decide +kernel
theorem dX10_told_42 : decode cX10_told 42 = .ok (.iload 4, 2) := by decide +kernel
theorem dX10_told_44 : decode cX10_told 44 = .ok (.ifCond .ne 7, 3) := by decide +kernel
theorem dX10_told_47 : decode cX10_told 47 = .ok (.iconst (-1), 1) := by decide +kernel
theorem dX10_told_48 : decode cX10_told 48 = .ok (.goto 30, 3) := by decide +kernel
theorem dX10_told_51 : decode cX10_told 51 = .ok (.iload_n 3, 1) := by decide +kernel
theorem dX10_told_52 : decode cX10_told 52 = .ok (.ifCond .ne 10, 3) := by decide +kernel
theorem dX10_told_55 : decode cX10_told 55 = .ok (.aload_n 0, 1) := by decide +kernel
theorem dX10_told_56 : decode cX10_told 56 = .ok (.getfield 219, 3) := by decide +kernel
theorem dX10_told_59 : decode cX10_told 59 = .ok (.goto 19, 3) := by decide +kernel
theorem dX10_told_62 : decode cX10_told 62 = .ok (.iload_n 3, 1) := by decide +kernel
theorem dX10_told_63 : decode cX10_told 63 = .ok (.iconst 1, 1) := by decide +kernel
theorem dX10_told_64 : decode cX10_told 64 = .ok (.if_icmp .ne 10, 3) := by decide +kernel
theorem dX10_told_67 : decode cX10_told 67 = .ok (.aload_n 0, 1) := by decide +kernel
theorem dX10_told_68 : decode cX10_told 68 = .ok (.getfield 222, 3) := by decide +kernel
theorem dX10_told_71 : decode cX10_told 71 = .ok (.goto 7, 3) := by decide +kernel
theorem dX10_told_74 : decode cX10_told 74 = .ok (.aload_n 0, 1) := by decide +kernel
theorem dX10_told_75 : decode cX10_told 75 = .ok (.getfield 225, 3) := by decide +kernel
theorem dX10_told_78 : decode cX10_told 78 = .ok (.ireturn, 1) := by decide +kernel
theorem dX10_why_0 : decode cX10_why 0 = .ok (.aload_n 0, 1) := by decide +kernel
theorem dX10_why_1 : decode cX10_why 1 = .ok (.iload_n 1, 1) := by decide +kernel
theorem dX10_why_2 : decode cX10_why 2 = .ok (.invokevirtual 140, 3) := by decide +kernel
theorem dX10_why_5 : decode cX10_why 5 = .ok (.ifCond .eq 11, 3) := by decide +kernel
theorem dX10_why_8 : decode cX10_why 8 = .ok (.aload_n 0, 1) := by decide +kernel
theorem dX10_why_9 : decode cX10_why 9 = .ok (.iload_n 2, 1) := by decide +kernel
theorem dX10_why_10 : decode cX10_why 10 = .ok (.invokevirtual 140, 3) := by decide +kernel
theorem dX10_why_13 : decode cX10_why 13 = .ok (.ifCond .ne 6, 3) := by decide +kernel
theorem dX10_why_16 : decode cX10_why 16 = .ok (.bipush (-2), 2) := by decide +kernel
theorem dX10_why_18 : decode cX10_why 18 = .ok (.ireturn, 1) := by decide +kernel
theorem dX10_why_19 : decode cX10_why 19 = .ok (.iload_n 3, 1) := by decide +kernel
theorem dX10_why_20 : decode cX10_why 20 = .ok (.i2l, 1) := by decide +kernel
theorem dX10_why_21 : decode cX10_why 21 = .ok (.lconst 0, 1) := by decide +kernel
theorem dX10_why_22 : decode cX10_why 22 = .ok (.ldc2_w 159, 3) := by decide +kernel
theorem dX10_why_25 : decode cX10_why 25 = .ok (.invokestatic 48, 3) := by decide +kernel
theorem dX10_why_28 : decode cX10_why 28 = .ok (.ifCond .ne 6, 3) := by decide +kernel
theorem dX10_why_31 : decode cX10_why 31 = .ok (.bipush (-3), 2) := by decide +kernel
theorem dX10_why_33 : decode cX10_why 33 = .ok (.ireturn, 1) := by decide +kernel
theorem dX10_why_34 : decode cX10_why 34 = .ok (.aload_n 0, 1) := by decide +kernel
theorem dX10_why_35 : decode cX10_why 35 = .ok (.iload_n 1, 1) := by decide +kernel
theorem dX10_why_36 : decode cX10_why 36 = .ok (.iload_n 2, 1) := by decide +kernel
theorem dX10_why_37 : decode cX10_why 37 = .ok (.invokevirtual 231, 3) := by decide +kernel
theorem dX10_why_40 : decode cX10_why 40 = .ok (.istore 4, 2) := by decide +kernel
theorem dX10_why_42 : decode cX10_why 42 = .ok (.iload 4, 2) := by decide +kernel
theorem dX10_why_44 : decode cX10_why 44 = .ok (.ifCond .eq 7, 3) := by decide +kernel
theorem dX10_why_47 : decode cX10_why 47 = .ok (.iconst (-1), 1) := by decide +kernel
theorem dX10_why_48 : decode cX10_why 48 = .ok (.goto 30, 3) := by decide +kernel
theorem dX10_why_51 : decode cX10_why 51 = .ok (.iload_n 3, 1) := by decide +kernel
theorem dX10_why_52 : decode cX10_why 52 = .ok (.ifCond .ne 10, 3) := by decide +kernel
theorem dX10_why_55 : decode cX10_why 55 = .ok (.aload_n 0, 1) := by decide +kernel
theorem dX10_why_56 : decode cX10_why 56 = .ok (.getfield 213, 3) := by decide +kernel
theorem dX10_why_59 : decode cX10_why 59 = .ok (.goto 19, 3) := by decide +kernel
theorem dX10_why_62 : decode cX10_why 62 = .ok (.iload_n 3, 1) := by decide +kernel
theorem dX10_why_63 : decode cX10_why 63 = .ok (.iconst 1, 1) := by decide +kernel
theorem dX10_why_64 : decode cX10_why 64 = .ok (.if_icmp .ne 10, 3) := by decide +kernel
theorem dX10_why_67 : decode cX10_why 67 = .ok (.aload_n 0, 1) := by decide +kernel
theorem dX10_why_68 : decode cX10_why 68 = .ok (.getfield 225, 3) := by decide +kernel
theorem dX10_why_71 : decode cX10_why 71 = .ok (.goto 7, 3) := by decide +kernel
theorem dX10_why_74 : decode cX10_why 74 = .ok (.aload_n 0, 1) := by decide +kernel
theorem dX10_why_75 : decode cX10_why 75 = .ok (.getfield 216, 3) := by decide +kernel
theorem dX10_why_78 : decode cX10_why 78 = .ok (.ireturn, 1) := by decide +kernel
theorem dX10_route_0 : decode cX10_route 0 = .ok (.aload_n 0, 1) := by decide +kernel
theorem dX10_route_1 : decode cX10_route 1 = .ok (.iload_n 1, 1) := by decide +kernel
theorem dX10_route_2 : decode cX10_route 2 = .ok (.invokevirtual 140, 3) := by decide +kernel
theorem dX10_route_5 : decode cX10_route 5 = .ok (.ifCond .eq 11, 3) := by decide +kernel
theorem dX10_route_8 : decode cX10_route 8 = .ok (.aload_n 0, 1) := by decide +kernel
theorem dX10_route_9 : decode cX10_route 9 = .ok (.iload_n 2, 1) := by decide +kernel
theorem dX10_route_10 : decode cX10_route 10 = .ok (.invokevirtual 140, 3) := by decide +kernel
theorem dX10_route_13 : decode cX10_route 13 = .ok (.ifCond .ne 6, 3) := by decide +kernel
theorem dX10_route_16 : decode cX10_route 16 = .ok (.bipush (-2), 2) := by decide +kernel
theorem dX10_route_18 : decode cX10_route 18 = .ok (.ireturn, 1) := by decide +kernel
theorem dX10_route_19 : decode cX10_route 19 = .ok (.aload_n 0, 1) := by decide +kernel
theorem dX10_route_20 : decode cX10_route 20 = .ok (.iconst 0, 1) := by decide +kernel
theorem dX10_route_21 : decode cX10_route 21 = .ok (.invokevirtual 144, 3) := by decide +kernel
theorem dX10_route_24 : decode cX10_route 24 = .ok (.aload_n 0, 1) := by decide +kernel
theorem dX10_route_25 : decode cX10_route 25 = .ok (.iload_n 1, 1) := by decide +kernel
theorem dX10_route_26 : decode cX10_route 26 = .ok (.iload_n 2, 1) := by decide +kernel
theorem dX10_route_27 : decode cX10_route 27 = .ok (.invokevirtual 231, 3) := by decide +kernel
theorem dX10_route_30 : decode cX10_route 30 = .ok (.ifCond .eq 27, 3) := by decide +kernel
theorem dX10_route_33 : decode cX10_route 33 = .ok (.aload_n 0, 1) := by decide +kernel
theorem dX10_route_34 : decode cX10_route 34 = .ok (.iload_n 1, 1) := by decide +kernel
theorem dX10_route_35 : decode cX10_route 35 = .ok (.aload_n 0, 1) := by decide +kernel
theorem dX10_route_36 : decode cX10_route 36 = .ok (.getfield 222, 3) := by decide +kernel
theorem dX10_route_39 : decode cX10_route 39 = .ok (.invokevirtual 148, 3) := by decide +kernel
theorem dX10_route_42 : decode cX10_route 42 = .ok (.ifCond .eq 15, 3) := by decide +kernel
theorem dX10_route_45 : decode cX10_route 45 = .ok (.aload_n 0, 1) := by decide +kernel
theorem dX10_route_46 : decode cX10_route 46 = .ok (.aload_n 0, 1) := by decide +kernel
theorem dX10_route_47 : decode cX10_route 47 = .ok (.getfield 222, 3) := by decide +kernel
theorem dX10_route_50 : decode cX10_route 50 = .ok (.iload_n 2, 1) := by decide +kernel
theorem dX10_route_51 : decode cX10_route 51 = .ok (.invokevirtual 148, 3) := by decide +kernel
theorem dX10_route_54 : decode cX10_route 54 = .ok (.ifCond .ne 6, 3) := by decide +kernel
theorem dX10_route_57 : decode cX10_route 57 = .ok (.bipush (-4), 2) := by decide +kernel
theorem dX10_route_59 : decode cX10_route 59 = .ok (.ireturn, 1) := by decide +kernel
theorem dX10_route_60 : decode cX10_route 60 = .ok (.iload_n 3, 1) := by decide +kernel
theorem dX10_route_61 : decode cX10_route 61 = .ok (.ifCond .ge 5, 3) := by decide +kernel
theorem dX10_route_64 : decode cX10_route 64 = .ok (.iconst (-1), 1) := by decide +kernel
theorem dX10_route_65 : decode cX10_route 65 = .ok (.ireturn, 1) := by decide +kernel
theorem dX10_route_66 : decode cX10_route 66 = .ok (.iload_n 1, 1) := by decide +kernel
theorem dX10_route_67 : decode cX10_route 67 = .ok (.istore 4, 2) := by decide +kernel
theorem dX10_route_69 : decode cX10_route 69 = .ok (.iload 4, 2) := by decide +kernel
theorem dX10_route_71 : decode cX10_route 71 = .ok (.aload_n 0, 1) := by decide +kernel
theorem dX10_route_72 : decode cX10_route 72 = .ok (.getfield 222, 3) := by decide +kernel
theorem dX10_route_75 : decode cX10_route 75 = .ok (.if_icmp .ne 7, 3) := by decide +kernel
theorem dX10_route_78 : decode cX10_route 78 = .ok (.iconst 1, 1) := by decide +kernel
theorem dX10_route_79 : decode cX10_route 79 = .ok (.goto 4, 3) := by decide +kernel
theorem dX10_route_82 : decode cX10_route 82 = .ok (.iconst 0, 1) := by decide +kernel
theorem dX10_route_83 : decode cX10_route 83 = .ok (.istore 5, 2) := by decide +kernel
theorem dX10_route_85 : decode cX10_route 85 = .ok (.iconst 0, 1) := by decide +kernel
theorem dX10_route_86 : decode cX10_route 86 = .ok (.istore 6, 2) := by decide +kernel
theorem dX10_route_88 : decode cX10_route 88 = .ok (.iload 6, 2) := by decide +kernel
theorem dX10_route_90 : decode cX10_route 90 = .ok (.iload_n 3, 1) := by decide +kernel
theorem dX10_route_91 : decode cX10_route 91 = .ok (.if_icmp .ge 64, 3) := by decide +kernel
theorem dX10_route_94 : decode cX10_route 94 = .ok (.iload 5, 2) := by decide +kernel
theorem dX10_route_96 : decode cX10_route 96 = .ok (.ifCond .eq 11, 3) := by decide +kernel
theorem dX10_route_99 : decode cX10_route 99 = .ok (.iload 4, 2) := by decide +kernel
theorem dX10_route_101 : decode cX10_route 101 = .ok (.iload_n 2, 1) := by decide +kernel
theorem dX10_route_102 : decode cX10_route 102 = .ok (.if_icmp .ne 5, 3) := by decide +kernel
theorem dX10_route_105 : decode cX10_route 105 = .ok (.iconst (-1), 1) := by decide +kernel
theorem dX10_route_106 : decode cX10_route 106 = .ok (.ireturn, 1) := by decide +kernel
theorem dX10_route_107 : decode cX10_route 107 = .ok (.aload_n 0, 1) := by decide +kernel
theorem dX10_route_108 : decode cX10_route 108 = .ok (.iload 4, 2) := by decide +kernel
theorem dX10_route_110 : decode cX10_route 110 = .ok (.iload 5, 2) := by decide +kernel
theorem dX10_route_112 : decode cX10_route 112 = .ok (.ifCond .eq 7, 3) := by decide +kernel
theorem dX10_route_115 : decode cX10_route 115 = .ok (.iload_n 2, 1) := by decide +kernel
theorem dX10_route_116 : decode cX10_route 116 = .ok (.goto 7, 3) := by decide +kernel
theorem dX10_route_119 : decode cX10_route 119 = .ok (.aload_n 0, 1) := by decide +kernel
theorem dX10_route_120 : decode cX10_route 120 = .ok (.getfield 222, 3) := by decide +kernel
theorem dX10_route_123 : decode cX10_route 123 = .ok (.invokevirtual 166, 3) := by decide +kernel
theorem dX10_route_126 : decode cX10_route 126 = .ok (.istore 4, 2) := by decide +kernel
theorem dX10_route_128 : decode cX10_route 128 = .ok (.iload 5, 2) := by decide +kernel
theorem dX10_route_130 : decode cX10_route 130 = .ok (.ifCond .ne 12, 3) := by decide +kernel
theorem dX10_route_133 : decode cX10_route 133 = .ok (.iload 4, 2) := by decide +kernel
theorem dX10_route_135 : decode cX10_route 135 = .ok (.aload_n 0, 1) := by decide +kernel
theorem dX10_route_136 : decode cX10_route 136 = .ok (.getfield 222, 3) := by decide +kernel
theorem dX10_route_139 : decode cX10_route 139 = .ok (.if_icmp .ne 7, 3) := by decide +kernel
theorem dX10_route_142 : decode cX10_route 142 = .ok (.iconst 1, 1) := by decide +kernel
theorem dX10_route_143 : decode cX10_route 143 = .ok (.goto 4, 3) := by decide +kernel
theorem dX10_route_146 : decode cX10_route 146 = .ok (.iconst 0, 1) := by decide +kernel
theorem dX10_route_147 : decode cX10_route 147 = .ok (.istore 5, 2) := by decide +kernel
theorem dX10_route_149 : decode cX10_route 149 = .ok (.iinc 6 1, 3) := by decide +kernel
theorem dX10_route_152 : decode cX10_route 152 = .ok (.goto (-64), 3) := by decide +kernel
theorem dX10_route_155 : decode cX10_route 155 = .ok (.iload 4, 2) := by decide +kernel
theorem dX10_route_157 : decode cX10_route 157 = .ok (.ireturn, 1) := by decide +kernel
theorem dX10_pairs_0 : decode cX10_pairs 0 = .ok (.iload_n 1, 1) := by decide +kernel
theorem dX10_pairs_1 : decode cX10_pairs 1 = .ok (.i2l, 1) := by decide +kernel
theorem dX10_pairs_2 : decode cX10_pairs 2 = .ok (.lconst 0, 1) := by decide +kernel
theorem dX10_pairs_3 : decode cX10_pairs 3 = .ok (.ldc2_w 234, 3) := by decide +kernel
theorem dX10_pairs_6 : decode cX10_pairs 6 = .ok (.invokestatic 48, 3) := by decide +kernel
theorem dX10_pairs_9 : decode cX10_pairs 9 = .ok (.ifCond .ne 6, 3) := by decide +kernel
theorem dX10_pairs_12 : decode cX10_pairs 12 = .ok (.bipush (-3), 2) := by decide +kernel
theorem dX10_pairs_14 : decode cX10_pairs 14 = .ok (.ireturn, 1) := by decide +kernel
theorem dX10_pairs_15 : decode cX10_pairs 15 = .ok (.aload_n 0, 1) := by decide +kernel
theorem dX10_pairs_16 : decode cX10_pairs 16 = .ok (.iconst 0, 1) := by decide +kernel
theorem dX10_pairs_17 : decode cX10_pairs 17 = .ok (.invokevirtual 144, 3) := by decide +kernel
theorem dX10_pairs_20 : decode cX10_pairs 20 = .ok (.iconst (-1), 1) := by decide +kernel
theorem dX10_pairs_21 : decode cX10_pairs 21 = .ok (.istore_n 2, 1) := by decide +kernel
theorem dX10_pairs_22 : decode cX10_pairs 22 = .ok (.iconst (-1), 1) := by decide +kernel
theorem dX10_pairs_23 : decode cX10_pairs 23 = .ok (.istore_n 3, 1) := by decide +kernel
theorem dX10_pairs_24 : decode cX10_pairs 24 = .ok (.iconst (-1), 1) := by decide +kernel
theorem dX10_pairs_25 : decode cX10_pairs 25 = .ok (.istore 4, 2) := by decide +kernel
theorem dX10_pairs_27 : decode cX10_pairs 27 = .ok (.iconst 1, 1) := by decide +kernel
theorem dX10_pairs_28 : decode cX10_pairs 28 = .ok (.istore 5, 2) := by decide +kernel
theorem dX10_pairs_30 : decode cX10_pairs 30 = .ok (.iconst 0, 1) := by decide +kernel
theorem dX10_pairs_31 : decode cX10_pairs 31 = .ok (.istore 6, 2) := by decide +kernel
theorem dX10_pairs_33 : decode cX10_pairs 33 = .ok (.iconst 0, 1) := by decide +kernel
theorem dX10_pairs_34 : decode cX10_pairs 34 = .ok (.istore 7, 2) := by decide +kernel
theorem dX10_pairs_36 : decode cX10_pairs 36 = .ok (.iconst 0, 1) := by decide +kernel
theorem dX10_pairs_37 : decode cX10_pairs 37 = .ok (.istore 8, 2) := by decide +kernel
theorem dX10_pairs_39 : decode cX10_pairs 39 = .ok (.iload 8, 2) := by decide +kernel
theorem dX10_pairs_41 : decode cX10_pairs 41 = .ok (.aload_n 0, 1) := by decide +kernel
theorem dX10_pairs_42 : decode cX10_pairs 42 = .ok (.getfield 13, 3) := by decide +kernel
theorem dX10_pairs_45 : decode cX10_pairs 45 = .ok (.if_icmp .ge 118, 3) := by decide +kernel
theorem dX10_pairs_48 : decode cX10_pairs 48 = .ok (.iload 8, 2) := by decide +kernel
theorem dX10_pairs_50 : decode cX10_pairs 50 = .ok (.iconst 1, 1) := by decide +kernel
theorem dX10_pairs_51 : decode cX10_pairs 51 = .ok (.iadd, 1) := by decide +kernel
theorem dX10_pairs_52 : decode cX10_pairs 52 = .ok (.istore 9, 2) := by decide +kernel
theorem dX10_pairs_54 : decode cX10_pairs 54 = .ok (.iload 9, 2) := by decide +kernel
theorem dX10_pairs_56 : decode cX10_pairs 56 = .ok (.aload_n 0, 1) := by decide +kernel
theorem dX10_pairs_57 : decode cX10_pairs 57 = .ok (.getfield 13, 3) := by decide +kernel
theorem dX10_pairs_60 : decode cX10_pairs 60 = .ok (.if_icmp .ge 97, 3) := by decide +kernel
theorem dX10_pairs_63 : decode cX10_pairs 63 = .ok (.aload_n 0, 1) := by decide +kernel
theorem dX10_pairs_64 : decode cX10_pairs 64 = .ok (.getfield 36, 3) := by decide +kernel
theorem dX10_pairs_67 : decode cX10_pairs 67 = .ok (.bipush 12, 2) := by decide +kernel
theorem dX10_pairs_69 : decode cX10_pairs 69 = .ok (.iload 8, 2) := by decide +kernel
theorem dX10_pairs_71 : decode cX10_pairs 71 = .ok (.imul, 1) := by decide +kernel
theorem dX10_pairs_72 : decode cX10_pairs 72 = .ok (.iload 9, 2) := by decide +kernel
theorem dX10_pairs_74 : decode cX10_pairs 74 = .ok (.iadd, 1) := by decide +kernel
theorem dX10_pairs_75 : decode cX10_pairs 75 = .ok (.iaload, 1) := by decide +kernel
theorem dX10_pairs_76 : decode cX10_pairs 76 = .ok (.istore 10, 2) := by decide +kernel
theorem dX10_pairs_78 : decode cX10_pairs 78 = .ok (.aload_n 0, 1) := by decide +kernel
theorem dX10_pairs_79 : decode cX10_pairs 79 = .ok (.iload 8, 2) := by decide +kernel
theorem dX10_pairs_81 : decode cX10_pairs 81 = .ok (.iload 9, 2) := by decide +kernel
theorem dX10_pairs_83 : decode cX10_pairs 83 = .ok (.invokevirtual 148, 3) := by decide +kernel
theorem dX10_pairs_86 : decode cX10_pairs 86 = .ok (.ifCond .eq 51, 3) := by decide +kernel
theorem dX10_pairs_89 : decode cX10_pairs 89 = .ok (.aload_n 0, 1) := by decide +kernel
theorem dX10_pairs_90 : decode cX10_pairs 90 = .ok (.iload 8, 2) := by decide +kernel
theorem dX10_pairs_92 : decode cX10_pairs 92 = .ok (.iload 9, 2) := by decide +kernel
theorem dX10_pairs_94 : decode cX10_pairs 94 = .ok (.invokevirtual 231, 3) := by decide +kernel
theorem dX10_pairs_97 : decode cX10_pairs 97 = .ok (.ifCond .eq 40, 3) := by decide +kernel
theorem dX10_pairs_100 : decode cX10_pairs 100 = .ok (.iinc 6 1, 3) := by decide +kernel
theorem dX10_pairs_103 : decode cX10_pairs 103 = .ok (.aload_n 0, 1) := by decide +kernel
theorem dX10_pairs_104 : decode cX10_pairs 104 = .ok (.getfield 219, 3) := by decide +kernel
theorem dX10_pairs_107 : decode cX10_pairs 107 = .ok (.iload 5, 2) := by decide +kernel
theorem dX10_pairs_109 : decode cX10_pairs 109 = .ok (.imul, 1) := by decide +kernel
theorem dX10_pairs_110 : decode cX10_pairs 110 = .ok (.iload 4, 2) := by decide +kernel
theorem dX10_pairs_112 : decode cX10_pairs 112 = .ok (.iload 10, 2) := by decide +kernel
theorem dX10_pairs_114 : decode cX10_pairs 114 = .ok (.imul, 1) := by decide +kernel
theorem dX10_pairs_115 : decode cX10_pairs 115 = .ok (.if_icmp .le 36, 3) := by decide +kernel
theorem dX10_pairs_118 : decode cX10_pairs 118 = .ok (.aload_n 0, 1) := by decide +kernel
theorem dX10_pairs_119 : decode cX10_pairs 119 = .ok (.getfield 219, 3) := by decide +kernel
theorem dX10_pairs_122 : decode cX10_pairs 122 = .ok (.istore 4, 2) := by decide +kernel
theorem dX10_pairs_124 : decode cX10_pairs 124 = .ok (.iload 10, 2) := by decide +kernel
theorem dX10_pairs_126 : decode cX10_pairs 126 = .ok (.istore 5, 2) := by decide +kernel
theorem dX10_pairs_128 : decode cX10_pairs 128 = .ok (.iload 8, 2) := by decide +kernel
theorem dX10_pairs_130 : decode cX10_pairs 130 = .ok (.istore_n 2, 1) := by decide +kernel
theorem dX10_pairs_131 : decode cX10_pairs 131 = .ok (.iload 9, 2) := by decide +kernel
theorem dX10_pairs_133 : decode cX10_pairs 133 = .ok (.istore_n 3, 1) := by decide +kernel
theorem dX10_pairs_134 : decode cX10_pairs 134 = .ok (.goto 17, 3) := by decide +kernel
theorem dX10_pairs_137 : decode cX10_pairs 137 = .ok (.aload_n 0, 1) := by decide +kernel
theorem dX10_pairs_138 : decode cX10_pairs 138 = .ok (.iload 8, 2) := by decide +kernel
theorem dX10_pairs_140 : decode cX10_pairs 140 = .ok (.iload 9, 2) := by decide +kernel
theorem dX10_pairs_142 : decode cX10_pairs 142 = .ok (.invokevirtual 148, 3) := by decide +kernel
theorem dX10_pairs_145 : decode cX10_pairs 145 = .ok (.ifCond .eq 6, 3) := by decide +kernel
theorem dX10_pairs_148 : decode cX10_pairs 148 = .ok (.iinc 7 1, 3) := by decide +kernel
theorem dX10_pairs_151 : decode cX10_pairs 151 = .ok (.iinc 9 1, 3) := by decide +kernel
theorem dX10_pairs_154 : decode cX10_pairs 154 = .ok (.goto (-100), 3) := by decide +kernel
theorem dX10_pairs_157 : decode cX10_pairs 157 = .ok (.iinc 8 1, 3) := by decide +kernel
theorem dX10_pairs_160 : decode cX10_pairs 160 = .ok (.goto (-121), 3) := by decide +kernel
theorem dX10_pairs_163 : decode cX10_pairs 163 = .ok (.iload_n 1, 1) := by decide +kernel
theorem dX10_pairs_164 : decode cX10_pairs 164 = .ok (.ifCond .ne 7, 3) := by decide +kernel
theorem dX10_pairs_167 : decode cX10_pairs 167 = .ok (.iload_n 2, 1) := by decide +kernel
theorem dX10_pairs_168 : decode cX10_pairs 168 = .ok (.goto 24, 3) := by decide +kernel
theorem dX10_pairs_171 : decode cX10_pairs 171 = .ok (.iload_n 1, 1) := by decide +kernel
theorem dX10_pairs_172 : decode cX10_pairs 172 = .ok (.iconst 1, 1) := by decide +kernel
theorem dX10_pairs_173 : decode cX10_pairs 173 = .ok (.if_icmp .ne 7, 3) := by decide +kernel
theorem dX10_pairs_176 : decode cX10_pairs 176 = .ok (.iload_n 3, 1) := by decide +kernel
theorem dX10_pairs_177 : decode cX10_pairs 177 = .ok (.goto 15, 3) := by decide +kernel
theorem dX10_pairs_180 : decode cX10_pairs 180 = .ok (.iload_n 1, 1) := by decide +kernel
theorem dX10_pairs_181 : decode cX10_pairs 181 = .ok (.iconst 2, 1) := by decide +kernel
theorem dX10_pairs_182 : decode cX10_pairs 182 = .ok (.if_icmp .ne 8, 3) := by decide +kernel
theorem dX10_pairs_185 : decode cX10_pairs 185 = .ok (.iload 6, 2) := by decide +kernel
theorem dX10_pairs_187 : decode cX10_pairs 187 = .ok (.goto 5, 3) := by decide +kernel
theorem dX10_pairs_190 : decode cX10_pairs 190 = .ok (.iload 7, 2) := by decide +kernel
theorem dX10_pairs_192 : decode cX10_pairs 192 = .ok (.ireturn, 1) := by decide +kernel
theorem dX10_parts_0 : decode cX10_parts 0 = .ok (.aload_n 0, 1) := by decide +kernel
theorem dX10_parts_1 : decode cX10_parts 1 = .ok (.iconst 0, 1) := by decide +kernel
theorem dX10_parts_2 : decode cX10_parts 2 = .ok (.invokevirtual 144, 3) := by decide +kernel
theorem dX10_parts_5 : decode cX10_parts 5 = .ok (.iconst 0, 1) := by decide +kernel
theorem dX10_parts_6 : decode cX10_parts 6 = .ok (.istore_n 1, 1) := by decide +kernel
theorem dX10_parts_7 : decode cX10_parts 7 = .ok (.iconst 0, 1) := by decide +kernel
theorem dX10_parts_8 : decode cX10_parts 8 = .ok (.istore_n 2, 1) := by decide +kernel
theorem dX10_parts_9 : decode cX10_parts 9 = .ok (.iload_n 2, 1) := by decide +kernel
theorem dX10_parts_10 : decode cX10_parts 10 = .ok (.aload_n 0, 1) := by decide +kernel
theorem dX10_parts_11 : decode cX10_parts 11 = .ok (.getfield 13, 3) := by decide +kernel
theorem dX10_parts_14 : decode cX10_parts 14 = .ok (.if_icmp .ge 58, 3) := by decide +kernel
theorem dX10_parts_17 : decode cX10_parts 17 = .ok (.iconst 1, 1) := by decide +kernel
theorem dX10_parts_18 : decode cX10_parts 18 = .ok (.istore_n 3, 1) := by decide +kernel
theorem dX10_parts_19 : decode cX10_parts 19 = .ok (.iconst 0, 1) := by decide +kernel
theorem dX10_parts_20 : decode cX10_parts 20 = .ok (.istore 4, 2) := by decide +kernel
theorem dX10_parts_22 : decode cX10_parts 22 = .ok (.iload 4, 2) := by decide +kernel
theorem dX10_parts_24 : decode cX10_parts 24 = .ok (.iload_n 2, 1) := by decide +kernel
theorem dX10_parts_25 : decode cX10_parts 25 = .ok (.if_icmp .ge 29, 3) := by decide +kernel
theorem dX10_parts_28 : decode cX10_parts 28 = .ok (.iload_n 3, 1) := by decide +kernel
theorem dX10_parts_29 : decode cX10_parts 29 = .ok (.ifCond .eq 17, 3) := by decide +kernel
theorem dX10_parts_32 : decode cX10_parts 32 = .ok (.aload_n 0, 1) := by decide +kernel
theorem dX10_parts_33 : decode cX10_parts 33 = .ok (.iload_n 2, 1) := by decide +kernel
theorem dX10_parts_34 : decode cX10_parts 34 = .ok (.iload 4, 2) := by decide +kernel
theorem dX10_parts_36 : decode cX10_parts 36 = .ok (.invokevirtual 148, 3) := by decide +kernel
theorem dX10_parts_39 : decode cX10_parts 39 = .ok (.ifCond .ne 7, 3) := by decide +kernel
theorem dX10_parts_42 : decode cX10_parts 42 = .ok (.iconst 1, 1) := by decide +kernel
theorem dX10_parts_43 : decode cX10_parts 43 = .ok (.goto 4, 3) := by decide +kernel
theorem dX10_parts_46 : decode cX10_parts 46 = .ok (.iconst 0, 1) := by decide +kernel
theorem dX10_parts_47 : decode cX10_parts 47 = .ok (.istore_n 3, 1) := by decide +kernel
theorem dX10_parts_48 : decode cX10_parts 48 = .ok (.iinc 4 1, 3) := by decide +kernel
theorem dX10_parts_51 : decode cX10_parts 51 = .ok (.goto (-29), 3) := by decide +kernel
theorem dX10_parts_54 : decode cX10_parts 54 = .ok (.iload_n 1, 1) := by decide +kernel
theorem dX10_parts_55 : decode cX10_parts 55 = .ok (.iload_n 3, 1) := by decide +kernel
theorem dX10_parts_56 : decode cX10_parts 56 = .ok (.ifCond .eq 7, 3) := by decide +kernel
theorem dX10_parts_59 : decode cX10_parts 59 = .ok (.iconst 1, 1) := by decide +kernel
theorem dX10_parts_60 : decode cX10_parts 60 = .ok (.goto 4, 3) := by decide +kernel
theorem dX10_parts_63 : decode cX10_parts 63 = .ok (.iconst 0, 1) := by decide +kernel
theorem dX10_parts_64 : decode cX10_parts 64 = .ok (.iadd, 1) := by decide +kernel
theorem dX10_parts_65 : decode cX10_parts 65 = .ok (.istore_n 1, 1) := by decide +kernel
theorem dX10_parts_66 : decode cX10_parts 66 = .ok (.iinc 2 1, 3) := by decide +kernel
theorem dX10_parts_69 : decode cX10_parts 69 = .ok (.goto (-60), 3) := by decide +kernel
theorem dX10_parts_72 : decode cX10_parts 72 = .ok (.iload_n 1, 1) := by decide +kernel
theorem dX10_parts_73 : decode cX10_parts 73 = .ok (.ireturn, 1) := by decide +kernel
theorem dX10_freshNotes_0 : decode cX10_freshNotes 0 = .ok (.aload_n 0, 1) := by decide +kernel
theorem dX10_freshNotes_1 : decode cX10_freshNotes 1 = .ok (.iconst 0, 1) := by decide +kernel
theorem dX10_freshNotes_2 : decode cX10_freshNotes 2 = .ok (.invokevirtual 144, 3) := by decide +kernel
theorem dX10_freshNotes_5 : decode cX10_freshNotes 5 = .ok (.iconst 0, 1) := by decide +kernel
theorem dX10_freshNotes_6 : decode cX10_freshNotes 6 = .ok (.istore_n 1, 1) := by decide +kernel
theorem dX10_freshNotes_7 : decode cX10_freshNotes 7 = .ok (.iconst 0, 1) := by decide +kernel
theorem dX10_freshNotes_8 : decode cX10_freshNotes 8 = .ok (.istore_n 2, 1) := by decide +kernel
theorem dX10_freshNotes_9 : decode cX10_freshNotes 9 = .ok (.iload_n 2, 1) := by decide +kernel
theorem dX10_freshNotes_10 : decode cX10_freshNotes 10 = .ok (.aload_n 0, 1) := by decide +kernel
theorem dX10_freshNotes_11 : decode cX10_freshNotes 11 = .ok (.getfield 13, 3) := by decide +kernel
theorem dX10_freshNotes_14 : decode cX10_freshNotes 14 = .ok (.if_icmp .ge 25, 3) := by decide +kernel
theorem dX10_freshNotes_17 : decode cX10_freshNotes 17 = .ok (.iload_n 1, 1) := by decide +kernel
theorem dX10_freshNotes_18 : decode cX10_freshNotes 18 = .ok (.aload_n 0, 1) := by decide +kernel
theorem dX10_freshNotes_19 : decode cX10_freshNotes 19 = .ok (.iload_n 2, 1) := by decide +kernel
theorem dX10_freshNotes_20 : decode cX10_freshNotes 20 = .ok (.invokevirtual 208, 3) := by decide +kernel
end
section
theorem dX10_freshNotes_23 : decode cX10_freshNotes 23 = .ok (.ifCond .eq 7, 3) := by decide +kernel
theorem dX10_freshNotes_26 : decode cX10_freshNotes 26 = .ok (.iconst 1, 1) := by decide +kernel
theorem dX10_freshNotes_27 : decode cX10_freshNotes 27 = .ok (.goto 4, 3) := by decide +kernel
theorem dX10_freshNotes_30 : decode cX10_freshNotes 30 = .ok (.iconst 0, 1) := by decide +kernel
theorem dX10_freshNotes_31 : decode cX10_freshNotes 31 = .ok (.iadd, 1) := by decide +kernel
theorem dX10_freshNotes_32 : decode cX10_freshNotes 32 = .ok (.istore_n 1, 1) := by decide +kernel
theorem dX10_freshNotes_33 : decode cX10_freshNotes 33 = .ok (.iinc 2 1, 3) := by decide +kernel
theorem dX10_freshNotes_36 : decode cX10_freshNotes 36 = .ok (.goto (-27), 3) := by decide +kernel
theorem dX10_freshNotes_39 : decode cX10_freshNotes 39 = .ok (.iload_n 1, 1) := by decide +kernel
theorem dX10_freshNotes_40 : decode cX10_freshNotes 40 = .ok (.ireturn, 1) := by decide +kernel
theorem dX10_inBunches_0 : decode cX10_inBunches 0 = .ok (.iconst 0, 1) := by decide +kernel
theorem dX10_inBunches_1 : decode cX10_inBunches 1 = .ok (.istore_n 1, 1) := by decide +kernel
theorem dX10_inBunches_2 : decode cX10_inBunches 2 = .ok (.iconst 0, 1) := by decide +kernel
theorem dX10_inBunches_3 : decode cX10_inBunches 3 = .ok (.istore_n 2, 1) := by decide +kernel
theorem dX10_inBunches_4 : decode cX10_inBunches 4 = .ok (.iload_n 2, 1) := by decide +kernel
theorem dX10_inBunches_5 : decode cX10_inBunches 5 = .ok (.aload_n 0, 1) := by decide +kernel
theorem dX10_inBunches_6 : decode cX10_inBunches 6 = .ok (.getfield 13, 3) := by decide +kernel
theorem dX10_inBunches_9 : decode cX10_inBunches 9 = .ok (.if_icmp .ge 39, 3) := by decide +kernel
theorem dX10_inBunches_12 : decode cX10_inBunches 12 = .ok (.iload_n 1, 1) := by decide +kernel
theorem dX10_inBunches_13 : decode cX10_inBunches 13 = .ok (.aload_n 0, 1) := by decide +kernel
theorem dX10_inBunches_14 : decode cX10_inBunches 14 = .ok (.iload_n 2, 1) := by decide +kernel
theorem dX10_inBunches_15 : decode cX10_inBunches 15 = .ok (.invokevirtual 190, 3) := by decide +kernel
theorem dX10_inBunches_18 : decode cX10_inBunches 18 = .ok (.ifCond .eq 21, 3) := by decide +kernel
theorem dX10_inBunches_21 : decode cX10_inBunches 21 = .ok (.aload_n 0, 1) := by decide +kernel
theorem dX10_inBunches_22 : decode cX10_inBunches 22 = .ok (.getfield 17, 3) := by decide +kernel
theorem dX10_inBunches_25 : decode cX10_inBunches 25 = .ok (.bipush 20, 2) := by decide +kernel
theorem dX10_inBunches_27 : decode cX10_inBunches 27 = .ok (.iload_n 2, 1) := by decide +kernel
theorem dX10_inBunches_28 : decode cX10_inBunches 28 = .ok (.imul, 1) := by decide +kernel
theorem dX10_inBunches_29 : decode cX10_inBunches 29 = .ok (.bipush 7, 2) := by decide +kernel
theorem dX10_inBunches_31 : decode cX10_inBunches 31 = .ok (.iadd, 1) := by decide +kernel
theorem dX10_inBunches_32 : decode cX10_inBunches 32 = .ok (.iaload, 1) := by decide +kernel
theorem dX10_inBunches_33 : decode cX10_inBunches 33 = .ok (.invokestatic 205, 3) := by decide +kernel
theorem dX10_inBunches_36 : decode cX10_inBunches 36 = .ok (.goto 4, 3) := by decide +kernel
theorem dX10_inBunches_39 : decode cX10_inBunches 39 = .ok (.iconst 0, 1) := by decide +kernel
theorem dX10_inBunches_40 : decode cX10_inBunches 40 = .ok (.iadd, 1) := by decide +kernel
theorem dX10_inBunches_41 : decode cX10_inBunches 41 = .ok (.istore_n 1, 1) := by decide +kernel
theorem dX10_inBunches_42 : decode cX10_inBunches 42 = .ok (.iinc 2 1, 3) := by decide +kernel
theorem dX10_inBunches_45 : decode cX10_inBunches 45 = .ok (.goto (-41), 3) := by decide +kernel
theorem dX10_inBunches_48 : decode cX10_inBunches 48 = .ok (.iload_n 1, 1) := by decide +kernel
theorem dX10_inBunches_49 : decode cX10_inBunches 49 = .ok (.ireturn, 1) := by decide +kernel
theorem dX10_ofLevel_0 : decode cX10_ofLevel 0 = .ok (.iconst 0, 1) := by decide +kernel
theorem dX10_ofLevel_1 : decode cX10_ofLevel 1 = .ok (.istore_n 2, 1) := by decide +kernel
theorem dX10_ofLevel_2 : decode cX10_ofLevel 2 = .ok (.iconst 0, 1) := by decide +kernel
theorem dX10_ofLevel_3 : decode cX10_ofLevel 3 = .ok (.istore_n 3, 1) := by decide +kernel
theorem dX10_ofLevel_4 : decode cX10_ofLevel 4 = .ok (.iload_n 3, 1) := by decide +kernel
theorem dX10_ofLevel_5 : decode cX10_ofLevel 5 = .ok (.aload_n 0, 1) := by decide +kernel
theorem dX10_ofLevel_6 : decode cX10_ofLevel 6 = .ok (.getfield 13, 3) := by decide +kernel
theorem dX10_ofLevel_9 : decode cX10_ofLevel 9 = .ok (.if_icmp .ge 31, 3) := by decide +kernel
theorem dX10_ofLevel_12 : decode cX10_ofLevel 12 = .ok (.iload_n 2, 1) := by decide +kernel
theorem dX10_ofLevel_13 : decode cX10_ofLevel 13 = .ok (.aload_n 0, 1) := by decide +kernel
theorem dX10_ofLevel_14 : decode cX10_ofLevel 14 = .ok (.getfield 7, 3) := by decide +kernel
theorem dX10_ofLevel_17 : decode cX10_ofLevel 17 = .ok (.sipush 144, 3) := by decide +kernel
theorem dX10_ofLevel_20 : decode cX10_ofLevel 20 = .ok (.iload_n 3, 1) := by decide +kernel
theorem dX10_ofLevel_21 : decode cX10_ofLevel 21 = .ok (.iadd, 1) := by decide +kernel
theorem dX10_ofLevel_22 : decode cX10_ofLevel 22 = .ok (.iaload, 1) := by decide +kernel
theorem dX10_ofLevel_23 : decode cX10_ofLevel 23 = .ok (.iload_n 1, 1) := by decide +kernel
theorem dX10_ofLevel_24 : decode cX10_ofLevel 24 = .ok (.if_icmp .ne 7, 3) := by decide +kernel
theorem dX10_ofLevel_27 : decode cX10_ofLevel 27 = .ok (.iconst 1, 1) := by decide +kernel
theorem dX10_ofLevel_28 : decode cX10_ofLevel 28 = .ok (.goto 4, 3) := by decide +kernel
theorem dX10_ofLevel_31 : decode cX10_ofLevel 31 = .ok (.iconst 0, 1) := by decide +kernel
theorem dX10_ofLevel_32 : decode cX10_ofLevel 32 = .ok (.iadd, 1) := by decide +kernel
theorem dX10_ofLevel_33 : decode cX10_ofLevel 33 = .ok (.istore_n 2, 1) := by decide +kernel
theorem dX10_ofLevel_34 : decode cX10_ofLevel 34 = .ok (.iinc 3 1, 3) := by decide +kernel
theorem dX10_ofLevel_37 : decode cX10_ofLevel 37 = .ok (.goto (-33), 3) := by decide +kernel
theorem dX10_ofLevel_40 : decode cX10_ofLevel 40 = .ok (.iload_n 2, 1) := by decide +kernel
theorem dX10_ofLevel_41 : decode cX10_ofLevel 41 = .ok (.ireturn, 1) := by decide +kernel
theorem dX10_count_0 : decode cX10_count 0 = .ok (.iload_n 1, 1) := by decide +kernel
theorem dX10_count_1 : decode cX10_count 1 = .ok (.tableswitch 121 0 11 #[63, 68, 73, 78, 83, 88, 93, 98, 103, 112, 112, 112], 63) := by decide +kernel
theorem dX10_count_64 : decode cX10_count 64 = .ok (.aload_n 0, 1) := by decide +kernel
theorem dX10_count_65 : decode cX10_count 65 = .ok (.getfield 13, 3) := by decide +kernel
theorem dX10_count_68 : decode cX10_count 68 = .ok (.ireturn, 1) := by decide +kernel
theorem dX10_count_69 : decode cX10_count 69 = .ok (.aload_n 0, 1) := by decide +kernel
theorem dX10_count_70 : decode cX10_count 70 = .ok (.invokevirtual 123, 3) := by decide +kernel
theorem dX10_count_73 : decode cX10_count 73 = .ok (.ireturn, 1) := by decide +kernel
theorem dX10_count_74 : decode cX10_count 74 = .ok (.aload_n 0, 1) := by decide +kernel
theorem dX10_count_75 : decode cX10_count 75 = .ok (.invokevirtual 236, 3) := by decide +kernel
theorem dX10_count_78 : decode cX10_count 78 = .ok (.ireturn, 1) := by decide +kernel
theorem dX10_count_79 : decode cX10_count 79 = .ok (.aload_n 0, 1) := by decide +kernel
theorem dX10_count_80 : decode cX10_count 80 = .ok (.invokevirtual 193, 3) := by decide +kernel
theorem dX10_count_83 : decode cX10_count 83 = .ok (.ireturn, 1) := by decide +kernel
theorem dX10_count_84 : decode cX10_count 84 = .ok (.aload_n 0, 1) := by decide +kernel
theorem dX10_count_85 : decode cX10_count 85 = .ok (.invokevirtual 239, 3) := by decide +kernel
theorem dX10_count_88 : decode cX10_count 88 = .ok (.ireturn, 1) := by decide +kernel
theorem dX10_count_89 : decode cX10_count 89 = .ok (.aload_n 0, 1) := by decide +kernel
theorem dX10_count_90 : decode cX10_count 90 = .ok (.invokevirtual 242, 3) := by decide +kernel
theorem dX10_count_93 : decode cX10_count 93 = .ok (.ireturn, 1) := by decide +kernel
theorem dX10_count_94 : decode cX10_count 94 = .ok (.aload_n 0, 1) := by decide +kernel
theorem dX10_count_95 : decode cX10_count 95 = .ok (.getfield 133, 3) := by decide +kernel
theorem dX10_count_98 : decode cX10_count 98 = .ok (.ireturn, 1) := by decide +kernel
theorem dX10_count_99 : decode cX10_count 99 = .ok (.aload_n 0, 1) := by decide +kernel
theorem dX10_count_100 : decode cX10_count 100 = .ok (.getfield 54, 3) := by decide +kernel
theorem dX10_count_103 : decode cX10_count 103 = .ok (.ireturn, 1) := by decide +kernel
theorem dX10_count_104 : decode cX10_count 104 = .ok (.aload_n 0, 1) := by decide +kernel
theorem dX10_count_105 : decode cX10_count 105 = .ok (.getfield 7, 3) := by decide +kernel
theorem dX10_count_108 : decode cX10_count 108 = .ok (.sipush 156, 3) := by decide +kernel
theorem dX10_count_111 : decode cX10_count 111 = .ok (.iaload, 1) := by decide +kernel
theorem dX10_count_112 : decode cX10_count 112 = .ok (.ireturn, 1) := by decide +kernel
theorem dX10_count_113 : decode cX10_count 113 = .ok (.aload_n 0, 1) := by decide +kernel
theorem dX10_count_114 : decode cX10_count 114 = .ok (.iload_n 1, 1) := by decide +kernel
theorem dX10_count_115 : decode cX10_count 115 = .ok (.bipush 9, 2) := by decide +kernel
theorem dX10_count_117 : decode cX10_count 117 = .ok (.isub, 1) := by decide +kernel
theorem dX10_count_118 : decode cX10_count 118 = .ok (.invokevirtual 245, 3) := by decide +kernel
theorem dX10_count_121 : decode cX10_count 121 = .ok (.ireturn, 1) := by decide +kernel
theorem dX10_count_122 : decode cX10_count 122 = .ok (.bipush (-3), 2) := by decide +kernel
theorem dX10_count_124 : decode cX10_count 124 = .ok (.ireturn, 1) := by decide +kernel
theorem dJ6_bitCount_0f7a4_0 : decode cJ6_bitCount_0f7a4 0 = .ok (.iload_n 0, 1) := by decide +kernel
theorem dJ6_bitCount_0f7a4_1 : decode cJ6_bitCount_0f7a4 1 = .ok (.iload_n 0, 1) := by decide +kernel
theorem dJ6_bitCount_0f7a4_2 : decode cJ6_bitCount_0f7a4 2 = .ok (.iconst 1, 1) := by decide +kernel
theorem dJ6_bitCount_0f7a4_3 : decode cJ6_bitCount_0f7a4 3 = .ok (.iushr, 1) := by decide +kernel
theorem dJ6_bitCount_0f7a4_4 : decode cJ6_bitCount_0f7a4 4 = .ok (.ldc_w 265, 3) := by decide +kernel
theorem dJ6_bitCount_0f7a4_7 : decode cJ6_bitCount_0f7a4 7 = .ok (.iand, 1) := by decide +kernel
theorem dJ6_bitCount_0f7a4_8 : decode cJ6_bitCount_0f7a4 8 = .ok (.isub, 1) := by decide +kernel
theorem dJ6_bitCount_0f7a4_9 : decode cJ6_bitCount_0f7a4 9 = .ok (.istore_n 0, 1) := by decide +kernel
theorem dJ6_bitCount_0f7a4_10 : decode cJ6_bitCount_0f7a4 10 = .ok (.iload_n 0, 1) := by decide +kernel
theorem dJ6_bitCount_0f7a4_11 : decode cJ6_bitCount_0f7a4 11 = .ok (.ldc_w 266, 3) := by decide +kernel
theorem dJ6_bitCount_0f7a4_14 : decode cJ6_bitCount_0f7a4 14 = .ok (.iand, 1) := by decide +kernel
theorem dJ6_bitCount_0f7a4_15 : decode cJ6_bitCount_0f7a4 15 = .ok (.iload_n 0, 1) := by decide +kernel
theorem dJ6_bitCount_0f7a4_16 : decode cJ6_bitCount_0f7a4 16 = .ok (.iconst 2, 1) := by decide +kernel
theorem dJ6_bitCount_0f7a4_17 : decode cJ6_bitCount_0f7a4 17 = .ok (.iushr, 1) := by decide +kernel
theorem dJ6_bitCount_0f7a4_18 : decode cJ6_bitCount_0f7a4 18 = .ok (.ldc_w 266, 3) := by decide +kernel
theorem dJ6_bitCount_0f7a4_21 : decode cJ6_bitCount_0f7a4 21 = .ok (.iand, 1) := by decide +kernel
theorem dJ6_bitCount_0f7a4_22 : decode cJ6_bitCount_0f7a4 22 = .ok (.iadd, 1) := by decide +kernel
theorem dJ6_bitCount_0f7a4_23 : decode cJ6_bitCount_0f7a4 23 = .ok (.istore_n 0, 1) := by decide +kernel
theorem dJ6_bitCount_0f7a4_24 : decode cJ6_bitCount_0f7a4 24 = .ok (.iload_n 0, 1) := by decide +kernel
theorem dJ6_bitCount_0f7a4_25 : decode cJ6_bitCount_0f7a4 25 = .ok (.iload_n 0, 1) := by decide +kernel
theorem dJ6_bitCount_0f7a4_26 : decode cJ6_bitCount_0f7a4 26 = .ok (.iconst 4, 1) := by decide +kernel
theorem dJ6_bitCount_0f7a4_27 : decode cJ6_bitCount_0f7a4 27 = .ok (.iushr, 1) := by decide +kernel
theorem dJ6_bitCount_0f7a4_28 : decode cJ6_bitCount_0f7a4 28 = .ok (.iadd, 1) := by decide +kernel
theorem dJ6_bitCount_0f7a4_29 : decode cJ6_bitCount_0f7a4 29 = .ok (.ldc_w 267, 3) := by decide +kernel
theorem dJ6_bitCount_0f7a4_32 : decode cJ6_bitCount_0f7a4 32 = .ok (.iand, 1) := by decide +kernel
theorem dJ6_bitCount_0f7a4_33 : decode cJ6_bitCount_0f7a4 33 = .ok (.istore_n 0, 1) := by decide +kernel
theorem dJ6_bitCount_0f7a4_34 : decode cJ6_bitCount_0f7a4 34 = .ok (.iload_n 0, 1) := by decide +kernel
theorem dJ6_bitCount_0f7a4_35 : decode cJ6_bitCount_0f7a4 35 = .ok (.iload_n 0, 1) := by decide +kernel
theorem dJ6_bitCount_0f7a4_36 : decode cJ6_bitCount_0f7a4 36 = .ok (.bipush 8, 2) := by decide +kernel
theorem dJ6_bitCount_0f7a4_38 : decode cJ6_bitCount_0f7a4 38 = .ok (.iushr, 1) := by decide +kernel
theorem dJ6_bitCount_0f7a4_39 : decode cJ6_bitCount_0f7a4 39 = .ok (.iadd, 1) := by decide +kernel
theorem dJ6_bitCount_0f7a4_40 : decode cJ6_bitCount_0f7a4 40 = .ok (.istore_n 0, 1) := by decide +kernel
theorem dJ6_bitCount_0f7a4_41 : decode cJ6_bitCount_0f7a4 41 = .ok (.iload_n 0, 1) := by decide +kernel
theorem dJ6_bitCount_0f7a4_42 : decode cJ6_bitCount_0f7a4 42 = .ok (.iload_n 0, 1) := by decide +kernel
theorem dJ6_bitCount_0f7a4_43 : decode cJ6_bitCount_0f7a4 43 = .ok (.bipush 16, 2) := by decide +kernel
theorem dJ6_bitCount_0f7a4_45 : decode cJ6_bitCount_0f7a4 45 = .ok (.iushr, 1) := by decide +kernel
theorem dJ6_bitCount_0f7a4_46 : decode cJ6_bitCount_0f7a4 46 = .ok (.iadd, 1) := by decide +kernel
theorem dJ6_bitCount_0f7a4_47 : decode cJ6_bitCount_0f7a4 47 = .ok (.istore_n 0, 1) := by decide +kernel
theorem dJ6_bitCount_0f7a4_48 : decode cJ6_bitCount_0f7a4 48 = .ok (.iload_n 0, 1) := by decide +kernel
theorem dJ6_bitCount_0f7a4_49 : decode cJ6_bitCount_0f7a4 49 = .ok (.bipush 63, 2) := by decide +kernel
theorem dJ6_bitCount_0f7a4_51 : decode cJ6_bitCount_0f7a4 51 = .ok (.iand, 1) := by decide +kernel
theorem dJ6_bitCount_0f7a4_52 : decode cJ6_bitCount_0f7a4 52 = .ok (.ireturn, 1) := by decide +kernel
theorem dJ9_min_7cf53_0 : decode cJ9_min_7cf53 0 = .ok (.iload_n 0, 1) := by decide +kernel
theorem dJ9_min_7cf53_1 : decode cJ9_min_7cf53 1 = .ok (.iload_n 1, 1) := by decide +kernel
theorem dJ9_min_7cf53_2 : decode cJ9_min_7cf53 2 = .ok (.if_icmp .gt 7, 3) := by decide +kernel
theorem dJ9_min_7cf53_5 : decode cJ9_min_7cf53 5 = .ok (.iload_n 0, 1) := by decide +kernel
theorem dJ9_min_7cf53_6 : decode cJ9_min_7cf53 6 = .ok (.goto 4, 3) := by decide +kernel
theorem dJ9_min_7cf53_9 : decode cJ9_min_7cf53 9 = .ok (.iload_n 1, 1) := by decide +kernel
theorem dJ9_min_7cf53_10 : decode cJ9_min_7cf53 10 = .ok (.ireturn, 1) := by decide +kernel
theorem dJ0_length_8abf5_0 : decode cJ0_length_8abf5 0 = .ok (.aload_n 0, 1) := by decide +kernel
theorem dJ0_length_8abf5_1 : decode cJ0_length_8abf5 1 = .ok (.getfield 9, 3) := by decide +kernel
theorem dJ0_length_8abf5_4 : decode cJ0_length_8abf5 4 = .ok (.arraylength, 1) := by decide +kernel
theorem dJ0_length_8abf5_5 : decode cJ0_length_8abf5 5 = .ok (.aload_n 0, 1) := by decide +kernel
theorem dJ0_length_8abf5_6 : decode cJ0_length_8abf5 6 = .ok (.invokevirtual 335, 3) := by decide +kernel
theorem dJ0_length_8abf5_9 : decode cJ0_length_8abf5 9 = .ok (.ishr, 1) := by decide +kernel
theorem dJ0_length_8abf5_10 : decode cJ0_length_8abf5 10 = .ok (.ireturn, 1) := by decide +kernel
theorem dJ0_charAt_5068e_0 : decode cJ0_charAt_5068e 0 = .ok (.aload_n 0, 1) := by decide +kernel
theorem dJ0_charAt_5068e_1 : decode cJ0_charAt_5068e 1 = .ok (.invokevirtual 492, 3) := by decide +kernel
theorem dJ0_charAt_5068e_4 : decode cJ0_charAt_5068e 4 = .ok (.ifCond .eq 12, 3) := by decide +kernel
theorem dJ0_charAt_5068e_7 : decode cJ0_charAt_5068e 7 = .ok (.aload_n 0, 1) := by decide +kernel
theorem dJ0_charAt_5068e_8 : decode cJ0_charAt_5068e 8 = .ok (.getfield 9, 3) := by decide +kernel
theorem dJ0_charAt_5068e_11 : decode cJ0_charAt_5068e 11 = .ok (.iload_n 1, 1) := by decide +kernel
theorem dJ0_charAt_5068e_12 : decode cJ0_charAt_5068e 12 = .ok (.invokestatic 495, 3) := by decide +kernel
theorem dJ0_charAt_5068e_15 : decode cJ0_charAt_5068e 15 = .ok (.ireturn, 1) := by decide +kernel
theorem dJ0_charAt_5068e_16 : decode cJ0_charAt_5068e 16 = .ok (.aload_n 0, 1) := by decide +kernel
theorem dJ0_charAt_5068e_17 : decode cJ0_charAt_5068e 17 = .ok (.getfield 9, 3) := by decide +kernel
theorem dJ0_charAt_5068e_20 : decode cJ0_charAt_5068e 20 = .ok (.iload_n 1, 1) := by decide +kernel
theorem dJ0_charAt_5068e_21 : decode cJ0_charAt_5068e 21 = .ok (.invokestatic 498, 3) := by decide +kernel
theorem dJ0_charAt_5068e_24 : decode cJ0_charAt_5068e 24 = .ok (.ireturn, 1) := by decide +kernel
theorem dJ0_coder_7d493_0 : decode cJ0_coder_7d493 0 = .ok (.getstatic 38, 3) := by decide +kernel
theorem dJ0_coder_7d493_3 : decode cJ0_coder_7d493 3 = .ok (.ifCond .eq 10, 3) := by decide +kernel
theorem dJ0_coder_7d493_6 : decode cJ0_coder_7d493 6 = .ok (.aload_n 0, 1) := by decide +kernel
theorem dJ0_coder_7d493_7 : decode cJ0_coder_7d493 7 = .ok (.getfield 15, 3) := by decide +kernel
theorem dJ0_coder_7d493_10 : decode cJ0_coder_7d493 10 = .ok (.goto 4, 3) := by decide +kernel
theorem dJ0_coder_7d493_13 : decode cJ0_coder_7d493 13 = .ok (.iconst 1, 1) := by decide +kernel
theorem dJ0_coder_7d493_14 : decode cJ0_coder_7d493 14 = .ok (.ireturn, 1) := by decide +kernel
theorem dJ0_isLatin1_aae02_0 : decode cJ0_isLatin1_aae02 0 = .ok (.getstatic 38, 3) := by decide +kernel
theorem dJ0_isLatin1_aae02_3 : decode cJ0_isLatin1_aae02 3 = .ok (.ifCond .eq 14, 3) := by decide +kernel
theorem dJ0_isLatin1_aae02_6 : decode cJ0_isLatin1_aae02 6 = .ok (.aload_n 0, 1) := by decide +kernel
theorem dJ0_isLatin1_aae02_7 : decode cJ0_isLatin1_aae02 7 = .ok (.getfield 15, 3) := by decide +kernel
theorem dJ0_isLatin1_aae02_10 : decode cJ0_isLatin1_aae02 10 = .ok (.ifCond .ne 7, 3) := by decide +kernel
theorem dJ0_isLatin1_aae02_13 : decode cJ0_isLatin1_aae02 13 = .ok (.iconst 1, 1) := by decide +kernel
theorem dJ0_isLatin1_aae02_14 : decode cJ0_isLatin1_aae02 14 = .ok (.goto 4, 3) := by decide +kernel
theorem dJ0_isLatin1_aae02_17 : decode cJ0_isLatin1_aae02 17 = .ok (.iconst 0, 1) := by decide +kernel
theorem dJ0_isLatin1_aae02_18 : decode cJ0_isLatin1_aae02 18 = .ok (.ireturn, 1) := by decide +kernel
theorem dJ0_checkIndex_df160_0 : decode cJ0_checkIndex_df160 0 = .ok (.iload_n 0, 1) := by decide +kernel
theorem dJ0_checkIndex_df160_1 : decode cJ0_checkIndex_df160 1 = .ok (.iload_n 1, 1) := by decide +kernel
theorem dJ0_checkIndex_df160_2 : decode cJ0_checkIndex_df160 2 = .ok (.getstatic 1053, 3) := by decide +kernel
theorem dJ0_checkIndex_df160_5 : decode cJ0_checkIndex_df160 5 = .ok (.invokestatic 1059, 3) := by decide +kernel
theorem dJ0_checkIndex_df160_8 : decode cJ0_checkIndex_df160 8 = .ok (.pop, 1) := by decide +kernel
theorem dJ0_checkIndex_df160_9 : decode cJ0_checkIndex_df160 9 = .ok (.return_, 1) := by decide +kernel
theorem dJ1_charAt_3b067_0 : decode cJ1_charAt_3b067 0 = .ok (.iload_n 1, 1) := by decide +kernel
theorem dJ1_charAt_3b067_1 : decode cJ1_charAt_3b067 1 = .ok (.aload_n 0, 1) := by decide +kernel
theorem dJ1_charAt_3b067_2 : decode cJ1_charAt_3b067 2 = .ok (.arraylength, 1) := by decide +kernel
theorem dJ1_charAt_3b067_3 : decode cJ1_charAt_3b067 3 = .ok (.invokestatic 9, 3) := by decide +kernel
theorem dJ1_charAt_3b067_6 : decode cJ1_charAt_3b067 6 = .ok (.aload_n 0, 1) := by decide +kernel
theorem dJ1_charAt_3b067_7 : decode cJ1_charAt_3b067 7 = .ok (.iload_n 1, 1) := by decide +kernel
theorem dJ1_charAt_3b067_8 : decode cJ1_charAt_3b067 8 = .ok (.baload, 1) := by decide +kernel
theorem dJ1_charAt_3b067_9 : decode cJ1_charAt_3b067 9 = .ok (.sipush 255, 3) := by decide +kernel
theorem dJ1_charAt_3b067_12 : decode cJ1_charAt_3b067 12 = .ok (.iand, 1) := by decide +kernel
theorem dJ1_charAt_3b067_13 : decode cJ1_charAt_3b067 13 = .ok (.i2c, 1) := by decide +kernel
theorem dJ1_charAt_3b067_14 : decode cJ1_charAt_3b067 14 = .ok (.ireturn, 1) := by decide +kernel
theorem dJ2_getChar_3b067_0 : decode cJ2_getChar_3b067 0 = .ok (.getstatic 44, 3) := by decide +kernel
theorem dJ2_getChar_3b067_3 : decode cJ2_getChar_3b067 3 = .ok (.ifCond .ne 25, 3) := by decide +kernel
theorem dJ2_getChar_3b067_6 : decode cJ2_getChar_3b067 6 = .ok (.iload_n 1, 1) := by decide +kernel
theorem dJ2_getChar_3b067_7 : decode cJ2_getChar_3b067 7 = .ok (.ifCond .lt 11, 3) := by decide +kernel
theorem dJ2_getChar_3b067_10 : decode cJ2_getChar_3b067 10 = .ok (.iload_n 1, 1) := by decide +kernel
theorem dJ2_getChar_3b067_11 : decode cJ2_getChar_3b067 11 = .ok (.aload_n 0, 1) := by decide +kernel
theorem dJ2_getChar_3b067_12 : decode cJ2_getChar_3b067 12 = .ok (.invokestatic 48, 3) := by decide +kernel
theorem dJ2_getChar_3b067_15 : decode cJ2_getChar_3b067 15 = .ok (.if_icmp .lt 13, 3) := by decide +kernel
theorem dJ2_getChar_3b067_18 : decode cJ2_getChar_3b067 18 = .ok (.new 52, 3) := by decide +kernel
theorem dJ2_getChar_3b067_21 : decode cJ2_getChar_3b067 21 = .ok (.dup, 1) := by decide +kernel
theorem dJ2_getChar_3b067_22 : decode cJ2_getChar_3b067 22 = .ok (.ldc 54, 2) := by decide +kernel
theorem dJ2_getChar_3b067_24 : decode cJ2_getChar_3b067 24 = .ok (.invokespecial 56, 3) := by decide +kernel
theorem dJ2_getChar_3b067_27 : decode cJ2_getChar_3b067 27 = .ok (.athrow, 1) := by decide +kernel
theorem dJ2_getChar_3b067_28 : decode cJ2_getChar_3b067 28 = .ok (.iload_n 1, 1) := by decide +kernel
theorem dJ2_getChar_3b067_29 : decode cJ2_getChar_3b067 29 = .ok (.iconst 1, 1) := by decide +kernel
theorem dJ2_getChar_3b067_30 : decode cJ2_getChar_3b067 30 = .ok (.ishl, 1) := by decide +kernel
theorem dJ2_getChar_3b067_31 : decode cJ2_getChar_3b067 31 = .ok (.istore_n 1, 1) := by decide +kernel
theorem dJ2_getChar_3b067_32 : decode cJ2_getChar_3b067 32 = .ok (.aload_n 0, 1) := by decide +kernel
theorem dJ2_getChar_3b067_33 : decode cJ2_getChar_3b067 33 = .ok (.iload_n 1, 1) := by decide +kernel
theorem dJ2_getChar_3b067_34 : decode cJ2_getChar_3b067 34 = .ok (.iinc 1 1, 3) := by decide +kernel
theorem dJ2_getChar_3b067_37 : decode cJ2_getChar_3b067 37 = .ok (.baload, 1) := by decide +kernel
theorem dJ2_getChar_3b067_38 : decode cJ2_getChar_3b067 38 = .ok (.sipush 255, 3) := by decide +kernel
theorem dJ2_getChar_3b067_41 : decode cJ2_getChar_3b067 41 = .ok (.iand, 1) := by decide +kernel
theorem dJ2_getChar_3b067_42 : decode cJ2_getChar_3b067 42 = .ok (.getstatic 59, 3) := by decide +kernel
theorem dJ2_getChar_3b067_45 : decode cJ2_getChar_3b067 45 = .ok (.ishl, 1) := by decide +kernel
theorem dJ2_getChar_3b067_46 : decode cJ2_getChar_3b067 46 = .ok (.aload_n 0, 1) := by decide +kernel
theorem dJ2_getChar_3b067_47 : decode cJ2_getChar_3b067 47 = .ok (.iload_n 1, 1) := by decide +kernel
theorem dJ2_getChar_3b067_48 : decode cJ2_getChar_3b067 48 = .ok (.baload, 1) := by decide +kernel
theorem dJ2_getChar_3b067_49 : decode cJ2_getChar_3b067 49 = .ok (.sipush 255, 3) := by decide +kernel
theorem dJ2_getChar_3b067_52 : decode cJ2_getChar_3b067 52 = .ok (.iand, 1) := by decide +kernel
theorem dJ2_getChar_3b067_53 : decode cJ2_getChar_3b067 53 = .ok (.getstatic 63, 3) := by decide +kernel
theorem dJ2_getChar_3b067_56 : decode cJ2_getChar_3b067 56 = .ok (.ishl, 1) := by decide +kernel
theorem dJ2_getChar_3b067_57 : decode cJ2_getChar_3b067 57 = .ok (.ior, 1) := by decide +kernel
theorem dJ2_getChar_3b067_58 : decode cJ2_getChar_3b067 58 = .ok (.i2c, 1) := by decide +kernel
theorem dJ2_getChar_3b067_59 : decode cJ2_getChar_3b067 59 = .ok (.ireturn, 1) := by decide +kernel
theorem dJ2_length_9d52b_0 : decode cJ2_length_9d52b 0 = .ok (.aload_n 0, 1) := by decide +kernel
theorem dJ2_length_9d52b_1 : decode cJ2_length_9d52b 1 = .ok (.arraylength, 1) := by decide +kernel
theorem dJ2_length_9d52b_2 : decode cJ2_length_9d52b 2 = .ok (.iconst 1, 1) := by decide +kernel
theorem dJ2_length_9d52b_3 : decode cJ2_length_9d52b 3 = .ok (.ishr, 1) := by decide +kernel
theorem dJ2_length_9d52b_4 : decode cJ2_length_9d52b 4 = .ok (.ireturn, 1) := by decide +kernel
theorem dJ2_charAt_3b067_0 : decode cJ2_charAt_3b067 0 = .ok (.iload_n 1, 1) := by decide +kernel
theorem dJ2_charAt_3b067_1 : decode cJ2_charAt_3b067 1 = .ok (.aload_n 0, 1) := by decide +kernel
theorem dJ2_charAt_3b067_2 : decode cJ2_charAt_3b067 2 = .ok (.invokestatic 67, 3) := by decide +kernel
theorem dJ2_charAt_3b067_5 : decode cJ2_charAt_3b067 5 = .ok (.aload_n 0, 1) := by decide +kernel
theorem dJ2_charAt_3b067_6 : decode cJ2_charAt_3b067 6 = .ok (.iload_n 1, 1) := by decide +kernel
theorem dJ2_charAt_3b067_7 : decode cJ2_charAt_3b067 7 = .ok (.invokestatic 71, 3) := by decide +kernel
theorem dJ2_charAt_3b067_10 : decode cJ2_charAt_3b067 10 = .ok (.ireturn, 1) := by decide +kernel
theorem dJ2_checkIndex_2214a_0 : decode cJ2_checkIndex_2214a 0 = .ok (.iload_n 0, 1) := by decide +kernel
theorem dJ2_checkIndex_2214a_1 : decode cJ2_checkIndex_2214a 1 = .ok (.aload_n 1, 1) := by decide +kernel
theorem dJ2_checkIndex_2214a_2 : decode cJ2_checkIndex_2214a 2 = .ok (.invokestatic 48, 3) := by decide +kernel
theorem dJ2_checkIndex_2214a_5 : decode cJ2_checkIndex_2214a 5 = .ok (.invokestatic 414, 3) := by decide +kernel
theorem dJ2_checkIndex_2214a_8 : decode cJ2_checkIndex_2214a 8 = .ok (.return_, 1) := by decide +kernel
theorem dJ7_fill_53178_0 : decode cJ7_fill_53178 0 = .ok (.iconst 0, 1) := by decide +kernel
theorem dJ7_fill_53178_1 : decode cJ7_fill_53178 1 = .ok (.istore_n 2, 1) := by decide +kernel
theorem dJ7_fill_53178_2 : decode cJ7_fill_53178 2 = .ok (.aload_n 0, 1) := by decide +kernel
theorem dJ7_fill_53178_3 : decode cJ7_fill_53178 3 = .ok (.arraylength, 1) := by decide +kernel
theorem dJ7_fill_53178_4 : decode cJ7_fill_53178 4 = .ok (.istore_n 3, 1) := by decide +kernel
theorem dJ7_fill_53178_5 : decode cJ7_fill_53178 5 = .ok (.iload_n 2, 1) := by decide +kernel
theorem dJ7_fill_53178_6 : decode cJ7_fill_53178 6 = .ok (.iload_n 3, 1) := by decide +kernel
theorem dJ7_fill_53178_7 : decode cJ7_fill_53178 7 = .ok (.if_icmp .ge 13, 3) := by decide +kernel
theorem dJ7_fill_53178_10 : decode cJ7_fill_53178 10 = .ok (.aload_n 0, 1) := by decide +kernel
theorem dJ7_fill_53178_11 : decode cJ7_fill_53178 11 = .ok (.iload_n 2, 1) := by decide +kernel
theorem dJ7_fill_53178_12 : decode cJ7_fill_53178 12 = .ok (.iload_n 1, 1) := by decide +kernel
theorem dJ7_fill_53178_13 : decode cJ7_fill_53178 13 = .ok (.iastore, 1) := by decide +kernel
theorem dJ7_fill_53178_14 : decode cJ7_fill_53178 14 = .ok (.iinc 2 1, 3) := by decide +kernel
theorem dJ7_fill_53178_17 : decode cJ7_fill_53178 17 = .ok (.goto (-12), 3) := by decide +kernel
theorem dJ7_fill_53178_20 : decode cJ7_fill_53178 20 = .ok (.return_, 1) := by decide +kernel
theorem dJ3_checkIndex_8e157_0 : decode cJ3_checkIndex_8e157 0 = .ok (.iload_n 0, 1) := by decide +kernel
theorem dJ3_checkIndex_8e157_1 : decode cJ3_checkIndex_8e157 1 = .ok (.ifCond .lt 8, 3) := by decide +kernel
theorem dJ3_checkIndex_8e157_4 : decode cJ3_checkIndex_8e157 4 = .ok (.iload_n 0, 1) := by decide +kernel
theorem dJ3_checkIndex_8e157_5 : decode cJ3_checkIndex_8e157 5 = .ok (.iload_n 1, 1) := by decide +kernel
theorem dJ3_checkIndex_8e157_6 : decode cJ3_checkIndex_8e157 6 = .ok (.if_icmp .lt 10, 3) := by decide +kernel
theorem dJ3_checkIndex_8e157_9 : decode cJ3_checkIndex_8e157 9 = .ok (.aload_n 2, 1) := by decide +kernel
theorem dJ3_checkIndex_8e157_10 : decode cJ3_checkIndex_8e157 10 = .ok (.iload_n 0, 1) := by decide +kernel
theorem dJ3_checkIndex_8e157_11 : decode cJ3_checkIndex_8e157 11 = .ok (.iload_n 1, 1) := by decide +kernel
theorem dJ3_checkIndex_8e157_12 : decode cJ3_checkIndex_8e157 12 = .ok (.invokestatic 95, 3) := by decide +kernel
theorem dJ3_checkIndex_8e157_15 : decode cJ3_checkIndex_8e157 15 = .ok (.athrow, 1) := by decide +kernel
theorem dJ3_checkIndex_8e157_16 : decode cJ3_checkIndex_8e157 16 = .ok (.iload_n 0, 1) := by decide +kernel
theorem dJ3_checkIndex_8e157_17 : decode cJ3_checkIndex_8e157 17 = .ok (.ireturn, 1) := by decide +kernel
theorem dL_law_0 : decode cL_law 0 = .ok (.new 7, 3) := by decide +kernel
theorem dL_law_3 : decode cL_law 3 = .ok (.dup, 1) := by decide +kernel
theorem dL_law_4 : decode cL_law 4 = .ok (.invokespecial 9, 3) := by decide +kernel
theorem dL_law_7 : decode cL_law 7 = .ok (.astore_n 1, 1) := by decide +kernel
theorem dL_law_8 : decode cL_law 8 = .ok (.new 10, 3) := by decide +kernel
theorem dL_law_11 : decode cL_law 11 = .ok (.dup, 1) := by decide +kernel
theorem dL_law_12 : decode cL_law 12 = .ok (.invokespecial 12, 3) := by decide +kernel
theorem dL_law_15 : decode cL_law 15 = .ok (.astore_n 2, 1) := by decide +kernel
theorem dL_law_16 : decode cL_law 16 = .ok (.iconst 0, 1) := by decide +kernel
theorem dL_law_17 : decode cL_law 17 = .ok (.istore_n 3, 1) := by decide +kernel
theorem dL_law_18 : decode cL_law 18 = .ok (.iload_n 3, 1) := by decide +kernel
theorem dL_law_19 : decode cL_law 19 = .ok (.aload_n 0, 1) := by decide +kernel
theorem dL_law_20 : decode cL_law 20 = .ok (.arraylength, 1) := by decide +kernel
theorem dL_law_21 : decode cL_law 21 = .ok (.iconst 4, 1) := by decide +kernel
theorem dL_law_22 : decode cL_law 22 = .ok (.isub, 1) := by decide +kernel
theorem dL_law_23 : decode cL_law 23 = .ok (.if_icmp .gt 991, 3) := by decide +kernel
theorem dL_law_26 : decode cL_law 26 = .ok (.aload_n 0, 1) := by decide +kernel
theorem dL_law_27 : decode cL_law 27 = .ok (.iload_n 3, 1) := by decide +kernel
theorem dL_law_28 : decode cL_law 28 = .ok (.iaload, 1) := by decide +kernel
theorem dL_law_29 : decode cL_law 29 = .ok (.bipush 31, 2) := by decide +kernel
theorem dL_law_31 : decode cL_law 31 = .ok (.iand, 1) := by decide +kernel
theorem dL_law_32 : decode cL_law 32 = .ok (.tableswitch 976 0 29 #[136, 159, 172, 185, 198, 231, 254, 297, 330, 363, 386, 409, 422, 445, 468, 501, 544, 577, 610, 643, 676, 699, 712, 735, 768, 801, 844, 887, 930, 953], 136) := by decide +kernel
theorem dL_law_168 : decode cL_law 168 = .ok (.aload_n 1, 1) := by decide +kernel
theorem dL_law_169 : decode cL_law 169 = .ok (.aload_n 0, 1) := by decide +kernel
theorem dL_law_170 : decode cL_law 170 = .ok (.iload_n 3, 1) := by decide +kernel
theorem dL_law_171 : decode cL_law 171 = .ok (.iconst 1, 1) := by decide +kernel
theorem dL_law_172 : decode cL_law 172 = .ok (.iadd, 1) := by decide +kernel
theorem dL_law_173 : decode cL_law 173 = .ok (.iaload, 1) := by decide +kernel
theorem dL_law_174 : decode cL_law 174 = .ok (.invokevirtual 13, 3) := by decide +kernel
theorem dL_law_177 : decode cL_law 177 = .ok (.aload_n 2, 1) := by decide +kernel
theorem dL_law_178 : decode cL_law 178 = .ok (.aload_n 0, 1) := by decide +kernel
theorem dL_law_179 : decode cL_law 179 = .ok (.iload_n 3, 1) := by decide +kernel
theorem dL_law_180 : decode cL_law 180 = .ok (.iconst 1, 1) := by decide +kernel
theorem dL_law_181 : decode cL_law 181 = .ok (.iadd, 1) := by decide +kernel
theorem dL_law_182 : decode cL_law 182 = .ok (.iaload, 1) := by decide +kernel
theorem dL_law_183 : decode cL_law 183 = .ok (.invokevirtual 17, 3) := by decide +kernel
theorem dL_law_186 : decode cL_law 186 = .ok (.if_icmp .eq 822, 3) := by decide +kernel
theorem dL_law_189 : decode cL_law 189 = .ok (.iconst 0, 1) := by decide +kernel
theorem dL_law_190 : decode cL_law 190 = .ok (.ireturn, 1) := by decide +kernel
theorem dL_law_191 : decode cL_law 191 = .ok (.aload_n 1, 1) := by decide +kernel
theorem dL_law_192 : decode cL_law 192 = .ok (.invokevirtual 18, 3) := by decide +kernel
theorem dL_law_195 : decode cL_law 195 = .ok (.aload_n 2, 1) := by decide +kernel
theorem dL_law_196 : decode cL_law 196 = .ok (.invokevirtual 22, 3) := by decide +kernel
theorem dL_law_199 : decode cL_law 199 = .ok (.if_icmp .eq 809, 3) := by decide +kernel
theorem dL_law_202 : decode cL_law 202 = .ok (.iconst 0, 1) := by decide +kernel
theorem dL_law_203 : decode cL_law 203 = .ok (.ireturn, 1) := by decide +kernel
theorem dL_law_204 : decode cL_law 204 = .ok (.aload_n 1, 1) := by decide +kernel
theorem dL_law_205 : decode cL_law 205 = .ok (.invokevirtual 23, 3) := by decide +kernel
theorem dL_law_208 : decode cL_law 208 = .ok (.aload_n 2, 1) := by decide +kernel
theorem dL_law_209 : decode cL_law 209 = .ok (.invokevirtual 26, 3) := by decide +kernel
theorem dL_law_212 : decode cL_law 212 = .ok (.if_icmp .eq 796, 3) := by decide +kernel
theorem dL_law_215 : decode cL_law 215 = .ok (.iconst 0, 1) := by decide +kernel
theorem dL_law_216 : decode cL_law 216 = .ok (.ireturn, 1) := by decide +kernel
theorem dL_law_217 : decode cL_law 217 = .ok (.aload_n 1, 1) := by decide +kernel
theorem dL_law_218 : decode cL_law 218 = .ok (.invokevirtual 27, 3) := by decide +kernel
theorem dL_law_221 : decode cL_law 221 = .ok (.aload_n 2, 1) := by decide +kernel
theorem dL_law_222 : decode cL_law 222 = .ok (.invokevirtual 30, 3) := by decide +kernel
theorem dL_law_225 : decode cL_law 225 = .ok (.if_icmp .eq 783, 3) := by decide +kernel
theorem dL_law_228 : decode cL_law 228 = .ok (.iconst 0, 1) := by decide +kernel
theorem dL_law_229 : decode cL_law 229 = .ok (.ireturn, 1) := by decide +kernel
theorem dL_law_230 : decode cL_law 230 = .ok (.aload_n 1, 1) := by decide +kernel
theorem dL_law_231 : decode cL_law 231 = .ok (.aload_n 0, 1) := by decide +kernel
theorem dL_law_232 : decode cL_law 232 = .ok (.iload_n 3, 1) := by decide +kernel
theorem dL_law_233 : decode cL_law 233 = .ok (.iconst 1, 1) := by decide +kernel
theorem dL_law_234 : decode cL_law 234 = .ok (.iadd, 1) := by decide +kernel
theorem dL_law_235 : decode cL_law 235 = .ok (.iaload, 1) := by decide +kernel
theorem dL_law_236 : decode cL_law 236 = .ok (.aload_n 0, 1) := by decide +kernel
theorem dL_law_237 : decode cL_law 237 = .ok (.iload_n 3, 1) := by decide +kernel
theorem dL_law_238 : decode cL_law 238 = .ok (.iconst 2, 1) := by decide +kernel
theorem dL_law_239 : decode cL_law 239 = .ok (.iadd, 1) := by decide +kernel
theorem dL_law_240 : decode cL_law 240 = .ok (.iaload, 1) := by decide +kernel
theorem dL_law_241 : decode cL_law 241 = .ok (.invokevirtual 31, 3) := by decide +kernel
theorem dL_law_244 : decode cL_law 244 = .ok (.aload_n 2, 1) := by decide +kernel
theorem dL_law_245 : decode cL_law 245 = .ok (.aload_n 0, 1) := by decide +kernel
theorem dL_law_246 : decode cL_law 246 = .ok (.iload_n 3, 1) := by decide +kernel
theorem dL_law_247 : decode cL_law 247 = .ok (.iconst 1, 1) := by decide +kernel
theorem dL_law_248 : decode cL_law 248 = .ok (.iadd, 1) := by decide +kernel
theorem dL_law_249 : decode cL_law 249 = .ok (.iaload, 1) := by decide +kernel
theorem dL_law_250 : decode cL_law 250 = .ok (.aload_n 0, 1) := by decide +kernel
theorem dL_law_251 : decode cL_law 251 = .ok (.iload_n 3, 1) := by decide +kernel
theorem dL_law_252 : decode cL_law 252 = .ok (.iconst 2, 1) := by decide +kernel
theorem dL_law_253 : decode cL_law 253 = .ok (.iadd, 1) := by decide +kernel
theorem dL_law_254 : decode cL_law 254 = .ok (.iaload, 1) := by decide +kernel
theorem dL_law_255 : decode cL_law 255 = .ok (.invokevirtual 35, 3) := by decide +kernel
theorem dL_law_258 : decode cL_law 258 = .ok (.if_icmp .eq 750, 3) := by decide +kernel
theorem dL_law_261 : decode cL_law 261 = .ok (.iconst 0, 1) := by decide +kernel
theorem dL_law_262 : decode cL_law 262 = .ok (.ireturn, 1) := by decide +kernel
theorem dL_law_263 : decode cL_law 263 = .ok (.aload_n 1, 1) := by decide +kernel
theorem dL_law_264 : decode cL_law 264 = .ok (.aload_n 0, 1) := by decide +kernel
theorem dL_law_265 : decode cL_law 265 = .ok (.iload_n 3, 1) := by decide +kernel
theorem dL_law_266 : decode cL_law 266 = .ok (.iconst 1, 1) := by decide +kernel
theorem dL_law_267 : decode cL_law 267 = .ok (.iadd, 1) := by decide +kernel
theorem dL_law_268 : decode cL_law 268 = .ok (.iaload, 1) := by decide +kernel
theorem dL_law_269 : decode cL_law 269 = .ok (.invokevirtual 36, 3) := by decide +kernel
theorem dL_law_272 : decode cL_law 272 = .ok (.aload_n 2, 1) := by decide +kernel
theorem dL_law_273 : decode cL_law 273 = .ok (.aload_n 0, 1) := by decide +kernel
theorem dL_law_274 : decode cL_law 274 = .ok (.iload_n 3, 1) := by decide +kernel
theorem dL_law_275 : decode cL_law 275 = .ok (.iconst 1, 1) := by decide +kernel
theorem dL_law_276 : decode cL_law 276 = .ok (.iadd, 1) := by decide +kernel
theorem dL_law_277 : decode cL_law 277 = .ok (.iaload, 1) := by decide +kernel
theorem dL_law_278 : decode cL_law 278 = .ok (.invokevirtual 39, 3) := by decide +kernel
theorem dL_law_281 : decode cL_law 281 = .ok (.if_icmp .eq 727, 3) := by decide +kernel
theorem dL_law_284 : decode cL_law 284 = .ok (.iconst 0, 1) := by decide +kernel
theorem dL_law_285 : decode cL_law 285 = .ok (.ireturn, 1) := by decide +kernel
theorem dL_law_286 : decode cL_law 286 = .ok (.aload_n 1, 1) := by decide +kernel
theorem dL_law_287 : decode cL_law 287 = .ok (.aload_n 0, 1) := by decide +kernel
theorem dL_law_288 : decode cL_law 288 = .ok (.iload_n 3, 1) := by decide +kernel
theorem dL_law_289 : decode cL_law 289 = .ok (.iconst 1, 1) := by decide +kernel
theorem dL_law_290 : decode cL_law 290 = .ok (.iadd, 1) := by decide +kernel
theorem dL_law_291 : decode cL_law 291 = .ok (.iaload, 1) := by decide +kernel
theorem dL_law_292 : decode cL_law 292 = .ok (.aload_n 0, 1) := by decide +kernel
theorem dL_law_293 : decode cL_law 293 = .ok (.iload_n 3, 1) := by decide +kernel
theorem dL_law_294 : decode cL_law 294 = .ok (.iconst 2, 1) := by decide +kernel
theorem dL_law_295 : decode cL_law 295 = .ok (.iadd, 1) := by decide +kernel
theorem dL_law_296 : decode cL_law 296 = .ok (.iaload, 1) := by decide +kernel
theorem dL_law_297 : decode cL_law 297 = .ok (.aload_n 0, 1) := by decide +kernel
theorem dL_law_298 : decode cL_law 298 = .ok (.iload_n 3, 1) := by decide +kernel
theorem dL_law_299 : decode cL_law 299 = .ok (.iconst 3, 1) := by decide +kernel
theorem dL_law_300 : decode cL_law 300 = .ok (.iadd, 1) := by decide +kernel
theorem dL_law_301 : decode cL_law 301 = .ok (.iaload, 1) := by decide +kernel
theorem dL_law_302 : decode cL_law 302 = .ok (.invokevirtual 40, 3) := by decide +kernel
theorem dL_law_305 : decode cL_law 305 = .ok (.aload_n 2, 1) := by decide +kernel
theorem dL_law_306 : decode cL_law 306 = .ok (.aload_n 0, 1) := by decide +kernel
theorem dL_law_307 : decode cL_law 307 = .ok (.iload_n 3, 1) := by decide +kernel
theorem dL_law_308 : decode cL_law 308 = .ok (.iconst 1, 1) := by decide +kernel
theorem dL_law_309 : decode cL_law 309 = .ok (.iadd, 1) := by decide +kernel
theorem dL_law_310 : decode cL_law 310 = .ok (.iaload, 1) := by decide +kernel
theorem dL_law_311 : decode cL_law 311 = .ok (.aload_n 0, 1) := by decide +kernel
theorem dL_law_312 : decode cL_law 312 = .ok (.iload_n 3, 1) := by decide +kernel
theorem dL_law_313 : decode cL_law 313 = .ok (.iconst 2, 1) := by decide +kernel
theorem dL_law_314 : decode cL_law 314 = .ok (.iadd, 1) := by decide +kernel
theorem dL_law_315 : decode cL_law 315 = .ok (.iaload, 1) := by decide +kernel
theorem dL_law_316 : decode cL_law 316 = .ok (.aload_n 0, 1) := by decide +kernel
theorem dL_law_317 : decode cL_law 317 = .ok (.iload_n 3, 1) := by decide +kernel
theorem dL_law_318 : decode cL_law 318 = .ok (.iconst 3, 1) := by decide +kernel
theorem dL_law_319 : decode cL_law 319 = .ok (.iadd, 1) := by decide +kernel
theorem dL_law_320 : decode cL_law 320 = .ok (.iaload, 1) := by decide +kernel
theorem dL_law_321 : decode cL_law 321 = .ok (.invokevirtual 44, 3) := by decide +kernel
theorem dL_law_324 : decode cL_law 324 = .ok (.if_icmp .eq 684, 3) := by decide +kernel
theorem dL_law_327 : decode cL_law 327 = .ok (.iconst 0, 1) := by decide +kernel
theorem dL_law_328 : decode cL_law 328 = .ok (.ireturn, 1) := by decide +kernel
theorem dL_law_329 : decode cL_law 329 = .ok (.aload_n 1, 1) := by decide +kernel
theorem dL_law_330 : decode cL_law 330 = .ok (.aload_n 0, 1) := by decide +kernel
theorem dL_law_331 : decode cL_law 331 = .ok (.iload_n 3, 1) := by decide +kernel
theorem dL_law_332 : decode cL_law 332 = .ok (.iconst 1, 1) := by decide +kernel
theorem dL_law_333 : decode cL_law 333 = .ok (.iadd, 1) := by decide +kernel
theorem dL_law_334 : decode cL_law 334 = .ok (.iaload, 1) := by decide +kernel
theorem dL_law_335 : decode cL_law 335 = .ok (.aload_n 0, 1) := by decide +kernel
theorem dL_law_336 : decode cL_law 336 = .ok (.iload_n 3, 1) := by decide +kernel
theorem dL_law_337 : decode cL_law 337 = .ok (.iconst 2, 1) := by decide +kernel
theorem dL_law_338 : decode cL_law 338 = .ok (.iadd, 1) := by decide +kernel
theorem dL_law_339 : decode cL_law 339 = .ok (.iaload, 1) := by decide +kernel
theorem dL_law_340 : decode cL_law 340 = .ok (.invokevirtual 45, 3) := by decide +kernel
theorem dL_law_343 : decode cL_law 343 = .ok (.aload_n 2, 1) := by decide +kernel
theorem dL_law_344 : decode cL_law 344 = .ok (.aload_n 0, 1) := by decide +kernel
theorem dL_law_345 : decode cL_law 345 = .ok (.iload_n 3, 1) := by decide +kernel
theorem dL_law_346 : decode cL_law 346 = .ok (.iconst 1, 1) := by decide +kernel
theorem dL_law_347 : decode cL_law 347 = .ok (.iadd, 1) := by decide +kernel
theorem dL_law_348 : decode cL_law 348 = .ok (.iaload, 1) := by decide +kernel
theorem dL_law_349 : decode cL_law 349 = .ok (.aload_n 0, 1) := by decide +kernel
theorem dL_law_350 : decode cL_law 350 = .ok (.iload_n 3, 1) := by decide +kernel
theorem dL_law_351 : decode cL_law 351 = .ok (.iconst 2, 1) := by decide +kernel
theorem dL_law_352 : decode cL_law 352 = .ok (.iadd, 1) := by decide +kernel
theorem dL_law_353 : decode cL_law 353 = .ok (.iaload, 1) := by decide +kernel
theorem dL_law_354 : decode cL_law 354 = .ok (.invokevirtual 48, 3) := by decide +kernel
theorem dL_law_357 : decode cL_law 357 = .ok (.if_icmp .eq 651, 3) := by decide +kernel
theorem dL_law_360 : decode cL_law 360 = .ok (.iconst 0, 1) := by decide +kernel
theorem dL_law_361 : decode cL_law 361 = .ok (.ireturn, 1) := by decide +kernel
theorem dL_law_362 : decode cL_law 362 = .ok (.aload_n 1, 1) := by decide +kernel
theorem dL_law_363 : decode cL_law 363 = .ok (.aload_n 0, 1) := by decide +kernel
theorem dL_law_364 : decode cL_law 364 = .ok (.iload_n 3, 1) := by decide +kernel
theorem dL_law_365 : decode cL_law 365 = .ok (.iconst 1, 1) := by decide +kernel
theorem dL_law_366 : decode cL_law 366 = .ok (.iadd, 1) := by decide +kernel
theorem dL_law_367 : decode cL_law 367 = .ok (.iaload, 1) := by decide +kernel
theorem dL_law_368 : decode cL_law 368 = .ok (.aload_n 0, 1) := by decide +kernel
theorem dL_law_369 : decode cL_law 369 = .ok (.iload_n 3, 1) := by decide +kernel
theorem dL_law_370 : decode cL_law 370 = .ok (.iconst 2, 1) := by decide +kernel
theorem dL_law_371 : decode cL_law 371 = .ok (.iadd, 1) := by decide +kernel
theorem dL_law_372 : decode cL_law 372 = .ok (.iaload, 1) := by decide +kernel
theorem dL_law_373 : decode cL_law 373 = .ok (.invokevirtual 49, 3) := by decide +kernel
theorem dL_law_376 : decode cL_law 376 = .ok (.aload_n 2, 1) := by decide +kernel
theorem dL_law_377 : decode cL_law 377 = .ok (.aload_n 0, 1) := by decide +kernel
theorem dL_law_378 : decode cL_law 378 = .ok (.iload_n 3, 1) := by decide +kernel
theorem dL_law_379 : decode cL_law 379 = .ok (.iconst 1, 1) := by decide +kernel
theorem dL_law_380 : decode cL_law 380 = .ok (.iadd, 1) := by decide +kernel
theorem dL_law_381 : decode cL_law 381 = .ok (.iaload, 1) := by decide +kernel
theorem dL_law_382 : decode cL_law 382 = .ok (.aload_n 0, 1) := by decide +kernel
theorem dL_law_383 : decode cL_law 383 = .ok (.iload_n 3, 1) := by decide +kernel
theorem dL_law_384 : decode cL_law 384 = .ok (.iconst 2, 1) := by decide +kernel
theorem dL_law_385 : decode cL_law 385 = .ok (.iadd, 1) := by decide +kernel
theorem dL_law_386 : decode cL_law 386 = .ok (.iaload, 1) := by decide +kernel
theorem dL_law_387 : decode cL_law 387 = .ok (.invokevirtual 52, 3) := by decide +kernel
theorem dL_law_390 : decode cL_law 390 = .ok (.if_icmp .eq 618, 3) := by decide +kernel
theorem dL_law_393 : decode cL_law 393 = .ok (.iconst 0, 1) := by decide +kernel
theorem dL_law_394 : decode cL_law 394 = .ok (.ireturn, 1) := by decide +kernel
theorem dL_law_395 : decode cL_law 395 = .ok (.aload_n 1, 1) := by decide +kernel
theorem dL_law_396 : decode cL_law 396 = .ok (.aload_n 0, 1) := by decide +kernel
theorem dL_law_397 : decode cL_law 397 = .ok (.iload_n 3, 1) := by decide +kernel
theorem dL_law_398 : decode cL_law 398 = .ok (.iconst 1, 1) := by decide +kernel
theorem dL_law_399 : decode cL_law 399 = .ok (.iadd, 1) := by decide +kernel
theorem dL_law_400 : decode cL_law 400 = .ok (.iaload, 1) := by decide +kernel
theorem dL_law_401 : decode cL_law 401 = .ok (.invokevirtual 53, 3) := by decide +kernel
theorem dL_law_404 : decode cL_law 404 = .ok (.aload_n 2, 1) := by decide +kernel
theorem dL_law_405 : decode cL_law 405 = .ok (.aload_n 0, 1) := by decide +kernel
theorem dL_law_406 : decode cL_law 406 = .ok (.iload_n 3, 1) := by decide +kernel
theorem dL_law_407 : decode cL_law 407 = .ok (.iconst 1, 1) := by decide +kernel
theorem dL_law_408 : decode cL_law 408 = .ok (.iadd, 1) := by decide +kernel
theorem dL_law_409 : decode cL_law 409 = .ok (.iaload, 1) := by decide +kernel
theorem dL_law_410 : decode cL_law 410 = .ok (.invokevirtual 56, 3) := by decide +kernel
theorem dL_law_413 : decode cL_law 413 = .ok (.if_icmp .eq 595, 3) := by decide +kernel
theorem dL_law_416 : decode cL_law 416 = .ok (.iconst 0, 1) := by decide +kernel
theorem dL_law_417 : decode cL_law 417 = .ok (.ireturn, 1) := by decide +kernel
theorem dL_law_418 : decode cL_law 418 = .ok (.aload_n 1, 1) := by decide +kernel
theorem dL_law_419 : decode cL_law 419 = .ok (.aload_n 0, 1) := by decide +kernel
theorem dL_law_420 : decode cL_law 420 = .ok (.iload_n 3, 1) := by decide +kernel
theorem dL_law_421 : decode cL_law 421 = .ok (.iconst 1, 1) := by decide +kernel
theorem dL_law_422 : decode cL_law 422 = .ok (.iadd, 1) := by decide +kernel
theorem dL_law_423 : decode cL_law 423 = .ok (.iaload, 1) := by decide +kernel
theorem dL_law_424 : decode cL_law 424 = .ok (.invokevirtual 57, 3) := by decide +kernel
theorem dL_law_427 : decode cL_law 427 = .ok (.aload_n 2, 1) := by decide +kernel
theorem dL_law_428 : decode cL_law 428 = .ok (.aload_n 0, 1) := by decide +kernel
theorem dL_law_429 : decode cL_law 429 = .ok (.iload_n 3, 1) := by decide +kernel
theorem dL_law_430 : decode cL_law 430 = .ok (.iconst 1, 1) := by decide +kernel
theorem dL_law_431 : decode cL_law 431 = .ok (.iadd, 1) := by decide +kernel
theorem dL_law_432 : decode cL_law 432 = .ok (.iaload, 1) := by decide +kernel
theorem dL_law_433 : decode cL_law 433 = .ok (.invokevirtual 60, 3) := by decide +kernel
theorem dL_law_436 : decode cL_law 436 = .ok (.if_icmp .eq 572, 3) := by decide +kernel
theorem dL_law_439 : decode cL_law 439 = .ok (.iconst 0, 1) := by decide +kernel
theorem dL_law_440 : decode cL_law 440 = .ok (.ireturn, 1) := by decide +kernel
theorem dL_law_441 : decode cL_law 441 = .ok (.aload_n 1, 1) := by decide +kernel
theorem dL_law_442 : decode cL_law 442 = .ok (.invokevirtual 61, 3) := by decide +kernel
theorem dL_law_445 : decode cL_law 445 = .ok (.aload_n 2, 1) := by decide +kernel
theorem dL_law_446 : decode cL_law 446 = .ok (.invokevirtual 64, 3) := by decide +kernel
theorem dL_law_449 : decode cL_law 449 = .ok (.if_icmp .eq 559, 3) := by decide +kernel
theorem dL_law_452 : decode cL_law 452 = .ok (.iconst 0, 1) := by decide +kernel
theorem dL_law_453 : decode cL_law 453 = .ok (.ireturn, 1) := by decide +kernel
theorem dL_law_454 : decode cL_law 454 = .ok (.aload_n 1, 1) := by decide +kernel
theorem dL_law_455 : decode cL_law 455 = .ok (.aload_n 0, 1) := by decide +kernel
theorem dL_law_456 : decode cL_law 456 = .ok (.iload_n 3, 1) := by decide +kernel
theorem dL_law_457 : decode cL_law 457 = .ok (.iconst 1, 1) := by decide +kernel
theorem dL_law_458 : decode cL_law 458 = .ok (.iadd, 1) := by decide +kernel
theorem dL_law_459 : decode cL_law 459 = .ok (.iaload, 1) := by decide +kernel
theorem dL_law_460 : decode cL_law 460 = .ok (.invokevirtual 65, 3) := by decide +kernel
theorem dL_law_463 : decode cL_law 463 = .ok (.aload_n 2, 1) := by decide +kernel
theorem dL_law_464 : decode cL_law 464 = .ok (.aload_n 0, 1) := by decide +kernel
theorem dL_law_465 : decode cL_law 465 = .ok (.iload_n 3, 1) := by decide +kernel
theorem dL_law_466 : decode cL_law 466 = .ok (.iconst 1, 1) := by decide +kernel
theorem dL_law_467 : decode cL_law 467 = .ok (.iadd, 1) := by decide +kernel
theorem dL_law_468 : decode cL_law 468 = .ok (.iaload, 1) := by decide +kernel
theorem dL_law_469 : decode cL_law 469 = .ok (.invokevirtual 68, 3) := by decide +kernel
theorem dL_law_472 : decode cL_law 472 = .ok (.if_icmp .eq 536, 3) := by decide +kernel
theorem dL_law_475 : decode cL_law 475 = .ok (.iconst 0, 1) := by decide +kernel
theorem dL_law_476 : decode cL_law 476 = .ok (.ireturn, 1) := by decide +kernel
theorem dL_law_477 : decode cL_law 477 = .ok (.aload_n 1, 1) := by decide +kernel
theorem dL_law_478 : decode cL_law 478 = .ok (.aload_n 0, 1) := by decide +kernel
theorem dL_law_479 : decode cL_law 479 = .ok (.iload_n 3, 1) := by decide +kernel
theorem dL_law_480 : decode cL_law 480 = .ok (.iconst 1, 1) := by decide +kernel
theorem dL_law_481 : decode cL_law 481 = .ok (.iadd, 1) := by decide +kernel
theorem dL_law_482 : decode cL_law 482 = .ok (.iaload, 1) := by decide +kernel
theorem dL_law_483 : decode cL_law 483 = .ok (.invokevirtual 69, 3) := by decide +kernel
theorem dL_law_486 : decode cL_law 486 = .ok (.aload_n 2, 1) := by decide +kernel
theorem dL_law_487 : decode cL_law 487 = .ok (.aload_n 0, 1) := by decide +kernel
theorem dL_law_488 : decode cL_law 488 = .ok (.iload_n 3, 1) := by decide +kernel
theorem dL_law_489 : decode cL_law 489 = .ok (.iconst 1, 1) := by decide +kernel
theorem dL_law_490 : decode cL_law 490 = .ok (.iadd, 1) := by decide +kernel
theorem dL_law_491 : decode cL_law 491 = .ok (.iaload, 1) := by decide +kernel
theorem dL_law_492 : decode cL_law 492 = .ok (.invokevirtual 72, 3) := by decide +kernel
theorem dL_law_495 : decode cL_law 495 = .ok (.if_icmp .eq 513, 3) := by decide +kernel
theorem dL_law_498 : decode cL_law 498 = .ok (.iconst 0, 1) := by decide +kernel
theorem dL_law_499 : decode cL_law 499 = .ok (.ireturn, 1) := by decide +kernel
theorem dL_law_500 : decode cL_law 500 = .ok (.aload_n 1, 1) := by decide +kernel
theorem dL_law_501 : decode cL_law 501 = .ok (.aload_n 0, 1) := by decide +kernel
theorem dL_law_502 : decode cL_law 502 = .ok (.iload_n 3, 1) := by decide +kernel
theorem dL_law_503 : decode cL_law 503 = .ok (.iconst 1, 1) := by decide +kernel
theorem dL_law_504 : decode cL_law 504 = .ok (.iadd, 1) := by decide +kernel
theorem dL_law_505 : decode cL_law 505 = .ok (.iaload, 1) := by decide +kernel
theorem dL_law_506 : decode cL_law 506 = .ok (.aload_n 0, 1) := by decide +kernel
theorem dL_law_507 : decode cL_law 507 = .ok (.iload_n 3, 1) := by decide +kernel
theorem dL_law_508 : decode cL_law 508 = .ok (.iconst 2, 1) := by decide +kernel
theorem dL_law_509 : decode cL_law 509 = .ok (.iadd, 1) := by decide +kernel
theorem dL_law_510 : decode cL_law 510 = .ok (.iaload, 1) := by decide +kernel
theorem dL_law_511 : decode cL_law 511 = .ok (.invokevirtual 73, 3) := by decide +kernel
theorem dL_law_514 : decode cL_law 514 = .ok (.aload_n 2, 1) := by decide +kernel
theorem dL_law_515 : decode cL_law 515 = .ok (.aload_n 0, 1) := by decide +kernel
theorem dL_law_516 : decode cL_law 516 = .ok (.iload_n 3, 1) := by decide +kernel
theorem dL_law_517 : decode cL_law 517 = .ok (.iconst 1, 1) := by decide +kernel
theorem dL_law_518 : decode cL_law 518 = .ok (.iadd, 1) := by decide +kernel
theorem dL_law_519 : decode cL_law 519 = .ok (.iaload, 1) := by decide +kernel
theorem dL_law_520 : decode cL_law 520 = .ok (.aload_n 0, 1) := by decide +kernel
theorem dL_law_521 : decode cL_law 521 = .ok (.iload_n 3, 1) := by decide +kernel
theorem dL_law_522 : decode cL_law 522 = .ok (.iconst 2, 1) := by decide +kernel
theorem dL_law_523 : decode cL_law 523 = .ok (.iadd, 1) := by decide +kernel
theorem dL_law_524 : decode cL_law 524 = .ok (.iaload, 1) := by decide +kernel
theorem dL_law_525 : decode cL_law 525 = .ok (.invokevirtual 76, 3) := by decide +kernel
theorem dL_law_528 : decode cL_law 528 = .ok (.if_icmp .eq 480, 3) := by decide +kernel
theorem dL_law_531 : decode cL_law 531 = .ok (.iconst 0, 1) := by decide +kernel
theorem dL_law_532 : decode cL_law 532 = .ok (.ireturn, 1) := by decide +kernel
theorem dL_law_533 : decode cL_law 533 = .ok (.aload_n 1, 1) := by decide +kernel
theorem dL_law_534 : decode cL_law 534 = .ok (.aload_n 0, 1) := by decide +kernel
theorem dL_law_535 : decode cL_law 535 = .ok (.iload_n 3, 1) := by decide +kernel
theorem dL_law_536 : decode cL_law 536 = .ok (.iconst 1, 1) := by decide +kernel
theorem dL_law_537 : decode cL_law 537 = .ok (.iadd, 1) := by decide +kernel
theorem dL_law_538 : decode cL_law 538 = .ok (.iaload, 1) := by decide +kernel
theorem dL_law_539 : decode cL_law 539 = .ok (.aload_n 0, 1) := by decide +kernel
theorem dL_law_540 : decode cL_law 540 = .ok (.iload_n 3, 1) := by decide +kernel
theorem dL_law_541 : decode cL_law 541 = .ok (.iconst 2, 1) := by decide +kernel
theorem dL_law_542 : decode cL_law 542 = .ok (.iadd, 1) := by decide +kernel
theorem dL_law_543 : decode cL_law 543 = .ok (.iaload, 1) := by decide +kernel
theorem dL_law_544 : decode cL_law 544 = .ok (.aload_n 0, 1) := by decide +kernel
theorem dL_law_545 : decode cL_law 545 = .ok (.iload_n 3, 1) := by decide +kernel
theorem dL_law_546 : decode cL_law 546 = .ok (.iconst 3, 1) := by decide +kernel
theorem dL_law_547 : decode cL_law 547 = .ok (.iadd, 1) := by decide +kernel
theorem dL_law_548 : decode cL_law 548 = .ok (.iaload, 1) := by decide +kernel
theorem dL_law_549 : decode cL_law 549 = .ok (.invokevirtual 77, 3) := by decide +kernel
theorem dL_law_552 : decode cL_law 552 = .ok (.aload_n 2, 1) := by decide +kernel
theorem dL_law_553 : decode cL_law 553 = .ok (.aload_n 0, 1) := by decide +kernel
theorem dL_law_554 : decode cL_law 554 = .ok (.iload_n 3, 1) := by decide +kernel
theorem dL_law_555 : decode cL_law 555 = .ok (.iconst 1, 1) := by decide +kernel
theorem dL_law_556 : decode cL_law 556 = .ok (.iadd, 1) := by decide +kernel
theorem dL_law_557 : decode cL_law 557 = .ok (.iaload, 1) := by decide +kernel
theorem dL_law_558 : decode cL_law 558 = .ok (.aload_n 0, 1) := by decide +kernel
theorem dL_law_559 : decode cL_law 559 = .ok (.iload_n 3, 1) := by decide +kernel
theorem dL_law_560 : decode cL_law 560 = .ok (.iconst 2, 1) := by decide +kernel
theorem dL_law_561 : decode cL_law 561 = .ok (.iadd, 1) := by decide +kernel
theorem dL_law_562 : decode cL_law 562 = .ok (.iaload, 1) := by decide +kernel
theorem dL_law_563 : decode cL_law 563 = .ok (.aload_n 0, 1) := by decide +kernel
theorem dL_law_564 : decode cL_law 564 = .ok (.iload_n 3, 1) := by decide +kernel
theorem dL_law_565 : decode cL_law 565 = .ok (.iconst 3, 1) := by decide +kernel
theorem dL_law_566 : decode cL_law 566 = .ok (.iadd, 1) := by decide +kernel
theorem dL_law_567 : decode cL_law 567 = .ok (.iaload, 1) := by decide +kernel
theorem dL_law_568 : decode cL_law 568 = .ok (.invokevirtual 80, 3) := by decide +kernel
theorem dL_law_571 : decode cL_law 571 = .ok (.if_icmp .eq 437, 3) := by decide +kernel
theorem dL_law_574 : decode cL_law 574 = .ok (.iconst 0, 1) := by decide +kernel
theorem dL_law_575 : decode cL_law 575 = .ok (.ireturn, 1) := by decide +kernel
theorem dL_law_576 : decode cL_law 576 = .ok (.aload_n 1, 1) := by decide +kernel
theorem dL_law_577 : decode cL_law 577 = .ok (.aload_n 0, 1) := by decide +kernel
theorem dL_law_578 : decode cL_law 578 = .ok (.iload_n 3, 1) := by decide +kernel
theorem dL_law_579 : decode cL_law 579 = .ok (.iconst 1, 1) := by decide +kernel
theorem dL_law_580 : decode cL_law 580 = .ok (.iadd, 1) := by decide +kernel
theorem dL_law_581 : decode cL_law 581 = .ok (.iaload, 1) := by decide +kernel
theorem dL_law_582 : decode cL_law 582 = .ok (.aload_n 0, 1) := by decide +kernel
theorem dL_law_583 : decode cL_law 583 = .ok (.iload_n 3, 1) := by decide +kernel
theorem dL_law_584 : decode cL_law 584 = .ok (.iconst 2, 1) := by decide +kernel
theorem dL_law_585 : decode cL_law 585 = .ok (.iadd, 1) := by decide +kernel
theorem dL_law_586 : decode cL_law 586 = .ok (.iaload, 1) := by decide +kernel
theorem dL_law_587 : decode cL_law 587 = .ok (.invokevirtual 81, 3) := by decide +kernel
theorem dL_law_590 : decode cL_law 590 = .ok (.aload_n 2, 1) := by decide +kernel
theorem dL_law_591 : decode cL_law 591 = .ok (.aload_n 0, 1) := by decide +kernel
theorem dL_law_592 : decode cL_law 592 = .ok (.iload_n 3, 1) := by decide +kernel
theorem dL_law_593 : decode cL_law 593 = .ok (.iconst 1, 1) := by decide +kernel
theorem dL_law_594 : decode cL_law 594 = .ok (.iadd, 1) := by decide +kernel
theorem dL_law_595 : decode cL_law 595 = .ok (.iaload, 1) := by decide +kernel
theorem dL_law_596 : decode cL_law 596 = .ok (.aload_n 0, 1) := by decide +kernel
theorem dL_law_597 : decode cL_law 597 = .ok (.iload_n 3, 1) := by decide +kernel
theorem dL_law_598 : decode cL_law 598 = .ok (.iconst 2, 1) := by decide +kernel
theorem dL_law_599 : decode cL_law 599 = .ok (.iadd, 1) := by decide +kernel
theorem dL_law_600 : decode cL_law 600 = .ok (.iaload, 1) := by decide +kernel
theorem dL_law_601 : decode cL_law 601 = .ok (.invokevirtual 84, 3) := by decide +kernel
theorem dL_law_604 : decode cL_law 604 = .ok (.if_icmp .eq 404, 3) := by decide +kernel
theorem dL_law_607 : decode cL_law 607 = .ok (.iconst 0, 1) := by decide +kernel
theorem dL_law_608 : decode cL_law 608 = .ok (.ireturn, 1) := by decide +kernel
theorem dL_law_609 : decode cL_law 609 = .ok (.aload_n 1, 1) := by decide +kernel
theorem dL_law_610 : decode cL_law 610 = .ok (.aload_n 0, 1) := by decide +kernel
theorem dL_law_611 : decode cL_law 611 = .ok (.iload_n 3, 1) := by decide +kernel
theorem dL_law_612 : decode cL_law 612 = .ok (.iconst 1, 1) := by decide +kernel
theorem dL_law_613 : decode cL_law 613 = .ok (.iadd, 1) := by decide +kernel
theorem dL_law_614 : decode cL_law 614 = .ok (.iaload, 1) := by decide +kernel
theorem dL_law_615 : decode cL_law 615 = .ok (.aload_n 0, 1) := by decide +kernel
theorem dL_law_616 : decode cL_law 616 = .ok (.iload_n 3, 1) := by decide +kernel
theorem dL_law_617 : decode cL_law 617 = .ok (.iconst 2, 1) := by decide +kernel
theorem dL_law_618 : decode cL_law 618 = .ok (.iadd, 1) := by decide +kernel
theorem dL_law_619 : decode cL_law 619 = .ok (.iaload, 1) := by decide +kernel
theorem dL_law_620 : decode cL_law 620 = .ok (.invokevirtual 85, 3) := by decide +kernel
theorem dL_law_623 : decode cL_law 623 = .ok (.aload_n 2, 1) := by decide +kernel
theorem dL_law_624 : decode cL_law 624 = .ok (.aload_n 0, 1) := by decide +kernel
theorem dL_law_625 : decode cL_law 625 = .ok (.iload_n 3, 1) := by decide +kernel
theorem dL_law_626 : decode cL_law 626 = .ok (.iconst 1, 1) := by decide +kernel
theorem dL_law_627 : decode cL_law 627 = .ok (.iadd, 1) := by decide +kernel
theorem dL_law_628 : decode cL_law 628 = .ok (.iaload, 1) := by decide +kernel
theorem dL_law_629 : decode cL_law 629 = .ok (.aload_n 0, 1) := by decide +kernel
theorem dL_law_630 : decode cL_law 630 = .ok (.iload_n 3, 1) := by decide +kernel
theorem dL_law_631 : decode cL_law 631 = .ok (.iconst 2, 1) := by decide +kernel
theorem dL_law_632 : decode cL_law 632 = .ok (.iadd, 1) := by decide +kernel
theorem dL_law_633 : decode cL_law 633 = .ok (.iaload, 1) := by decide +kernel
theorem dL_law_634 : decode cL_law 634 = .ok (.invokevirtual 88, 3) := by decide +kernel
theorem dL_law_637 : decode cL_law 637 = .ok (.if_icmp .eq 371, 3) := by decide +kernel
theorem dL_law_640 : decode cL_law 640 = .ok (.iconst 0, 1) := by decide +kernel
theorem dL_law_641 : decode cL_law 641 = .ok (.ireturn, 1) := by decide +kernel
theorem dL_law_642 : decode cL_law 642 = .ok (.aload_n 1, 1) := by decide +kernel
theorem dL_law_643 : decode cL_law 643 = .ok (.aload_n 0, 1) := by decide +kernel
theorem dL_law_644 : decode cL_law 644 = .ok (.iload_n 3, 1) := by decide +kernel
theorem dL_law_645 : decode cL_law 645 = .ok (.iconst 1, 1) := by decide +kernel
theorem dL_law_646 : decode cL_law 646 = .ok (.iadd, 1) := by decide +kernel
theorem dL_law_647 : decode cL_law 647 = .ok (.iaload, 1) := by decide +kernel
theorem dL_law_648 : decode cL_law 648 = .ok (.aload_n 0, 1) := by decide +kernel
theorem dL_law_649 : decode cL_law 649 = .ok (.iload_n 3, 1) := by decide +kernel
theorem dL_law_650 : decode cL_law 650 = .ok (.iconst 2, 1) := by decide +kernel
theorem dL_law_651 : decode cL_law 651 = .ok (.iadd, 1) := by decide +kernel
theorem dL_law_652 : decode cL_law 652 = .ok (.iaload, 1) := by decide +kernel
theorem dL_law_653 : decode cL_law 653 = .ok (.invokevirtual 89, 3) := by decide +kernel
theorem dL_law_656 : decode cL_law 656 = .ok (.aload_n 2, 1) := by decide +kernel
theorem dL_law_657 : decode cL_law 657 = .ok (.aload_n 0, 1) := by decide +kernel
theorem dL_law_658 : decode cL_law 658 = .ok (.iload_n 3, 1) := by decide +kernel
theorem dL_law_659 : decode cL_law 659 = .ok (.iconst 1, 1) := by decide +kernel
theorem dL_law_660 : decode cL_law 660 = .ok (.iadd, 1) := by decide +kernel
theorem dL_law_661 : decode cL_law 661 = .ok (.iaload, 1) := by decide +kernel
theorem dL_law_662 : decode cL_law 662 = .ok (.aload_n 0, 1) := by decide +kernel
theorem dL_law_663 : decode cL_law 663 = .ok (.iload_n 3, 1) := by decide +kernel
theorem dL_law_664 : decode cL_law 664 = .ok (.iconst 2, 1) := by decide +kernel
theorem dL_law_665 : decode cL_law 665 = .ok (.iadd, 1) := by decide +kernel
theorem dL_law_666 : decode cL_law 666 = .ok (.iaload, 1) := by decide +kernel
theorem dL_law_667 : decode cL_law 667 = .ok (.invokevirtual 92, 3) := by decide +kernel
theorem dL_law_670 : decode cL_law 670 = .ok (.if_icmp .eq 338, 3) := by decide +kernel
theorem dL_law_673 : decode cL_law 673 = .ok (.iconst 0, 1) := by decide +kernel
theorem dL_law_674 : decode cL_law 674 = .ok (.ireturn, 1) := by decide +kernel
theorem dL_law_675 : decode cL_law 675 = .ok (.aload_n 1, 1) := by decide +kernel
theorem dL_law_676 : decode cL_law 676 = .ok (.aload_n 0, 1) := by decide +kernel
theorem dL_law_677 : decode cL_law 677 = .ok (.iload_n 3, 1) := by decide +kernel
theorem dL_law_678 : decode cL_law 678 = .ok (.iconst 1, 1) := by decide +kernel
theorem dL_law_679 : decode cL_law 679 = .ok (.iadd, 1) := by decide +kernel
theorem dL_law_680 : decode cL_law 680 = .ok (.iaload, 1) := by decide +kernel
theorem dL_law_681 : decode cL_law 681 = .ok (.aload_n 0, 1) := by decide +kernel
theorem dL_law_682 : decode cL_law 682 = .ok (.iload_n 3, 1) := by decide +kernel
theorem dL_law_683 : decode cL_law 683 = .ok (.iconst 2, 1) := by decide +kernel
theorem dL_law_684 : decode cL_law 684 = .ok (.iadd, 1) := by decide +kernel
theorem dL_law_685 : decode cL_law 685 = .ok (.iaload, 1) := by decide +kernel
theorem dL_law_686 : decode cL_law 686 = .ok (.invokevirtual 93, 3) := by decide +kernel
theorem dL_law_689 : decode cL_law 689 = .ok (.aload_n 2, 1) := by decide +kernel
theorem dL_law_690 : decode cL_law 690 = .ok (.aload_n 0, 1) := by decide +kernel
theorem dL_law_691 : decode cL_law 691 = .ok (.iload_n 3, 1) := by decide +kernel
theorem dL_law_692 : decode cL_law 692 = .ok (.iconst 1, 1) := by decide +kernel
theorem dL_law_693 : decode cL_law 693 = .ok (.iadd, 1) := by decide +kernel
theorem dL_law_694 : decode cL_law 694 = .ok (.iaload, 1) := by decide +kernel
theorem dL_law_695 : decode cL_law 695 = .ok (.aload_n 0, 1) := by decide +kernel
theorem dL_law_696 : decode cL_law 696 = .ok (.iload_n 3, 1) := by decide +kernel
theorem dL_law_697 : decode cL_law 697 = .ok (.iconst 2, 1) := by decide +kernel
theorem dL_law_698 : decode cL_law 698 = .ok (.iadd, 1) := by decide +kernel
theorem dL_law_699 : decode cL_law 699 = .ok (.iaload, 1) := by decide +kernel
theorem dL_law_700 : decode cL_law 700 = .ok (.invokevirtual 96, 3) := by decide +kernel
theorem dL_law_703 : decode cL_law 703 = .ok (.if_icmp .eq 305, 3) := by decide +kernel
theorem dL_law_706 : decode cL_law 706 = .ok (.iconst 0, 1) := by decide +kernel
theorem dL_law_707 : decode cL_law 707 = .ok (.ireturn, 1) := by decide +kernel
theorem dL_law_708 : decode cL_law 708 = .ok (.aload_n 1, 1) := by decide +kernel
theorem dL_law_709 : decode cL_law 709 = .ok (.aload_n 0, 1) := by decide +kernel
theorem dL_law_710 : decode cL_law 710 = .ok (.iload_n 3, 1) := by decide +kernel
theorem dL_law_711 : decode cL_law 711 = .ok (.iconst 1, 1) := by decide +kernel
theorem dL_law_712 : decode cL_law 712 = .ok (.iadd, 1) := by decide +kernel
theorem dL_law_713 : decode cL_law 713 = .ok (.iaload, 1) := by decide +kernel
theorem dL_law_714 : decode cL_law 714 = .ok (.invokevirtual 97, 3) := by decide +kernel
theorem dL_law_717 : decode cL_law 717 = .ok (.aload_n 2, 1) := by decide +kernel
theorem dL_law_718 : decode cL_law 718 = .ok (.aload_n 0, 1) := by decide +kernel
theorem dL_law_719 : decode cL_law 719 = .ok (.iload_n 3, 1) := by decide +kernel
theorem dL_law_720 : decode cL_law 720 = .ok (.iconst 1, 1) := by decide +kernel
theorem dL_law_721 : decode cL_law 721 = .ok (.iadd, 1) := by decide +kernel
theorem dL_law_722 : decode cL_law 722 = .ok (.iaload, 1) := by decide +kernel
theorem dL_law_723 : decode cL_law 723 = .ok (.invokevirtual 100, 3) := by decide +kernel
theorem dL_law_726 : decode cL_law 726 = .ok (.if_icmp .eq 282, 3) := by decide +kernel
theorem dL_law_729 : decode cL_law 729 = .ok (.iconst 0, 1) := by decide +kernel
theorem dL_law_730 : decode cL_law 730 = .ok (.ireturn, 1) := by decide +kernel
theorem dL_law_731 : decode cL_law 731 = .ok (.aload_n 1, 1) := by decide +kernel
theorem dL_law_732 : decode cL_law 732 = .ok (.invokevirtual 101, 3) := by decide +kernel
theorem dL_law_735 : decode cL_law 735 = .ok (.aload_n 2, 1) := by decide +kernel
theorem dL_law_736 : decode cL_law 736 = .ok (.invokevirtual 104, 3) := by decide +kernel
theorem dL_law_739 : decode cL_law 739 = .ok (.if_icmp .eq 269, 3) := by decide +kernel
theorem dL_law_742 : decode cL_law 742 = .ok (.iconst 0, 1) := by decide +kernel
theorem dL_law_743 : decode cL_law 743 = .ok (.ireturn, 1) := by decide +kernel
theorem dL_law_744 : decode cL_law 744 = .ok (.aload_n 1, 1) := by decide +kernel
theorem dL_law_745 : decode cL_law 745 = .ok (.aload_n 0, 1) := by decide +kernel
theorem dL_law_746 : decode cL_law 746 = .ok (.iload_n 3, 1) := by decide +kernel
theorem dL_law_747 : decode cL_law 747 = .ok (.iconst 1, 1) := by decide +kernel
theorem dL_law_748 : decode cL_law 748 = .ok (.iadd, 1) := by decide +kernel
theorem dL_law_749 : decode cL_law 749 = .ok (.iaload, 1) := by decide +kernel
theorem dL_law_750 : decode cL_law 750 = .ok (.invokevirtual 105, 3) := by decide +kernel
theorem dL_law_753 : decode cL_law 753 = .ok (.aload_n 2, 1) := by decide +kernel
theorem dL_law_754 : decode cL_law 754 = .ok (.aload_n 0, 1) := by decide +kernel
theorem dL_law_755 : decode cL_law 755 = .ok (.iload_n 3, 1) := by decide +kernel
theorem dL_law_756 : decode cL_law 756 = .ok (.iconst 1, 1) := by decide +kernel
theorem dL_law_757 : decode cL_law 757 = .ok (.iadd, 1) := by decide +kernel
theorem dL_law_758 : decode cL_law 758 = .ok (.iaload, 1) := by decide +kernel
theorem dL_law_759 : decode cL_law 759 = .ok (.invokevirtual 108, 3) := by decide +kernel
theorem dL_law_762 : decode cL_law 762 = .ok (.if_icmp .eq 246, 3) := by decide +kernel
theorem dL_law_765 : decode cL_law 765 = .ok (.iconst 0, 1) := by decide +kernel
theorem dL_law_766 : decode cL_law 766 = .ok (.ireturn, 1) := by decide +kernel
theorem dL_law_767 : decode cL_law 767 = .ok (.aload_n 1, 1) := by decide +kernel
theorem dL_law_768 : decode cL_law 768 = .ok (.aload_n 0, 1) := by decide +kernel
theorem dL_law_769 : decode cL_law 769 = .ok (.iload_n 3, 1) := by decide +kernel
theorem dL_law_770 : decode cL_law 770 = .ok (.iconst 1, 1) := by decide +kernel
theorem dL_law_771 : decode cL_law 771 = .ok (.iadd, 1) := by decide +kernel
theorem dL_law_772 : decode cL_law 772 = .ok (.iaload, 1) := by decide +kernel
theorem dL_law_773 : decode cL_law 773 = .ok (.aload_n 0, 1) := by decide +kernel
theorem dL_law_774 : decode cL_law 774 = .ok (.iload_n 3, 1) := by decide +kernel
theorem dL_law_775 : decode cL_law 775 = .ok (.iconst 2, 1) := by decide +kernel
theorem dL_law_776 : decode cL_law 776 = .ok (.iadd, 1) := by decide +kernel
theorem dL_law_777 : decode cL_law 777 = .ok (.iaload, 1) := by decide +kernel
theorem dL_law_778 : decode cL_law 778 = .ok (.invokevirtual 109, 3) := by decide +kernel
theorem dL_law_781 : decode cL_law 781 = .ok (.aload_n 2, 1) := by decide +kernel
theorem dL_law_782 : decode cL_law 782 = .ok (.aload_n 0, 1) := by decide +kernel
theorem dL_law_783 : decode cL_law 783 = .ok (.iload_n 3, 1) := by decide +kernel
theorem dL_law_784 : decode cL_law 784 = .ok (.iconst 1, 1) := by decide +kernel
theorem dL_law_785 : decode cL_law 785 = .ok (.iadd, 1) := by decide +kernel
theorem dL_law_786 : decode cL_law 786 = .ok (.iaload, 1) := by decide +kernel
theorem dL_law_787 : decode cL_law 787 = .ok (.aload_n 0, 1) := by decide +kernel
theorem dL_law_788 : decode cL_law 788 = .ok (.iload_n 3, 1) := by decide +kernel
theorem dL_law_789 : decode cL_law 789 = .ok (.iconst 2, 1) := by decide +kernel
theorem dL_law_790 : decode cL_law 790 = .ok (.iadd, 1) := by decide +kernel
theorem dL_law_791 : decode cL_law 791 = .ok (.iaload, 1) := by decide +kernel
theorem dL_law_792 : decode cL_law 792 = .ok (.invokevirtual 112, 3) := by decide +kernel
theorem dL_law_795 : decode cL_law 795 = .ok (.if_icmp .eq 213, 3) := by decide +kernel
theorem dL_law_798 : decode cL_law 798 = .ok (.iconst 0, 1) := by decide +kernel
theorem dL_law_799 : decode cL_law 799 = .ok (.ireturn, 1) := by decide +kernel
theorem dL_law_800 : decode cL_law 800 = .ok (.aload_n 1, 1) := by decide +kernel
theorem dL_law_801 : decode cL_law 801 = .ok (.aload_n 0, 1) := by decide +kernel
theorem dL_law_802 : decode cL_law 802 = .ok (.iload_n 3, 1) := by decide +kernel
theorem dL_law_803 : decode cL_law 803 = .ok (.iconst 1, 1) := by decide +kernel
theorem dL_law_804 : decode cL_law 804 = .ok (.iadd, 1) := by decide +kernel
theorem dL_law_805 : decode cL_law 805 = .ok (.iaload, 1) := by decide +kernel
theorem dL_law_806 : decode cL_law 806 = .ok (.aload_n 0, 1) := by decide +kernel
theorem dL_law_807 : decode cL_law 807 = .ok (.iload_n 3, 1) := by decide +kernel
theorem dL_law_808 : decode cL_law 808 = .ok (.iconst 2, 1) := by decide +kernel
theorem dL_law_809 : decode cL_law 809 = .ok (.iadd, 1) := by decide +kernel
theorem dL_law_810 : decode cL_law 810 = .ok (.iaload, 1) := by decide +kernel
theorem dL_law_811 : decode cL_law 811 = .ok (.invokevirtual 113, 3) := by decide +kernel
theorem dL_law_814 : decode cL_law 814 = .ok (.aload_n 2, 1) := by decide +kernel
theorem dL_law_815 : decode cL_law 815 = .ok (.aload_n 0, 1) := by decide +kernel
theorem dL_law_816 : decode cL_law 816 = .ok (.iload_n 3, 1) := by decide +kernel
theorem dL_law_817 : decode cL_law 817 = .ok (.iconst 1, 1) := by decide +kernel
theorem dL_law_818 : decode cL_law 818 = .ok (.iadd, 1) := by decide +kernel
theorem dL_law_819 : decode cL_law 819 = .ok (.iaload, 1) := by decide +kernel
theorem dL_law_820 : decode cL_law 820 = .ok (.aload_n 0, 1) := by decide +kernel
theorem dL_law_821 : decode cL_law 821 = .ok (.iload_n 3, 1) := by decide +kernel
theorem dL_law_822 : decode cL_law 822 = .ok (.iconst 2, 1) := by decide +kernel
theorem dL_law_823 : decode cL_law 823 = .ok (.iadd, 1) := by decide +kernel
theorem dL_law_824 : decode cL_law 824 = .ok (.iaload, 1) := by decide +kernel
theorem dL_law_825 : decode cL_law 825 = .ok (.invokevirtual 116, 3) := by decide +kernel
theorem dL_law_828 : decode cL_law 828 = .ok (.if_icmp .eq 180, 3) := by decide +kernel
theorem dL_law_831 : decode cL_law 831 = .ok (.iconst 0, 1) := by decide +kernel
theorem dL_law_832 : decode cL_law 832 = .ok (.ireturn, 1) := by decide +kernel
theorem dL_law_833 : decode cL_law 833 = .ok (.aload_n 1, 1) := by decide +kernel
theorem dL_law_834 : decode cL_law 834 = .ok (.aload_n 0, 1) := by decide +kernel
theorem dL_law_835 : decode cL_law 835 = .ok (.iload_n 3, 1) := by decide +kernel
theorem dL_law_836 : decode cL_law 836 = .ok (.iconst 1, 1) := by decide +kernel
theorem dL_law_837 : decode cL_law 837 = .ok (.iadd, 1) := by decide +kernel
theorem dL_law_838 : decode cL_law 838 = .ok (.iaload, 1) := by decide +kernel
theorem dL_law_839 : decode cL_law 839 = .ok (.aload_n 0, 1) := by decide +kernel
theorem dL_law_840 : decode cL_law 840 = .ok (.iload_n 3, 1) := by decide +kernel
theorem dL_law_841 : decode cL_law 841 = .ok (.iconst 2, 1) := by decide +kernel
theorem dL_law_842 : decode cL_law 842 = .ok (.iadd, 1) := by decide +kernel
theorem dL_law_843 : decode cL_law 843 = .ok (.iaload, 1) := by decide +kernel
theorem dL_law_844 : decode cL_law 844 = .ok (.aload_n 0, 1) := by decide +kernel
theorem dL_law_845 : decode cL_law 845 = .ok (.iload_n 3, 1) := by decide +kernel
theorem dL_law_846 : decode cL_law 846 = .ok (.iconst 3, 1) := by decide +kernel
theorem dL_law_847 : decode cL_law 847 = .ok (.iadd, 1) := by decide +kernel
theorem dL_law_848 : decode cL_law 848 = .ok (.iaload, 1) := by decide +kernel
theorem dL_law_849 : decode cL_law 849 = .ok (.invokevirtual 117, 3) := by decide +kernel
theorem dL_law_852 : decode cL_law 852 = .ok (.aload_n 2, 1) := by decide +kernel
theorem dL_law_853 : decode cL_law 853 = .ok (.aload_n 0, 1) := by decide +kernel
theorem dL_law_854 : decode cL_law 854 = .ok (.iload_n 3, 1) := by decide +kernel
theorem dL_law_855 : decode cL_law 855 = .ok (.iconst 1, 1) := by decide +kernel
theorem dL_law_856 : decode cL_law 856 = .ok (.iadd, 1) := by decide +kernel
theorem dL_law_857 : decode cL_law 857 = .ok (.iaload, 1) := by decide +kernel
theorem dL_law_858 : decode cL_law 858 = .ok (.aload_n 0, 1) := by decide +kernel
theorem dL_law_859 : decode cL_law 859 = .ok (.iload_n 3, 1) := by decide +kernel
theorem dL_law_860 : decode cL_law 860 = .ok (.iconst 2, 1) := by decide +kernel
theorem dL_law_861 : decode cL_law 861 = .ok (.iadd, 1) := by decide +kernel
theorem dL_law_862 : decode cL_law 862 = .ok (.iaload, 1) := by decide +kernel
theorem dL_law_863 : decode cL_law 863 = .ok (.aload_n 0, 1) := by decide +kernel
theorem dL_law_864 : decode cL_law 864 = .ok (.iload_n 3, 1) := by decide +kernel
theorem dL_law_865 : decode cL_law 865 = .ok (.iconst 3, 1) := by decide +kernel
theorem dL_law_866 : decode cL_law 866 = .ok (.iadd, 1) := by decide +kernel
theorem dL_law_867 : decode cL_law 867 = .ok (.iaload, 1) := by decide +kernel
theorem dL_law_868 : decode cL_law 868 = .ok (.invokevirtual 120, 3) := by decide +kernel
theorem dL_law_871 : decode cL_law 871 = .ok (.if_icmp .eq 137, 3) := by decide +kernel
theorem dL_law_874 : decode cL_law 874 = .ok (.iconst 0, 1) := by decide +kernel
theorem dL_law_875 : decode cL_law 875 = .ok (.ireturn, 1) := by decide +kernel
theorem dL_law_876 : decode cL_law 876 = .ok (.aload_n 1, 1) := by decide +kernel
theorem dL_law_877 : decode cL_law 877 = .ok (.aload_n 0, 1) := by decide +kernel
theorem dL_law_878 : decode cL_law 878 = .ok (.iload_n 3, 1) := by decide +kernel
theorem dL_law_879 : decode cL_law 879 = .ok (.iconst 1, 1) := by decide +kernel
theorem dL_law_880 : decode cL_law 880 = .ok (.iadd, 1) := by decide +kernel
theorem dL_law_881 : decode cL_law 881 = .ok (.iaload, 1) := by decide +kernel
theorem dL_law_882 : decode cL_law 882 = .ok (.aload_n 0, 1) := by decide +kernel
theorem dL_law_883 : decode cL_law 883 = .ok (.iload_n 3, 1) := by decide +kernel
theorem dL_law_884 : decode cL_law 884 = .ok (.iconst 2, 1) := by decide +kernel
theorem dL_law_885 : decode cL_law 885 = .ok (.iadd, 1) := by decide +kernel
theorem dL_law_886 : decode cL_law 886 = .ok (.iaload, 1) := by decide +kernel
theorem dL_law_887 : decode cL_law 887 = .ok (.aload_n 0, 1) := by decide +kernel
theorem dL_law_888 : decode cL_law 888 = .ok (.iload_n 3, 1) := by decide +kernel
theorem dL_law_889 : decode cL_law 889 = .ok (.iconst 3, 1) := by decide +kernel
theorem dL_law_890 : decode cL_law 890 = .ok (.iadd, 1) := by decide +kernel
theorem dL_law_891 : decode cL_law 891 = .ok (.iaload, 1) := by decide +kernel
theorem dL_law_892 : decode cL_law 892 = .ok (.invokevirtual 121, 3) := by decide +kernel
theorem dL_law_895 : decode cL_law 895 = .ok (.aload_n 2, 1) := by decide +kernel
theorem dL_law_896 : decode cL_law 896 = .ok (.aload_n 0, 1) := by decide +kernel
theorem dL_law_897 : decode cL_law 897 = .ok (.iload_n 3, 1) := by decide +kernel
theorem dL_law_898 : decode cL_law 898 = .ok (.iconst 1, 1) := by decide +kernel
theorem dL_law_899 : decode cL_law 899 = .ok (.iadd, 1) := by decide +kernel
theorem dL_law_900 : decode cL_law 900 = .ok (.iaload, 1) := by decide +kernel
theorem dL_law_901 : decode cL_law 901 = .ok (.aload_n 0, 1) := by decide +kernel
theorem dL_law_902 : decode cL_law 902 = .ok (.iload_n 3, 1) := by decide +kernel
theorem dL_law_903 : decode cL_law 903 = .ok (.iconst 2, 1) := by decide +kernel
theorem dL_law_904 : decode cL_law 904 = .ok (.iadd, 1) := by decide +kernel
theorem dL_law_905 : decode cL_law 905 = .ok (.iaload, 1) := by decide +kernel
theorem dL_law_906 : decode cL_law 906 = .ok (.aload_n 0, 1) := by decide +kernel
theorem dL_law_907 : decode cL_law 907 = .ok (.iload_n 3, 1) := by decide +kernel
theorem dL_law_908 : decode cL_law 908 = .ok (.iconst 3, 1) := by decide +kernel
theorem dL_law_909 : decode cL_law 909 = .ok (.iadd, 1) := by decide +kernel
theorem dL_law_910 : decode cL_law 910 = .ok (.iaload, 1) := by decide +kernel
theorem dL_law_911 : decode cL_law 911 = .ok (.invokevirtual 124, 3) := by decide +kernel
theorem dL_law_914 : decode cL_law 914 = .ok (.if_icmp .eq 94, 3) := by decide +kernel
theorem dL_law_917 : decode cL_law 917 = .ok (.iconst 0, 1) := by decide +kernel
theorem dL_law_918 : decode cL_law 918 = .ok (.ireturn, 1) := by decide +kernel
theorem dL_law_919 : decode cL_law 919 = .ok (.aload_n 1, 1) := by decide +kernel
theorem dL_law_920 : decode cL_law 920 = .ok (.aload_n 0, 1) := by decide +kernel
theorem dL_law_921 : decode cL_law 921 = .ok (.iload_n 3, 1) := by decide +kernel
theorem dL_law_922 : decode cL_law 922 = .ok (.iconst 1, 1) := by decide +kernel
theorem dL_law_923 : decode cL_law 923 = .ok (.iadd, 1) := by decide +kernel
theorem dL_law_924 : decode cL_law 924 = .ok (.iaload, 1) := by decide +kernel
theorem dL_law_925 : decode cL_law 925 = .ok (.aload_n 0, 1) := by decide +kernel
theorem dL_law_926 : decode cL_law 926 = .ok (.iload_n 3, 1) := by decide +kernel
theorem dL_law_927 : decode cL_law 927 = .ok (.iconst 2, 1) := by decide +kernel
theorem dL_law_928 : decode cL_law 928 = .ok (.iadd, 1) := by decide +kernel
theorem dL_law_929 : decode cL_law 929 = .ok (.iaload, 1) := by decide +kernel
theorem dL_law_930 : decode cL_law 930 = .ok (.aload_n 0, 1) := by decide +kernel
theorem dL_law_931 : decode cL_law 931 = .ok (.iload_n 3, 1) := by decide +kernel
theorem dL_law_932 : decode cL_law 932 = .ok (.iconst 3, 1) := by decide +kernel
theorem dL_law_933 : decode cL_law 933 = .ok (.iadd, 1) := by decide +kernel
theorem dL_law_934 : decode cL_law 934 = .ok (.iaload, 1) := by decide +kernel
theorem dL_law_935 : decode cL_law 935 = .ok (.invokevirtual 125, 3) := by decide +kernel
theorem dL_law_938 : decode cL_law 938 = .ok (.aload_n 2, 1) := by decide +kernel
theorem dL_law_939 : decode cL_law 939 = .ok (.aload_n 0, 1) := by decide +kernel
theorem dL_law_940 : decode cL_law 940 = .ok (.iload_n 3, 1) := by decide +kernel
theorem dL_law_941 : decode cL_law 941 = .ok (.iconst 1, 1) := by decide +kernel
theorem dL_law_942 : decode cL_law 942 = .ok (.iadd, 1) := by decide +kernel
theorem dL_law_943 : decode cL_law 943 = .ok (.iaload, 1) := by decide +kernel
theorem dL_law_944 : decode cL_law 944 = .ok (.aload_n 0, 1) := by decide +kernel
theorem dL_law_945 : decode cL_law 945 = .ok (.iload_n 3, 1) := by decide +kernel
theorem dL_law_946 : decode cL_law 946 = .ok (.iconst 2, 1) := by decide +kernel
theorem dL_law_947 : decode cL_law 947 = .ok (.iadd, 1) := by decide +kernel
theorem dL_law_948 : decode cL_law 948 = .ok (.iaload, 1) := by decide +kernel
theorem dL_law_949 : decode cL_law 949 = .ok (.aload_n 0, 1) := by decide +kernel
theorem dL_law_950 : decode cL_law 950 = .ok (.iload_n 3, 1) := by decide +kernel
theorem dL_law_951 : decode cL_law 951 = .ok (.iconst 3, 1) := by decide +kernel
theorem dL_law_952 : decode cL_law 952 = .ok (.iadd, 1) := by decide +kernel
theorem dL_law_953 : decode cL_law 953 = .ok (.iaload, 1) := by decide +kernel
theorem dL_law_954 : decode cL_law 954 = .ok (.invokevirtual 128, 3) := by decide +kernel
theorem dL_law_957 : decode cL_law 957 = .ok (.if_icmp .eq 51, 3) := by decide +kernel
theorem dL_law_960 : decode cL_law 960 = .ok (.iconst 0, 1) := by decide +kernel
theorem dL_law_961 : decode cL_law 961 = .ok (.ireturn, 1) := by decide +kernel
theorem dL_law_962 : decode cL_law 962 = .ok (.aload_n 1, 1) := by decide +kernel
theorem dL_law_963 : decode cL_law 963 = .ok (.aload_n 0, 1) := by decide +kernel
theorem dL_law_964 : decode cL_law 964 = .ok (.iload_n 3, 1) := by decide +kernel
theorem dL_law_965 : decode cL_law 965 = .ok (.iconst 1, 1) := by decide +kernel
theorem dL_law_966 : decode cL_law 966 = .ok (.iadd, 1) := by decide +kernel
theorem dL_law_967 : decode cL_law 967 = .ok (.iaload, 1) := by decide +kernel
theorem dL_law_968 : decode cL_law 968 = .ok (.invokevirtual 129, 3) := by decide +kernel
theorem dL_law_971 : decode cL_law 971 = .ok (.aload_n 2, 1) := by decide +kernel
theorem dL_law_972 : decode cL_law 972 = .ok (.aload_n 0, 1) := by decide +kernel
theorem dL_law_973 : decode cL_law 973 = .ok (.iload_n 3, 1) := by decide +kernel
theorem dL_law_974 : decode cL_law 974 = .ok (.iconst 1, 1) := by decide +kernel
theorem dL_law_975 : decode cL_law 975 = .ok (.iadd, 1) := by decide +kernel
theorem dL_law_976 : decode cL_law 976 = .ok (.iaload, 1) := by decide +kernel
theorem dL_law_977 : decode cL_law 977 = .ok (.invokevirtual 132, 3) := by decide +kernel
theorem dL_law_980 : decode cL_law 980 = .ok (.if_icmp .eq 28, 3) := by decide +kernel
theorem dL_law_983 : decode cL_law 983 = .ok (.iconst 0, 1) := by decide +kernel
theorem dL_law_984 : decode cL_law 984 = .ok (.ireturn, 1) := by decide +kernel
theorem dL_law_985 : decode cL_law 985 = .ok (.aload_n 1, 1) := by decide +kernel
theorem dL_law_986 : decode cL_law 986 = .ok (.aload_n 0, 1) := by decide +kernel
theorem dL_law_987 : decode cL_law 987 = .ok (.iload_n 3, 1) := by decide +kernel
theorem dL_law_988 : decode cL_law 988 = .ok (.iconst 1, 1) := by decide +kernel
theorem dL_law_989 : decode cL_law 989 = .ok (.iadd, 1) := by decide +kernel
theorem dL_law_990 : decode cL_law 990 = .ok (.iaload, 1) := by decide +kernel
theorem dL_law_991 : decode cL_law 991 = .ok (.invokevirtual 133, 3) := by decide +kernel
theorem dL_law_994 : decode cL_law 994 = .ok (.aload_n 2, 1) := by decide +kernel
theorem dL_law_995 : decode cL_law 995 = .ok (.aload_n 0, 1) := by decide +kernel
theorem dL_law_996 : decode cL_law 996 = .ok (.iload_n 3, 1) := by decide +kernel
theorem dL_law_997 : decode cL_law 997 = .ok (.iconst 1, 1) := by decide +kernel
theorem dL_law_998 : decode cL_law 998 = .ok (.iadd, 1) := by decide +kernel
theorem dL_law_999 : decode cL_law 999 = .ok (.iaload, 1) := by decide +kernel
theorem dL_law_1000 : decode cL_law 1000 = .ok (.invokevirtual 136, 3) := by decide +kernel
theorem dL_law_1003 : decode cL_law 1003 = .ok (.if_icmp .eq 5, 3) := by decide +kernel
theorem dL_law_1006 : decode cL_law 1006 = .ok (.iconst 0, 1) := by decide +kernel
theorem dL_law_1007 : decode cL_law 1007 = .ok (.ireturn, 1) := by decide +kernel
theorem dL_law_1008 : decode cL_law 1008 = .ok (.iinc 3 4, 3) := by decide +kernel
theorem dL_law_1011 : decode cL_law 1011 = .ok (.goto (-993), 3) := by decide +kernel
theorem dL_law_1014 : decode cL_law 1014 = .ok (.iconst 1, 1) := by decide +kernel
theorem dL_law_1015 : decode cL_law 1015 = .ok (.ireturn, 1) := by decide +kernel
end
section
theorem wd_0 : Cond.selects "BunchNotes" ⟨"BunchNotes", "readText", "()I"⟩ ⟨"BunchNotes", "readText", "()I"⟩ ∈ lw_tbl := List.mem_of_getElem? (i := 0) (by decide +kernel)
theorem wd_1 : Cond.selects "BunchNotes$Text" ⟨"BunchNotes$Text", "pass", "()V"⟩ ⟨"BunchNotes$Text", "pass", "()V"⟩ ∈ lw_tbl := List.mem_of_getElem? (i := 1) (by decide +kernel)
theorem wd_2 : Cond.selects "BunchNotes$Text" ⟨"BunchNotes$Text", "kindAt", "(I)I"⟩ ⟨"BunchNotes$Text", "kindAt", "(I)I"⟩ ∈ lw_tbl := List.mem_of_getElem? (i := 2) (by decide +kernel)
theorem wd_3 : Cond.selects "BunchNotes$Text" ⟨"BunchNotes$Text", "readClause", "(LBunchNotes$Net;)Z"⟩ ⟨"BunchNotes$Text", "readClause", "(LBunchNotes$Net;)Z"⟩ ∈ lw_tbl := List.mem_of_getElem? (i := 3) (by decide +kernel)
theorem wd_4 : Cond.selects "BunchNotes$Text" ⟨"BunchNotes$Text", "isWord", "(Ljava/lang/String;)Z"⟩ ⟨"BunchNotes$Text", "isWord", "(Ljava/lang/String;)Z"⟩ ∈ lw_tbl := List.mem_of_getElem? (i := 4) (by decide +kernel)
theorem wd_5 : Cond.selects "BunchNotes$Text" ⟨"BunchNotes$Text", "readNet", "(LBunchNotes$Net;)Z"⟩ ⟨"BunchNotes$Text", "readNet", "(LBunchNotes$Net;)Z"⟩ ∈ lw_tbl := List.mem_of_getElem? (i := 5) (by decide +kernel)
theorem wd_6 : Cond.selects "BunchNotes$Text" ⟨"BunchNotes$Text", "number", "(II)I"⟩ ⟨"BunchNotes$Text", "number", "(II)I"⟩ ∈ lw_tbl := List.mem_of_getElem? (i := 6) (by decide +kernel)
theorem wd_7 : Cond.selects "BunchNotes$Text" ⟨"BunchNotes$Text", "readLink", "(LBunchNotes$Net;)Z"⟩ ⟨"BunchNotes$Text", "readLink", "(LBunchNotes$Net;)Z"⟩ ∈ lw_tbl := List.mem_of_getElem? (i := 7) (by decide +kernel)
theorem wd_8 : Cond.selects "BunchNotes$Text" ⟨"BunchNotes$Text", "readLevel", "(LBunchNotes$Net;)Z"⟩ ⟨"BunchNotes$Text", "readLevel", "(LBunchNotes$Net;)Z"⟩ ∈ lw_tbl := List.mem_of_getElem? (i := 8) (by decide +kernel)
theorem wd_9 : Cond.selects "BunchNotes$Text" ⟨"BunchNotes$Text", "isSemicolon", "()Z"⟩ ⟨"BunchNotes$Text", "isSemicolon", "()Z"⟩ ∈ lw_tbl := List.mem_of_getElem? (i := 9) (by decide +kernel)
theorem wd_10 : Cond.selects "BunchNotes" ⟨"BunchNotes", "blankAll", "()V"⟩ ⟨"BunchNotes", "blankAll", "()V"⟩ ∈ lw_tbl := List.mem_of_getElem? (i := 10) (by decide +kernel)
theorem wd_11 : Cond.selects "BunchNotes" ⟨"BunchNotes", "forgetSlots", "()V"⟩ ⟨"BunchNotes", "forgetSlots", "()V"⟩ ∈ lw_tbl := List.mem_of_getElem? (i := 11) (by decide +kernel)
theorem wd_12 : Cond.selects "BunchNotes" ⟨"BunchNotes", "bothThere", "(II)Z"⟩ ⟨"BunchNotes", "bothThere", "(II)Z"⟩ ∈ lw_tbl := List.mem_of_getElem? (i := 12) (by decide +kernel)
theorem wd_13 : Cond.selects "BunchNotes$Thinning" ⟨"BunchNotes$Thinning", "sortLinks", "(LBunchNotes$Net;)V"⟩ ⟨"BunchNotes$Thinning", "sortLinks", "(LBunchNotes$Net;)V"⟩ ∈ lw_tbl := List.mem_of_getElem? (i := 13) (by decide +kernel)
theorem wd_14 : Cond.selects "BunchNotes$Thinning" ⟨"BunchNotes$Thinning", "insert", "(LBunchNotes$Net;II)V"⟩ ⟨"BunchNotes$Thinning", "insert", "(LBunchNotes$Net;II)V"⟩ ∈ lw_tbl := List.mem_of_getElem? (i := 14) (by decide +kernel)
theorem wd_15 : Cond.selects "BunchNotes$Thinning" ⟨"BunchNotes$Thinning", "lengthAt", "(LBunchNotes$Net;I)I"⟩ ⟨"BunchNotes$Thinning", "lengthAt", "(LBunchNotes$Net;I)I"⟩ ∈ lw_tbl := List.mem_of_getElem? (i := 15) (by decide +kernel)
theorem wd_16 : Cond.selects "BunchNotes$Thinning" ⟨"BunchNotes$Thinning", "clear", "(I)V"⟩ ⟨"BunchNotes$Thinning", "clear", "(I)V"⟩ ∈ lw_tbl := List.mem_of_getElem? (i := 16) (by decide +kernel)
theorem wd_17 : Cond.selects "BunchNotes$Thinning" ⟨"BunchNotes$Thinning", "take", "(III)V"⟩ ⟨"BunchNotes$Thinning", "take", "(III)V"⟩ ∈ lw_tbl := List.mem_of_getElem? (i := 17) (by decide +kernel)
theorem wd_18 : Cond.selects "BunchNotes" ⟨"BunchNotes", "writtenNotes", "()I"⟩ ⟨"BunchNotes", "writtenNotes", "()I"⟩ ∈ lw_tbl := List.mem_of_getElem? (i := 18) (by decide +kernel)
theorem wd_19 : Cond.selects "BunchNotes" ⟨"BunchNotes", "writeDraft", "(I)V"⟩ ⟨"BunchNotes", "writeDraft", "(I)V"⟩ ∈ lw_tbl := List.mem_of_getElem? (i := 19) (by decide +kernel)
theorem wd_20 : Cond.selects "BunchNotes$Note" ⟨"BunchNotes$Note", "findNearest", "(LBunchNotes$Net;LBunchNotes$Far;II)V"⟩ ⟨"BunchNotes$Note", "findNearest", "(LBunchNotes$Net;LBunchNotes$Far;II)V"⟩ ∈ lw_tbl := List.mem_of_getElem? (i := 20) (by decide +kernel)
theorem wd_21 : Cond.selects "BunchNotes$Note" ⟨"BunchNotes$Note", "isNear", "(II)Z"⟩ ⟨"BunchNotes$Note", "isNear", "(II)Z"⟩ ∈ lw_tbl := List.mem_of_getElem? (i := 21) (by decide +kernel)
theorem wd_22 : Cond.selects "BunchNotes" ⟨"BunchNotes", "clusterOf", "(I)I"⟩ ⟨"BunchNotes", "clusterOf", "(I)I"⟩ ∈ lw_tbl := List.mem_of_getElem? (i := 22) (by decide +kernel)
theorem wd_23 : Cond.selects "BunchNotes" ⟨"BunchNotes", "stepTowards", "(II)I"⟩ ⟨"BunchNotes", "stepTowards", "(II)I"⟩ ∈ lw_tbl := List.mem_of_getElem? (i := 23) (by decide +kernel)
theorem wd_24 : Cond.selects "BunchNotes" ⟨"BunchNotes", "weighThinned", "(I)V"⟩ ⟨"BunchNotes", "weighThinned", "(I)V"⟩ ∈ lw_tbl := List.mem_of_getElem? (i := 24) (by decide +kernel)
theorem wd_25 : Cond.selects "BunchNotes" ⟨"BunchNotes", "isFresh", "(I)Z"⟩ ⟨"BunchNotes", "isFresh", "(I)Z"⟩ ∈ lw_tbl := List.mem_of_getElem? (i := 25) (by decide +kernel)
theorem wd_26 : Cond.selects "BunchNotes$Telling" ⟨"BunchNotes$Telling", "look", "([LBunchNotes$Note;II)I"⟩ ⟨"BunchNotes$Telling", "look", "([LBunchNotes$Note;II)I"⟩ ∈ lw_tbl := List.mem_of_getElem? (i := 26) (by decide +kernel)
theorem wd_27 : Cond.selects "BunchNotes" ⟨"BunchNotes", "stepsBetween", "(II)I"⟩ ⟨"BunchNotes", "stepsBetween", "(II)I"⟩ ∈ lw_tbl := List.mem_of_getElem? (i := 27) (by decide +kernel)
theorem wd_28 : Cond.selects "BunchNotes" ⟨"BunchNotes", "nodeAfter", "(III)I"⟩ ⟨"BunchNotes", "nodeAfter", "(III)I"⟩ ∈ lw_tbl := List.mem_of_getElem? (i := 28) (by decide +kernel)
theorem wd_29 : Cond.selects "BunchNotes" ⟨"BunchNotes", "weighTold", "()I"⟩ ⟨"BunchNotes", "weighTold", "()I"⟩ ∈ lw_tbl := List.mem_of_getElem? (i := 29) (by decide +kernel)
theorem wd_30 : Cond.selects "BunchNotes" ⟨"BunchNotes", "parts", "()I"⟩ ⟨"BunchNotes", "parts", "()I"⟩ ∈ lw_tbl := List.mem_of_getElem? (i := 30) (by decide +kernel)
theorem wd_31 : Cond.selects "BunchNotes" ⟨"BunchNotes", "freshNotes", "()I"⟩ ⟨"BunchNotes", "freshNotes", "()I"⟩ ∈ lw_tbl := List.mem_of_getElem? (i := 31) (by decide +kernel)
theorem wd_32 : Cond.selects "BunchNotes" ⟨"BunchNotes", "nodesInNotes", "()I"⟩ ⟨"BunchNotes", "nodesInNotes", "()I"⟩ ∈ lw_tbl := List.mem_of_getElem? (i := 32) (by decide +kernel)
theorem wd_33 : Cond.selects "BunchNotesModel" ⟨"BunchNotesModel", "reads", "(Z)Z"⟩ ⟨"BunchNotesModel", "reads", "(Z)Z"⟩ ∈ lw_tbl := List.mem_of_getElem? (i := 33) (by decide +kernel)
theorem wd_34 : Cond.selects "BunchNotesModel" ⟨"BunchNotesModel", "links", "()I"⟩ ⟨"BunchNotesModel", "links", "()I"⟩ ∈ lw_tbl := List.mem_of_getElem? (i := 34) (by decide +kernel)
theorem wd_35 : Cond.selects "BunchNotesModel" ⟨"BunchNotesModel", "nextToken", "()V"⟩ ⟨"BunchNotesModel", "nextToken", "()V"⟩ ∈ lw_tbl := List.mem_of_getElem? (i := 35) (by decide +kernel)
theorem wd_36 : Cond.selects "BunchNotesModel" ⟨"BunchNotesModel", "readsClause", "()Z"⟩ ⟨"BunchNotesModel", "readsClause", "()Z"⟩ ∈ lw_tbl := List.mem_of_getElem? (i := 36) (by decide +kernel)
theorem wd_37 : Cond.selects "BunchNotesModel" ⟨"BunchNotesModel", "wordHere", "()I"⟩ ⟨"BunchNotesModel", "wordHere", "()I"⟩ ∈ lw_tbl := List.mem_of_getElem? (i := 37) (by decide +kernel)
theorem wd_38 : Cond.selects "BunchNotesModel" ⟨"BunchNotesModel", "number", "(III)Z"⟩ ⟨"BunchNotesModel", "number", "(III)Z"⟩ ∈ lw_tbl := List.mem_of_getElem? (i := 38) (by decide +kernel)
theorem wd_39 : Cond.selects "BunchNotesModel" ⟨"BunchNotesModel", "numberHere", "()I"⟩ ⟨"BunchNotesModel", "numberHere", "()I"⟩ ∈ lw_tbl := List.mem_of_getElem? (i := 39) (by decide +kernel)
theorem wd_40 : Cond.selects "BunchNotesModel" ⟨"BunchNotesModel", "otherNode", "()Z"⟩ ⟨"BunchNotesModel", "otherNode", "()Z"⟩ ∈ lw_tbl := List.mem_of_getElem? (i := 40) (by decide +kernel)
theorem wd_41 : Cond.selects "BunchNotesModel" ⟨"BunchNotesModel", "tellsNet", "()V"⟩ ⟨"BunchNotesModel", "tellsNet", "()V"⟩ ∈ lw_tbl := List.mem_of_getElem? (i := 41) (by decide +kernel)
theorem wd_42 : Cond.selects "BunchNotesModel" ⟨"BunchNotesModel", "tellsLink", "()V"⟩ ⟨"BunchNotesModel", "tellsLink", "()V"⟩ ∈ lw_tbl := List.mem_of_getElem? (i := 42) (by decide +kernel)
theorem wd_43 : Cond.selects "BunchNotesModel" ⟨"BunchNotesModel", "does", "(I)V"⟩ ⟨"BunchNotesModel", "does", "(I)V"⟩ ∈ lw_tbl := List.mem_of_getElem? (i := 43) (by decide +kernel)
theorem wd_44 : Cond.selects "BunchNotesModel" ⟨"BunchNotesModel", "lies", "(III)V"⟩ ⟨"BunchNotesModel", "lies", "(III)V"⟩ ∈ lw_tbl := List.mem_of_getElem? (i := 44) (by decide +kernel)
theorem wd_45 : Cond.selects "BunchNotesModel" ⟨"BunchNotesModel", "pairOf", "(I)I"⟩ ⟨"BunchNotesModel", "pairOf", "(I)I"⟩ ∈ lw_tbl := List.mem_of_getElem? (i := 45) (by decide +kernel)
theorem wd_46 : Cond.selects "BunchNotesModel" ⟨"BunchNotesModel", "isNode", "(I)Z"⟩ ⟨"BunchNotesModel", "isNode", "(I)Z"⟩ ∈ lw_tbl := List.mem_of_getElem? (i := 46) (by decide +kernel)
theorem wd_47 : Cond.selects "BunchNotesModel" ⟨"BunchNotesModel", "finds", "(Z)V"⟩ ⟨"BunchNotesModel", "finds", "(Z)V"⟩ ∈ lw_tbl := List.mem_of_getElem? (i := 47) (by decide +kernel)
theorem wd_48 : Cond.selects "BunchNotesModel" ⟨"BunchNotesModel", "isWay", "(II)Z"⟩ ⟨"BunchNotesModel", "isWay", "(II)Z"⟩ ∈ lw_tbl := List.mem_of_getElem? (i := 48) (by decide +kernel)
theorem wd_49 : Cond.selects "BunchNotesModel" ⟨"BunchNotesModel", "nearestOf", "(II)I"⟩ ⟨"BunchNotesModel", "nearestOf", "(II)I"⟩ ∈ lw_tbl := List.mem_of_getElem? (i := 49) (by decide +kernel)
theorem wd_50 : Cond.selects "BunchNotesModel" ⟨"BunchNotesModel", "bunchOf", "(I)I"⟩ ⟨"BunchNotesModel", "bunchOf", "(I)I"⟩ ∈ lw_tbl := List.mem_of_getElem? (i := 50) (by decide +kernel)
theorem wd_51 : Cond.selects "BunchNotesModel" ⟨"BunchNotesModel", "isInBunch", "(II)Z"⟩ ⟨"BunchNotesModel", "isInBunch", "(II)Z"⟩ ∈ lw_tbl := List.mem_of_getElem? (i := 51) (by decide +kernel)
theorem wd_52 : Cond.selects "BunchNotesModel" ⟨"BunchNotesModel", "nextOf", "(II)I"⟩ ⟨"BunchNotesModel", "nextOf", "(II)I"⟩ ∈ lw_tbl := List.mem_of_getElem? (i := 52) (by decide +kernel)
theorem wd_53 : Cond.selects "BunchNotesModel" ⟨"BunchNotesModel", "length", "(II)I"⟩ ⟨"BunchNotesModel", "length", "(II)I"⟩ ∈ lw_tbl := List.mem_of_getElem? (i := 53) (by decide +kernel)
theorem wd_54 : Cond.selects "BunchNotesModel" ⟨"BunchNotesModel", "thins", "(I)V"⟩ ⟨"BunchNotesModel", "thins", "(I)V"⟩ ∈ lw_tbl := List.mem_of_getElem? (i := 54) (by decide +kernel)
theorem wd_55 : Cond.selects "BunchNotesModel" ⟨"BunchNotesModel", "takes", "(II)V"⟩ ⟨"BunchNotesModel", "takes", "(II)V"⟩ ∈ lw_tbl := List.mem_of_getElem? (i := 55) (by decide +kernel)
theorem wd_56 : Cond.selects "BunchNotesModel" ⟨"BunchNotesModel", "keepPast", "()V"⟩ ⟨"BunchNotesModel", "keepPast", "()V"⟩ ∈ lw_tbl := List.mem_of_getElem? (i := 56) (by decide +kernel)
theorem wd_57 : Cond.selects "BunchNotesModel" ⟨"BunchNotesModel", "copyRow", "(II)V"⟩ ⟨"BunchNotesModel", "copyRow", "(II)V"⟩ ∈ lw_tbl := List.mem_of_getElem? (i := 57) (by decide +kernel)
theorem wd_58 : Cond.selects "BunchNotesModel" ⟨"BunchNotesModel", "written", "()I"⟩ ⟨"BunchNotesModel", "written", "()I"⟩ ∈ lw_tbl := List.mem_of_getElem? (i := 58) (by decide +kernel)
theorem wd_59 : Cond.selects "BunchNotesModel" ⟨"BunchNotesModel", "isWritten", "(I)Z"⟩ ⟨"BunchNotesModel", "isWritten", "(I)Z"⟩ ∈ lw_tbl := List.mem_of_getElem? (i := 59) (by decide +kernel)
theorem wd_60 : Cond.selects "BunchNotesModel" ⟨"BunchNotesModel", "writes", "(I)V"⟩ ⟨"BunchNotesModel", "writes", "(I)V"⟩ ∈ lw_tbl := List.mem_of_getElem? (i := 60) (by decide +kernel)
theorem wd_61 : Cond.selects "BunchNotesModel" ⟨"BunchNotesModel", "freshens", "(I)V"⟩ ⟨"BunchNotesModel", "freshens", "(I)V"⟩ ∈ lw_tbl := List.mem_of_getElem? (i := 61) (by decide +kernel)
theorem wd_62 : Cond.selects "BunchNotesModel" ⟨"BunchNotesModel", "isFresh", "(I)Z"⟩ ⟨"BunchNotesModel", "isFresh", "(I)Z"⟩ ∈ lw_tbl := List.mem_of_getElem? (i := 62) (by decide +kernel)
theorem wd_63 : Cond.selects "BunchNotesModel" ⟨"BunchNotesModel", "tells", "(II)Z"⟩ ⟨"BunchNotesModel", "tells", "(II)Z"⟩ ∈ lw_tbl := List.mem_of_getElem? (i := 63) (by decide +kernel)
theorem wd_64 : Cond.selects "BunchNotesModel" ⟨"BunchNotesModel", "untold", "(II)Z"⟩ ⟨"BunchNotesModel", "untold", "(II)Z"⟩ ∈ lw_tbl := List.mem_of_getElem? (i := 64) (by decide +kernel)
theorem wd_65 : Cond.selects "BunchNotesModel" ⟨"BunchNotesModel", "parts", "()I"⟩ ⟨"BunchNotesModel", "parts", "()I"⟩ ∈ lw_tbl := List.mem_of_getElem? (i := 65) (by decide +kernel)
theorem wd_66 : Cond.selects "BunchNotesModel" ⟨"BunchNotesModel", "freshNotes", "()I"⟩ ⟨"BunchNotesModel", "freshNotes", "()I"⟩ ∈ lw_tbl := List.mem_of_getElem? (i := 66) (by decide +kernel)
theorem wd_67 : Cond.selects "BunchNotesModel" ⟨"BunchNotesModel", "inBunches", "()I"⟩ ⟨"BunchNotesModel", "inBunches", "()I"⟩ ∈ lw_tbl := List.mem_of_getElem? (i := 67) (by decide +kernel)
theorem wd_68 : Cond.selects "BunchNotesModel" ⟨"BunchNotesModel", "ofLevel", "(I)I"⟩ ⟨"BunchNotesModel", "ofLevel", "(I)I"⟩ ∈ lw_tbl := List.mem_of_getElem? (i := 68) (by decide +kernel)
theorem wd_69 : (Jvm.Cond.initialized "BunchNotesLaw") ∈ lw_tbl := List.mem_of_getElem? (i := 69) (by decide +kernel)
theorem wd_70 : (Jvm.Cond.initialized "BunchNotes") ∈ lw_tbl := List.mem_of_getElem? (i := 70) (by decide +kernel)
theorem wd_71 : (Jvm.Cond.initialized "BunchNotes$Net") ∈ lw_tbl := List.mem_of_getElem? (i := 71) (by decide +kernel)
theorem wd_72 : (Jvm.Cond.initialized "BunchNotes$Text") ∈ lw_tbl := List.mem_of_getElem? (i := 72) (by decide +kernel)
theorem wd_73 : (Jvm.Cond.initialized "BunchNotes$Past") ∈ lw_tbl := List.mem_of_getElem? (i := 73) (by decide +kernel)
theorem wd_74 : (Jvm.Cond.initialized "BunchNotes$Note") ∈ lw_tbl := List.mem_of_getElem? (i := 74) (by decide +kernel)
theorem wd_75 : (Jvm.Cond.initialized "BunchNotes$Slot") ∈ lw_tbl := List.mem_of_getElem? (i := 75) (by decide +kernel)
theorem wd_76 : (Jvm.Cond.initialized "BunchNotes$Far") ∈ lw_tbl := List.mem_of_getElem? (i := 76) (by decide +kernel)
theorem wd_77 : (Jvm.Cond.initialized "BunchNotes$Thinning") ∈ lw_tbl := List.mem_of_getElem? (i := 77) (by decide +kernel)
theorem wd_78 : (Jvm.Cond.initialized "BunchNotes$Telling") ∈ lw_tbl := List.mem_of_getElem? (i := 78) (by decide +kernel)
theorem wd_79 : (Jvm.Cond.initialized "BunchNotes$Peak") ∈ lw_tbl := List.mem_of_getElem? (i := 79) (by decide +kernel)
theorem wd_80 : (Jvm.Cond.initialized "BunchNotesModel") ∈ lw_tbl := List.mem_of_getElem? (i := 80) (by decide +kernel)
theorem wd_81 : (Jvm.Cond.initialized "java/lang/System") ∈ lw_tbl := List.mem_of_getElem? (i := 81) (by decide +kernel)
theorem wd_82 : (Jvm.Cond.initialized "java/lang/String") ∈ lw_tbl := List.mem_of_getElem? (i := 82) (by decide +kernel)
theorem wd_83 : (Jvm.Cond.initialized "java/lang/StringLatin1") ∈ lw_tbl := List.mem_of_getElem? (i := 83) (by decide +kernel)
theorem wd_84 : (Jvm.Cond.initialized "jdk/internal/util/Preconditions") ∈ lw_tbl := List.mem_of_getElem? (i := 84) (by decide +kernel)
theorem wd_85 : (Jvm.Cond.initialized "java/lang/StringUTF16") ∈ lw_tbl := List.mem_of_getElem? (i := 85) (by decide +kernel)
theorem wd_86 : (Jvm.Cond.initialized "java/util/Arrays") ∈ lw_tbl := List.mem_of_getElem? (i := 86) (by decide +kernel)
theorem wd_87 : (Jvm.Cond.initialized "java/lang/Math") ∈ lw_tbl := List.mem_of_getElem? (i := 87) (by decide +kernel)
theorem wd_88 : (Jvm.Cond.initialized "java/lang/Integer") ∈ lw_tbl := List.mem_of_getElem? (i := 88) (by decide +kernel)
theorem wd_89 : (Jvm.Cond.classLink "BunchNotesLaw" (7 : Nat) "BunchNotes") ∈ lw_tbl := List.mem_of_getElem? (i := 89) (by decide +kernel)
theorem wd_90 : (Jvm.Cond.instantiable "BunchNotes" (11 : Nat)) ∈ lw_tbl := List.mem_of_getElem? (i := 90) (by decide +kernel)
theorem wd_91 : (Jvm.Cond.methodLink "BunchNotesLaw" (9 : Nat) ({ cls := "BunchNotes", name := "<init>", desc := "()V" } : Jvm.MethodName)) ∈ lw_tbl := List.mem_of_getElem? (i := 91) (by decide +kernel)
theorem wd_92 : (Jvm.Cond.instanceMethod ({ cls := "BunchNotes", name := "<init>", desc := "()V" } : Jvm.MethodName)) ∈ lw_tbl := List.mem_of_getElem? (i := 92) (by decide +kernel)
theorem wd_93 : (Jvm.Cond.code ({ cls := "BunchNotes", name := "<init>", desc := "()V" } : Jvm.MethodName) prog_1_method_1_code (2 : Nat) (Option.none : Option Jvm.ClassFile.FieldType)) ∈ lw_tbl := List.mem_of_getElem? (i := 93) (by decide +kernel)
theorem wd_94 : (Jvm.Cond.methodLink "BunchNotes" (1 : Nat) ({ cls := "java/lang/Object", name := "<init>", desc := "()V" } : Jvm.MethodName)) ∈ lw_tbl := List.mem_of_getElem? (i := 94) (by decide +kernel)
theorem wd_95 : (Jvm.Cond.instanceMethod ({ cls := "java/lang/Object", name := "<init>", desc := "()V" } : Jvm.MethodName)) ∈ lw_tbl := List.mem_of_getElem? (i := 95) (by decide +kernel)
theorem wd_96 : (Jvm.Cond.code ({ cls := "java/lang/Object", name := "<init>", desc := "()V" } : Jvm.MethodName) object_method_1_code (1 : Nat) (Option.none : Option Jvm.ClassFile.FieldType)) ∈ lw_tbl := List.mem_of_getElem? (i := 96) (by decide +kernel)
theorem wd_97 : (Jvm.Cond.classLink "BunchNotes" (7 : Nat) "BunchNotes$Net") ∈ lw_tbl := List.mem_of_getElem? (i := 97) (by decide +kernel)
theorem wd_98 : (Jvm.Cond.instantiable "BunchNotes$Net" (6 : Nat)) ∈ lw_tbl := List.mem_of_getElem? (i := 98) (by decide +kernel)
theorem wd_99 : (Jvm.Cond.methodLink "BunchNotes" (9 : Nat) ({ cls := "BunchNotes$Net", name := "<init>", desc := "()V" } : Jvm.MethodName)) ∈ lw_tbl := List.mem_of_getElem? (i := 99) (by decide +kernel)
theorem wd_100 : (Jvm.Cond.instanceMethod ({ cls := "BunchNotes$Net", name := "<init>", desc := "()V" } : Jvm.MethodName)) ∈ lw_tbl := List.mem_of_getElem? (i := 100) (by decide +kernel)
theorem wd_101 : (Jvm.Cond.code ({ cls := "BunchNotes$Net", name := "<init>", desc := "()V" } : Jvm.MethodName) prog_3_method_1_code (1 : Nat) (Option.none : Option Jvm.ClassFile.FieldType)) ∈ lw_tbl := List.mem_of_getElem? (i := 101) (by decide +kernel)
theorem wd_102 : (Jvm.Cond.methodLink "BunchNotes$Net" (3 : Nat) ({ cls := "java/lang/Object", name := "<init>", desc := "()V" } : Jvm.MethodName)) ∈ lw_tbl := List.mem_of_getElem? (i := 102) (by decide +kernel)
theorem wd_103 : (Jvm.Cond.fieldLink "BunchNotes$Net" (9 : Nat) "BunchNotes$Net" "nodes" "I") ∈ lw_tbl := List.mem_of_getElem? (i := 103) (by decide +kernel)
theorem wd_104 : (Jvm.Cond.fieldLink "BunchNotes$Far" (25 : Nat) "BunchNotes$Net" "nodes" "I") ∈ lw_tbl := List.mem_of_getElem? (i := 104) (by decide +kernel)
theorem wd_105 : (Jvm.Cond.fieldLink "BunchNotes$Thinning" (41 : Nat) "BunchNotes$Net" "nodes" "I") ∈ lw_tbl := List.mem_of_getElem? (i := 105) (by decide +kernel)
theorem wd_106 : (Jvm.Cond.fieldLink "BunchNotes$Text" (75 : Nat) "BunchNotes$Net" "nodes" "I") ∈ lw_tbl := List.mem_of_getElem? (i := 106) (by decide +kernel)
theorem wd_107 : (Jvm.Cond.fieldLink "BunchNotes$Note" (52 : Nat) "BunchNotes$Net" "nodes" "I") ∈ lw_tbl := List.mem_of_getElem? (i := 107) (by decide +kernel)
theorem wd_108 : (Jvm.Cond.fieldLink "BunchNotes" (152 : Nat) "BunchNotes$Net" "nodes" "I") ∈ lw_tbl := List.mem_of_getElem? (i := 108) (by decide +kernel)
theorem wd_109 : (Jvm.Cond.fieldLink "BunchNotes$Net" (36 : Nat) "BunchNotes$Net" "links" "I") ∈ lw_tbl := List.mem_of_getElem? (i := 109) (by decide +kernel)
theorem wd_110 : (Jvm.Cond.fieldLink "BunchNotes" (142 : Nat) "BunchNotes$Net" "links" "I") ∈ lw_tbl := List.mem_of_getElem? (i := 110) (by decide +kernel)
theorem wd_111 : (Jvm.Cond.fieldLink "BunchNotes$Net" (15 : Nat) "BunchNotes$Net" "draw" "I") ∈ lw_tbl := List.mem_of_getElem? (i := 111) (by decide +kernel)
theorem wd_112 : (Jvm.Cond.fieldLink "BunchNotes" (281 : Nat) "BunchNotes$Net" "draw" "I") ∈ lw_tbl := List.mem_of_getElem? (i := 112) (by decide +kernel)
theorem wd_113 : (Jvm.Cond.fieldLink "BunchNotes$Net" (18 : Nat) "BunchNotes$Net" "version" "I") ∈ lw_tbl := List.mem_of_getElem? (i := 113) (by decide +kernel)
theorem wd_114 : (Jvm.Cond.fieldLink "BunchNotes$Far" (20 : Nat) "BunchNotes$Net" "version" "I") ∈ lw_tbl := List.mem_of_getElem? (i := 114) (by decide +kernel)
theorem wd_115 : (Jvm.Cond.fieldLink "BunchNotes$Thinning" (29 : Nat) "BunchNotes$Net" "version" "I") ∈ lw_tbl := List.mem_of_getElem? (i := 115) (by decide +kernel)
theorem wd_116 : (Jvm.Cond.fieldLink "BunchNotes$Net" (21 : Nat) "BunchNotes$Net" "lengths" "[I") ∈ lw_tbl := List.mem_of_getElem? (i := 116) (by decide +kernel)
theorem wd_117 : (Jvm.Cond.fieldLink "BunchNotes$Net" (25 : Nat) "BunchNotes$Net" "levels" "[I") ∈ lw_tbl := List.mem_of_getElem? (i := 117) (by decide +kernel)
theorem wd_118 : (Jvm.Cond.lays "BunchNotes$Net" "BunchNotes$Net" "nodes" "I") ∈ lw_tbl := List.mem_of_getElem? (i := 118) (by decide +kernel)
theorem wd_119 : (Jvm.Cond.soleField "BunchNotes$Net" "nodes") ∈ lw_tbl := List.mem_of_getElem? (i := 119) (by decide +kernel)
theorem wd_120 : (Jvm.Cond.lays "BunchNotes$Net" "BunchNotes$Net" "links" "I") ∈ lw_tbl := List.mem_of_getElem? (i := 120) (by decide +kernel)
theorem wd_121 : (Jvm.Cond.soleField "BunchNotes$Net" "links") ∈ lw_tbl := List.mem_of_getElem? (i := 121) (by decide +kernel)
theorem wd_122 : (Jvm.Cond.lays "BunchNotes$Net" "BunchNotes$Net" "draw" "I") ∈ lw_tbl := List.mem_of_getElem? (i := 122) (by decide +kernel)
theorem wd_123 : (Jvm.Cond.soleField "BunchNotes$Net" "draw") ∈ lw_tbl := List.mem_of_getElem? (i := 123) (by decide +kernel)
theorem wd_124 : (Jvm.Cond.lays "BunchNotes$Net" "BunchNotes$Net" "version" "I") ∈ lw_tbl := List.mem_of_getElem? (i := 124) (by decide +kernel)
theorem wd_125 : (Jvm.Cond.soleField "BunchNotes$Net" "version") ∈ lw_tbl := List.mem_of_getElem? (i := 125) (by decide +kernel)
theorem wd_126 : (Jvm.Cond.laysFinal "BunchNotes$Net" "BunchNotes$Net" "lengths" "[I") ∈ lw_tbl := List.mem_of_getElem? (i := 126) (by decide +kernel)
theorem wd_127 : (Jvm.Cond.soleField "BunchNotes$Net" "lengths") ∈ lw_tbl := List.mem_of_getElem? (i := 127) (by decide +kernel)
theorem wd_128 : (Jvm.Cond.laysFinal "BunchNotes$Net" "BunchNotes$Net" "levels" "[I") ∈ lw_tbl := List.mem_of_getElem? (i := 128) (by decide +kernel)
theorem wd_129 : (Jvm.Cond.soleField "BunchNotes$Net" "levels") ∈ lw_tbl := List.mem_of_getElem? (i := 129) (by decide +kernel)
theorem wd_130 : (Jvm.Cond.superclass "BunchNotes$Net" "java/lang/Object") ∈ lw_tbl := List.mem_of_getElem? (i := 130) (by decide +kernel)
theorem wd_131 : (Jvm.Cond.arrayClass Jvm.ClassFile.FieldType.int) ∈ lw_tbl := List.mem_of_getElem? (i := 131) (by decide +kernel)
theorem wd_132 : (Jvm.Cond.classLink "BunchNotes" (19 : Nat) "BunchNotes$Text") ∈ lw_tbl := List.mem_of_getElem? (i := 132) (by decide +kernel)
theorem wd_133 : (Jvm.Cond.instantiable "BunchNotes$Text" (7 : Nat)) ∈ lw_tbl := List.mem_of_getElem? (i := 133) (by decide +kernel)
theorem wd_134 : (Jvm.Cond.methodLink "BunchNotes" (21 : Nat) ({ cls := "BunchNotes$Text", name := "<init>", desc := "()V" } : Jvm.MethodName)) ∈ lw_tbl := List.mem_of_getElem? (i := 134) (by decide +kernel)
theorem wd_135 : (Jvm.Cond.instanceMethod ({ cls := "BunchNotes$Text", name := "<init>", desc := "()V" } : Jvm.MethodName)) ∈ lw_tbl := List.mem_of_getElem? (i := 135) (by decide +kernel)
theorem wd_136 : (Jvm.Cond.code ({ cls := "BunchNotes$Text", name := "<init>", desc := "()V" } : Jvm.MethodName) prog_9_method_1_code (1 : Nat) (Option.none : Option Jvm.ClassFile.FieldType)) ∈ lw_tbl := List.mem_of_getElem? (i := 136) (by decide +kernel)
theorem wd_137 : (Jvm.Cond.methodLink "BunchNotes$Text" (3 : Nat) ({ cls := "java/lang/Object", name := "<init>", desc := "()V" } : Jvm.MethodName)) ∈ lw_tbl := List.mem_of_getElem? (i := 137) (by decide +kernel)
theorem wd_138 : (Jvm.Cond.fieldLink "BunchNotes$Text" (15 : Nat) "BunchNotes$Text" "size" "I") ∈ lw_tbl := List.mem_of_getElem? (i := 138) (by decide +kernel)
theorem wd_139 : (Jvm.Cond.fieldLink "BunchNotes" (83 : Nat) "BunchNotes$Text" "size" "I") ∈ lw_tbl := List.mem_of_getElem? (i := 139) (by decide +kernel)
theorem wd_140 : (Jvm.Cond.fieldLink "BunchNotes$Text" (19 : Nat) "BunchNotes$Text" "clauses" "I") ∈ lw_tbl := List.mem_of_getElem? (i := 140) (by decide +kernel)
theorem wd_141 : (Jvm.Cond.fieldLink "BunchNotes" (110 : Nat) "BunchNotes$Text" "clauses" "I") ∈ lw_tbl := List.mem_of_getElem? (i := 141) (by decide +kernel)
theorem wd_142 : (Jvm.Cond.fieldLink "BunchNotes$Text" (22 : Nat) "BunchNotes$Text" "startsAnew" "Z") ∈ lw_tbl := List.mem_of_getElem? (i := 142) (by decide +kernel)
theorem wd_143 : (Jvm.Cond.fieldLink "BunchNotes" (99 : Nat) "BunchNotes$Text" "startsAnew" "Z") ∈ lw_tbl := List.mem_of_getElem? (i := 143) (by decide +kernel)
theorem wd_144 : (Jvm.Cond.fieldLink "BunchNotes$Text" (39 : Nat) "BunchNotes$Text" "kind" "I") ∈ lw_tbl := List.mem_of_getElem? (i := 144) (by decide +kernel)
theorem wd_145 : (Jvm.Cond.fieldLink "BunchNotes$Text" (36 : Nat) "BunchNotes$Text" "begin" "I") ∈ lw_tbl := List.mem_of_getElem? (i := 145) (by decide +kernel)
theorem wd_146 : (Jvm.Cond.fieldLink "BunchNotes$Text" (26 : Nat) "BunchNotes$Text" "end" "I") ∈ lw_tbl := List.mem_of_getElem? (i := 146) (by decide +kernel)
theorem wd_147 : (Jvm.Cond.fieldLink "BunchNotes$Text" (9 : Nat) "BunchNotes$Text" "letters" "[I") ∈ lw_tbl := List.mem_of_getElem? (i := 147) (by decide +kernel)
theorem wd_148 : (Jvm.Cond.lays "BunchNotes$Text" "BunchNotes$Text" "size" "I") ∈ lw_tbl := List.mem_of_getElem? (i := 148) (by decide +kernel)
theorem wd_149 : (Jvm.Cond.soleField "BunchNotes$Text" "size") ∈ lw_tbl := List.mem_of_getElem? (i := 149) (by decide +kernel)
theorem wd_150 : (Jvm.Cond.lays "BunchNotes$Text" "BunchNotes$Text" "clauses" "I") ∈ lw_tbl := List.mem_of_getElem? (i := 150) (by decide +kernel)
theorem wd_151 : (Jvm.Cond.soleField "BunchNotes$Text" "clauses") ∈ lw_tbl := List.mem_of_getElem? (i := 151) (by decide +kernel)
theorem wd_152 : (Jvm.Cond.lays "BunchNotes$Text" "BunchNotes$Text" "startsAnew" "Z") ∈ lw_tbl := List.mem_of_getElem? (i := 152) (by decide +kernel)
theorem wd_153 : (Jvm.Cond.soleField "BunchNotes$Text" "startsAnew") ∈ lw_tbl := List.mem_of_getElem? (i := 153) (by decide +kernel)
theorem wd_154 : (Jvm.Cond.lays "BunchNotes$Text" "BunchNotes$Text" "kind" "I") ∈ lw_tbl := List.mem_of_getElem? (i := 154) (by decide +kernel)
theorem wd_155 : (Jvm.Cond.soleField "BunchNotes$Text" "kind") ∈ lw_tbl := List.mem_of_getElem? (i := 155) (by decide +kernel)
theorem wd_156 : (Jvm.Cond.lays "BunchNotes$Text" "BunchNotes$Text" "begin" "I") ∈ lw_tbl := List.mem_of_getElem? (i := 156) (by decide +kernel)
theorem wd_157 : (Jvm.Cond.soleField "BunchNotes$Text" "begin") ∈ lw_tbl := List.mem_of_getElem? (i := 157) (by decide +kernel)
theorem wd_158 : (Jvm.Cond.lays "BunchNotes$Text" "BunchNotes$Text" "end" "I") ∈ lw_tbl := List.mem_of_getElem? (i := 158) (by decide +kernel)
theorem wd_159 : (Jvm.Cond.soleField "BunchNotes$Text" "end") ∈ lw_tbl := List.mem_of_getElem? (i := 159) (by decide +kernel)
theorem wd_160 : (Jvm.Cond.laysFinal "BunchNotes$Text" "BunchNotes$Text" "letters" "[I") ∈ lw_tbl := List.mem_of_getElem? (i := 160) (by decide +kernel)
theorem wd_161 : (Jvm.Cond.soleField "BunchNotes$Text" "letters") ∈ lw_tbl := List.mem_of_getElem? (i := 161) (by decide +kernel)
theorem wd_162 : (Jvm.Cond.superclass "BunchNotes$Text" "java/lang/Object") ∈ lw_tbl := List.mem_of_getElem? (i := 162) (by decide +kernel)
theorem wd_163 : (Jvm.Cond.classLink "BunchNotes" (26 : Nat) "BunchNotes$Past") ∈ lw_tbl := List.mem_of_getElem? (i := 163) (by decide +kernel)
theorem wd_164 : (Jvm.Cond.instantiable "BunchNotes$Past" (3 : Nat)) ∈ lw_tbl := List.mem_of_getElem? (i := 164) (by decide +kernel)
theorem wd_165 : (Jvm.Cond.methodLink "BunchNotes" (28 : Nat) ({ cls := "BunchNotes$Past", name := "<init>", desc := "()V" } : Jvm.MethodName)) ∈ lw_tbl := List.mem_of_getElem? (i := 165) (by decide +kernel)
theorem wd_166 : (Jvm.Cond.instanceMethod ({ cls := "BunchNotes$Past", name := "<init>", desc := "()V" } : Jvm.MethodName)) ∈ lw_tbl := List.mem_of_getElem? (i := 166) (by decide +kernel)
theorem wd_167 : (Jvm.Cond.code ({ cls := "BunchNotes$Past", name := "<init>", desc := "()V" } : Jvm.MethodName) prog_5_method_1_code (2 : Nat) (Option.none : Option Jvm.ClassFile.FieldType)) ∈ lw_tbl := List.mem_of_getElem? (i := 167) (by decide +kernel)
theorem wd_168 : (Jvm.Cond.methodLink "BunchNotes$Past" (3 : Nat) ({ cls := "java/lang/Object", name := "<init>", desc := "()V" } : Jvm.MethodName)) ∈ lw_tbl := List.mem_of_getElem? (i := 168) (by decide +kernel)
theorem wd_169 : (Jvm.Cond.classLink "BunchNotes$Past" (9 : Nat) "BunchNotes$Net") ∈ lw_tbl := List.mem_of_getElem? (i := 169) (by decide +kernel)
theorem wd_170 : (Jvm.Cond.arrayOver (Jvm.ClassFile.FieldType.object "BunchNotes$Net")) ∈ lw_tbl := List.mem_of_getElem? (i := 170) (by decide +kernel)
theorem wd_171 : (Jvm.Cond.methodLink "BunchNotes$Past" (17 : Nat) ({ cls := "BunchNotes$Net", name := "<init>", desc := "()V" } : Jvm.MethodName)) ∈ lw_tbl := List.mem_of_getElem? (i := 171) (by decide +kernel)
theorem wd_172 : (Jvm.Cond.fieldLink "BunchNotes$Past" (26 : Nat) "BunchNotes$Past" "size" "I") ∈ lw_tbl := List.mem_of_getElem? (i := 172) (by decide +kernel)
theorem wd_173 : (Jvm.Cond.fieldLink "BunchNotes" (106 : Nat) "BunchNotes$Past" "size" "I") ∈ lw_tbl := List.mem_of_getElem? (i := 173) (by decide +kernel)
theorem wd_174 : (Jvm.Cond.fieldLink "BunchNotes$Past" (18 : Nat) "BunchNotes$Past" "top" "I") ∈ lw_tbl := List.mem_of_getElem? (i := 174) (by decide +kernel)
theorem wd_175 : (Jvm.Cond.fieldLink "BunchNotes$Past" (11 : Nat) "BunchNotes$Past" "ring" "[LBunchNotes$Net;") ∈ lw_tbl := List.mem_of_getElem? (i := 175) (by decide +kernel)
theorem wd_176 : (Jvm.Cond.lays "BunchNotes$Past" "BunchNotes$Past" "size" "I") ∈ lw_tbl := List.mem_of_getElem? (i := 176) (by decide +kernel)
theorem wd_177 : (Jvm.Cond.soleField "BunchNotes$Past" "size") ∈ lw_tbl := List.mem_of_getElem? (i := 177) (by decide +kernel)
theorem wd_178 : (Jvm.Cond.lays "BunchNotes$Past" "BunchNotes$Past" "top" "I") ∈ lw_tbl := List.mem_of_getElem? (i := 178) (by decide +kernel)
theorem wd_179 : (Jvm.Cond.soleField "BunchNotes$Past" "top") ∈ lw_tbl := List.mem_of_getElem? (i := 179) (by decide +kernel)
theorem wd_180 : (Jvm.Cond.laysFinal "BunchNotes$Past" "BunchNotes$Past" "ring" "[LBunchNotes$Net;") ∈ lw_tbl := List.mem_of_getElem? (i := 180) (by decide +kernel)
theorem wd_181 : (Jvm.Cond.soleField "BunchNotes$Past" "ring") ∈ lw_tbl := List.mem_of_getElem? (i := 181) (by decide +kernel)
theorem wd_182 : (Jvm.Cond.superclass "BunchNotes$Past" "java/lang/Object") ∈ lw_tbl := List.mem_of_getElem? (i := 182) (by decide +kernel)
theorem wd_183 : (Jvm.Cond.methodLink "BunchNotes" (33 : Nat) ({ cls := "BunchNotes", name := "blankNotes", desc := "()[LBunchNotes$Note;" } : Jvm.MethodName)) ∈ lw_tbl := List.mem_of_getElem? (i := 183) (by decide +kernel)
theorem wd_184 : (Jvm.Cond.static ({ cls := "BunchNotes", name := "blankNotes", desc := "()[LBunchNotes$Note;" } : Jvm.MethodName)) ∈ lw_tbl := List.mem_of_getElem? (i := 184) (by decide +kernel)
theorem wd_185 : (Jvm.Cond.code ({ cls := "BunchNotes", name := "blankNotes", desc := "()[LBunchNotes$Note;" } : Jvm.MethodName) prog_1_method_32_code (2 : Nat) (Option.some (Jvm.ClassFile.FieldType.array (Jvm.ClassFile.FieldType.object "BunchNotes$Note")))) ∈ lw_tbl := List.mem_of_getElem? (i := 185) (by decide +kernel)
theorem wd_186 : (Jvm.Cond.classLink "BunchNotes" (41 : Nat) "BunchNotes$Note") ∈ lw_tbl := List.mem_of_getElem? (i := 186) (by decide +kernel)
theorem wd_187 : (Jvm.Cond.arrayOver (Jvm.ClassFile.FieldType.object "BunchNotes$Note")) ∈ lw_tbl := List.mem_of_getElem? (i := 187) (by decide +kernel)
theorem wd_188 : (Jvm.Cond.instantiable "BunchNotes$Note" (5 : Nat)) ∈ lw_tbl := List.mem_of_getElem? (i := 188) (by decide +kernel)
theorem wd_189 : (Jvm.Cond.methodLink "BunchNotes" (43 : Nat) ({ cls := "BunchNotes$Note", name := "<init>", desc := "()V" } : Jvm.MethodName)) ∈ lw_tbl := List.mem_of_getElem? (i := 189) (by decide +kernel)
theorem wd_190 : (Jvm.Cond.instanceMethod ({ cls := "BunchNotes$Note", name := "<init>", desc := "()V" } : Jvm.MethodName)) ∈ lw_tbl := List.mem_of_getElem? (i := 190) (by decide +kernel)
theorem wd_191 : (Jvm.Cond.code ({ cls := "BunchNotes$Note", name := "<init>", desc := "()V" } : Jvm.MethodName) prog_4_method_1_code (1 : Nat) (Option.none : Option Jvm.ClassFile.FieldType)) ∈ lw_tbl := List.mem_of_getElem? (i := 191) (by decide +kernel)
theorem wd_192 : (Jvm.Cond.methodLink "BunchNotes$Note" (3 : Nat) ({ cls := "java/lang/Object", name := "<init>", desc := "()V" } : Jvm.MethodName)) ∈ lw_tbl := List.mem_of_getElem? (i := 192) (by decide +kernel)
theorem wd_193 : (Jvm.Cond.fieldLink "BunchNotes$Telling" (25 : Nat) "BunchNotes$Note" "written" "Z") ∈ lw_tbl := List.mem_of_getElem? (i := 193) (by decide +kernel)
theorem wd_194 : (Jvm.Cond.fieldLink "BunchNotes$Note" (25 : Nat) "BunchNotes$Note" "written" "Z") ∈ lw_tbl := List.mem_of_getElem? (i := 194) (by decide +kernel)
theorem wd_195 : (Jvm.Cond.fieldLink "BunchNotes" (232 : Nat) "BunchNotes$Note" "written" "Z") ∈ lw_tbl := List.mem_of_getElem? (i := 195) (by decide +kernel)
theorem wd_196 : (Jvm.Cond.fieldLink "BunchNotes$Note" (33 : Nat) "BunchNotes$Note" "bunch" "I") ∈ lw_tbl := List.mem_of_getElem? (i := 196) (by decide +kernel)
theorem wd_197 : (Jvm.Cond.fieldLink "BunchNotes" (199 : Nat) "BunchNotes$Note" "bunch" "I") ∈ lw_tbl := List.mem_of_getElem? (i := 197) (by decide +kernel)
theorem wd_198 : (Jvm.Cond.fieldLink "BunchNotes$Note" (9 : Nat) "BunchNotes$Note" "nearestNodes" "[I") ∈ lw_tbl := List.mem_of_getElem? (i := 198) (by decide +kernel)
theorem wd_199 : (Jvm.Cond.fieldLink "BunchNotes$Note" (15 : Nat) "BunchNotes$Note" "nearestFars" "[I") ∈ lw_tbl := List.mem_of_getElem? (i := 199) (by decide +kernel)
theorem wd_200 : (Jvm.Cond.fieldLink "BunchNotes$Note" (18 : Nat) "BunchNotes$Note" "fars" "[I") ∈ lw_tbl := List.mem_of_getElem? (i := 200) (by decide +kernel)
theorem wd_201 : (Jvm.Cond.lays "BunchNotes$Note" "BunchNotes$Note" "written" "Z") ∈ lw_tbl := List.mem_of_getElem? (i := 201) (by decide +kernel)
theorem wd_202 : (Jvm.Cond.soleField "BunchNotes$Note" "written") ∈ lw_tbl := List.mem_of_getElem? (i := 202) (by decide +kernel)
theorem wd_203 : (Jvm.Cond.lays "BunchNotes$Note" "BunchNotes$Note" "bunch" "I") ∈ lw_tbl := List.mem_of_getElem? (i := 203) (by decide +kernel)
theorem wd_204 : (Jvm.Cond.soleField "BunchNotes$Note" "bunch") ∈ lw_tbl := List.mem_of_getElem? (i := 204) (by decide +kernel)
theorem wd_205 : (Jvm.Cond.laysFinal "BunchNotes$Note" "BunchNotes$Note" "nearestNodes" "[I") ∈ lw_tbl := List.mem_of_getElem? (i := 205) (by decide +kernel)
theorem wd_206 : (Jvm.Cond.soleField "BunchNotes$Note" "nearestNodes") ∈ lw_tbl := List.mem_of_getElem? (i := 206) (by decide +kernel)
theorem wd_207 : (Jvm.Cond.laysFinal "BunchNotes$Note" "BunchNotes$Note" "nearestFars" "[I") ∈ lw_tbl := List.mem_of_getElem? (i := 207) (by decide +kernel)
theorem wd_208 : (Jvm.Cond.soleField "BunchNotes$Note" "nearestFars") ∈ lw_tbl := List.mem_of_getElem? (i := 208) (by decide +kernel)
theorem wd_209 : (Jvm.Cond.laysFinal "BunchNotes$Note" "BunchNotes$Note" "fars" "[I") ∈ lw_tbl := List.mem_of_getElem? (i := 209) (by decide +kernel)
theorem wd_210 : (Jvm.Cond.soleField "BunchNotes$Note" "fars") ∈ lw_tbl := List.mem_of_getElem? (i := 210) (by decide +kernel)
theorem wd_211 : (Jvm.Cond.superclass "BunchNotes$Note" "java/lang/Object") ∈ lw_tbl := List.mem_of_getElem? (i := 211) (by decide +kernel)
theorem wd_212 : (Jvm.Cond.classLink "BunchNotes" (48 : Nat) "BunchNotes$Slot") ∈ lw_tbl := List.mem_of_getElem? (i := 212) (by decide +kernel)
theorem wd_213 : (Jvm.Cond.arrayOver (Jvm.ClassFile.FieldType.object "BunchNotes$Slot")) ∈ lw_tbl := List.mem_of_getElem? (i := 213) (by decide +kernel)
theorem wd_214 : (Jvm.Cond.instantiable "BunchNotes$Slot" (3 : Nat)) ∈ lw_tbl := List.mem_of_getElem? (i := 214) (by decide +kernel)
theorem wd_215 : (Jvm.Cond.methodLink "BunchNotes" (54 : Nat) ({ cls := "BunchNotes$Slot", name := "<init>", desc := "()V" } : Jvm.MethodName)) ∈ lw_tbl := List.mem_of_getElem? (i := 215) (by decide +kernel)
theorem wd_216 : (Jvm.Cond.instanceMethod ({ cls := "BunchNotes$Slot", name := "<init>", desc := "()V" } : Jvm.MethodName)) ∈ lw_tbl := List.mem_of_getElem? (i := 216) (by decide +kernel)
theorem wd_217 : (Jvm.Cond.code ({ cls := "BunchNotes$Slot", name := "<init>", desc := "()V" } : Jvm.MethodName) prog_7_method_1_code (1 : Nat) (Option.none : Option Jvm.ClassFile.FieldType)) ∈ lw_tbl := List.mem_of_getElem? (i := 217) (by decide +kernel)
theorem wd_218 : (Jvm.Cond.methodLink "BunchNotes$Slot" (1 : Nat) ({ cls := "java/lang/Object", name := "<init>", desc := "()V" } : Jvm.MethodName)) ∈ lw_tbl := List.mem_of_getElem? (i := 218) (by decide +kernel)
theorem wd_219 : (Jvm.Cond.classLink "BunchNotes$Slot" (7 : Nat) "BunchNotes$Net") ∈ lw_tbl := List.mem_of_getElem? (i := 219) (by decide +kernel)
theorem wd_220 : (Jvm.Cond.methodLink "BunchNotes$Slot" (9 : Nat) ({ cls := "BunchNotes$Net", name := "<init>", desc := "()V" } : Jvm.MethodName)) ∈ lw_tbl := List.mem_of_getElem? (i := 220) (by decide +kernel)
theorem wd_221 : (Jvm.Cond.methodLinkNest "BunchNotes$Slot" (16 : Nat) ({ cls := "BunchNotes", name := "blankNotes", desc := "()[LBunchNotes$Note;" } : Jvm.MethodName) "BunchNotes") ∈ lw_tbl := List.mem_of_getElem? (i := 221) (by decide +kernel)
theorem wd_222 : (Jvm.Cond.fieldLink "BunchNotes" (168 : Nat) "BunchNotes$Slot" "filled" "Z") ∈ lw_tbl := List.mem_of_getElem? (i := 222) (by decide +kernel)
theorem wd_223 : (Jvm.Cond.fieldLink "BunchNotes$Slot" (10 : Nat) "BunchNotes$Slot" "net" "LBunchNotes$Net;") ∈ lw_tbl := List.mem_of_getElem? (i := 223) (by decide +kernel)
theorem wd_224 : (Jvm.Cond.fieldLink "BunchNotes" (171 : Nat) "BunchNotes$Slot" "net" "LBunchNotes$Net;") ∈ lw_tbl := List.mem_of_getElem? (i := 224) (by decide +kernel)
theorem wd_225 : (Jvm.Cond.fieldLink "BunchNotes$Slot" (22 : Nat) "BunchNotes$Slot" "notes" "[LBunchNotes$Note;") ∈ lw_tbl := List.mem_of_getElem? (i := 225) (by decide +kernel)
theorem wd_226 : (Jvm.Cond.fieldLink "BunchNotes" (174 : Nat) "BunchNotes$Slot" "notes" "[LBunchNotes$Note;") ∈ lw_tbl := List.mem_of_getElem? (i := 226) (by decide +kernel)
theorem wd_227 : (Jvm.Cond.lays "BunchNotes$Slot" "BunchNotes$Slot" "filled" "Z") ∈ lw_tbl := List.mem_of_getElem? (i := 227) (by decide +kernel)
theorem wd_228 : (Jvm.Cond.soleField "BunchNotes$Slot" "filled") ∈ lw_tbl := List.mem_of_getElem? (i := 228) (by decide +kernel)
theorem wd_229 : (Jvm.Cond.laysFinal "BunchNotes$Slot" "BunchNotes$Slot" "net" "LBunchNotes$Net;") ∈ lw_tbl := List.mem_of_getElem? (i := 229) (by decide +kernel)
theorem wd_230 : (Jvm.Cond.soleField "BunchNotes$Slot" "net") ∈ lw_tbl := List.mem_of_getElem? (i := 230) (by decide +kernel)
theorem wd_231 : (Jvm.Cond.laysFinal "BunchNotes$Slot" "BunchNotes$Slot" "notes" "[LBunchNotes$Note;") ∈ lw_tbl := List.mem_of_getElem? (i := 231) (by decide +kernel)
theorem wd_232 : (Jvm.Cond.soleField "BunchNotes$Slot" "notes") ∈ lw_tbl := List.mem_of_getElem? (i := 232) (by decide +kernel)
theorem wd_233 : (Jvm.Cond.superclass "BunchNotes$Slot" "java/lang/Object") ∈ lw_tbl := List.mem_of_getElem? (i := 233) (by decide +kernel)
theorem wd_234 : (Jvm.Cond.classLink "BunchNotes" (55 : Nat) "BunchNotes$Far") ∈ lw_tbl := List.mem_of_getElem? (i := 234) (by decide +kernel)
theorem wd_235 : (Jvm.Cond.instantiable "BunchNotes$Far" (3 : Nat)) ∈ lw_tbl := List.mem_of_getElem? (i := 235) (by decide +kernel)
theorem wd_236 : (Jvm.Cond.methodLink "BunchNotes" (57 : Nat) ({ cls := "BunchNotes$Far", name := "<init>", desc := "()V" } : Jvm.MethodName)) ∈ lw_tbl := List.mem_of_getElem? (i := 236) (by decide +kernel)
theorem wd_237 : (Jvm.Cond.instanceMethod ({ cls := "BunchNotes$Far", name := "<init>", desc := "()V" } : Jvm.MethodName)) ∈ lw_tbl := List.mem_of_getElem? (i := 237) (by decide +kernel)
theorem wd_238 : (Jvm.Cond.code ({ cls := "BunchNotes$Far", name := "<init>", desc := "()V" } : Jvm.MethodName) prog_2_method_1_code (1 : Nat) (Option.none : Option Jvm.ClassFile.FieldType)) ∈ lw_tbl := List.mem_of_getElem? (i := 238) (by decide +kernel)
theorem wd_239 : (Jvm.Cond.methodLink "BunchNotes$Far" (3 : Nat) ({ cls := "java/lang/Object", name := "<init>", desc := "()V" } : Jvm.MethodName)) ∈ lw_tbl := List.mem_of_getElem? (i := 239) (by decide +kernel)
theorem wd_240 : (Jvm.Cond.classLink "BunchNotes$Far" (9 : Nat) "[[I") ∈ lw_tbl := List.mem_of_getElem? (i := 240) (by decide +kernel)
theorem wd_241 : (Jvm.Cond.arrayOver (Jvm.ClassFile.FieldType.array Jvm.ClassFile.FieldType.int)) ∈ lw_tbl := List.mem_of_getElem? (i := 241) (by decide +kernel)
theorem wd_242 : (Jvm.Cond.fieldLink "BunchNotes$Far" (32 : Nat) "BunchNotes$Far" "nodes" "I") ∈ lw_tbl := List.mem_of_getElem? (i := 242) (by decide +kernel)
theorem wd_243 : (Jvm.Cond.fieldLink "BunchNotes$Far" (16 : Nat) "BunchNotes$Far" "seen" "I") ∈ lw_tbl := List.mem_of_getElem? (i := 243) (by decide +kernel)
theorem wd_244 : (Jvm.Cond.fieldLink "BunchNotes$Far" (11 : Nat) "BunchNotes$Far" "table" "[[I") ∈ lw_tbl := List.mem_of_getElem? (i := 244) (by decide +kernel)
theorem wd_245 : (Jvm.Cond.lays "BunchNotes$Far" "BunchNotes$Far" "nodes" "I") ∈ lw_tbl := List.mem_of_getElem? (i := 245) (by decide +kernel)
theorem wd_246 : (Jvm.Cond.soleField "BunchNotes$Far" "nodes") ∈ lw_tbl := List.mem_of_getElem? (i := 246) (by decide +kernel)
theorem wd_247 : (Jvm.Cond.lays "BunchNotes$Far" "BunchNotes$Far" "seen" "I") ∈ lw_tbl := List.mem_of_getElem? (i := 247) (by decide +kernel)
theorem wd_248 : (Jvm.Cond.soleField "BunchNotes$Far" "seen") ∈ lw_tbl := List.mem_of_getElem? (i := 248) (by decide +kernel)
theorem wd_249 : (Jvm.Cond.laysFinal "BunchNotes$Far" "BunchNotes$Far" "table" "[[I") ∈ lw_tbl := List.mem_of_getElem? (i := 249) (by decide +kernel)
theorem wd_250 : (Jvm.Cond.soleField "BunchNotes$Far" "table") ∈ lw_tbl := List.mem_of_getElem? (i := 250) (by decide +kernel)
theorem wd_251 : (Jvm.Cond.superclass "BunchNotes$Far" "java/lang/Object") ∈ lw_tbl := List.mem_of_getElem? (i := 251) (by decide +kernel)
theorem wd_252 : (Jvm.Cond.classLink "BunchNotes" (62 : Nat) "BunchNotes$Thinning") ∈ lw_tbl := List.mem_of_getElem? (i := 252) (by decide +kernel)
theorem wd_253 : (Jvm.Cond.instantiable "BunchNotes$Thinning" (7 : Nat)) ∈ lw_tbl := List.mem_of_getElem? (i := 253) (by decide +kernel)
theorem wd_254 : (Jvm.Cond.methodLink "BunchNotes" (64 : Nat) ({ cls := "BunchNotes$Thinning", name := "<init>", desc := "()V" } : Jvm.MethodName)) ∈ lw_tbl := List.mem_of_getElem? (i := 254) (by decide +kernel)
theorem wd_255 : (Jvm.Cond.instanceMethod ({ cls := "BunchNotes$Thinning", name := "<init>", desc := "()V" } : Jvm.MethodName)) ∈ lw_tbl := List.mem_of_getElem? (i := 255) (by decide +kernel)
theorem wd_256 : (Jvm.Cond.code ({ cls := "BunchNotes$Thinning", name := "<init>", desc := "()V" } : Jvm.MethodName) prog_10_method_1_code (1 : Nat) (Option.none : Option Jvm.ClassFile.FieldType)) ∈ lw_tbl := List.mem_of_getElem? (i := 256) (by decide +kernel)
theorem wd_257 : (Jvm.Cond.methodLink "BunchNotes$Thinning" (3 : Nat) ({ cls := "java/lang/Object", name := "<init>", desc := "()V" } : Jvm.MethodName)) ∈ lw_tbl := List.mem_of_getElem? (i := 257) (by decide +kernel)
theorem wd_258 : (Jvm.Cond.classLink "BunchNotes$Thinning" (9 : Nat) "BunchNotes$Far") ∈ lw_tbl := List.mem_of_getElem? (i := 258) (by decide +kernel)
theorem wd_259 : (Jvm.Cond.methodLink "BunchNotes$Thinning" (11 : Nat) ({ cls := "BunchNotes$Far", name := "<init>", desc := "()V" } : Jvm.MethodName)) ∈ lw_tbl := List.mem_of_getElem? (i := 259) (by decide +kernel)
theorem wd_260 : (Jvm.Cond.fieldLink "BunchNotes$Thinning" (65 : Nat) "BunchNotes$Thinning" "size" "I") ∈ lw_tbl := List.mem_of_getElem? (i := 260) (by decide +kernel)
theorem wd_261 : (Jvm.Cond.fieldLink "BunchNotes" (205 : Nat) "BunchNotes$Thinning" "size" "I") ∈ lw_tbl := List.mem_of_getElem? (i := 261) (by decide +kernel)
theorem wd_262 : (Jvm.Cond.fieldLink "BunchNotes$Thinning" (12 : Nat) "BunchNotes$Thinning" "far" "LBunchNotes$Far;") ∈ lw_tbl := List.mem_of_getElem? (i := 262) (by decide +kernel)
theorem wd_263 : (Jvm.Cond.fieldLink "BunchNotes" (302 : Nat) "BunchNotes$Thinning" "far" "LBunchNotes$Far;") ∈ lw_tbl := List.mem_of_getElem? (i := 263) (by decide +kernel)
theorem wd_264 : (Jvm.Cond.fieldLink "BunchNotes$Thinning" (25 : Nat) "BunchNotes$Thinning" "seen" "I") ∈ lw_tbl := List.mem_of_getElem? (i := 264) (by decide +kernel)
theorem wd_265 : (Jvm.Cond.fieldLink "BunchNotes$Thinning" (34 : Nat) "BunchNotes$Thinning" "times" "I") ∈ lw_tbl := List.mem_of_getElem? (i := 265) (by decide +kernel)
theorem wd_266 : (Jvm.Cond.fieldLink "BunchNotes$Thinning" (48 : Nat) "BunchNotes$Thinning" "links" "I") ∈ lw_tbl := List.mem_of_getElem? (i := 266) (by decide +kernel)
theorem wd_267 : (Jvm.Cond.fieldLink "BunchNotes$Thinning" (18 : Nat) "BunchNotes$Thinning" "order" "[I") ∈ lw_tbl := List.mem_of_getElem? (i := 267) (by decide +kernel)
theorem wd_268 : (Jvm.Cond.fieldLink "BunchNotes$Thinning" (22 : Nat) "BunchNotes$Thinning" "taken" "[I") ∈ lw_tbl := List.mem_of_getElem? (i := 268) (by decide +kernel)
theorem wd_269 : (Jvm.Cond.lays "BunchNotes$Thinning" "BunchNotes$Thinning" "size" "I") ∈ lw_tbl := List.mem_of_getElem? (i := 269) (by decide +kernel)
theorem wd_270 : (Jvm.Cond.soleField "BunchNotes$Thinning" "size") ∈ lw_tbl := List.mem_of_getElem? (i := 270) (by decide +kernel)
theorem wd_271 : (Jvm.Cond.laysFinal "BunchNotes$Thinning" "BunchNotes$Thinning" "far" "LBunchNotes$Far;") ∈ lw_tbl := List.mem_of_getElem? (i := 271) (by decide +kernel)
theorem wd_272 : (Jvm.Cond.soleField "BunchNotes$Thinning" "far") ∈ lw_tbl := List.mem_of_getElem? (i := 272) (by decide +kernel)
theorem wd_273 : (Jvm.Cond.lays "BunchNotes$Thinning" "BunchNotes$Thinning" "seen" "I") ∈ lw_tbl := List.mem_of_getElem? (i := 273) (by decide +kernel)
theorem wd_274 : (Jvm.Cond.soleField "BunchNotes$Thinning" "seen") ∈ lw_tbl := List.mem_of_getElem? (i := 274) (by decide +kernel)
theorem wd_275 : (Jvm.Cond.lays "BunchNotes$Thinning" "BunchNotes$Thinning" "times" "I") ∈ lw_tbl := List.mem_of_getElem? (i := 275) (by decide +kernel)
theorem wd_276 : (Jvm.Cond.soleField "BunchNotes$Thinning" "times") ∈ lw_tbl := List.mem_of_getElem? (i := 276) (by decide +kernel)
theorem wd_277 : (Jvm.Cond.lays "BunchNotes$Thinning" "BunchNotes$Thinning" "links" "I") ∈ lw_tbl := List.mem_of_getElem? (i := 277) (by decide +kernel)
theorem wd_278 : (Jvm.Cond.soleField "BunchNotes$Thinning" "links") ∈ lw_tbl := List.mem_of_getElem? (i := 278) (by decide +kernel)
theorem wd_279 : (Jvm.Cond.laysFinal "BunchNotes$Thinning" "BunchNotes$Thinning" "order" "[I") ∈ lw_tbl := List.mem_of_getElem? (i := 279) (by decide +kernel)
theorem wd_280 : (Jvm.Cond.soleField "BunchNotes$Thinning" "order") ∈ lw_tbl := List.mem_of_getElem? (i := 280) (by decide +kernel)
theorem wd_281 : (Jvm.Cond.laysFinal "BunchNotes$Thinning" "BunchNotes$Thinning" "taken" "[I") ∈ lw_tbl := List.mem_of_getElem? (i := 281) (by decide +kernel)
theorem wd_282 : (Jvm.Cond.soleField "BunchNotes$Thinning" "taken") ∈ lw_tbl := List.mem_of_getElem? (i := 282) (by decide +kernel)
theorem wd_283 : (Jvm.Cond.superclass "BunchNotes$Thinning" "java/lang/Object") ∈ lw_tbl := List.mem_of_getElem? (i := 283) (by decide +kernel)
theorem wd_284 : (Jvm.Cond.classLink "BunchNotes" (69 : Nat) "BunchNotes$Telling") ∈ lw_tbl := List.mem_of_getElem? (i := 284) (by decide +kernel)
theorem wd_285 : (Jvm.Cond.instantiable "BunchNotes$Telling" (5 : Nat)) ∈ lw_tbl := List.mem_of_getElem? (i := 285) (by decide +kernel)
theorem wd_286 : (Jvm.Cond.methodLinkNest "BunchNotes" (71 : Nat) ({ cls := "BunchNotes$Telling", name := "<init>", desc := "()V" } : Jvm.MethodName) "BunchNotes") ∈ lw_tbl := List.mem_of_getElem? (i := 286) (by decide +kernel)
theorem wd_287 : (Jvm.Cond.instanceMethod ({ cls := "BunchNotes$Telling", name := "<init>", desc := "()V" } : Jvm.MethodName)) ∈ lw_tbl := List.mem_of_getElem? (i := 287) (by decide +kernel)
theorem wd_288 : (Jvm.Cond.code ({ cls := "BunchNotes$Telling", name := "<init>", desc := "()V" } : Jvm.MethodName) prog_8_method_1_code (1 : Nat) (Option.none : Option Jvm.ClassFile.FieldType)) ∈ lw_tbl := List.mem_of_getElem? (i := 288) (by decide +kernel)
theorem wd_289 : (Jvm.Cond.methodLink "BunchNotes$Telling" (3 : Nat) ({ cls := "java/lang/Object", name := "<init>", desc := "()V" } : Jvm.MethodName)) ∈ lw_tbl := List.mem_of_getElem? (i := 289) (by decide +kernel)
theorem wd_290 : (Jvm.Cond.fieldLink "BunchNotes$Telling" (19 : Nat) "BunchNotes$Telling" "reason" "I") ∈ lw_tbl := List.mem_of_getElem? (i := 290) (by decide +kernel)
theorem wd_291 : (Jvm.Cond.fieldLink "BunchNotes" (242 : Nat) "BunchNotes$Telling" "reason" "I") ∈ lw_tbl := List.mem_of_getElem? (i := 291) (by decide +kernel)
theorem wd_292 : (Jvm.Cond.fieldLink "BunchNotes$Telling" (48 : Nat) "BunchNotes$Telling" "far" "I") ∈ lw_tbl := List.mem_of_getElem? (i := 292) (by decide +kernel)
theorem wd_293 : (Jvm.Cond.fieldLink "BunchNotes" (245 : Nat) "BunchNotes$Telling" "far" "I") ∈ lw_tbl := List.mem_of_getElem? (i := 293) (by decide +kernel)
theorem wd_294 : (Jvm.Cond.fieldLink "BunchNotes$Telling" (35 : Nat) "BunchNotes$Telling" "by" "I") ∈ lw_tbl := List.mem_of_getElem? (i := 294) (by decide +kernel)
theorem wd_295 : (Jvm.Cond.fieldLink "BunchNotes" (247 : Nat) "BunchNotes$Telling" "by" "I") ∈ lw_tbl := List.mem_of_getElem? (i := 295) (by decide +kernel)
theorem wd_296 : (Jvm.Cond.fieldLink "BunchNotes$Telling" (9 : Nat) "BunchNotes$Telling" "level" "I") ∈ lw_tbl := List.mem_of_getElem? (i := 296) (by decide +kernel)
theorem wd_297 : (Jvm.Cond.fieldLink "BunchNotes" (250 : Nat) "BunchNotes$Telling" "level" "I") ∈ lw_tbl := List.mem_of_getElem? (i := 297) (by decide +kernel)
theorem wd_298 : (Jvm.Cond.fieldLink "BunchNotes$Telling" (22 : Nat) "BunchNotes$Telling" "last" "I") ∈ lw_tbl := List.mem_of_getElem? (i := 298) (by decide +kernel)
theorem wd_299 : (Jvm.Cond.fieldLink "BunchNotes" (253 : Nat) "BunchNotes$Telling" "last" "I") ∈ lw_tbl := List.mem_of_getElem? (i := 299) (by decide +kernel)
theorem wd_300 : (Jvm.Cond.lays "BunchNotes$Telling" "BunchNotes$Telling" "reason" "I") ∈ lw_tbl := List.mem_of_getElem? (i := 300) (by decide +kernel)
theorem wd_301 : (Jvm.Cond.soleField "BunchNotes$Telling" "reason") ∈ lw_tbl := List.mem_of_getElem? (i := 301) (by decide +kernel)
theorem wd_302 : (Jvm.Cond.lays "BunchNotes$Telling" "BunchNotes$Telling" "far" "I") ∈ lw_tbl := List.mem_of_getElem? (i := 302) (by decide +kernel)
theorem wd_303 : (Jvm.Cond.soleField "BunchNotes$Telling" "far") ∈ lw_tbl := List.mem_of_getElem? (i := 303) (by decide +kernel)
theorem wd_304 : (Jvm.Cond.lays "BunchNotes$Telling" "BunchNotes$Telling" "by" "I") ∈ lw_tbl := List.mem_of_getElem? (i := 304) (by decide +kernel)
theorem wd_305 : (Jvm.Cond.soleField "BunchNotes$Telling" "by") ∈ lw_tbl := List.mem_of_getElem? (i := 305) (by decide +kernel)
theorem wd_306 : (Jvm.Cond.lays "BunchNotes$Telling" "BunchNotes$Telling" "level" "I") ∈ lw_tbl := List.mem_of_getElem? (i := 306) (by decide +kernel)
theorem wd_307 : (Jvm.Cond.soleField "BunchNotes$Telling" "level") ∈ lw_tbl := List.mem_of_getElem? (i := 307) (by decide +kernel)
theorem wd_308 : (Jvm.Cond.lays "BunchNotes$Telling" "BunchNotes$Telling" "last" "I") ∈ lw_tbl := List.mem_of_getElem? (i := 308) (by decide +kernel)
theorem wd_309 : (Jvm.Cond.soleField "BunchNotes$Telling" "last") ∈ lw_tbl := List.mem_of_getElem? (i := 309) (by decide +kernel)
theorem wd_310 : (Jvm.Cond.superclass "BunchNotes$Telling" "java/lang/Object") ∈ lw_tbl := List.mem_of_getElem? (i := 310) (by decide +kernel)
theorem wd_311 : (Jvm.Cond.classLink "BunchNotes" (76 : Nat) "BunchNotes$Peak") ∈ lw_tbl := List.mem_of_getElem? (i := 311) (by decide +kernel)
theorem wd_312 : (Jvm.Cond.instantiable "BunchNotes$Peak" (5 : Nat)) ∈ lw_tbl := List.mem_of_getElem? (i := 312) (by decide +kernel)
theorem wd_313 : (Jvm.Cond.methodLinkNest "BunchNotes" (78 : Nat) ({ cls := "BunchNotes$Peak", name := "<init>", desc := "()V" } : Jvm.MethodName) "BunchNotes") ∈ lw_tbl := List.mem_of_getElem? (i := 313) (by decide +kernel)
theorem wd_314 : (Jvm.Cond.instanceMethod ({ cls := "BunchNotes$Peak", name := "<init>", desc := "()V" } : Jvm.MethodName)) ∈ lw_tbl := List.mem_of_getElem? (i := 314) (by decide +kernel)
theorem wd_315 : (Jvm.Cond.code ({ cls := "BunchNotes$Peak", name := "<init>", desc := "()V" } : Jvm.MethodName) prog_6_method_1_code (1 : Nat) (Option.none : Option Jvm.ClassFile.FieldType)) ∈ lw_tbl := List.mem_of_getElem? (i := 315) (by decide +kernel)
theorem wd_316 : (Jvm.Cond.methodLink "BunchNotes$Peak" (1 : Nat) ({ cls := "java/lang/Object", name := "<init>", desc := "()V" } : Jvm.MethodName)) ∈ lw_tbl := List.mem_of_getElem? (i := 316) (by decide +kernel)
theorem wd_317 : (Jvm.Cond.fieldLink "BunchNotes$Peak" (16 : Nat) "BunchNotes$Peak" "above" "I") ∈ lw_tbl := List.mem_of_getElem? (i := 317) (by decide +kernel)
theorem wd_318 : (Jvm.Cond.fieldLink "BunchNotes" (212 : Nat) "BunchNotes$Peak" "above" "I") ∈ lw_tbl := List.mem_of_getElem? (i := 318) (by decide +kernel)
theorem wd_319 : (Jvm.Cond.fieldLink "BunchNotes$Peak" (13 : Nat) "BunchNotes$Peak" "below" "I") ∈ lw_tbl := List.mem_of_getElem? (i := 319) (by decide +kernel)
theorem wd_320 : (Jvm.Cond.fieldLink "BunchNotes" (215 : Nat) "BunchNotes$Peak" "below" "I") ∈ lw_tbl := List.mem_of_getElem? (i := 320) (by decide +kernel)
theorem wd_321 : (Jvm.Cond.fieldLink "BunchNotes$Peak" (19 : Nat) "BunchNotes$Peak" "u" "I") ∈ lw_tbl := List.mem_of_getElem? (i := 321) (by decide +kernel)
theorem wd_322 : (Jvm.Cond.fieldLink "BunchNotes" (266 : Nat) "BunchNotes$Peak" "u" "I") ∈ lw_tbl := List.mem_of_getElem? (i := 322) (by decide +kernel)
theorem wd_323 : (Jvm.Cond.fieldLink "BunchNotes$Peak" (22 : Nat) "BunchNotes$Peak" "v" "I") ∈ lw_tbl := List.mem_of_getElem? (i := 323) (by decide +kernel)
theorem wd_324 : (Jvm.Cond.fieldLink "BunchNotes" (269 : Nat) "BunchNotes$Peak" "v" "I") ∈ lw_tbl := List.mem_of_getElem? (i := 324) (by decide +kernel)
theorem wd_325 : (Jvm.Cond.fieldLink "BunchNotes$Peak" (7 : Nat) "BunchNotes$Peak" "met" "I") ∈ lw_tbl := List.mem_of_getElem? (i := 325) (by decide +kernel)
theorem wd_326 : (Jvm.Cond.fieldLink "BunchNotes" (209 : Nat) "BunchNotes$Peak" "met" "I") ∈ lw_tbl := List.mem_of_getElem? (i := 326) (by decide +kernel)
theorem wd_327 : (Jvm.Cond.lays "BunchNotes$Peak" "BunchNotes$Peak" "above" "I") ∈ lw_tbl := List.mem_of_getElem? (i := 327) (by decide +kernel)
theorem wd_328 : (Jvm.Cond.soleField "BunchNotes$Peak" "above") ∈ lw_tbl := List.mem_of_getElem? (i := 328) (by decide +kernel)
theorem wd_329 : (Jvm.Cond.lays "BunchNotes$Peak" "BunchNotes$Peak" "below" "I") ∈ lw_tbl := List.mem_of_getElem? (i := 329) (by decide +kernel)
theorem wd_330 : (Jvm.Cond.soleField "BunchNotes$Peak" "below") ∈ lw_tbl := List.mem_of_getElem? (i := 330) (by decide +kernel)
theorem wd_331 : (Jvm.Cond.lays "BunchNotes$Peak" "BunchNotes$Peak" "u" "I") ∈ lw_tbl := List.mem_of_getElem? (i := 331) (by decide +kernel)
theorem wd_332 : (Jvm.Cond.soleField "BunchNotes$Peak" "u") ∈ lw_tbl := List.mem_of_getElem? (i := 332) (by decide +kernel)
theorem wd_333 : (Jvm.Cond.lays "BunchNotes$Peak" "BunchNotes$Peak" "v" "I") ∈ lw_tbl := List.mem_of_getElem? (i := 333) (by decide +kernel)
theorem wd_334 : (Jvm.Cond.soleField "BunchNotes$Peak" "v") ∈ lw_tbl := List.mem_of_getElem? (i := 334) (by decide +kernel)
theorem wd_335 : (Jvm.Cond.lays "BunchNotes$Peak" "BunchNotes$Peak" "met" "I") ∈ lw_tbl := List.mem_of_getElem? (i := 335) (by decide +kernel)
theorem wd_336 : (Jvm.Cond.soleField "BunchNotes$Peak" "met") ∈ lw_tbl := List.mem_of_getElem? (i := 336) (by decide +kernel)
theorem wd_337 : (Jvm.Cond.superclass "BunchNotes$Peak" "java/lang/Object") ∈ lw_tbl := List.mem_of_getElem? (i := 337) (by decide +kernel)
theorem wd_338 : (Jvm.Cond.fieldLink "BunchNotes" (10 : Nat) "BunchNotes" "now" "LBunchNotes$Net;") ∈ lw_tbl := List.mem_of_getElem? (i := 338) (by decide +kernel)
theorem wd_339 : (Jvm.Cond.fieldLink "BunchNotes" (16 : Nat) "BunchNotes" "trial" "LBunchNotes$Net;") ∈ lw_tbl := List.mem_of_getElem? (i := 339) (by decide +kernel)
theorem wd_340 : (Jvm.Cond.fieldLink "BunchNotes" (22 : Nat) "BunchNotes" "text" "LBunchNotes$Text;") ∈ lw_tbl := List.mem_of_getElem? (i := 340) (by decide +kernel)
theorem wd_341 : (Jvm.Cond.fieldLink "BunchNotes" (29 : Nat) "BunchNotes" "past" "LBunchNotes$Past;") ∈ lw_tbl := List.mem_of_getElem? (i := 341) (by decide +kernel)
theorem wd_342 : (Jvm.Cond.fieldLink "BunchNotes" (37 : Nat) "BunchNotes" "notes" "[LBunchNotes$Note;") ∈ lw_tbl := List.mem_of_getElem? (i := 342) (by decide +kernel)
theorem wd_343 : (Jvm.Cond.fieldLink "BunchNotes" (44 : Nat) "BunchNotes" "draft" "LBunchNotes$Note;") ∈ lw_tbl := List.mem_of_getElem? (i := 343) (by decide +kernel)
theorem wd_344 : (Jvm.Cond.fieldLink "BunchNotes" (50 : Nat) "BunchNotes" "slots" "[LBunchNotes$Slot;") ∈ lw_tbl := List.mem_of_getElem? (i := 344) (by decide +kernel)
theorem wd_345 : (Jvm.Cond.fieldLink "BunchNotes" (58 : Nat) "BunchNotes" "far" "LBunchNotes$Far;") ∈ lw_tbl := List.mem_of_getElem? (i := 345) (by decide +kernel)
theorem wd_346 : (Jvm.Cond.fieldLink "BunchNotes" (65 : Nat) "BunchNotes" "thinning" "LBunchNotes$Thinning;") ∈ lw_tbl := List.mem_of_getElem? (i := 346) (by decide +kernel)
theorem wd_347 : (Jvm.Cond.fieldLink "BunchNotes" (72 : Nat) "BunchNotes" "telling" "LBunchNotes$Telling;") ∈ lw_tbl := List.mem_of_getElem? (i := 347) (by decide +kernel)
theorem wd_348 : (Jvm.Cond.fieldLink "BunchNotes" (79 : Nat) "BunchNotes" "peak" "LBunchNotes$Peak;") ∈ lw_tbl := List.mem_of_getElem? (i := 348) (by decide +kernel)
theorem wd_349 : (Jvm.Cond.laysFinal "BunchNotes" "BunchNotes" "now" "LBunchNotes$Net;") ∈ lw_tbl := List.mem_of_getElem? (i := 349) (by decide +kernel)
theorem wd_350 : (Jvm.Cond.soleField "BunchNotes" "now") ∈ lw_tbl := List.mem_of_getElem? (i := 350) (by decide +kernel)
theorem wd_351 : (Jvm.Cond.laysFinal "BunchNotes" "BunchNotes" "trial" "LBunchNotes$Net;") ∈ lw_tbl := List.mem_of_getElem? (i := 351) (by decide +kernel)
theorem wd_352 : (Jvm.Cond.soleField "BunchNotes" "trial") ∈ lw_tbl := List.mem_of_getElem? (i := 352) (by decide +kernel)
theorem wd_353 : (Jvm.Cond.laysFinal "BunchNotes" "BunchNotes" "text" "LBunchNotes$Text;") ∈ lw_tbl := List.mem_of_getElem? (i := 353) (by decide +kernel)
theorem wd_354 : (Jvm.Cond.soleField "BunchNotes" "text") ∈ lw_tbl := List.mem_of_getElem? (i := 354) (by decide +kernel)
theorem wd_355 : (Jvm.Cond.laysFinal "BunchNotes" "BunchNotes" "past" "LBunchNotes$Past;") ∈ lw_tbl := List.mem_of_getElem? (i := 355) (by decide +kernel)
theorem wd_356 : (Jvm.Cond.soleField "BunchNotes" "past") ∈ lw_tbl := List.mem_of_getElem? (i := 356) (by decide +kernel)
theorem wd_357 : (Jvm.Cond.laysFinal "BunchNotes" "BunchNotes" "notes" "[LBunchNotes$Note;") ∈ lw_tbl := List.mem_of_getElem? (i := 357) (by decide +kernel)
theorem wd_358 : (Jvm.Cond.soleField "BunchNotes" "notes") ∈ lw_tbl := List.mem_of_getElem? (i := 358) (by decide +kernel)
theorem wd_359 : (Jvm.Cond.laysFinal "BunchNotes" "BunchNotes" "draft" "LBunchNotes$Note;") ∈ lw_tbl := List.mem_of_getElem? (i := 359) (by decide +kernel)
theorem wd_360 : (Jvm.Cond.soleField "BunchNotes" "draft") ∈ lw_tbl := List.mem_of_getElem? (i := 360) (by decide +kernel)
theorem wd_361 : (Jvm.Cond.laysFinal "BunchNotes" "BunchNotes" "slots" "[LBunchNotes$Slot;") ∈ lw_tbl := List.mem_of_getElem? (i := 361) (by decide +kernel)
theorem wd_362 : (Jvm.Cond.soleField "BunchNotes" "slots") ∈ lw_tbl := List.mem_of_getElem? (i := 362) (by decide +kernel)
theorem wd_363 : (Jvm.Cond.laysFinal "BunchNotes" "BunchNotes" "far" "LBunchNotes$Far;") ∈ lw_tbl := List.mem_of_getElem? (i := 363) (by decide +kernel)
theorem wd_364 : (Jvm.Cond.soleField "BunchNotes" "far") ∈ lw_tbl := List.mem_of_getElem? (i := 364) (by decide +kernel)
theorem wd_365 : (Jvm.Cond.laysFinal "BunchNotes" "BunchNotes" "thinning" "LBunchNotes$Thinning;") ∈ lw_tbl := List.mem_of_getElem? (i := 365) (by decide +kernel)
theorem wd_366 : (Jvm.Cond.soleField "BunchNotes" "thinning") ∈ lw_tbl := List.mem_of_getElem? (i := 366) (by decide +kernel)
theorem wd_367 : (Jvm.Cond.laysFinal "BunchNotes" "BunchNotes" "telling" "LBunchNotes$Telling;") ∈ lw_tbl := List.mem_of_getElem? (i := 367) (by decide +kernel)
theorem wd_368 : (Jvm.Cond.soleField "BunchNotes" "telling") ∈ lw_tbl := List.mem_of_getElem? (i := 368) (by decide +kernel)
theorem wd_369 : (Jvm.Cond.laysFinal "BunchNotes" "BunchNotes" "peak" "LBunchNotes$Peak;") ∈ lw_tbl := List.mem_of_getElem? (i := 369) (by decide +kernel)
theorem wd_370 : (Jvm.Cond.soleField "BunchNotes" "peak") ∈ lw_tbl := List.mem_of_getElem? (i := 370) (by decide +kernel)
theorem wd_371 : (Jvm.Cond.superclass "BunchNotes" "java/lang/Object") ∈ lw_tbl := List.mem_of_getElem? (i := 371) (by decide +kernel)
theorem wd_372 : (Jvm.Cond.methodLink "BunchNotesLaw" (13 : Nat) ({ cls := "BunchNotes", name := "type", desc := "(I)I" } : Jvm.MethodName)) ∈ lw_tbl := List.mem_of_getElem? (i := 372) (by decide +kernel)
theorem wd_373 : (Jvm.Cond.instanceMethod ({ cls := "BunchNotes", name := "type", desc := "(I)I" } : Jvm.MethodName)) ∈ lw_tbl := List.mem_of_getElem? (i := 373) (by decide +kernel)
theorem wd_374 : (Jvm.Cond.selects "BunchNotes" ({ cls := "BunchNotes", name := "type", desc := "(I)I" } : Jvm.MethodName) ({ cls := "BunchNotes", name := "type", desc := "(I)I" } : Jvm.MethodName)) ∈ lw_tbl := List.mem_of_getElem? (i := 374) (by decide +kernel)
theorem wd_375 : (Jvm.Cond.code ({ cls := "BunchNotes", name := "type", desc := "(I)I" } : Jvm.MethodName) prog_1_method_2_code (2 : Nat) (Option.some Jvm.ClassFile.FieldType.int)) ∈ lw_tbl := List.mem_of_getElem? (i := 375) (by decide +kernel)
theorem wd_376 : (Jvm.Cond.methodLink "BunchNotes" (87 : Nat) ({ cls := "BunchNotes$Text", name := "append", desc := "(I)V" } : Jvm.MethodName)) ∈ lw_tbl := List.mem_of_getElem? (i := 376) (by decide +kernel)
theorem wd_377 : (Jvm.Cond.instanceMethod ({ cls := "BunchNotes$Text", name := "append", desc := "(I)V" } : Jvm.MethodName)) ∈ lw_tbl := List.mem_of_getElem? (i := 377) (by decide +kernel)
theorem wd_378 : (Jvm.Cond.selects "BunchNotes$Text" ({ cls := "BunchNotes$Text", name := "append", desc := "(I)V" } : Jvm.MethodName) ({ cls := "BunchNotes$Text", name := "append", desc := "(I)V" } : Jvm.MethodName)) ∈ lw_tbl := List.mem_of_getElem? (i := 378) (by decide +kernel)
theorem wd_379 : (Jvm.Cond.code ({ cls := "BunchNotes$Text", name := "append", desc := "(I)V" } : Jvm.MethodName) prog_9_method_2_code (2 : Nat) (Option.none : Option Jvm.ClassFile.FieldType)) ∈ lw_tbl := List.mem_of_getElem? (i := 379) (by decide +kernel)
theorem wd_380 : (Jvm.Cond.methodLink "BunchNotesLaw" (18 : Nat) ({ cls := "BunchNotes", name := "erase", desc := "()I" } : Jvm.MethodName)) ∈ lw_tbl := List.mem_of_getElem? (i := 380) (by decide +kernel)
theorem wd_381 : (Jvm.Cond.instanceMethod ({ cls := "BunchNotes", name := "erase", desc := "()I" } : Jvm.MethodName)) ∈ lw_tbl := List.mem_of_getElem? (i := 381) (by decide +kernel)
theorem wd_382 : (Jvm.Cond.selects "BunchNotes" ({ cls := "BunchNotes", name := "erase", desc := "()I" } : Jvm.MethodName) ({ cls := "BunchNotes", name := "erase", desc := "()I" } : Jvm.MethodName)) ∈ lw_tbl := List.mem_of_getElem? (i := 382) (by decide +kernel)
theorem wd_383 : (Jvm.Cond.code ({ cls := "BunchNotes", name := "erase", desc := "()I" } : Jvm.MethodName) prog_1_method_3_code (2 : Nat) (Option.some Jvm.ClassFile.FieldType.int)) ∈ lw_tbl := List.mem_of_getElem? (i := 383) (by decide +kernel)
theorem wd_384 : (Jvm.Cond.methodLink "BunchNotesLaw" (23 : Nat) ({ cls := "BunchNotes", name := "fault", desc := "()I" } : Jvm.MethodName)) ∈ lw_tbl := List.mem_of_getElem? (i := 384) (by decide +kernel)
theorem wd_385 : (Jvm.Cond.instanceMethod ({ cls := "BunchNotes", name := "fault", desc := "()I" } : Jvm.MethodName)) ∈ lw_tbl := List.mem_of_getElem? (i := 385) (by decide +kernel)
theorem wd_386 : (Jvm.Cond.selects "BunchNotes" ({ cls := "BunchNotes", name := "fault", desc := "()I" } : Jvm.MethodName) ({ cls := "BunchNotes", name := "fault", desc := "()I" } : Jvm.MethodName)) ∈ lw_tbl := List.mem_of_getElem? (i := 386) (by decide +kernel)
theorem wd_387 : (Jvm.Cond.code ({ cls := "BunchNotes", name := "fault", desc := "()I" } : Jvm.MethodName) prog_1_method_4_code (1 : Nat) (Option.some Jvm.ClassFile.FieldType.int)) ∈ lw_tbl := List.mem_of_getElem? (i := 387) (by decide +kernel)
theorem wd_388 : (Jvm.Cond.methodLink "BunchNotes" (91 : Nat) ({ cls := "BunchNotes", name := "readText", desc := "()I" } : Jvm.MethodName)) ∈ lw_tbl := List.mem_of_getElem? (i := 388) (by decide +kernel)
theorem wd_389 : (Jvm.Cond.privateMethod ({ cls := "BunchNotes", name := "readText", desc := "()I" } : Jvm.MethodName)) ∈ lw_tbl := List.mem_of_getElem? (i := 389) (by decide +kernel)
theorem wd_390 : (Jvm.Cond.instanceMethod ({ cls := "BunchNotes", name := "readText", desc := "()I" } : Jvm.MethodName)) ∈ lw_tbl := List.mem_of_getElem? (i := 390) (by decide +kernel)
theorem wd_391 : (Jvm.Cond.code ({ cls := "BunchNotes", name := "readText", desc := "()I" } : Jvm.MethodName) prog_1_method_37_code (1 : Nat) (Option.some Jvm.ClassFile.FieldType.int)) ∈ lw_tbl := List.mem_of_getElem? (i := 391) (by decide +kernel)
theorem wd_392 : (Jvm.Cond.methodLink "BunchNotes" (95 : Nat) ({ cls := "BunchNotes$Net", name := "copyFrom", desc := "(LBunchNotes$Net;)V" } : Jvm.MethodName)) ∈ lw_tbl := List.mem_of_getElem? (i := 392) (by decide +kernel)
theorem wd_393 : (Jvm.Cond.instanceMethod ({ cls := "BunchNotes$Net", name := "copyFrom", desc := "(LBunchNotes$Net;)V" } : Jvm.MethodName)) ∈ lw_tbl := List.mem_of_getElem? (i := 393) (by decide +kernel)
theorem wd_394 : (Jvm.Cond.selects "BunchNotes$Net" ({ cls := "BunchNotes$Net", name := "copyFrom", desc := "(LBunchNotes$Net;)V" } : Jvm.MethodName) ({ cls := "BunchNotes$Net", name := "copyFrom", desc := "(LBunchNotes$Net;)V" } : Jvm.MethodName)) ∈ lw_tbl := List.mem_of_getElem? (i := 394) (by decide +kernel)
theorem wd_395 : (Jvm.Cond.code ({ cls := "BunchNotes$Net", name := "copyFrom", desc := "(LBunchNotes$Net;)V" } : Jvm.MethodName) prog_3_method_12_code (2 : Nat) (Option.none : Option Jvm.ClassFile.FieldType)) ∈ lw_tbl := List.mem_of_getElem? (i := 395) (by decide +kernel)
theorem wd_396 : (Jvm.Cond.methodLink "BunchNotes$Net" (46 : Nat) ({ cls := "java/lang/System", name := "arraycopy", desc := "(Ljava/lang/Object;ILjava/lang/Object;II)V" } : Jvm.MethodName)) ∈ lw_tbl := List.mem_of_getElem? (i := 396) (by decide +kernel)
theorem wd_397 : (Jvm.Cond.static ({ cls := "java/lang/System", name := "arraycopy", desc := "(Ljava/lang/Object;ILjava/lang/Object;II)V" } : Jvm.MethodName)) ∈ lw_tbl := List.mem_of_getElem? (i := 397) (by decide +kernel)
theorem wd_398 : (Jvm.Cond.native ({ cls := "java/lang/System", name := "arraycopy", desc := "(Ljava/lang/Object;ILjava/lang/Object;II)V" } : Jvm.MethodName)) ∈ lw_tbl := List.mem_of_getElem? (i := 398) (by decide +kernel)
theorem wd_399 : (Jvm.Cond.methodLink "BunchNotes" (284 : Nat) ({ cls := "BunchNotes$Text", name := "readInto", desc := "(LBunchNotes$Net;)I" } : Jvm.MethodName)) ∈ lw_tbl := List.mem_of_getElem? (i := 399) (by decide +kernel)
theorem wd_400 : (Jvm.Cond.instanceMethod ({ cls := "BunchNotes$Text", name := "readInto", desc := "(LBunchNotes$Net;)I" } : Jvm.MethodName)) ∈ lw_tbl := List.mem_of_getElem? (i := 400) (by decide +kernel)
theorem wd_401 : (Jvm.Cond.selects "BunchNotes$Text" ({ cls := "BunchNotes$Text", name := "readInto", desc := "(LBunchNotes$Net;)I" } : Jvm.MethodName) ({ cls := "BunchNotes$Text", name := "readInto", desc := "(LBunchNotes$Net;)I" } : Jvm.MethodName)) ∈ lw_tbl := List.mem_of_getElem? (i := 401) (by decide +kernel)
theorem wd_402 : (Jvm.Cond.code ({ cls := "BunchNotes$Text", name := "readInto", desc := "(LBunchNotes$Net;)I" } : Jvm.MethodName) prog_9_method_3_code (3 : Nat) (Option.some Jvm.ClassFile.FieldType.int)) ∈ lw_tbl := List.mem_of_getElem? (i := 402) (by decide +kernel)
theorem wd_403 : (Jvm.Cond.methodLink "BunchNotes$Text" (29 : Nat) ({ cls := "BunchNotes$Text", name := "pass", desc := "()V" } : Jvm.MethodName)) ∈ lw_tbl := List.mem_of_getElem? (i := 403) (by decide +kernel)
theorem wd_404 : (Jvm.Cond.privateMethod ({ cls := "BunchNotes$Text", name := "pass", desc := "()V" } : Jvm.MethodName)) ∈ lw_tbl := List.mem_of_getElem? (i := 404) (by decide +kernel)
theorem wd_405 : (Jvm.Cond.instanceMethod ({ cls := "BunchNotes$Text", name := "pass", desc := "()V" } : Jvm.MethodName)) ∈ lw_tbl := List.mem_of_getElem? (i := 405) (by decide +kernel)
theorem wd_406 : (Jvm.Cond.code ({ cls := "BunchNotes$Text", name := "pass", desc := "()V" } : Jvm.MethodName) prog_9_method_8_code (1 : Nat) (Option.none : Option Jvm.ClassFile.FieldType)) ∈ lw_tbl := List.mem_of_getElem? (i := 406) (by decide +kernel)
theorem wd_407 : (Jvm.Cond.methodLink "BunchNotes$Text" (90 : Nat) ({ cls := "BunchNotes$Text", name := "kindAt", desc := "(I)I" } : Jvm.MethodName)) ∈ lw_tbl := List.mem_of_getElem? (i := 407) (by decide +kernel)
theorem wd_408 : (Jvm.Cond.privateMethod ({ cls := "BunchNotes$Text", name := "kindAt", desc := "(I)I" } : Jvm.MethodName)) ∈ lw_tbl := List.mem_of_getElem? (i := 408) (by decide +kernel)
theorem wd_409 : (Jvm.Cond.instanceMethod ({ cls := "BunchNotes$Text", name := "kindAt", desc := "(I)I" } : Jvm.MethodName)) ∈ lw_tbl := List.mem_of_getElem? (i := 409) (by decide +kernel)
theorem wd_410 : (Jvm.Cond.code ({ cls := "BunchNotes$Text", name := "kindAt", desc := "(I)I" } : Jvm.MethodName) prog_9_method_9_code (3 : Nat) (Option.some Jvm.ClassFile.FieldType.int)) ∈ lw_tbl := List.mem_of_getElem? (i := 410) (by decide +kernel)
theorem wd_411 : (Jvm.Cond.methodLink "BunchNotes$Text" (32 : Nat) ({ cls := "BunchNotes$Text", name := "readClause", desc := "(LBunchNotes$Net;)Z" } : Jvm.MethodName)) ∈ lw_tbl := List.mem_of_getElem? (i := 411) (by decide +kernel)
theorem wd_412 : (Jvm.Cond.privateMethod ({ cls := "BunchNotes$Text", name := "readClause", desc := "(LBunchNotes$Net;)Z" } : Jvm.MethodName)) ∈ lw_tbl := List.mem_of_getElem? (i := 412) (by decide +kernel)
theorem wd_413 : (Jvm.Cond.instanceMethod ({ cls := "BunchNotes$Text", name := "readClause", desc := "(LBunchNotes$Net;)Z" } : Jvm.MethodName)) ∈ lw_tbl := List.mem_of_getElem? (i := 413) (by decide +kernel)
theorem wd_414 : (Jvm.Cond.code ({ cls := "BunchNotes$Text", name := "readClause", desc := "(LBunchNotes$Net;)Z" } : Jvm.MethodName) prog_9_method_4_code (2 : Nat) (Option.some Jvm.ClassFile.FieldType.boolean)) ∈ lw_tbl := List.mem_of_getElem? (i := 414) (by decide +kernel)
theorem wd_415 : (Jvm.Cond.stringRef "BunchNotes$Text" (46 : Nat) "net") ∈ lw_tbl := List.mem_of_getElem? (i := 415) (by decide +kernel)
theorem wd_416 : (Jvm.Cond.methodLink "BunchNotes$Text" (48 : Nat) ({ cls := "BunchNotes$Text", name := "isWord", desc := "(Ljava/lang/String;)Z" } : Jvm.MethodName)) ∈ lw_tbl := List.mem_of_getElem? (i := 416) (by decide +kernel)
theorem wd_417 : (Jvm.Cond.privateMethod ({ cls := "BunchNotes$Text", name := "isWord", desc := "(Ljava/lang/String;)Z" } : Jvm.MethodName)) ∈ lw_tbl := List.mem_of_getElem? (i := 417) (by decide +kernel)
theorem wd_418 : (Jvm.Cond.instanceMethod ({ cls := "BunchNotes$Text", name := "isWord", desc := "(Ljava/lang/String;)Z" } : Jvm.MethodName)) ∈ lw_tbl := List.mem_of_getElem? (i := 418) (by decide +kernel)
theorem wd_419 : (Jvm.Cond.code ({ cls := "BunchNotes$Text", name := "isWord", desc := "(Ljava/lang/String;)Z" } : Jvm.MethodName) prog_9_method_11_code (3 : Nat) (Option.some Jvm.ClassFile.FieldType.boolean)) ∈ lw_tbl := List.mem_of_getElem? (i := 419) (by decide +kernel)
theorem wd_420 : (Jvm.Cond.methodLink "BunchNotes$Text" (94 : Nat) ({ cls := "java/lang/String", name := "length", desc := "()I" } : Jvm.MethodName)) ∈ lw_tbl := List.mem_of_getElem? (i := 420) (by decide +kernel)
theorem wd_421 : (Jvm.Cond.instanceMethod ({ cls := "java/lang/String", name := "length", desc := "()I" } : Jvm.MethodName)) ∈ lw_tbl := List.mem_of_getElem? (i := 421) (by decide +kernel)
theorem wd_422 : (Jvm.Cond.selects "java/lang/String" ({ cls := "java/lang/String", name := "length", desc := "()I" } : Jvm.MethodName) ({ cls := "java/lang/String", name := "length", desc := "()I" } : Jvm.MethodName)) ∈ lw_tbl := List.mem_of_getElem? (i := 422) (by decide +kernel)
theorem wd_423 : (Jvm.Cond.code ({ cls := "java/lang/String", name := "length", desc := "()I" } : Jvm.MethodName) prog_15_method_54_code (1 : Nat) (Option.some Jvm.ClassFile.FieldType.int)) ∈ lw_tbl := List.mem_of_getElem? (i := 423) (by decide +kernel)
theorem wd_424 : (Jvm.Cond.methodLink "java/lang/String" (335 : Nat) ({ cls := "java/lang/String", name := "coder", desc := "()B" } : Jvm.MethodName)) ∈ lw_tbl := List.mem_of_getElem? (i := 424) (by decide +kernel)
theorem wd_425 : (Jvm.Cond.instanceMethod ({ cls := "java/lang/String", name := "coder", desc := "()B" } : Jvm.MethodName)) ∈ lw_tbl := List.mem_of_getElem? (i := 425) (by decide +kernel)
theorem wd_426 : (Jvm.Cond.selects "java/lang/String" ({ cls := "java/lang/String", name := "coder", desc := "()B" } : Jvm.MethodName) ({ cls := "java/lang/String", name := "coder", desc := "()B" } : Jvm.MethodName)) ∈ lw_tbl := List.mem_of_getElem? (i := 426) (by decide +kernel)
theorem wd_427 : (Jvm.Cond.code ({ cls := "java/lang/String", name := "coder", desc := "()B" } : Jvm.MethodName) prog_15_method_152_code (1 : Nat) (Option.some Jvm.ClassFile.FieldType.byte)) ∈ lw_tbl := List.mem_of_getElem? (i := 427) (by decide +kernel)
theorem wd_428 : (Jvm.Cond.fieldLink "java/lang/String" (38 : Nat) "java/lang/String" "COMPACT_STRINGS" "Z") ∈ lw_tbl := List.mem_of_getElem? (i := 428) (by decide +kernel)
theorem wd_429 : (Jvm.Cond.laysStatic "java/lang/String" "COMPACT_STRINGS" "Z") ∈ lw_tbl := List.mem_of_getElem? (i := 429) (by decide +kernel)
theorem wd_430 : (Jvm.Cond.methodLink "BunchNotes$Text" (100 : Nat) ({ cls := "java/lang/String", name := "charAt", desc := "(I)C" } : Jvm.MethodName)) ∈ lw_tbl := List.mem_of_getElem? (i := 430) (by decide +kernel)
theorem wd_431 : (Jvm.Cond.instanceMethod ({ cls := "java/lang/String", name := "charAt", desc := "(I)C" } : Jvm.MethodName)) ∈ lw_tbl := List.mem_of_getElem? (i := 431) (by decide +kernel)
theorem wd_432 : (Jvm.Cond.selects "java/lang/String" ({ cls := "java/lang/String", name := "charAt", desc := "(I)C" } : Jvm.MethodName) ({ cls := "java/lang/String", name := "charAt", desc := "(I)C" } : Jvm.MethodName)) ∈ lw_tbl := List.mem_of_getElem? (i := 432) (by decide +kernel)
theorem wd_433 : (Jvm.Cond.code ({ cls := "java/lang/String", name := "charAt", desc := "(I)C" } : Jvm.MethodName) prog_15_method_56_code (2 : Nat) (Option.some Jvm.ClassFile.FieldType.char)) ∈ lw_tbl := List.mem_of_getElem? (i := 433) (by decide +kernel)
theorem wd_434 : (Jvm.Cond.methodLink "java/lang/String" (492 : Nat) ({ cls := "java/lang/String", name := "isLatin1", desc := "()Z" } : Jvm.MethodName)) ∈ lw_tbl := List.mem_of_getElem? (i := 434) (by decide +kernel)
theorem wd_435 : (Jvm.Cond.instanceMethod ({ cls := "java/lang/String", name := "isLatin1", desc := "()Z" } : Jvm.MethodName)) ∈ lw_tbl := List.mem_of_getElem? (i := 435) (by decide +kernel)
theorem wd_436 : (Jvm.Cond.selects "java/lang/String" ({ cls := "java/lang/String", name := "isLatin1", desc := "()Z" } : Jvm.MethodName) ({ cls := "java/lang/String", name := "isLatin1", desc := "()Z" } : Jvm.MethodName)) ∈ lw_tbl := List.mem_of_getElem? (i := 436) (by decide +kernel)
theorem wd_437 : (Jvm.Cond.code ({ cls := "java/lang/String", name := "isLatin1", desc := "()Z" } : Jvm.MethodName) prog_15_method_154_code (1 : Nat) (Option.some Jvm.ClassFile.FieldType.boolean)) ∈ lw_tbl := List.mem_of_getElem? (i := 437) (by decide +kernel)
theorem wd_438 : (Jvm.Cond.methodLink "java/lang/String" (495 : Nat) ({ cls := "java/lang/StringLatin1", name := "charAt", desc := "([BI)C" } : Jvm.MethodName)) ∈ lw_tbl := List.mem_of_getElem? (i := 438) (by decide +kernel)
theorem wd_439 : (Jvm.Cond.static ({ cls := "java/lang/StringLatin1", name := "charAt", desc := "([BI)C" } : Jvm.MethodName)) ∈ lw_tbl := List.mem_of_getElem? (i := 439) (by decide +kernel)
theorem wd_440 : (Jvm.Cond.code ({ cls := "java/lang/StringLatin1", name := "charAt", desc := "([BI)C" } : Jvm.MethodName) prog_16_method_2_code (2 : Nat) (Option.some Jvm.ClassFile.FieldType.char)) ∈ lw_tbl := List.mem_of_getElem? (i := 440) (by decide +kernel)
theorem wd_441 : (Jvm.Cond.methodLink "java/lang/StringLatin1" (9 : Nat) ({ cls := "java/lang/String", name := "checkIndex", desc := "(II)V" } : Jvm.MethodName)) ∈ lw_tbl := List.mem_of_getElem? (i := 441) (by decide +kernel)
theorem wd_442 : (Jvm.Cond.static ({ cls := "java/lang/String", name := "checkIndex", desc := "(II)V" } : Jvm.MethodName)) ∈ lw_tbl := List.mem_of_getElem? (i := 442) (by decide +kernel)
theorem wd_443 : (Jvm.Cond.code ({ cls := "java/lang/String", name := "checkIndex", desc := "(II)V" } : Jvm.MethodName) prog_15_method_155_code (2 : Nat) (Option.none : Option Jvm.ClassFile.FieldType)) ∈ lw_tbl := List.mem_of_getElem? (i := 443) (by decide +kernel)
theorem wd_444 : (Jvm.Cond.fieldLink "java/lang/String" (1053 : Nat) "jdk/internal/util/Preconditions" "SIOOBE_FORMATTER" "Ljava/util/function/BiFunction;") ∈ lw_tbl := List.mem_of_getElem? (i := 444) (by decide +kernel)
theorem wd_445 : (Jvm.Cond.laysStatic "jdk/internal/util/Preconditions" "SIOOBE_FORMATTER" "Ljava/util/function/BiFunction;") ∈ lw_tbl := List.mem_of_getElem? (i := 445) (by decide +kernel)
theorem wd_446 : (Jvm.Cond.methodLink "java/lang/String" (1059 : Nat) ({ cls := "jdk/internal/util/Preconditions", name := "checkIndex", desc := "(IILjava/util/function/BiFunction;)I" } : Jvm.MethodName)) ∈ lw_tbl := List.mem_of_getElem? (i := 446) (by decide +kernel)
theorem wd_447 : (Jvm.Cond.static ({ cls := "jdk/internal/util/Preconditions", name := "checkIndex", desc := "(IILjava/util/function/BiFunction;)I" } : Jvm.MethodName)) ∈ lw_tbl := List.mem_of_getElem? (i := 447) (by decide +kernel)
theorem wd_448 : (Jvm.Cond.code ({ cls := "jdk/internal/util/Preconditions", name := "checkIndex", desc := "(IILjava/util/function/BiFunction;)I" } : Jvm.MethodName) prog_20_method_11_code (3 : Nat) (Option.some Jvm.ClassFile.FieldType.int)) ∈ lw_tbl := List.mem_of_getElem? (i := 448) (by decide +kernel)
theorem wd_449 : (Jvm.Cond.methodLink "java/lang/String" (498 : Nat) ({ cls := "java/lang/StringUTF16", name := "charAt", desc := "([BI)C" } : Jvm.MethodName)) ∈ lw_tbl := List.mem_of_getElem? (i := 449) (by decide +kernel)
theorem wd_450 : (Jvm.Cond.static ({ cls := "java/lang/StringUTF16", name := "charAt", desc := "([BI)C" } : Jvm.MethodName)) ∈ lw_tbl := List.mem_of_getElem? (i := 450) (by decide +kernel)
theorem wd_451 : (Jvm.Cond.code ({ cls := "java/lang/StringUTF16", name := "charAt", desc := "([BI)C" } : Jvm.MethodName) prog_17_method_83_code (2 : Nat) (Option.some Jvm.ClassFile.FieldType.char)) ∈ lw_tbl := List.mem_of_getElem? (i := 451) (by decide +kernel)
theorem wd_452 : (Jvm.Cond.methodLink "java/lang/StringUTF16" (67 : Nat) ({ cls := "java/lang/StringUTF16", name := "checkIndex", desc := "(I[B)V" } : Jvm.MethodName)) ∈ lw_tbl := List.mem_of_getElem? (i := 452) (by decide +kernel)
theorem wd_453 : (Jvm.Cond.static ({ cls := "java/lang/StringUTF16", name := "checkIndex", desc := "(I[B)V" } : Jvm.MethodName)) ∈ lw_tbl := List.mem_of_getElem? (i := 453) (by decide +kernel)
theorem wd_454 : (Jvm.Cond.code ({ cls := "java/lang/StringUTF16", name := "checkIndex", desc := "(I[B)V" } : Jvm.MethodName) prog_17_method_91_code (2 : Nat) (Option.none : Option Jvm.ClassFile.FieldType)) ∈ lw_tbl := List.mem_of_getElem? (i := 454) (by decide +kernel)
theorem wd_455 : (Jvm.Cond.methodLink "java/lang/StringUTF16" (48 : Nat) ({ cls := "java/lang/StringUTF16", name := "length", desc := "([B)I" } : Jvm.MethodName)) ∈ lw_tbl := List.mem_of_getElem? (i := 455) (by decide +kernel)
theorem wd_456 : (Jvm.Cond.static ({ cls := "java/lang/StringUTF16", name := "length", desc := "([B)I" } : Jvm.MethodName)) ∈ lw_tbl := List.mem_of_getElem? (i := 456) (by decide +kernel)
theorem wd_457 : (Jvm.Cond.code ({ cls := "java/lang/StringUTF16", name := "length", desc := "([B)I" } : Jvm.MethodName) prog_17_method_6_code (1 : Nat) (Option.some Jvm.ClassFile.FieldType.int)) ∈ lw_tbl := List.mem_of_getElem? (i := 457) (by decide +kernel)
theorem wd_458 : (Jvm.Cond.methodLink "java/lang/StringUTF16" (414 : Nat) ({ cls := "java/lang/String", name := "checkIndex", desc := "(II)V" } : Jvm.MethodName)) ∈ lw_tbl := List.mem_of_getElem? (i := 458) (by decide +kernel)
theorem wd_459 : (Jvm.Cond.methodLink "java/lang/StringUTF16" (71 : Nat) ({ cls := "java/lang/StringUTF16", name := "getChar", desc := "([BI)C" } : Jvm.MethodName)) ∈ lw_tbl := List.mem_of_getElem? (i := 459) (by decide +kernel)
theorem wd_460 : (Jvm.Cond.static ({ cls := "java/lang/StringUTF16", name := "getChar", desc := "([BI)C" } : Jvm.MethodName)) ∈ lw_tbl := List.mem_of_getElem? (i := 460) (by decide +kernel)
theorem wd_461 : (Jvm.Cond.code ({ cls := "java/lang/StringUTF16", name := "getChar", desc := "([BI)C" } : Jvm.MethodName) prog_17_method_5_code (2 : Nat) (Option.some Jvm.ClassFile.FieldType.char)) ∈ lw_tbl := List.mem_of_getElem? (i := 461) (by decide +kernel)
theorem wd_462 : (Jvm.Cond.fieldLink "java/lang/StringUTF16" (44 : Nat) "java/lang/StringUTF16" "$assertionsDisabled" "Z") ∈ lw_tbl := List.mem_of_getElem? (i := 462) (by decide +kernel)
theorem wd_463 : (Jvm.Cond.laysStatic "java/lang/StringUTF16" "$assertionsDisabled" "Z") ∈ lw_tbl := List.mem_of_getElem? (i := 463) (by decide +kernel)
theorem wd_464 : (Jvm.Cond.fieldLink "java/lang/StringUTF16" (59 : Nat) "java/lang/StringUTF16" "HI_BYTE_SHIFT" "I") ∈ lw_tbl := List.mem_of_getElem? (i := 464) (by decide +kernel)
theorem wd_465 : (Jvm.Cond.laysStatic "java/lang/StringUTF16" "HI_BYTE_SHIFT" "I") ∈ lw_tbl := List.mem_of_getElem? (i := 465) (by decide +kernel)
theorem wd_466 : (Jvm.Cond.fieldLink "java/lang/StringUTF16" (63 : Nat) "java/lang/StringUTF16" "LO_BYTE_SHIFT" "I") ∈ lw_tbl := List.mem_of_getElem? (i := 466) (by decide +kernel)
theorem wd_467 : (Jvm.Cond.laysStatic "java/lang/StringUTF16" "LO_BYTE_SHIFT" "I") ∈ lw_tbl := List.mem_of_getElem? (i := 467) (by decide +kernel)
theorem wd_468 : (Jvm.Cond.methodLink "BunchNotes$Text" (52 : Nat) ({ cls := "BunchNotes$Text", name := "readNet", desc := "(LBunchNotes$Net;)Z" } : Jvm.MethodName)) ∈ lw_tbl := List.mem_of_getElem? (i := 468) (by decide +kernel)
theorem wd_469 : (Jvm.Cond.privateMethod ({ cls := "BunchNotes$Text", name := "readNet", desc := "(LBunchNotes$Net;)Z" } : Jvm.MethodName)) ∈ lw_tbl := List.mem_of_getElem? (i := 469) (by decide +kernel)
theorem wd_470 : (Jvm.Cond.instanceMethod ({ cls := "BunchNotes$Text", name := "readNet", desc := "(LBunchNotes$Net;)Z" } : Jvm.MethodName)) ∈ lw_tbl := List.mem_of_getElem? (i := 470) (by decide +kernel)
theorem wd_471 : (Jvm.Cond.code ({ cls := "BunchNotes$Text", name := "readNet", desc := "(LBunchNotes$Net;)Z" } : Jvm.MethodName) prog_9_method_5_code (3 : Nat) (Option.some Jvm.ClassFile.FieldType.boolean)) ∈ lw_tbl := List.mem_of_getElem? (i := 471) (by decide +kernel)
theorem wd_472 : (Jvm.Cond.methodLink "BunchNotes$Text" (65 : Nat) ({ cls := "BunchNotes$Text", name := "number", desc := "(II)I" } : Jvm.MethodName)) ∈ lw_tbl := List.mem_of_getElem? (i := 472) (by decide +kernel)
theorem wd_473 : (Jvm.Cond.privateMethod ({ cls := "BunchNotes$Text", name := "number", desc := "(II)I" } : Jvm.MethodName)) ∈ lw_tbl := List.mem_of_getElem? (i := 473) (by decide +kernel)
theorem wd_474 : (Jvm.Cond.instanceMethod ({ cls := "BunchNotes$Text", name := "number", desc := "(II)I" } : Jvm.MethodName)) ∈ lw_tbl := List.mem_of_getElem? (i := 474) (by decide +kernel)
theorem wd_475 : (Jvm.Cond.code ({ cls := "BunchNotes$Text", name := "number", desc := "(II)I" } : Jvm.MethodName) prog_9_method_12_code (5 : Nat) (Option.some Jvm.ClassFile.FieldType.int)) ∈ lw_tbl := List.mem_of_getElem? (i := 475) (by decide +kernel)
theorem wd_476 : (Jvm.Cond.methodLink "BunchNotes$Text" (69 : Nat) ({ cls := "BunchNotes$Net", name := "startWith", desc := "(I)V" } : Jvm.MethodName)) ∈ lw_tbl := List.mem_of_getElem? (i := 476) (by decide +kernel)
theorem wd_477 : (Jvm.Cond.instanceMethod ({ cls := "BunchNotes$Net", name := "startWith", desc := "(I)V" } : Jvm.MethodName)) ∈ lw_tbl := List.mem_of_getElem? (i := 477) (by decide +kernel)
theorem wd_478 : (Jvm.Cond.selects "BunchNotes$Net" ({ cls := "BunchNotes$Net", name := "startWith", desc := "(I)V" } : Jvm.MethodName) ({ cls := "BunchNotes$Net", name := "startWith", desc := "(I)V" } : Jvm.MethodName)) ∈ lw_tbl := List.mem_of_getElem? (i := 478) (by decide +kernel)
theorem wd_479 : (Jvm.Cond.code ({ cls := "BunchNotes$Net", name := "startWith", desc := "(I)V" } : Jvm.MethodName) prog_3_method_11_code (2 : Nat) (Option.none : Option Jvm.ClassFile.FieldType)) ∈ lw_tbl := List.mem_of_getElem? (i := 479) (by decide +kernel)
theorem wd_480 : (Jvm.Cond.methodLink "BunchNotes$Net" (40 : Nat) ({ cls := "java/util/Arrays", name := "fill", desc := "([II)V" } : Jvm.MethodName)) ∈ lw_tbl := List.mem_of_getElem? (i := 480) (by decide +kernel)
theorem wd_481 : (Jvm.Cond.static ({ cls := "java/util/Arrays", name := "fill", desc := "([II)V" } : Jvm.MethodName)) ∈ lw_tbl := List.mem_of_getElem? (i := 481) (by decide +kernel)
theorem wd_482 : (Jvm.Cond.code ({ cls := "java/util/Arrays", name := "fill", desc := "([II)V" } : Jvm.MethodName) prog_19_method_103_code (4 : Nat) (Option.none : Option Jvm.ClassFile.FieldType)) ∈ lw_tbl := List.mem_of_getElem? (i := 482) (by decide +kernel)
theorem wd_483 : (Jvm.Cond.stringRef "BunchNotes$Text" (55 : Nat) "link") ∈ lw_tbl := List.mem_of_getElem? (i := 483) (by decide +kernel)
theorem wd_484 : (Jvm.Cond.methodLink "BunchNotes$Text" (57 : Nat) ({ cls := "BunchNotes$Text", name := "readLink", desc := "(LBunchNotes$Net;)Z" } : Jvm.MethodName)) ∈ lw_tbl := List.mem_of_getElem? (i := 484) (by decide +kernel)
theorem wd_485 : (Jvm.Cond.privateMethod ({ cls := "BunchNotes$Text", name := "readLink", desc := "(LBunchNotes$Net;)Z" } : Jvm.MethodName)) ∈ lw_tbl := List.mem_of_getElem? (i := 485) (by decide +kernel)
theorem wd_486 : (Jvm.Cond.instanceMethod ({ cls := "BunchNotes$Text", name := "readLink", desc := "(LBunchNotes$Net;)Z" } : Jvm.MethodName)) ∈ lw_tbl := List.mem_of_getElem? (i := 486) (by decide +kernel)
theorem wd_487 : (Jvm.Cond.code ({ cls := "BunchNotes$Text", name := "readLink", desc := "(LBunchNotes$Net;)Z" } : Jvm.MethodName) prog_9_method_6_code (5 : Nat) (Option.some Jvm.ClassFile.FieldType.boolean)) ∈ lw_tbl := List.mem_of_getElem? (i := 487) (by decide +kernel)
theorem wd_488 : (Jvm.Cond.methodLink "BunchNotes$Text" (78 : Nat) ({ cls := "BunchNotes$Net", name := "hasRoomFor", desc := "(II)Z" } : Jvm.MethodName)) ∈ lw_tbl := List.mem_of_getElem? (i := 488) (by decide +kernel)
theorem wd_489 : (Jvm.Cond.instanceMethod ({ cls := "BunchNotes$Net", name := "hasRoomFor", desc := "(II)Z" } : Jvm.MethodName)) ∈ lw_tbl := List.mem_of_getElem? (i := 489) (by decide +kernel)
theorem wd_490 : (Jvm.Cond.selects "BunchNotes$Net" ({ cls := "BunchNotes$Net", name := "hasRoomFor", desc := "(II)Z" } : Jvm.MethodName) ({ cls := "BunchNotes$Net", name := "hasRoomFor", desc := "(II)Z" } : Jvm.MethodName)) ∈ lw_tbl := List.mem_of_getElem? (i := 490) (by decide +kernel)
theorem wd_491 : (Jvm.Cond.code ({ cls := "BunchNotes$Net", name := "hasRoomFor", desc := "(II)Z" } : Jvm.MethodName) prog_3_method_5_code (3 : Nat) (Option.some Jvm.ClassFile.FieldType.boolean)) ∈ lw_tbl := List.mem_of_getElem? (i := 491) (by decide +kernel)
theorem wd_492 : (Jvm.Cond.methodLink "BunchNotes$Net" (28 : Nat) ({ cls := "BunchNotes$Net", name := "has", desc := "(I)Z" } : Jvm.MethodName)) ∈ lw_tbl := List.mem_of_getElem? (i := 492) (by decide +kernel)
theorem wd_493 : (Jvm.Cond.instanceMethod ({ cls := "BunchNotes$Net", name := "has", desc := "(I)Z" } : Jvm.MethodName)) ∈ lw_tbl := List.mem_of_getElem? (i := 493) (by decide +kernel)
theorem wd_494 : (Jvm.Cond.selects "BunchNotes$Net" ({ cls := "BunchNotes$Net", name := "has", desc := "(I)Z" } : Jvm.MethodName) ({ cls := "BunchNotes$Net", name := "has", desc := "(I)Z" } : Jvm.MethodName)) ∈ lw_tbl := List.mem_of_getElem? (i := 494) (by decide +kernel)
theorem wd_495 : (Jvm.Cond.code ({ cls := "BunchNotes$Net", name := "has", desc := "(I)Z" } : Jvm.MethodName) prog_3_method_2_code (2 : Nat) (Option.some Jvm.ClassFile.FieldType.boolean)) ∈ lw_tbl := List.mem_of_getElem? (i := 495) (by decide +kernel)
theorem wd_496 : (Jvm.Cond.methodLinkNest "BunchNotes$Net" (32 : Nat) ({ cls := "BunchNotes", name := "cell", desc := "(II)I" } : Jvm.MethodName) "BunchNotes") ∈ lw_tbl := List.mem_of_getElem? (i := 496) (by decide +kernel)
theorem wd_497 : (Jvm.Cond.static ({ cls := "BunchNotes", name := "cell", desc := "(II)I" } : Jvm.MethodName)) ∈ lw_tbl := List.mem_of_getElem? (i := 497) (by decide +kernel)
theorem wd_498 : (Jvm.Cond.code ({ cls := "BunchNotes", name := "cell", desc := "(II)I" } : Jvm.MethodName) prog_1_method_34_code (2 : Nat) (Option.some Jvm.ClassFile.FieldType.int)) ∈ lw_tbl := List.mem_of_getElem? (i := 498) (by decide +kernel)
theorem wd_499 : (Jvm.Cond.methodLink "BunchNotes$Text" (82 : Nat) ({ cls := "BunchNotes$Net", name := "setLength", desc := "(III)V" } : Jvm.MethodName)) ∈ lw_tbl := List.mem_of_getElem? (i := 499) (by decide +kernel)
theorem wd_500 : (Jvm.Cond.instanceMethod ({ cls := "BunchNotes$Net", name := "setLength", desc := "(III)V" } : Jvm.MethodName)) ∈ lw_tbl := List.mem_of_getElem? (i := 500) (by decide +kernel)
theorem wd_501 : (Jvm.Cond.selects "BunchNotes$Net" ({ cls := "BunchNotes$Net", name := "setLength", desc := "(III)V" } : Jvm.MethodName) ({ cls := "BunchNotes$Net", name := "setLength", desc := "(III)V" } : Jvm.MethodName)) ∈ lw_tbl := List.mem_of_getElem? (i := 501) (by decide +kernel)
theorem wd_502 : (Jvm.Cond.code ({ cls := "BunchNotes$Net", name := "setLength", desc := "(III)V" } : Jvm.MethodName) prog_3_method_6_code (4 : Nat) (Option.none : Option Jvm.ClassFile.FieldType)) ∈ lw_tbl := List.mem_of_getElem? (i := 502) (by decide +kernel)
theorem wd_503 : (Jvm.Cond.stringRef "BunchNotes$Text" (60 : Nat) "level") ∈ lw_tbl := List.mem_of_getElem? (i := 503) (by decide +kernel)
theorem wd_504 : (Jvm.Cond.methodLink "BunchNotes$Text" (62 : Nat) ({ cls := "BunchNotes$Text", name := "readLevel", desc := "(LBunchNotes$Net;)Z" } : Jvm.MethodName)) ∈ lw_tbl := List.mem_of_getElem? (i := 504) (by decide +kernel)
theorem wd_505 : (Jvm.Cond.privateMethod ({ cls := "BunchNotes$Text", name := "readLevel", desc := "(LBunchNotes$Net;)Z" } : Jvm.MethodName)) ∈ lw_tbl := List.mem_of_getElem? (i := 505) (by decide +kernel)
theorem wd_506 : (Jvm.Cond.instanceMethod ({ cls := "BunchNotes$Text", name := "readLevel", desc := "(LBunchNotes$Net;)Z" } : Jvm.MethodName)) ∈ lw_tbl := List.mem_of_getElem? (i := 506) (by decide +kernel)
theorem wd_507 : (Jvm.Cond.code ({ cls := "BunchNotes$Text", name := "readLevel", desc := "(LBunchNotes$Net;)Z" } : Jvm.MethodName) prog_9_method_7_code (4 : Nat) (Option.some Jvm.ClassFile.FieldType.boolean)) ∈ lw_tbl := List.mem_of_getElem? (i := 507) (by decide +kernel)
theorem wd_508 : (Jvm.Cond.methodLink "BunchNotes$Text" (86 : Nat) ({ cls := "BunchNotes$Net", name := "setLevel", desc := "(II)V" } : Jvm.MethodName)) ∈ lw_tbl := List.mem_of_getElem? (i := 508) (by decide +kernel)
theorem wd_509 : (Jvm.Cond.instanceMethod ({ cls := "BunchNotes$Net", name := "setLevel", desc := "(II)V" } : Jvm.MethodName)) ∈ lw_tbl := List.mem_of_getElem? (i := 509) (by decide +kernel)
theorem wd_510 : (Jvm.Cond.selects "BunchNotes$Net" ({ cls := "BunchNotes$Net", name := "setLevel", desc := "(II)V" } : Jvm.MethodName) ({ cls := "BunchNotes$Net", name := "setLevel", desc := "(II)V" } : Jvm.MethodName)) ∈ lw_tbl := List.mem_of_getElem? (i := 510) (by decide +kernel)
theorem wd_511 : (Jvm.Cond.code ({ cls := "BunchNotes$Net", name := "setLevel", desc := "(II)V" } : Jvm.MethodName) prog_3_method_7_code (3 : Nat) (Option.none : Option Jvm.ClassFile.FieldType)) ∈ lw_tbl := List.mem_of_getElem? (i := 511) (by decide +kernel)
theorem wd_512 : (Jvm.Cond.methodLink "BunchNotes$Text" (42 : Nat) ({ cls := "BunchNotes$Text", name := "isSemicolon", desc := "()Z" } : Jvm.MethodName)) ∈ lw_tbl := List.mem_of_getElem? (i := 512) (by decide +kernel)
theorem wd_513 : (Jvm.Cond.privateMethod ({ cls := "BunchNotes$Text", name := "isSemicolon", desc := "()Z" } : Jvm.MethodName)) ∈ lw_tbl := List.mem_of_getElem? (i := 513) (by decide +kernel)
theorem wd_514 : (Jvm.Cond.instanceMethod ({ cls := "BunchNotes$Text", name := "isSemicolon", desc := "()Z" } : Jvm.MethodName)) ∈ lw_tbl := List.mem_of_getElem? (i := 514) (by decide +kernel)
theorem wd_515 : (Jvm.Cond.code ({ cls := "BunchNotes$Text", name := "isSemicolon", desc := "()Z" } : Jvm.MethodName) prog_9_method_10_code (1 : Nat) (Option.some Jvm.ClassFile.FieldType.boolean)) ∈ lw_tbl := List.mem_of_getElem? (i := 515) (by decide +kernel)
theorem wd_516 : (Jvm.Cond.arrayClass Jvm.ClassFile.FieldType.byte) ∈ lw_tbl := List.mem_of_getElem? (i := 516) (by decide +kernel)
theorem wd_517 : (Jvm.Cond.methodLink "BunchNotesLaw" (27 : Nat) ({ cls := "BunchNotes", name := "net", desc := "()I" } : Jvm.MethodName)) ∈ lw_tbl := List.mem_of_getElem? (i := 517) (by decide +kernel)
theorem wd_518 : (Jvm.Cond.instanceMethod ({ cls := "BunchNotes", name := "net", desc := "()I" } : Jvm.MethodName)) ∈ lw_tbl := List.mem_of_getElem? (i := 518) (by decide +kernel)
theorem wd_519 : (Jvm.Cond.selects "BunchNotes" ({ cls := "BunchNotes", name := "net", desc := "()I" } : Jvm.MethodName) ({ cls := "BunchNotes", name := "net", desc := "()I" } : Jvm.MethodName)) ∈ lw_tbl := List.mem_of_getElem? (i := 519) (by decide +kernel)
theorem wd_520 : (Jvm.Cond.code ({ cls := "BunchNotes", name := "net", desc := "()I" } : Jvm.MethodName) prog_1_method_5_code (1 : Nat) (Option.some Jvm.ClassFile.FieldType.int)) ∈ lw_tbl := List.mem_of_getElem? (i := 520) (by decide +kernel)
theorem wd_521 : (Jvm.Cond.methodLink "BunchNotes" (103 : Nat) ({ cls := "BunchNotes", name := "blankAll", desc := "()V" } : Jvm.MethodName)) ∈ lw_tbl := List.mem_of_getElem? (i := 521) (by decide +kernel)
theorem wd_522 : (Jvm.Cond.privateMethod ({ cls := "BunchNotes", name := "blankAll", desc := "()V" } : Jvm.MethodName)) ∈ lw_tbl := List.mem_of_getElem? (i := 522) (by decide +kernel)
theorem wd_523 : (Jvm.Cond.instanceMethod ({ cls := "BunchNotes", name := "blankAll", desc := "()V" } : Jvm.MethodName)) ∈ lw_tbl := List.mem_of_getElem? (i := 523) (by decide +kernel)
theorem wd_524 : (Jvm.Cond.code ({ cls := "BunchNotes", name := "blankAll", desc := "()V" } : Jvm.MethodName) prog_1_method_38_code (2 : Nat) (Option.none : Option Jvm.ClassFile.FieldType)) ∈ lw_tbl := List.mem_of_getElem? (i := 524) (by decide +kernel)
theorem wd_525 : (Jvm.Cond.methodLink "BunchNotes" (107 : Nat) ({ cls := "BunchNotes", name := "forgetSlots", desc := "()V" } : Jvm.MethodName)) ∈ lw_tbl := List.mem_of_getElem? (i := 525) (by decide +kernel)
theorem wd_526 : (Jvm.Cond.privateMethod ({ cls := "BunchNotes", name := "forgetSlots", desc := "()V" } : Jvm.MethodName)) ∈ lw_tbl := List.mem_of_getElem? (i := 526) (by decide +kernel)
theorem wd_527 : (Jvm.Cond.instanceMethod ({ cls := "BunchNotes", name := "forgetSlots", desc := "()V" } : Jvm.MethodName)) ∈ lw_tbl := List.mem_of_getElem? (i := 527) (by decide +kernel)
theorem wd_528 : (Jvm.Cond.code ({ cls := "BunchNotes", name := "forgetSlots", desc := "()V" } : Jvm.MethodName) prog_1_method_39_code (2 : Nat) (Option.none : Option Jvm.ClassFile.FieldType)) ∈ lw_tbl := List.mem_of_getElem? (i := 528) (by decide +kernel)
theorem wd_529 : (Jvm.Cond.methodLink "BunchNotesLaw" (31 : Nat) ({ cls := "BunchNotes", name := "link", desc := "(II)I" } : Jvm.MethodName)) ∈ lw_tbl := List.mem_of_getElem? (i := 529) (by decide +kernel)
theorem wd_530 : (Jvm.Cond.instanceMethod ({ cls := "BunchNotes", name := "link", desc := "(II)I" } : Jvm.MethodName)) ∈ lw_tbl := List.mem_of_getElem? (i := 530) (by decide +kernel)
theorem wd_531 : (Jvm.Cond.selects "BunchNotes" ({ cls := "BunchNotes", name := "link", desc := "(II)I" } : Jvm.MethodName) ({ cls := "BunchNotes", name := "link", desc := "(II)I" } : Jvm.MethodName)) ∈ lw_tbl := List.mem_of_getElem? (i := 531) (by decide +kernel)
theorem wd_532 : (Jvm.Cond.code ({ cls := "BunchNotes", name := "link", desc := "(II)I" } : Jvm.MethodName) prog_1_method_6_code (6 : Nat) (Option.some Jvm.ClassFile.FieldType.int)) ∈ lw_tbl := List.mem_of_getElem? (i := 532) (by decide +kernel)
theorem wd_533 : (Jvm.Cond.methodLink "BunchNotes" (113 : Nat) ({ cls := "BunchNotes$Net", name := "cellOfLink", desc := "(I)I" } : Jvm.MethodName)) ∈ lw_tbl := List.mem_of_getElem? (i := 533) (by decide +kernel)
theorem wd_534 : (Jvm.Cond.instanceMethod ({ cls := "BunchNotes$Net", name := "cellOfLink", desc := "(I)I" } : Jvm.MethodName)) ∈ lw_tbl := List.mem_of_getElem? (i := 534) (by decide +kernel)
theorem wd_535 : (Jvm.Cond.selects "BunchNotes$Net" ({ cls := "BunchNotes$Net", name := "cellOfLink", desc := "(I)I" } : Jvm.MethodName) ({ cls := "BunchNotes$Net", name := "cellOfLink", desc := "(I)I" } : Jvm.MethodName)) ∈ lw_tbl := List.mem_of_getElem? (i := 535) (by decide +kernel)
theorem wd_536 : (Jvm.Cond.code ({ cls := "BunchNotes$Net", name := "cellOfLink", desc := "(I)I" } : Jvm.MethodName) prog_3_method_8_code (5 : Nat) (Option.some Jvm.ClassFile.FieldType.int)) ∈ lw_tbl := List.mem_of_getElem? (i := 536) (by decide +kernel)
theorem wd_537 : (Jvm.Cond.methodLink "BunchNotes" (117 : Nat) ({ cls := "BunchNotes$Net", name := "lengthOf", desc := "(II)I" } : Jvm.MethodName)) ∈ lw_tbl := List.mem_of_getElem? (i := 537) (by decide +kernel)
theorem wd_538 : (Jvm.Cond.instanceMethod ({ cls := "BunchNotes$Net", name := "lengthOf", desc := "(II)I" } : Jvm.MethodName)) ∈ lw_tbl := List.mem_of_getElem? (i := 538) (by decide +kernel)
theorem wd_539 : (Jvm.Cond.selects "BunchNotes$Net" ({ cls := "BunchNotes$Net", name := "lengthOf", desc := "(II)I" } : Jvm.MethodName) ({ cls := "BunchNotes$Net", name := "lengthOf", desc := "(II)I" } : Jvm.MethodName)) ∈ lw_tbl := List.mem_of_getElem? (i := 539) (by decide +kernel)
theorem wd_540 : (Jvm.Cond.code ({ cls := "BunchNotes$Net", name := "lengthOf", desc := "(II)I" } : Jvm.MethodName) prog_3_method_3_code (3 : Nat) (Option.some Jvm.ClassFile.FieldType.int)) ∈ lw_tbl := List.mem_of_getElem? (i := 540) (by decide +kernel)
theorem wd_541 : (Jvm.Cond.methodLink "BunchNotesLaw" (36 : Nat) ({ cls := "BunchNotes", name := "level", desc := "(I)I" } : Jvm.MethodName)) ∈ lw_tbl := List.mem_of_getElem? (i := 541) (by decide +kernel)
theorem wd_542 : (Jvm.Cond.instanceMethod ({ cls := "BunchNotes", name := "level", desc := "(I)I" } : Jvm.MethodName)) ∈ lw_tbl := List.mem_of_getElem? (i := 542) (by decide +kernel)
theorem wd_543 : (Jvm.Cond.selects "BunchNotes" ({ cls := "BunchNotes", name := "level", desc := "(I)I" } : Jvm.MethodName) ({ cls := "BunchNotes", name := "level", desc := "(I)I" } : Jvm.MethodName)) ∈ lw_tbl := List.mem_of_getElem? (i := 543) (by decide +kernel)
theorem wd_544 : (Jvm.Cond.code ({ cls := "BunchNotes", name := "level", desc := "(I)I" } : Jvm.MethodName) prog_1_method_7_code (2 : Nat) (Option.some Jvm.ClassFile.FieldType.int)) ∈ lw_tbl := List.mem_of_getElem? (i := 544) (by decide +kernel)
theorem wd_545 : (Jvm.Cond.methodLink "BunchNotes" (121 : Nat) ({ cls := "BunchNotes$Net", name := "has", desc := "(I)Z" } : Jvm.MethodName)) ∈ lw_tbl := List.mem_of_getElem? (i := 545) (by decide +kernel)
theorem wd_546 : (Jvm.Cond.methodLink "BunchNotes" (125 : Nat) ({ cls := "BunchNotes$Net", name := "levelOf", desc := "(I)I" } : Jvm.MethodName)) ∈ lw_tbl := List.mem_of_getElem? (i := 546) (by decide +kernel)
theorem wd_547 : (Jvm.Cond.instanceMethod ({ cls := "BunchNotes$Net", name := "levelOf", desc := "(I)I" } : Jvm.MethodName)) ∈ lw_tbl := List.mem_of_getElem? (i := 547) (by decide +kernel)
theorem wd_548 : (Jvm.Cond.selects "BunchNotes$Net" ({ cls := "BunchNotes$Net", name := "levelOf", desc := "(I)I" } : Jvm.MethodName) ({ cls := "BunchNotes$Net", name := "levelOf", desc := "(I)I" } : Jvm.MethodName)) ∈ lw_tbl := List.mem_of_getElem? (i := 548) (by decide +kernel)
theorem wd_549 : (Jvm.Cond.code ({ cls := "BunchNotes$Net", name := "levelOf", desc := "(I)I" } : Jvm.MethodName) prog_3_method_4_code (2 : Nat) (Option.some Jvm.ClassFile.FieldType.int)) ∈ lw_tbl := List.mem_of_getElem? (i := 549) (by decide +kernel)
theorem wd_550 : (Jvm.Cond.methodLink "BunchNotesLaw" (40 : Nat) ({ cls := "BunchNotes", name := "join", desc := "(III)I" } : Jvm.MethodName)) ∈ lw_tbl := List.mem_of_getElem? (i := 550) (by decide +kernel)
theorem wd_551 : (Jvm.Cond.instanceMethod ({ cls := "BunchNotes", name := "join", desc := "(III)I" } : Jvm.MethodName)) ∈ lw_tbl := List.mem_of_getElem? (i := 551) (by decide +kernel)
theorem wd_552 : (Jvm.Cond.selects "BunchNotes" ({ cls := "BunchNotes", name := "join", desc := "(III)I" } : Jvm.MethodName) ({ cls := "BunchNotes", name := "join", desc := "(III)I" } : Jvm.MethodName)) ∈ lw_tbl := List.mem_of_getElem? (i := 552) (by decide +kernel)
theorem wd_553 : (Jvm.Cond.code ({ cls := "BunchNotes", name := "join", desc := "(III)I" } : Jvm.MethodName) prog_1_method_8_code (4 : Nat) (Option.some Jvm.ClassFile.FieldType.int)) ∈ lw_tbl := List.mem_of_getElem? (i := 553) (by decide +kernel)
theorem wd_554 : (Jvm.Cond.methodLink "BunchNotes" (128 : Nat) ({ cls := "BunchNotes", name := "bothThere", desc := "(II)Z" } : Jvm.MethodName)) ∈ lw_tbl := List.mem_of_getElem? (i := 554) (by decide +kernel)
theorem wd_555 : (Jvm.Cond.privateMethod ({ cls := "BunchNotes", name := "bothThere", desc := "(II)Z" } : Jvm.MethodName)) ∈ lw_tbl := List.mem_of_getElem? (i := 555) (by decide +kernel)
theorem wd_556 : (Jvm.Cond.instanceMethod ({ cls := "BunchNotes", name := "bothThere", desc := "(II)Z" } : Jvm.MethodName)) ∈ lw_tbl := List.mem_of_getElem? (i := 556) (by decide +kernel)
theorem wd_557 : (Jvm.Cond.code ({ cls := "BunchNotes", name := "bothThere", desc := "(II)Z" } : Jvm.MethodName) prog_1_method_36_code (3 : Nat) (Option.some Jvm.ClassFile.FieldType.boolean)) ∈ lw_tbl := List.mem_of_getElem? (i := 557) (by decide +kernel)
theorem wd_558 : (Jvm.Cond.methodLink "BunchNotes" (132 : Nat) ({ cls := "BunchNotes$Net", name := "hasRoomFor", desc := "(II)Z" } : Jvm.MethodName)) ∈ lw_tbl := List.mem_of_getElem? (i := 558) (by decide +kernel)
theorem wd_559 : (Jvm.Cond.methodLink "BunchNotes" (135 : Nat) ({ cls := "BunchNotes$Past", name := "push", desc := "(LBunchNotes$Net;)V" } : Jvm.MethodName)) ∈ lw_tbl := List.mem_of_getElem? (i := 559) (by decide +kernel)
theorem wd_560 : (Jvm.Cond.instanceMethod ({ cls := "BunchNotes$Past", name := "push", desc := "(LBunchNotes$Net;)V" } : Jvm.MethodName)) ∈ lw_tbl := List.mem_of_getElem? (i := 560) (by decide +kernel)
theorem wd_561 : (Jvm.Cond.selects "BunchNotes$Past" ({ cls := "BunchNotes$Past", name := "push", desc := "(LBunchNotes$Net;)V" } : Jvm.MethodName) ({ cls := "BunchNotes$Past", name := "push", desc := "(LBunchNotes$Net;)V" } : Jvm.MethodName)) ∈ lw_tbl := List.mem_of_getElem? (i := 561) (by decide +kernel)
theorem wd_562 : (Jvm.Cond.code ({ cls := "BunchNotes$Past", name := "push", desc := "(LBunchNotes$Net;)V" } : Jvm.MethodName) prog_5_method_2_code (2 : Nat) (Option.none : Option Jvm.ClassFile.FieldType)) ∈ lw_tbl := List.mem_of_getElem? (i := 562) (by decide +kernel)
theorem wd_563 : (Jvm.Cond.methodLink "BunchNotes$Past" (22 : Nat) ({ cls := "BunchNotes$Net", name := "copyFrom", desc := "(LBunchNotes$Net;)V" } : Jvm.MethodName)) ∈ lw_tbl := List.mem_of_getElem? (i := 563) (by decide +kernel)
theorem wd_564 : (Jvm.Cond.methodLink "BunchNotes$Past" (29 : Nat) ({ cls := "java/lang/Math", name := "min", desc := "(II)I" } : Jvm.MethodName)) ∈ lw_tbl := List.mem_of_getElem? (i := 564) (by decide +kernel)
theorem wd_565 : (Jvm.Cond.static ({ cls := "java/lang/Math", name := "min", desc := "(II)I" } : Jvm.MethodName)) ∈ lw_tbl := List.mem_of_getElem? (i := 565) (by decide +kernel)
theorem wd_566 : (Jvm.Cond.code ({ cls := "java/lang/Math", name := "min", desc := "(II)I" } : Jvm.MethodName) prog_14_method_69_code (2 : Nat) (Option.some Jvm.ClassFile.FieldType.int)) ∈ lw_tbl := List.mem_of_getElem? (i := 566) (by decide +kernel)
theorem wd_567 : (Jvm.Cond.methodLink "BunchNotes" (138 : Nat) ({ cls := "BunchNotes$Net", name := "setLength", desc := "(III)V" } : Jvm.MethodName)) ∈ lw_tbl := List.mem_of_getElem? (i := 567) (by decide +kernel)
theorem wd_568 : (Jvm.Cond.methodLink "BunchNotesLaw" (45 : Nat) ({ cls := "BunchNotes", name := "cut", desc := "(II)I" } : Jvm.MethodName)) ∈ lw_tbl := List.mem_of_getElem? (i := 568) (by decide +kernel)
theorem wd_569 : (Jvm.Cond.instanceMethod ({ cls := "BunchNotes", name := "cut", desc := "(II)I" } : Jvm.MethodName)) ∈ lw_tbl := List.mem_of_getElem? (i := 569) (by decide +kernel)
theorem wd_570 : (Jvm.Cond.selects "BunchNotes" ({ cls := "BunchNotes", name := "cut", desc := "(II)I" } : Jvm.MethodName) ({ cls := "BunchNotes", name := "cut", desc := "(II)I" } : Jvm.MethodName)) ∈ lw_tbl := List.mem_of_getElem? (i := 570) (by decide +kernel)
theorem wd_571 : (Jvm.Cond.code ({ cls := "BunchNotes", name := "cut", desc := "(II)I" } : Jvm.MethodName) prog_1_method_9_code (4 : Nat) (Option.some Jvm.ClassFile.FieldType.int)) ∈ lw_tbl := List.mem_of_getElem? (i := 571) (by decide +kernel)
theorem wd_572 : (Jvm.Cond.methodLink "BunchNotesLaw" (49 : Nat) ({ cls := "BunchNotes", name := "lift", desc := "(II)I" } : Jvm.MethodName)) ∈ lw_tbl := List.mem_of_getElem? (i := 572) (by decide +kernel)
theorem wd_573 : (Jvm.Cond.instanceMethod ({ cls := "BunchNotes", name := "lift", desc := "(II)I" } : Jvm.MethodName)) ∈ lw_tbl := List.mem_of_getElem? (i := 573) (by decide +kernel)
theorem wd_574 : (Jvm.Cond.selects "BunchNotes" ({ cls := "BunchNotes", name := "lift", desc := "(II)I" } : Jvm.MethodName) ({ cls := "BunchNotes", name := "lift", desc := "(II)I" } : Jvm.MethodName)) ∈ lw_tbl := List.mem_of_getElem? (i := 574) (by decide +kernel)
theorem wd_575 : (Jvm.Cond.code ({ cls := "BunchNotes", name := "lift", desc := "(II)I" } : Jvm.MethodName) prog_1_method_10_code (4 : Nat) (Option.some Jvm.ClassFile.FieldType.int)) ∈ lw_tbl := List.mem_of_getElem? (i := 575) (by decide +kernel)
theorem wd_576 : (Jvm.Cond.methodLink "BunchNotes" (145 : Nat) ({ cls := "BunchNotes$Net", name := "setLevel", desc := "(II)V" } : Jvm.MethodName)) ∈ lw_tbl := List.mem_of_getElem? (i := 576) (by decide +kernel)
theorem wd_577 : (Jvm.Cond.methodLink "BunchNotesLaw" (53 : Nat) ({ cls := "BunchNotes", name := "draw", desc := "(I)I" } : Jvm.MethodName)) ∈ lw_tbl := List.mem_of_getElem? (i := 577) (by decide +kernel)
theorem wd_578 : (Jvm.Cond.instanceMethod ({ cls := "BunchNotes", name := "draw", desc := "(I)I" } : Jvm.MethodName)) ∈ lw_tbl := List.mem_of_getElem? (i := 578) (by decide +kernel)
theorem wd_579 : (Jvm.Cond.selects "BunchNotes" ({ cls := "BunchNotes", name := "draw", desc := "(I)I" } : Jvm.MethodName) ({ cls := "BunchNotes", name := "draw", desc := "(I)I" } : Jvm.MethodName)) ∈ lw_tbl := List.mem_of_getElem? (i := 579) (by decide +kernel)
theorem wd_580 : (Jvm.Cond.code ({ cls := "BunchNotes", name := "draw", desc := "(I)I" } : Jvm.MethodName) prog_1_method_11_code (2 : Nat) (Option.some Jvm.ClassFile.FieldType.int)) ∈ lw_tbl := List.mem_of_getElem? (i := 580) (by decide +kernel)
theorem wd_581 : (Jvm.Cond.methodLink "BunchNotes" (149 : Nat) ({ cls := "BunchNotes$Net", name := "drawLevels", desc := "(I)V" } : Jvm.MethodName)) ∈ lw_tbl := List.mem_of_getElem? (i := 581) (by decide +kernel)
theorem wd_582 : (Jvm.Cond.instanceMethod ({ cls := "BunchNotes$Net", name := "drawLevels", desc := "(I)V" } : Jvm.MethodName)) ∈ lw_tbl := List.mem_of_getElem? (i := 582) (by decide +kernel)
theorem wd_583 : (Jvm.Cond.selects "BunchNotes$Net" ({ cls := "BunchNotes$Net", name := "drawLevels", desc := "(I)V" } : Jvm.MethodName) ({ cls := "BunchNotes$Net", name := "drawLevels", desc := "(I)V" } : Jvm.MethodName)) ∈ lw_tbl := List.mem_of_getElem? (i := 583) (by decide +kernel)
theorem wd_584 : (Jvm.Cond.code ({ cls := "BunchNotes$Net", name := "drawLevels", desc := "(I)V" } : Jvm.MethodName) prog_3_method_10_code (4 : Nat) (Option.none : Option Jvm.ClassFile.FieldType)) ∈ lw_tbl := List.mem_of_getElem? (i := 584) (by decide +kernel)
theorem wd_585 : (Jvm.Cond.constant "BunchNotes$Net" (39 : Nat) (69069 : Int32)) ∈ lw_tbl := List.mem_of_getElem? (i := 585) (by decide +kernel)
theorem wd_586 : (Jvm.Cond.methodLink "BunchNotes" (155 : Nat) ({ cls := "BunchNotes$Net", name := "nodesOfLevel", desc := "(I)I" } : Jvm.MethodName)) ∈ lw_tbl := List.mem_of_getElem? (i := 586) (by decide +kernel)
theorem wd_587 : (Jvm.Cond.instanceMethod ({ cls := "BunchNotes$Net", name := "nodesOfLevel", desc := "(I)I" } : Jvm.MethodName)) ∈ lw_tbl := List.mem_of_getElem? (i := 587) (by decide +kernel)
theorem wd_588 : (Jvm.Cond.selects "BunchNotes$Net" ({ cls := "BunchNotes$Net", name := "nodesOfLevel", desc := "(I)I" } : Jvm.MethodName) ({ cls := "BunchNotes$Net", name := "nodesOfLevel", desc := "(I)I" } : Jvm.MethodName)) ∈ lw_tbl := List.mem_of_getElem? (i := 588) (by decide +kernel)
theorem wd_589 : (Jvm.Cond.code ({ cls := "BunchNotes$Net", name := "nodesOfLevel", desc := "(I)I" } : Jvm.MethodName) prog_3_method_9_code (4 : Nat) (Option.some Jvm.ClassFile.FieldType.int)) ∈ lw_tbl := List.mem_of_getElem? (i := 589) (by decide +kernel)
theorem wd_590 : (Jvm.Cond.methodLink "BunchNotesLaw" (57 : Nat) ({ cls := "BunchNotes", name := "thin", desc := "(I)I" } : Jvm.MethodName)) ∈ lw_tbl := List.mem_of_getElem? (i := 590) (by decide +kernel)
theorem wd_591 : (Jvm.Cond.instanceMethod ({ cls := "BunchNotes", name := "thin", desc := "(I)I" } : Jvm.MethodName)) ∈ lw_tbl := List.mem_of_getElem? (i := 591) (by decide +kernel)
theorem wd_592 : (Jvm.Cond.selects "BunchNotes" ({ cls := "BunchNotes", name := "thin", desc := "(I)I" } : Jvm.MethodName) ({ cls := "BunchNotes", name := "thin", desc := "(I)I" } : Jvm.MethodName)) ∈ lw_tbl := List.mem_of_getElem? (i := 592) (by decide +kernel)
theorem wd_593 : (Jvm.Cond.code ({ cls := "BunchNotes", name := "thin", desc := "(I)I" } : Jvm.MethodName) prog_1_method_12_code (4 : Nat) (Option.some Jvm.ClassFile.FieldType.int)) ∈ lw_tbl := List.mem_of_getElem? (i := 593) (by decide +kernel)
theorem wd_594 : (Jvm.Cond.methodLink "BunchNotes" (158 : Nat) ({ cls := "BunchNotes$Thinning", name := "follow", desc := "(LBunchNotes$Net;I)V" } : Jvm.MethodName)) ∈ lw_tbl := List.mem_of_getElem? (i := 594) (by decide +kernel)
theorem wd_595 : (Jvm.Cond.instanceMethod ({ cls := "BunchNotes$Thinning", name := "follow", desc := "(LBunchNotes$Net;I)V" } : Jvm.MethodName)) ∈ lw_tbl := List.mem_of_getElem? (i := 595) (by decide +kernel)
theorem wd_596 : (Jvm.Cond.selects "BunchNotes$Thinning" ({ cls := "BunchNotes$Thinning", name := "follow", desc := "(LBunchNotes$Net;I)V" } : Jvm.MethodName) ({ cls := "BunchNotes$Thinning", name := "follow", desc := "(LBunchNotes$Net;I)V" } : Jvm.MethodName)) ∈ lw_tbl := List.mem_of_getElem? (i := 596) (by decide +kernel)
theorem wd_597 : (Jvm.Cond.code ({ cls := "BunchNotes$Thinning", name := "follow", desc := "(LBunchNotes$Net;I)V" } : Jvm.MethodName) prog_10_method_3_code (8 : Nat) (Option.none : Option Jvm.ClassFile.FieldType)) ∈ lw_tbl := List.mem_of_getElem? (i := 597) (by decide +kernel)
theorem wd_598 : (Jvm.Cond.methodLink "BunchNotes$Thinning" (37 : Nat) ({ cls := "BunchNotes$Thinning", name := "sortLinks", desc := "(LBunchNotes$Net;)V" } : Jvm.MethodName)) ∈ lw_tbl := List.mem_of_getElem? (i := 598) (by decide +kernel)
theorem wd_599 : (Jvm.Cond.privateMethod ({ cls := "BunchNotes$Thinning", name := "sortLinks", desc := "(LBunchNotes$Net;)V" } : Jvm.MethodName)) ∈ lw_tbl := List.mem_of_getElem? (i := 599) (by decide +kernel)
theorem wd_600 : (Jvm.Cond.instanceMethod ({ cls := "BunchNotes$Thinning", name := "sortLinks", desc := "(LBunchNotes$Net;)V" } : Jvm.MethodName)) ∈ lw_tbl := List.mem_of_getElem? (i := 600) (by decide +kernel)
theorem wd_601 : (Jvm.Cond.code ({ cls := "BunchNotes$Thinning", name := "sortLinks", desc := "(LBunchNotes$Net;)V" } : Jvm.MethodName) prog_10_method_6_code (4 : Nat) (Option.none : Option Jvm.ClassFile.FieldType)) ∈ lw_tbl := List.mem_of_getElem? (i := 601) (by decide +kernel)
theorem wd_602 : (Jvm.Cond.methodLink "BunchNotes$Thinning" (51 : Nat) ({ cls := "BunchNotes$Net", name := "lengthOf", desc := "(II)I" } : Jvm.MethodName)) ∈ lw_tbl := List.mem_of_getElem? (i := 602) (by decide +kernel)
theorem wd_603 : (Jvm.Cond.methodLink "BunchNotes$Thinning" (75 : Nat) ({ cls := "BunchNotes$Thinning", name := "insert", desc := "(LBunchNotes$Net;II)V" } : Jvm.MethodName)) ∈ lw_tbl := List.mem_of_getElem? (i := 603) (by decide +kernel)
theorem wd_604 : (Jvm.Cond.privateMethod ({ cls := "BunchNotes$Thinning", name := "insert", desc := "(LBunchNotes$Net;II)V" } : Jvm.MethodName)) ∈ lw_tbl := List.mem_of_getElem? (i := 604) (by decide +kernel)
theorem wd_605 : (Jvm.Cond.instanceMethod ({ cls := "BunchNotes$Thinning", name := "insert", desc := "(LBunchNotes$Net;II)V" } : Jvm.MethodName)) ∈ lw_tbl := List.mem_of_getElem? (i := 605) (by decide +kernel)
theorem wd_606 : (Jvm.Cond.code ({ cls := "BunchNotes$Thinning", name := "insert", desc := "(LBunchNotes$Net;II)V" } : Jvm.MethodName) prog_10_method_7_code (6 : Nat) (Option.none : Option Jvm.ClassFile.FieldType)) ∈ lw_tbl := List.mem_of_getElem? (i := 606) (by decide +kernel)
theorem wd_607 : (Jvm.Cond.methodLink "BunchNotes$Thinning" (79 : Nat) ({ cls := "BunchNotes$Thinning", name := "lengthAt", desc := "(LBunchNotes$Net;I)I" } : Jvm.MethodName)) ∈ lw_tbl := List.mem_of_getElem? (i := 607) (by decide +kernel)
theorem wd_608 : (Jvm.Cond.privateMethod ({ cls := "BunchNotes$Thinning", name := "lengthAt", desc := "(LBunchNotes$Net;I)I" } : Jvm.MethodName)) ∈ lw_tbl := List.mem_of_getElem? (i := 608) (by decide +kernel)
theorem wd_609 : (Jvm.Cond.instanceMethod ({ cls := "BunchNotes$Thinning", name := "lengthAt", desc := "(LBunchNotes$Net;I)I" } : Jvm.MethodName)) ∈ lw_tbl := List.mem_of_getElem? (i := 609) (by decide +kernel)
theorem wd_610 : (Jvm.Cond.code ({ cls := "BunchNotes$Thinning", name := "lengthAt", desc := "(LBunchNotes$Net;I)I" } : Jvm.MethodName) prog_10_method_8_code (3 : Nat) (Option.some Jvm.ClassFile.FieldType.int)) ∈ lw_tbl := List.mem_of_getElem? (i := 610) (by decide +kernel)
theorem wd_611 : (Jvm.Cond.methodLinkNest "BunchNotes$Thinning" (83 : Nat) ({ cls := "BunchNotes", name := "cell", desc := "(II)I" } : Jvm.MethodName) "BunchNotes") ∈ lw_tbl := List.mem_of_getElem? (i := 611) (by decide +kernel)
theorem wd_612 : (Jvm.Cond.methodLink "BunchNotes$Thinning" (44 : Nat) ({ cls := "BunchNotes$Thinning", name := "clear", desc := "(I)V" } : Jvm.MethodName)) ∈ lw_tbl := List.mem_of_getElem? (i := 612) (by decide +kernel)
theorem wd_613 : (Jvm.Cond.privateMethod ({ cls := "BunchNotes$Thinning", name := "clear", desc := "(I)V" } : Jvm.MethodName)) ∈ lw_tbl := List.mem_of_getElem? (i := 613) (by decide +kernel)
theorem wd_614 : (Jvm.Cond.instanceMethod ({ cls := "BunchNotes$Thinning", name := "clear", desc := "(I)V" } : Jvm.MethodName)) ∈ lw_tbl := List.mem_of_getElem? (i := 614) (by decide +kernel)
theorem wd_615 : (Jvm.Cond.code ({ cls := "BunchNotes$Thinning", name := "clear", desc := "(I)V" } : Jvm.MethodName) prog_10_method_5_code (2 : Nat) (Option.none : Option Jvm.ClassFile.FieldType)) ∈ lw_tbl := List.mem_of_getElem? (i := 615) (by decide +kernel)
theorem wd_616 : (Jvm.Cond.methodLink "BunchNotes$Thinning" (68 : Nat) ({ cls := "java/util/Arrays", name := "fill", desc := "([II)V" } : Jvm.MethodName)) ∈ lw_tbl := List.mem_of_getElem? (i := 616) (by decide +kernel)
theorem wd_617 : (Jvm.Cond.methodLink "BunchNotes$Thinning" (74 : Nat) ({ cls := "BunchNotes$Far", name := "clear", desc := "(I)V" } : Jvm.MethodName)) ∈ lw_tbl := List.mem_of_getElem? (i := 617) (by decide +kernel)
theorem wd_618 : (Jvm.Cond.instanceMethod ({ cls := "BunchNotes$Far", name := "clear", desc := "(I)V" } : Jvm.MethodName)) ∈ lw_tbl := List.mem_of_getElem? (i := 618) (by decide +kernel)
theorem wd_619 : (Jvm.Cond.selects "BunchNotes$Far" ({ cls := "BunchNotes$Far", name := "clear", desc := "(I)V" } : Jvm.MethodName) ({ cls := "BunchNotes$Far", name := "clear", desc := "(I)V" } : Jvm.MethodName)) ∈ lw_tbl := List.mem_of_getElem? (i := 619) (by decide +kernel)
theorem wd_620 : (Jvm.Cond.code ({ cls := "BunchNotes$Far", name := "clear", desc := "(I)V" } : Jvm.MethodName) prog_2_method_3_code (3 : Nat) (Option.none : Option Jvm.ClassFile.FieldType)) ∈ lw_tbl := List.mem_of_getElem? (i := 620) (by decide +kernel)
theorem wd_621 : (Jvm.Cond.methodLink "BunchNotes$Far" (41 : Nat) ({ cls := "java/lang/Math", name := "min", desc := "(II)I" } : Jvm.MethodName)) ∈ lw_tbl := List.mem_of_getElem? (i := 621) (by decide +kernel)
theorem wd_622 : (Jvm.Cond.constant "BunchNotes$Far" (46 : Nat) (1000000 : Int32)) ∈ lw_tbl := List.mem_of_getElem? (i := 622) (by decide +kernel)
theorem wd_623 : (Jvm.Cond.methodLink "BunchNotes$Far" (47 : Nat) ({ cls := "java/util/Arrays", name := "fill", desc := "([II)V" } : Jvm.MethodName)) ∈ lw_tbl := List.mem_of_getElem? (i := 623) (by decide +kernel)
theorem wd_624 : (Jvm.Cond.methodLink "BunchNotes$Thinning" (55 : Nat) ({ cls := "BunchNotes$Far", name := "between", desc := "(II)I" } : Jvm.MethodName)) ∈ lw_tbl := List.mem_of_getElem? (i := 624) (by decide +kernel)
theorem wd_625 : (Jvm.Cond.instanceMethod ({ cls := "BunchNotes$Far", name := "between", desc := "(II)I" } : Jvm.MethodName)) ∈ lw_tbl := List.mem_of_getElem? (i := 625) (by decide +kernel)
theorem wd_626 : (Jvm.Cond.selects "BunchNotes$Far" ({ cls := "BunchNotes$Far", name := "between", desc := "(II)I" } : Jvm.MethodName) ({ cls := "BunchNotes$Far", name := "between", desc := "(II)I" } : Jvm.MethodName)) ∈ lw_tbl := List.mem_of_getElem? (i := 626) (by decide +kernel)
theorem wd_627 : (Jvm.Cond.code ({ cls := "BunchNotes$Far", name := "between", desc := "(II)I" } : Jvm.MethodName) prog_2_method_4_code (3 : Nat) (Option.some Jvm.ClassFile.FieldType.int)) ∈ lw_tbl := List.mem_of_getElem? (i := 627) (by decide +kernel)
theorem wd_628 : (Jvm.Cond.methodLink "BunchNotes$Thinning" (58 : Nat) ({ cls := "BunchNotes$Thinning", name := "take", desc := "(III)V" } : Jvm.MethodName)) ∈ lw_tbl := List.mem_of_getElem? (i := 628) (by decide +kernel)
theorem wd_629 : (Jvm.Cond.privateMethod ({ cls := "BunchNotes$Thinning", name := "take", desc := "(III)V" } : Jvm.MethodName)) ∈ lw_tbl := List.mem_of_getElem? (i := 629) (by decide +kernel)
theorem wd_630 : (Jvm.Cond.instanceMethod ({ cls := "BunchNotes$Thinning", name := "take", desc := "(III)V" } : Jvm.MethodName)) ∈ lw_tbl := List.mem_of_getElem? (i := 630) (by decide +kernel)
theorem wd_631 : (Jvm.Cond.code ({ cls := "BunchNotes$Thinning", name := "take", desc := "(III)V" } : Jvm.MethodName) prog_10_method_4_code (4 : Nat) (Option.none : Option Jvm.ClassFile.FieldType)) ∈ lw_tbl := List.mem_of_getElem? (i := 631) (by decide +kernel)
theorem wd_632 : (Jvm.Cond.methodLink "BunchNotes$Thinning" (62 : Nat) ({ cls := "BunchNotes$Far", name := "add", desc := "(III)V" } : Jvm.MethodName)) ∈ lw_tbl := List.mem_of_getElem? (i := 632) (by decide +kernel)
theorem wd_633 : (Jvm.Cond.instanceMethod ({ cls := "BunchNotes$Far", name := "add", desc := "(III)V" } : Jvm.MethodName)) ∈ lw_tbl := List.mem_of_getElem? (i := 633) (by decide +kernel)
theorem wd_634 : (Jvm.Cond.selects "BunchNotes$Far" ({ cls := "BunchNotes$Far", name := "add", desc := "(III)V" } : Jvm.MethodName) ({ cls := "BunchNotes$Far", name := "add", desc := "(III)V" } : Jvm.MethodName)) ∈ lw_tbl := List.mem_of_getElem? (i := 634) (by decide +kernel)
theorem wd_635 : (Jvm.Cond.code ({ cls := "BunchNotes$Far", name := "add", desc := "(III)V" } : Jvm.MethodName) prog_2_method_5_code (10 : Nat) (Option.none : Option Jvm.ClassFile.FieldType)) ∈ lw_tbl := List.mem_of_getElem? (i := 635) (by decide +kernel)
theorem wd_636 : (Jvm.Cond.methodLink "BunchNotes" (162 : Nat) ({ cls := "BunchNotes$Thinning", name := "takes", desc := "(II)Z" } : Jvm.MethodName)) ∈ lw_tbl := List.mem_of_getElem? (i := 636) (by decide +kernel)
theorem wd_637 : (Jvm.Cond.instanceMethod ({ cls := "BunchNotes$Thinning", name := "takes", desc := "(II)Z" } : Jvm.MethodName)) ∈ lw_tbl := List.mem_of_getElem? (i := 637) (by decide +kernel)
theorem wd_638 : (Jvm.Cond.selects "BunchNotes$Thinning" ({ cls := "BunchNotes$Thinning", name := "takes", desc := "(II)Z" } : Jvm.MethodName) ({ cls := "BunchNotes$Thinning", name := "takes", desc := "(II)Z" } : Jvm.MethodName)) ∈ lw_tbl := List.mem_of_getElem? (i := 638) (by decide +kernel)
theorem wd_639 : (Jvm.Cond.code ({ cls := "BunchNotes$Thinning", name := "takes", desc := "(II)Z" } : Jvm.MethodName) prog_10_method_2_code (3 : Nat) (Option.some Jvm.ClassFile.FieldType.boolean)) ∈ lw_tbl := List.mem_of_getElem? (i := 639) (by decide +kernel)
theorem wd_640 : (Jvm.Cond.methodLink "BunchNotesLaw" (61 : Nat) ({ cls := "BunchNotes", name := "undo", desc := "()I" } : Jvm.MethodName)) ∈ lw_tbl := List.mem_of_getElem? (i := 640) (by decide +kernel)
theorem wd_641 : (Jvm.Cond.instanceMethod ({ cls := "BunchNotes", name := "undo", desc := "()I" } : Jvm.MethodName)) ∈ lw_tbl := List.mem_of_getElem? (i := 641) (by decide +kernel)
theorem wd_642 : (Jvm.Cond.selects "BunchNotes" ({ cls := "BunchNotes", name := "undo", desc := "()I" } : Jvm.MethodName) ({ cls := "BunchNotes", name := "undo", desc := "()I" } : Jvm.MethodName)) ∈ lw_tbl := List.mem_of_getElem? (i := 642) (by decide +kernel)
theorem wd_643 : (Jvm.Cond.code ({ cls := "BunchNotes", name := "undo", desc := "()I" } : Jvm.MethodName) prog_1_method_13_code (1 : Nat) (Option.some Jvm.ClassFile.FieldType.int)) ∈ lw_tbl := List.mem_of_getElem? (i := 643) (by decide +kernel)
theorem wd_644 : (Jvm.Cond.methodLink "BunchNotes" (165 : Nat) ({ cls := "BunchNotes$Past", name := "pop", desc := "(LBunchNotes$Net;)V" } : Jvm.MethodName)) ∈ lw_tbl := List.mem_of_getElem? (i := 644) (by decide +kernel)
theorem wd_645 : (Jvm.Cond.instanceMethod ({ cls := "BunchNotes$Past", name := "pop", desc := "(LBunchNotes$Net;)V" } : Jvm.MethodName)) ∈ lw_tbl := List.mem_of_getElem? (i := 645) (by decide +kernel)
theorem wd_646 : (Jvm.Cond.selects "BunchNotes$Past" ({ cls := "BunchNotes$Past", name := "pop", desc := "(LBunchNotes$Net;)V" } : Jvm.MethodName) ({ cls := "BunchNotes$Past", name := "pop", desc := "(LBunchNotes$Net;)V" } : Jvm.MethodName)) ∈ lw_tbl := List.mem_of_getElem? (i := 646) (by decide +kernel)
theorem wd_647 : (Jvm.Cond.code ({ cls := "BunchNotes$Past", name := "pop", desc := "(LBunchNotes$Net;)V" } : Jvm.MethodName) prog_5_method_3_code (2 : Nat) (Option.none : Option Jvm.ClassFile.FieldType)) ∈ lw_tbl := List.mem_of_getElem? (i := 647) (by decide +kernel)
theorem wd_648 : (Jvm.Cond.methodLink "BunchNotesLaw" (65 : Nat) ({ cls := "BunchNotes", name := "keep", desc := "(I)I" } : Jvm.MethodName)) ∈ lw_tbl := List.mem_of_getElem? (i := 648) (by decide +kernel)
theorem wd_649 : (Jvm.Cond.instanceMethod ({ cls := "BunchNotes", name := "keep", desc := "(I)I" } : Jvm.MethodName)) ∈ lw_tbl := List.mem_of_getElem? (i := 649) (by decide +kernel)
theorem wd_650 : (Jvm.Cond.selects "BunchNotes" ({ cls := "BunchNotes", name := "keep", desc := "(I)I" } : Jvm.MethodName) ({ cls := "BunchNotes", name := "keep", desc := "(I)I" } : Jvm.MethodName)) ∈ lw_tbl := List.mem_of_getElem? (i := 650) (by decide +kernel)
theorem wd_651 : (Jvm.Cond.code ({ cls := "BunchNotes", name := "keep", desc := "(I)I" } : Jvm.MethodName) prog_1_method_14_code (2 : Nat) (Option.some Jvm.ClassFile.FieldType.int)) ∈ lw_tbl := List.mem_of_getElem? (i := 651) (by decide +kernel)
theorem wd_652 : (Jvm.Cond.methodLink "BunchNotes" (175 : Nat) ({ cls := "BunchNotes", name := "copyNotes", desc := "([LBunchNotes$Note;[LBunchNotes$Note;)V" } : Jvm.MethodName)) ∈ lw_tbl := List.mem_of_getElem? (i := 652) (by decide +kernel)
theorem wd_653 : (Jvm.Cond.static ({ cls := "BunchNotes", name := "copyNotes", desc := "([LBunchNotes$Note;[LBunchNotes$Note;)V" } : Jvm.MethodName)) ∈ lw_tbl := List.mem_of_getElem? (i := 653) (by decide +kernel)
theorem wd_654 : (Jvm.Cond.code ({ cls := "BunchNotes", name := "copyNotes", desc := "([LBunchNotes$Note;[LBunchNotes$Note;)V" } : Jvm.MethodName) prog_1_method_33_code (3 : Nat) (Option.none : Option Jvm.ClassFile.FieldType)) ∈ lw_tbl := List.mem_of_getElem? (i := 654) (by decide +kernel)
theorem wd_655 : (Jvm.Cond.methodLink "BunchNotes" (221 : Nat) ({ cls := "BunchNotes$Note", name := "copyFrom", desc := "(LBunchNotes$Note;)V" } : Jvm.MethodName)) ∈ lw_tbl := List.mem_of_getElem? (i := 655) (by decide +kernel)
theorem wd_656 : (Jvm.Cond.instanceMethod ({ cls := "BunchNotes$Note", name := "copyFrom", desc := "(LBunchNotes$Note;)V" } : Jvm.MethodName)) ∈ lw_tbl := List.mem_of_getElem? (i := 656) (by decide +kernel)
theorem wd_657 : (Jvm.Cond.selects "BunchNotes$Note" ({ cls := "BunchNotes$Note", name := "copyFrom", desc := "(LBunchNotes$Note;)V" } : Jvm.MethodName) ({ cls := "BunchNotes$Note", name := "copyFrom", desc := "(LBunchNotes$Note;)V" } : Jvm.MethodName)) ∈ lw_tbl := List.mem_of_getElem? (i := 657) (by decide +kernel)
theorem wd_658 : (Jvm.Cond.code ({ cls := "BunchNotes$Note", name := "copyFrom", desc := "(LBunchNotes$Note;)V" } : Jvm.MethodName) prog_4_method_10_code (2 : Nat) (Option.none : Option Jvm.ClassFile.FieldType)) ∈ lw_tbl := List.mem_of_getElem? (i := 658) (by decide +kernel)
theorem wd_659 : (Jvm.Cond.methodLink "BunchNotes$Note" (58 : Nat) ({ cls := "java/lang/System", name := "arraycopy", desc := "(Ljava/lang/Object;ILjava/lang/Object;II)V" } : Jvm.MethodName)) ∈ lw_tbl := List.mem_of_getElem? (i := 659) (by decide +kernel)
theorem wd_660 : (Jvm.Cond.methodLink "BunchNotes" (179 : Nat) ({ cls := "BunchNotes", name := "writtenNotes", desc := "()I" } : Jvm.MethodName)) ∈ lw_tbl := List.mem_of_getElem? (i := 660) (by decide +kernel)
theorem wd_661 : (Jvm.Cond.privateMethod ({ cls := "BunchNotes", name := "writtenNotes", desc := "()I" } : Jvm.MethodName)) ∈ lw_tbl := List.mem_of_getElem? (i := 661) (by decide +kernel)
theorem wd_662 : (Jvm.Cond.instanceMethod ({ cls := "BunchNotes", name := "writtenNotes", desc := "()I" } : Jvm.MethodName)) ∈ lw_tbl := List.mem_of_getElem? (i := 662) (by decide +kernel)
theorem wd_663 : (Jvm.Cond.code ({ cls := "BunchNotes", name := "writtenNotes", desc := "()I" } : Jvm.MethodName) prog_1_method_49_code (3 : Nat) (Option.some Jvm.ClassFile.FieldType.int)) ∈ lw_tbl := List.mem_of_getElem? (i := 663) (by decide +kernel)
theorem wd_664 : (Jvm.Cond.methodLink "BunchNotesLaw" (69 : Nat) ({ cls := "BunchNotes", name := "back", desc := "(I)I" } : Jvm.MethodName)) ∈ lw_tbl := List.mem_of_getElem? (i := 664) (by decide +kernel)
theorem wd_665 : (Jvm.Cond.instanceMethod ({ cls := "BunchNotes", name := "back", desc := "(I)I" } : Jvm.MethodName)) ∈ lw_tbl := List.mem_of_getElem? (i := 665) (by decide +kernel)
theorem wd_666 : (Jvm.Cond.selects "BunchNotes" ({ cls := "BunchNotes", name := "back", desc := "(I)I" } : Jvm.MethodName) ({ cls := "BunchNotes", name := "back", desc := "(I)I" } : Jvm.MethodName)) ∈ lw_tbl := List.mem_of_getElem? (i := 666) (by decide +kernel)
theorem wd_667 : (Jvm.Cond.code ({ cls := "BunchNotes", name := "back", desc := "(I)I" } : Jvm.MethodName) prog_1_method_15_code (2 : Nat) (Option.some Jvm.ClassFile.FieldType.int)) ∈ lw_tbl := List.mem_of_getElem? (i := 667) (by decide +kernel)
theorem wd_668 : (Jvm.Cond.methodLink "BunchNotesLaw" (73 : Nat) ({ cls := "BunchNotes", name := "distance", desc := "(II)I" } : Jvm.MethodName)) ∈ lw_tbl := List.mem_of_getElem? (i := 668) (by decide +kernel)
theorem wd_669 : (Jvm.Cond.instanceMethod ({ cls := "BunchNotes", name := "distance", desc := "(II)I" } : Jvm.MethodName)) ∈ lw_tbl := List.mem_of_getElem? (i := 669) (by decide +kernel)
theorem wd_670 : (Jvm.Cond.selects "BunchNotes" ({ cls := "BunchNotes", name := "distance", desc := "(II)I" } : Jvm.MethodName) ({ cls := "BunchNotes", name := "distance", desc := "(II)I" } : Jvm.MethodName)) ∈ lw_tbl := List.mem_of_getElem? (i := 670) (by decide +kernel)
theorem wd_671 : (Jvm.Cond.code ({ cls := "BunchNotes", name := "distance", desc := "(II)I" } : Jvm.MethodName) prog_1_method_16_code (3 : Nat) (Option.some Jvm.ClassFile.FieldType.int)) ∈ lw_tbl := List.mem_of_getElem? (i := 671) (by decide +kernel)
theorem wd_672 : (Jvm.Cond.methodLink "BunchNotes" (182 : Nat) ({ cls := "BunchNotes$Far", name := "follow", desc := "(LBunchNotes$Net;)V" } : Jvm.MethodName)) ∈ lw_tbl := List.mem_of_getElem? (i := 672) (by decide +kernel)
theorem wd_673 : (Jvm.Cond.instanceMethod ({ cls := "BunchNotes$Far", name := "follow", desc := "(LBunchNotes$Net;)V" } : Jvm.MethodName)) ∈ lw_tbl := List.mem_of_getElem? (i := 673) (by decide +kernel)
theorem wd_674 : (Jvm.Cond.selects "BunchNotes$Far" ({ cls := "BunchNotes$Far", name := "follow", desc := "(LBunchNotes$Net;)V" } : Jvm.MethodName) ({ cls := "BunchNotes$Far", name := "follow", desc := "(LBunchNotes$Net;)V" } : Jvm.MethodName)) ∈ lw_tbl := List.mem_of_getElem? (i := 674) (by decide +kernel)
theorem wd_675 : (Jvm.Cond.code ({ cls := "BunchNotes$Far", name := "follow", desc := "(LBunchNotes$Net;)V" } : Jvm.MethodName) prog_2_method_2_code (5 : Nat) (Option.none : Option Jvm.ClassFile.FieldType)) ∈ lw_tbl := List.mem_of_getElem? (i := 675) (by decide +kernel)
theorem wd_676 : (Jvm.Cond.methodLink "BunchNotes$Far" (28 : Nat) ({ cls := "BunchNotes$Far", name := "clear", desc := "(I)V" } : Jvm.MethodName)) ∈ lw_tbl := List.mem_of_getElem? (i := 676) (by decide +kernel)
theorem wd_677 : (Jvm.Cond.methodLink "BunchNotes$Far" (33 : Nat) ({ cls := "BunchNotes$Net", name := "lengthOf", desc := "(II)I" } : Jvm.MethodName)) ∈ lw_tbl := List.mem_of_getElem? (i := 677) (by decide +kernel)
theorem wd_678 : (Jvm.Cond.methodLink "BunchNotes$Far" (37 : Nat) ({ cls := "BunchNotes$Far", name := "add", desc := "(III)V" } : Jvm.MethodName)) ∈ lw_tbl := List.mem_of_getElem? (i := 678) (by decide +kernel)
theorem wd_679 : (Jvm.Cond.methodLink "BunchNotes" (184 : Nat) ({ cls := "BunchNotes$Far", name := "between", desc := "(II)I" } : Jvm.MethodName)) ∈ lw_tbl := List.mem_of_getElem? (i := 679) (by decide +kernel)
theorem wd_680 : (Jvm.Cond.methodLink "BunchNotesLaw" (77 : Nat) ({ cls := "BunchNotes", name := "nearest", desc := "(III)I" } : Jvm.MethodName)) ∈ lw_tbl := List.mem_of_getElem? (i := 680) (by decide +kernel)
theorem wd_681 : (Jvm.Cond.instanceMethod ({ cls := "BunchNotes", name := "nearest", desc := "(III)I" } : Jvm.MethodName)) ∈ lw_tbl := List.mem_of_getElem? (i := 681) (by decide +kernel)
theorem wd_682 : (Jvm.Cond.selects "BunchNotes" ({ cls := "BunchNotes", name := "nearest", desc := "(III)I" } : Jvm.MethodName) ({ cls := "BunchNotes", name := "nearest", desc := "(III)I" } : Jvm.MethodName)) ∈ lw_tbl := List.mem_of_getElem? (i := 682) (by decide +kernel)
theorem wd_683 : (Jvm.Cond.code ({ cls := "BunchNotes", name := "nearest", desc := "(III)I" } : Jvm.MethodName) prog_1_method_17_code (4 : Nat) (Option.some Jvm.ClassFile.FieldType.int)) ∈ lw_tbl := List.mem_of_getElem? (i := 683) (by decide +kernel)
theorem wd_684 : (Jvm.Cond.methodLink "BunchNotes" (187 : Nat) ({ cls := "BunchNotes", name := "writeDraft", desc := "(I)V" } : Jvm.MethodName)) ∈ lw_tbl := List.mem_of_getElem? (i := 684) (by decide +kernel)
theorem wd_685 : (Jvm.Cond.privateMethod ({ cls := "BunchNotes", name := "writeDraft", desc := "(I)V" } : Jvm.MethodName)) ∈ lw_tbl := List.mem_of_getElem? (i := 685) (by decide +kernel)
theorem wd_686 : (Jvm.Cond.instanceMethod ({ cls := "BunchNotes", name := "writeDraft", desc := "(I)V" } : Jvm.MethodName)) ∈ lw_tbl := List.mem_of_getElem? (i := 686) (by decide +kernel)
theorem wd_687 : (Jvm.Cond.code ({ cls := "BunchNotes", name := "writeDraft", desc := "(I)V" } : Jvm.MethodName) prog_1_method_40_code (2 : Nat) (Option.none : Option Jvm.ClassFile.FieldType)) ∈ lw_tbl := List.mem_of_getElem? (i := 687) (by decide +kernel)
theorem wd_688 : (Jvm.Cond.methodLink "BunchNotes" (288 : Nat) ({ cls := "BunchNotes$Note", name := "write", desc := "(LBunchNotes$Net;LBunchNotes$Far;I)V" } : Jvm.MethodName)) ∈ lw_tbl := List.mem_of_getElem? (i := 688) (by decide +kernel)
theorem wd_689 : (Jvm.Cond.instanceMethod ({ cls := "BunchNotes$Note", name := "write", desc := "(LBunchNotes$Net;LBunchNotes$Far;I)V" } : Jvm.MethodName)) ∈ lw_tbl := List.mem_of_getElem? (i := 689) (by decide +kernel)
theorem wd_690 : (Jvm.Cond.selects "BunchNotes$Note" ({ cls := "BunchNotes$Note", name := "write", desc := "(LBunchNotes$Net;LBunchNotes$Far;I)V" } : Jvm.MethodName) ({ cls := "BunchNotes$Note", name := "write", desc := "(LBunchNotes$Net;LBunchNotes$Far;I)V" } : Jvm.MethodName)) ∈ lw_tbl := List.mem_of_getElem? (i := 690) (by decide +kernel)
theorem wd_691 : (Jvm.Cond.code ({ cls := "BunchNotes$Note", name := "write", desc := "(LBunchNotes$Net;LBunchNotes$Far;I)V" } : Jvm.MethodName) prog_4_method_6_code (6 : Nat) (Option.none : Option Jvm.ClassFile.FieldType)) ∈ lw_tbl := List.mem_of_getElem? (i := 691) (by decide +kernel)
theorem wd_692 : (Jvm.Cond.methodLink "BunchNotes$Note" (29 : Nat) ({ cls := "BunchNotes$Note", name := "findNearest", desc := "(LBunchNotes$Net;LBunchNotes$Far;II)V" } : Jvm.MethodName)) ∈ lw_tbl := List.mem_of_getElem? (i := 692) (by decide +kernel)
theorem wd_693 : (Jvm.Cond.privateMethod ({ cls := "BunchNotes$Note", name := "findNearest", desc := "(LBunchNotes$Net;LBunchNotes$Far;II)V" } : Jvm.MethodName)) ∈ lw_tbl := List.mem_of_getElem? (i := 693) (by decide +kernel)
theorem wd_694 : (Jvm.Cond.instanceMethod ({ cls := "BunchNotes$Note", name := "findNearest", desc := "(LBunchNotes$Net;LBunchNotes$Far;II)V" } : Jvm.MethodName)) ∈ lw_tbl := List.mem_of_getElem? (i := 694) (by decide +kernel)
theorem wd_695 : (Jvm.Cond.code ({ cls := "BunchNotes$Note", name := "findNearest", desc := "(LBunchNotes$Net;LBunchNotes$Far;II)V" } : Jvm.MethodName) prog_4_method_7_code (7 : Nat) (Option.none : Option Jvm.ClassFile.FieldType)) ∈ lw_tbl := List.mem_of_getElem? (i := 695) (by decide +kernel)
theorem wd_696 : (Jvm.Cond.methodLink "BunchNotes$Note" (37 : Nat) ({ cls := "BunchNotes$Far", name := "between", desc := "(II)I" } : Jvm.MethodName)) ∈ lw_tbl := List.mem_of_getElem? (i := 696) (by decide +kernel)
theorem wd_697 : (Jvm.Cond.methodLink "BunchNotes$Note" (43 : Nat) ({ cls := "BunchNotes$Net", name := "levelOf", desc := "(I)I" } : Jvm.MethodName)) ∈ lw_tbl := List.mem_of_getElem? (i := 697) (by decide +kernel)
theorem wd_698 : (Jvm.Cond.methodLink "BunchNotes$Note" (48 : Nat) ({ cls := "BunchNotes$Note", name := "isNear", desc := "(II)Z" } : Jvm.MethodName)) ∈ lw_tbl := List.mem_of_getElem? (i := 698) (by decide +kernel)
theorem wd_699 : (Jvm.Cond.privateMethod ({ cls := "BunchNotes$Note", name := "isNear", desc := "(II)Z" } : Jvm.MethodName)) ∈ lw_tbl := List.mem_of_getElem? (i := 699) (by decide +kernel)
theorem wd_700 : (Jvm.Cond.instanceMethod ({ cls := "BunchNotes$Note", name := "isNear", desc := "(II)Z" } : Jvm.MethodName)) ∈ lw_tbl := List.mem_of_getElem? (i := 700) (by decide +kernel)
theorem wd_701 : (Jvm.Cond.code ({ cls := "BunchNotes$Note", name := "isNear", desc := "(II)Z" } : Jvm.MethodName) prog_4_method_8_code (4 : Nat) (Option.some Jvm.ClassFile.FieldType.boolean)) ∈ lw_tbl := List.mem_of_getElem? (i := 701) (by decide +kernel)
theorem wd_702 : (Jvm.Cond.methodLink "BunchNotes$Note" (55 : Nat) ({ cls := "BunchNotes$Note", name := "nearestFarAt", desc := "(I)I" } : Jvm.MethodName)) ∈ lw_tbl := List.mem_of_getElem? (i := 702) (by decide +kernel)
theorem wd_703 : (Jvm.Cond.instanceMethod ({ cls := "BunchNotes$Note", name := "nearestFarAt", desc := "(I)I" } : Jvm.MethodName)) ∈ lw_tbl := List.mem_of_getElem? (i := 703) (by decide +kernel)
theorem wd_704 : (Jvm.Cond.selects "BunchNotes$Note" ({ cls := "BunchNotes$Note", name := "nearestFarAt", desc := "(I)I" } : Jvm.MethodName) ({ cls := "BunchNotes$Note", name := "nearestFarAt", desc := "(I)I" } : Jvm.MethodName)) ∈ lw_tbl := List.mem_of_getElem? (i := 704) (by decide +kernel)
theorem wd_705 : (Jvm.Cond.code ({ cls := "BunchNotes$Note", name := "nearestFarAt", desc := "(I)I" } : Jvm.MethodName) prog_4_method_3_code (2 : Nat) (Option.some Jvm.ClassFile.FieldType.int)) ∈ lw_tbl := List.mem_of_getElem? (i := 705) (by decide +kernel)
theorem wd_706 : (Jvm.Cond.methodLink "BunchNotes" (190 : Nat) ({ cls := "BunchNotes$Note", name := "nearestAt", desc := "(I)I" } : Jvm.MethodName)) ∈ lw_tbl := List.mem_of_getElem? (i := 706) (by decide +kernel)
theorem wd_707 : (Jvm.Cond.instanceMethod ({ cls := "BunchNotes$Note", name := "nearestAt", desc := "(I)I" } : Jvm.MethodName)) ∈ lw_tbl := List.mem_of_getElem? (i := 707) (by decide +kernel)
theorem wd_708 : (Jvm.Cond.selects "BunchNotes$Note" ({ cls := "BunchNotes$Note", name := "nearestAt", desc := "(I)I" } : Jvm.MethodName) ({ cls := "BunchNotes$Note", name := "nearestAt", desc := "(I)I" } : Jvm.MethodName)) ∈ lw_tbl := List.mem_of_getElem? (i := 708) (by decide +kernel)
theorem wd_709 : (Jvm.Cond.code ({ cls := "BunchNotes$Note", name := "nearestAt", desc := "(I)I" } : Jvm.MethodName) prog_4_method_2_code (2 : Nat) (Option.some Jvm.ClassFile.FieldType.int)) ∈ lw_tbl := List.mem_of_getElem? (i := 709) (by decide +kernel)
theorem wd_710 : (Jvm.Cond.methodLink "BunchNotes" (193 : Nat) ({ cls := "BunchNotes$Note", name := "nearestFarAt", desc := "(I)I" } : Jvm.MethodName)) ∈ lw_tbl := List.mem_of_getElem? (i := 710) (by decide +kernel)
theorem wd_711 : (Jvm.Cond.methodLink "BunchNotesLaw" (81 : Nat) ({ cls := "BunchNotes", name := "bunch", desc := "(II)I" } : Jvm.MethodName)) ∈ lw_tbl := List.mem_of_getElem? (i := 711) (by decide +kernel)
theorem wd_712 : (Jvm.Cond.instanceMethod ({ cls := "BunchNotes", name := "bunch", desc := "(II)I" } : Jvm.MethodName)) ∈ lw_tbl := List.mem_of_getElem? (i := 712) (by decide +kernel)
theorem wd_713 : (Jvm.Cond.selects "BunchNotes" ({ cls := "BunchNotes", name := "bunch", desc := "(II)I" } : Jvm.MethodName) ({ cls := "BunchNotes", name := "bunch", desc := "(II)I" } : Jvm.MethodName)) ∈ lw_tbl := List.mem_of_getElem? (i := 713) (by decide +kernel)
theorem wd_714 : (Jvm.Cond.code ({ cls := "BunchNotes", name := "bunch", desc := "(II)I" } : Jvm.MethodName) prog_1_method_18_code (3 : Nat) (Option.some Jvm.ClassFile.FieldType.int)) ∈ lw_tbl := List.mem_of_getElem? (i := 714) (by decide +kernel)
theorem wd_715 : (Jvm.Cond.methodLink "BunchNotes" (196 : Nat) ({ cls := "BunchNotes", name := "clusterOf", desc := "(I)I" } : Jvm.MethodName)) ∈ lw_tbl := List.mem_of_getElem? (i := 715) (by decide +kernel)
theorem wd_716 : (Jvm.Cond.privateMethod ({ cls := "BunchNotes", name := "clusterOf", desc := "(I)I" } : Jvm.MethodName)) ∈ lw_tbl := List.mem_of_getElem? (i := 716) (by decide +kernel)
theorem wd_717 : (Jvm.Cond.instanceMethod ({ cls := "BunchNotes", name := "clusterOf", desc := "(I)I" } : Jvm.MethodName)) ∈ lw_tbl := List.mem_of_getElem? (i := 717) (by decide +kernel)
theorem wd_718 : (Jvm.Cond.code ({ cls := "BunchNotes", name := "clusterOf", desc := "(I)I" } : Jvm.MethodName) prog_1_method_42_code (4 : Nat) (Option.some Jvm.ClassFile.FieldType.int)) ∈ lw_tbl := List.mem_of_getElem? (i := 718) (by decide +kernel)
theorem wd_719 : (Jvm.Cond.methodLink "BunchNotes" (296 : Nat) ({ cls := "BunchNotes$Note", name := "holds", desc := "(I)Z" } : Jvm.MethodName)) ∈ lw_tbl := List.mem_of_getElem? (i := 719) (by decide +kernel)
theorem wd_720 : (Jvm.Cond.instanceMethod ({ cls := "BunchNotes$Note", name := "holds", desc := "(I)Z" } : Jvm.MethodName)) ∈ lw_tbl := List.mem_of_getElem? (i := 720) (by decide +kernel)
theorem wd_721 : (Jvm.Cond.selects "BunchNotes$Note" ({ cls := "BunchNotes$Note", name := "holds", desc := "(I)Z" } : Jvm.MethodName) ({ cls := "BunchNotes$Note", name := "holds", desc := "(I)Z" } : Jvm.MethodName)) ∈ lw_tbl := List.mem_of_getElem? (i := 721) (by decide +kernel)
theorem wd_722 : (Jvm.Cond.code ({ cls := "BunchNotes$Note", name := "holds", desc := "(I)Z" } : Jvm.MethodName) prog_4_method_4_code (2 : Nat) (Option.some Jvm.ClassFile.FieldType.boolean)) ∈ lw_tbl := List.mem_of_getElem? (i := 722) (by decide +kernel)
theorem wd_723 : (Jvm.Cond.methodLink "BunchNotes$Note" (21 : Nat) ({ cls := "BunchNotes$Note", name := "farOf", desc := "(I)I" } : Jvm.MethodName)) ∈ lw_tbl := List.mem_of_getElem? (i := 723) (by decide +kernel)
theorem wd_724 : (Jvm.Cond.instanceMethod ({ cls := "BunchNotes$Note", name := "farOf", desc := "(I)I" } : Jvm.MethodName)) ∈ lw_tbl := List.mem_of_getElem? (i := 724) (by decide +kernel)
theorem wd_725 : (Jvm.Cond.selects "BunchNotes$Note" ({ cls := "BunchNotes$Note", name := "farOf", desc := "(I)I" } : Jvm.MethodName) ({ cls := "BunchNotes$Note", name := "farOf", desc := "(I)I" } : Jvm.MethodName)) ∈ lw_tbl := List.mem_of_getElem? (i := 725) (by decide +kernel)
theorem wd_726 : (Jvm.Cond.code ({ cls := "BunchNotes$Note", name := "farOf", desc := "(I)I" } : Jvm.MethodName) prog_4_method_5_code (2 : Nat) (Option.some Jvm.ClassFile.FieldType.int)) ∈ lw_tbl := List.mem_of_getElem? (i := 726) (by decide +kernel)
theorem wd_727 : (Jvm.Cond.methodLink "BunchNotesLaw" (85 : Nat) ({ cls := "BunchNotes", name := "next", desc := "(II)I" } : Jvm.MethodName)) ∈ lw_tbl := List.mem_of_getElem? (i := 727) (by decide +kernel)
theorem wd_728 : (Jvm.Cond.instanceMethod ({ cls := "BunchNotes", name := "next", desc := "(II)I" } : Jvm.MethodName)) ∈ lw_tbl := List.mem_of_getElem? (i := 728) (by decide +kernel)
theorem wd_729 : (Jvm.Cond.selects "BunchNotes" ({ cls := "BunchNotes", name := "next", desc := "(II)I" } : Jvm.MethodName) ({ cls := "BunchNotes", name := "next", desc := "(II)I" } : Jvm.MethodName)) ∈ lw_tbl := List.mem_of_getElem? (i := 729) (by decide +kernel)
theorem wd_730 : (Jvm.Cond.code ({ cls := "BunchNotes", name := "next", desc := "(II)I" } : Jvm.MethodName) prog_1_method_19_code (3 : Nat) (Option.some Jvm.ClassFile.FieldType.int)) ∈ lw_tbl := List.mem_of_getElem? (i := 730) (by decide +kernel)
theorem wd_731 : (Jvm.Cond.methodLink "BunchNotes" (202 : Nat) ({ cls := "BunchNotes", name := "stepTowards", desc := "(II)I" } : Jvm.MethodName)) ∈ lw_tbl := List.mem_of_getElem? (i := 731) (by decide +kernel)
theorem wd_732 : (Jvm.Cond.privateMethod ({ cls := "BunchNotes", name := "stepTowards", desc := "(II)I" } : Jvm.MethodName)) ∈ lw_tbl := List.mem_of_getElem? (i := 732) (by decide +kernel)
theorem wd_733 : (Jvm.Cond.instanceMethod ({ cls := "BunchNotes", name := "stepTowards", desc := "(II)I" } : Jvm.MethodName)) ∈ lw_tbl := List.mem_of_getElem? (i := 733) (by decide +kernel)
theorem wd_734 : (Jvm.Cond.code ({ cls := "BunchNotes", name := "stepTowards", desc := "(II)I" } : Jvm.MethodName) prog_1_method_43_code (7 : Nat) (Option.some Jvm.ClassFile.FieldType.int)) ∈ lw_tbl := List.mem_of_getElem? (i := 734) (by decide +kernel)
theorem wd_735 : (Jvm.Cond.methodLink "BunchNotesLaw" (89 : Nat) ({ cls := "BunchNotes", name := "thinned", desc := "(II)I" } : Jvm.MethodName)) ∈ lw_tbl := List.mem_of_getElem? (i := 735) (by decide +kernel)
theorem wd_736 : (Jvm.Cond.instanceMethod ({ cls := "BunchNotes", name := "thinned", desc := "(II)I" } : Jvm.MethodName)) ∈ lw_tbl := List.mem_of_getElem? (i := 736) (by decide +kernel)
theorem wd_737 : (Jvm.Cond.selects "BunchNotes" ({ cls := "BunchNotes", name := "thinned", desc := "(II)I" } : Jvm.MethodName) ({ cls := "BunchNotes", name := "thinned", desc := "(II)I" } : Jvm.MethodName)) ∈ lw_tbl := List.mem_of_getElem? (i := 737) (by decide +kernel)
theorem wd_738 : (Jvm.Cond.code ({ cls := "BunchNotes", name := "thinned", desc := "(II)I" } : Jvm.MethodName) prog_1_method_20_code (4 : Nat) (Option.some Jvm.ClassFile.FieldType.int)) ∈ lw_tbl := List.mem_of_getElem? (i := 738) (by decide +kernel)
theorem wd_739 : (Jvm.Cond.methodLink "BunchNotesLaw" (93 : Nat) ({ cls := "BunchNotes", name := "worst", desc := "(II)I" } : Jvm.MethodName)) ∈ lw_tbl := List.mem_of_getElem? (i := 739) (by decide +kernel)
theorem wd_740 : (Jvm.Cond.instanceMethod ({ cls := "BunchNotes", name := "worst", desc := "(II)I" } : Jvm.MethodName)) ∈ lw_tbl := List.mem_of_getElem? (i := 740) (by decide +kernel)
theorem wd_741 : (Jvm.Cond.selects "BunchNotes" ({ cls := "BunchNotes", name := "worst", desc := "(II)I" } : Jvm.MethodName) ({ cls := "BunchNotes", name := "worst", desc := "(II)I" } : Jvm.MethodName)) ∈ lw_tbl := List.mem_of_getElem? (i := 741) (by decide +kernel)
theorem wd_742 : (Jvm.Cond.code ({ cls := "BunchNotes", name := "worst", desc := "(II)I" } : Jvm.MethodName) prog_1_method_21_code (4 : Nat) (Option.some Jvm.ClassFile.FieldType.int)) ∈ lw_tbl := List.mem_of_getElem? (i := 742) (by decide +kernel)
theorem wd_743 : (Jvm.Cond.methodLink "BunchNotes" (206 : Nat) ({ cls := "BunchNotes", name := "weighThinned", desc := "(I)V" } : Jvm.MethodName)) ∈ lw_tbl := List.mem_of_getElem? (i := 743) (by decide +kernel)
theorem wd_744 : (Jvm.Cond.privateMethod ({ cls := "BunchNotes", name := "weighThinned", desc := "(I)V" } : Jvm.MethodName)) ∈ lw_tbl := List.mem_of_getElem? (i := 744) (by decide +kernel)
theorem wd_745 : (Jvm.Cond.instanceMethod ({ cls := "BunchNotes", name := "weighThinned", desc := "(I)V" } : Jvm.MethodName)) ∈ lw_tbl := List.mem_of_getElem? (i := 745) (by decide +kernel)
theorem wd_746 : (Jvm.Cond.code ({ cls := "BunchNotes", name := "weighThinned", desc := "(I)V" } : Jvm.MethodName) prog_1_method_46_code (5 : Nat) (Option.none : Option Jvm.ClassFile.FieldType)) ∈ lw_tbl := List.mem_of_getElem? (i := 746) (by decide +kernel)
theorem wd_747 : (Jvm.Cond.methodLink "BunchNotes" (299 : Nat) ({ cls := "BunchNotes$Peak", name := "clear", desc := "()V" } : Jvm.MethodName)) ∈ lw_tbl := List.mem_of_getElem? (i := 747) (by decide +kernel)
theorem wd_748 : (Jvm.Cond.instanceMethod ({ cls := "BunchNotes$Peak", name := "clear", desc := "()V" } : Jvm.MethodName)) ∈ lw_tbl := List.mem_of_getElem? (i := 748) (by decide +kernel)
theorem wd_749 : (Jvm.Cond.selects "BunchNotes$Peak" ({ cls := "BunchNotes$Peak", name := "clear", desc := "()V" } : Jvm.MethodName) ({ cls := "BunchNotes$Peak", name := "clear", desc := "()V" } : Jvm.MethodName)) ∈ lw_tbl := List.mem_of_getElem? (i := 749) (by decide +kernel)
theorem wd_750 : (Jvm.Cond.code ({ cls := "BunchNotes$Peak", name := "clear", desc := "()V" } : Jvm.MethodName) prog_6_method_2_code (1 : Nat) (Option.none : Option Jvm.ClassFile.FieldType)) ∈ lw_tbl := List.mem_of_getElem? (i := 750) (by decide +kernel)
theorem wd_751 : (Jvm.Cond.methodLink "BunchNotes" (303 : Nat) ({ cls := "BunchNotes$Peak", name := "offer", desc := "(IIII)V" } : Jvm.MethodName)) ∈ lw_tbl := List.mem_of_getElem? (i := 751) (by decide +kernel)
theorem wd_752 : (Jvm.Cond.instanceMethod ({ cls := "BunchNotes$Peak", name := "offer", desc := "(IIII)V" } : Jvm.MethodName)) ∈ lw_tbl := List.mem_of_getElem? (i := 752) (by decide +kernel)
theorem wd_753 : (Jvm.Cond.selects "BunchNotes$Peak" ({ cls := "BunchNotes$Peak", name := "offer", desc := "(IIII)V" } : Jvm.MethodName) ({ cls := "BunchNotes$Peak", name := "offer", desc := "(IIII)V" } : Jvm.MethodName)) ∈ lw_tbl := List.mem_of_getElem? (i := 753) (by decide +kernel)
theorem wd_754 : (Jvm.Cond.code ({ cls := "BunchNotes$Peak", name := "offer", desc := "(IIII)V" } : Jvm.MethodName) prog_6_method_3_code (5 : Nat) (Option.none : Option Jvm.ClassFile.FieldType)) ∈ lw_tbl := List.mem_of_getElem? (i := 754) (by decide +kernel)
theorem wd_755 : (Jvm.Cond.methodLink "BunchNotes" (218 : Nat) ({ cls := "BunchNotes", name := "commonPart", desc := "(II)I" } : Jvm.MethodName)) ∈ lw_tbl := List.mem_of_getElem? (i := 755) (by decide +kernel)
theorem wd_756 : (Jvm.Cond.static ({ cls := "BunchNotes", name := "commonPart", desc := "(II)I" } : Jvm.MethodName)) ∈ lw_tbl := List.mem_of_getElem? (i := 756) (by decide +kernel)
theorem wd_757 : (Jvm.Cond.code ({ cls := "BunchNotes", name := "commonPart", desc := "(II)I" } : Jvm.MethodName) prog_1_method_35_code (6 : Nat) (Option.some Jvm.ClassFile.FieldType.int)) ∈ lw_tbl := List.mem_of_getElem? (i := 757) (by decide +kernel)
theorem wd_758 : (Jvm.Cond.methodLink "BunchNotesLaw" (97 : Nat) ({ cls := "BunchNotes", name := "note", desc := "(I)I" } : Jvm.MethodName)) ∈ lw_tbl := List.mem_of_getElem? (i := 758) (by decide +kernel)
theorem wd_759 : (Jvm.Cond.instanceMethod ({ cls := "BunchNotes", name := "note", desc := "(I)I" } : Jvm.MethodName)) ∈ lw_tbl := List.mem_of_getElem? (i := 759) (by decide +kernel)
theorem wd_760 : (Jvm.Cond.selects "BunchNotes" ({ cls := "BunchNotes", name := "note", desc := "(I)I" } : Jvm.MethodName) ({ cls := "BunchNotes", name := "note", desc := "(I)I" } : Jvm.MethodName)) ∈ lw_tbl := List.mem_of_getElem? (i := 760) (by decide +kernel)
theorem wd_761 : (Jvm.Cond.code ({ cls := "BunchNotes", name := "note", desc := "(I)I" } : Jvm.MethodName) prog_1_method_22_code (2 : Nat) (Option.some Jvm.ClassFile.FieldType.int)) ∈ lw_tbl := List.mem_of_getElem? (i := 761) (by decide +kernel)
theorem wd_762 : (Jvm.Cond.methodLink "BunchNotes" (224 : Nat) ({ cls := "java/lang/Integer", name := "bitCount", desc := "(I)I" } : Jvm.MethodName)) ∈ lw_tbl := List.mem_of_getElem? (i := 762) (by decide +kernel)
theorem wd_763 : (Jvm.Cond.static ({ cls := "java/lang/Integer", name := "bitCount", desc := "(I)I" } : Jvm.MethodName)) ∈ lw_tbl := List.mem_of_getElem? (i := 763) (by decide +kernel)
theorem wd_764 : (Jvm.Cond.code ({ cls := "java/lang/Integer", name := "bitCount", desc := "(I)I" } : Jvm.MethodName) prog_13_method_49_code (1 : Nat) (Option.some Jvm.ClassFile.FieldType.int)) ∈ lw_tbl := List.mem_of_getElem? (i := 764) (by decide +kernel)
theorem wd_765 : (Jvm.Cond.constant "java/lang/Integer" (265 : Nat) (1431655765 : Int32)) ∈ lw_tbl := List.mem_of_getElem? (i := 765) (by decide +kernel)
theorem wd_766 : (Jvm.Cond.constant "java/lang/Integer" (266 : Nat) (858993459 : Int32)) ∈ lw_tbl := List.mem_of_getElem? (i := 766) (by decide +kernel)
theorem wd_767 : (Jvm.Cond.constant "java/lang/Integer" (267 : Nat) (252645135 : Int32)) ∈ lw_tbl := List.mem_of_getElem? (i := 767) (by decide +kernel)
theorem wd_768 : (Jvm.Cond.methodLink "BunchNotesLaw" (101 : Nat) ({ cls := "BunchNotes", name := "mend", desc := "()I" } : Jvm.MethodName)) ∈ lw_tbl := List.mem_of_getElem? (i := 768) (by decide +kernel)
theorem wd_769 : (Jvm.Cond.instanceMethod ({ cls := "BunchNotes", name := "mend", desc := "()I" } : Jvm.MethodName)) ∈ lw_tbl := List.mem_of_getElem? (i := 769) (by decide +kernel)
theorem wd_770 : (Jvm.Cond.selects "BunchNotes" ({ cls := "BunchNotes", name := "mend", desc := "()I" } : Jvm.MethodName) ({ cls := "BunchNotes", name := "mend", desc := "()I" } : Jvm.MethodName)) ∈ lw_tbl := List.mem_of_getElem? (i := 770) (by decide +kernel)
theorem wd_771 : (Jvm.Cond.code ({ cls := "BunchNotes", name := "mend", desc := "()I" } : Jvm.MethodName) prog_1_method_23_code (3 : Nat) (Option.some Jvm.ClassFile.FieldType.int)) ∈ lw_tbl := List.mem_of_getElem? (i := 771) (by decide +kernel)
theorem wd_772 : (Jvm.Cond.methodLink "BunchNotes" (229 : Nat) ({ cls := "BunchNotes", name := "isFresh", desc := "(I)Z" } : Jvm.MethodName)) ∈ lw_tbl := List.mem_of_getElem? (i := 772) (by decide +kernel)
theorem wd_773 : (Jvm.Cond.privateMethod ({ cls := "BunchNotes", name := "isFresh", desc := "(I)Z" } : Jvm.MethodName)) ∈ lw_tbl := List.mem_of_getElem? (i := 773) (by decide +kernel)
theorem wd_774 : (Jvm.Cond.instanceMethod ({ cls := "BunchNotes", name := "isFresh", desc := "(I)Z" } : Jvm.MethodName)) ∈ lw_tbl := List.mem_of_getElem? (i := 774) (by decide +kernel)
theorem wd_775 : (Jvm.Cond.code ({ cls := "BunchNotes", name := "isFresh", desc := "(I)Z" } : Jvm.MethodName) prog_1_method_41_code (2 : Nat) (Option.some Jvm.ClassFile.FieldType.boolean)) ∈ lw_tbl := List.mem_of_getElem? (i := 775) (by decide +kernel)
theorem wd_776 : (Jvm.Cond.methodLink "BunchNotes" (292 : Nat) ({ cls := "BunchNotes$Note", name := "bearsSameAs", desc := "(LBunchNotes$Note;)Z" } : Jvm.MethodName)) ∈ lw_tbl := List.mem_of_getElem? (i := 776) (by decide +kernel)
theorem wd_777 : (Jvm.Cond.instanceMethod ({ cls := "BunchNotes$Note", name := "bearsSameAs", desc := "(LBunchNotes$Note;)Z" } : Jvm.MethodName)) ∈ lw_tbl := List.mem_of_getElem? (i := 777) (by decide +kernel)
theorem wd_778 : (Jvm.Cond.selects "BunchNotes$Note" ({ cls := "BunchNotes$Note", name := "bearsSameAs", desc := "(LBunchNotes$Note;)Z" } : Jvm.MethodName) ({ cls := "BunchNotes$Note", name := "bearsSameAs", desc := "(LBunchNotes$Note;)Z" } : Jvm.MethodName)) ∈ lw_tbl := List.mem_of_getElem? (i := 778) (by decide +kernel)
theorem wd_779 : (Jvm.Cond.code ({ cls := "BunchNotes$Note", name := "bearsSameAs", desc := "(LBunchNotes$Note;)Z" } : Jvm.MethodName) prog_4_method_9_code (3 : Nat) (Option.some Jvm.ClassFile.FieldType.boolean)) ∈ lw_tbl := List.mem_of_getElem? (i := 779) (by decide +kernel)
theorem wd_780 : (Jvm.Cond.methodLink "BunchNotesLaw" (105 : Nat) ({ cls := "BunchNotes", name := "tear", desc := "(I)I" } : Jvm.MethodName)) ∈ lw_tbl := List.mem_of_getElem? (i := 780) (by decide +kernel)
theorem wd_781 : (Jvm.Cond.instanceMethod ({ cls := "BunchNotes", name := "tear", desc := "(I)I" } : Jvm.MethodName)) ∈ lw_tbl := List.mem_of_getElem? (i := 781) (by decide +kernel)
theorem wd_782 : (Jvm.Cond.selects "BunchNotes" ({ cls := "BunchNotes", name := "tear", desc := "(I)I" } : Jvm.MethodName) ({ cls := "BunchNotes", name := "tear", desc := "(I)I" } : Jvm.MethodName)) ∈ lw_tbl := List.mem_of_getElem? (i := 782) (by decide +kernel)
theorem wd_783 : (Jvm.Cond.code ({ cls := "BunchNotes", name := "tear", desc := "(I)I" } : Jvm.MethodName) prog_1_method_24_code (3 : Nat) (Option.some Jvm.ClassFile.FieldType.int)) ∈ lw_tbl := List.mem_of_getElem? (i := 783) (by decide +kernel)
theorem wd_784 : (Jvm.Cond.methodLink "BunchNotesLaw" (109 : Nat) ({ cls := "BunchNotes", name := "noted", desc := "(II)I" } : Jvm.MethodName)) ∈ lw_tbl := List.mem_of_getElem? (i := 784) (by decide +kernel)
theorem wd_785 : (Jvm.Cond.instanceMethod ({ cls := "BunchNotes", name := "noted", desc := "(II)I" } : Jvm.MethodName)) ∈ lw_tbl := List.mem_of_getElem? (i := 785) (by decide +kernel)
theorem wd_786 : (Jvm.Cond.selects "BunchNotes" ({ cls := "BunchNotes", name := "noted", desc := "(II)I" } : Jvm.MethodName) ({ cls := "BunchNotes", name := "noted", desc := "(II)I" } : Jvm.MethodName)) ∈ lw_tbl := List.mem_of_getElem? (i := 786) (by decide +kernel)
theorem wd_787 : (Jvm.Cond.code ({ cls := "BunchNotes", name := "noted", desc := "(II)I" } : Jvm.MethodName) prog_1_method_25_code (4 : Nat) (Option.some Jvm.ClassFile.FieldType.int)) ∈ lw_tbl := List.mem_of_getElem? (i := 787) (by decide +kernel)
theorem wd_788 : (Jvm.Cond.methodLink "BunchNotesLaw" (113 : Nat) ({ cls := "BunchNotes", name := "notedFar", desc := "(II)I" } : Jvm.MethodName)) ∈ lw_tbl := List.mem_of_getElem? (i := 788) (by decide +kernel)
theorem wd_789 : (Jvm.Cond.instanceMethod ({ cls := "BunchNotes", name := "notedFar", desc := "(II)I" } : Jvm.MethodName)) ∈ lw_tbl := List.mem_of_getElem? (i := 789) (by decide +kernel)
theorem wd_790 : (Jvm.Cond.selects "BunchNotes" ({ cls := "BunchNotes", name := "notedFar", desc := "(II)I" } : Jvm.MethodName) ({ cls := "BunchNotes", name := "notedFar", desc := "(II)I" } : Jvm.MethodName)) ∈ lw_tbl := List.mem_of_getElem? (i := 790) (by decide +kernel)
theorem wd_791 : (Jvm.Cond.code ({ cls := "BunchNotes", name := "notedFar", desc := "(II)I" } : Jvm.MethodName) prog_1_method_26_code (3 : Nat) (Option.some Jvm.ClassFile.FieldType.int)) ∈ lw_tbl := List.mem_of_getElem? (i := 791) (by decide +kernel)
theorem wd_792 : (Jvm.Cond.methodLink "BunchNotes" (235 : Nat) ({ cls := "BunchNotes$Note", name := "farOf", desc := "(I)I" } : Jvm.MethodName)) ∈ lw_tbl := List.mem_of_getElem? (i := 792) (by decide +kernel)
theorem wd_793 : (Jvm.Cond.methodLink "BunchNotesLaw" (117 : Nat) ({ cls := "BunchNotes", name := "told", desc := "(III)I" } : Jvm.MethodName)) ∈ lw_tbl := List.mem_of_getElem? (i := 793) (by decide +kernel)
theorem wd_794 : (Jvm.Cond.instanceMethod ({ cls := "BunchNotes", name := "told", desc := "(III)I" } : Jvm.MethodName)) ∈ lw_tbl := List.mem_of_getElem? (i := 794) (by decide +kernel)
theorem wd_795 : (Jvm.Cond.selects "BunchNotes" ({ cls := "BunchNotes", name := "told", desc := "(III)I" } : Jvm.MethodName) ({ cls := "BunchNotes", name := "told", desc := "(III)I" } : Jvm.MethodName)) ∈ lw_tbl := List.mem_of_getElem? (i := 795) (by decide +kernel)
theorem wd_796 : (Jvm.Cond.code ({ cls := "BunchNotes", name := "told", desc := "(III)I" } : Jvm.MethodName) prog_1_method_27_code (4 : Nat) (Option.some Jvm.ClassFile.FieldType.int)) ∈ lw_tbl := List.mem_of_getElem? (i := 796) (by decide +kernel)
theorem wd_797 : (Jvm.Cond.methodLink "BunchNotes" (238 : Nat) ({ cls := "BunchNotes$Telling", name := "tell", desc := "([LBunchNotes$Note;II)V" } : Jvm.MethodName)) ∈ lw_tbl := List.mem_of_getElem? (i := 797) (by decide +kernel)
theorem wd_798 : (Jvm.Cond.instanceMethod ({ cls := "BunchNotes$Telling", name := "tell", desc := "([LBunchNotes$Note;II)V" } : Jvm.MethodName)) ∈ lw_tbl := List.mem_of_getElem? (i := 798) (by decide +kernel)
theorem wd_799 : (Jvm.Cond.selects "BunchNotes$Telling" ({ cls := "BunchNotes$Telling", name := "tell", desc := "([LBunchNotes$Note;II)V" } : Jvm.MethodName) ({ cls := "BunchNotes$Telling", name := "tell", desc := "([LBunchNotes$Note;II)V" } : Jvm.MethodName)) ∈ lw_tbl := List.mem_of_getElem? (i := 799) (by decide +kernel)
theorem wd_800 : (Jvm.Cond.code ({ cls := "BunchNotes$Telling", name := "tell", desc := "([LBunchNotes$Note;II)V" } : Jvm.MethodName) prog_8_method_2_code (8 : Nat) (Option.none : Option Jvm.ClassFile.FieldType)) ∈ lw_tbl := List.mem_of_getElem? (i := 800) (by decide +kernel)
theorem wd_801 : (Jvm.Cond.methodLink "BunchNotes$Telling" (15 : Nat) ({ cls := "BunchNotes$Telling", name := "look", desc := "([LBunchNotes$Note;II)I" } : Jvm.MethodName)) ∈ lw_tbl := List.mem_of_getElem? (i := 801) (by decide +kernel)
theorem wd_802 : (Jvm.Cond.privateMethod ({ cls := "BunchNotes$Telling", name := "look", desc := "([LBunchNotes$Note;II)I" } : Jvm.MethodName)) ∈ lw_tbl := List.mem_of_getElem? (i := 802) (by decide +kernel)
theorem wd_803 : (Jvm.Cond.instanceMethod ({ cls := "BunchNotes$Telling", name := "look", desc := "([LBunchNotes$Note;II)I" } : Jvm.MethodName)) ∈ lw_tbl := List.mem_of_getElem? (i := 803) (by decide +kernel)
theorem wd_804 : (Jvm.Cond.code ({ cls := "BunchNotes$Telling", name := "look", desc := "([LBunchNotes$Note;II)I" } : Jvm.MethodName) prog_8_method_3_code (4 : Nat) (Option.some Jvm.ClassFile.FieldType.int)) ∈ lw_tbl := List.mem_of_getElem? (i := 804) (by decide +kernel)
theorem wd_805 : (Jvm.Cond.methodLink "BunchNotes$Telling" (31 : Nat) ({ cls := "BunchNotes$Note", name := "nearestAt", desc := "(I)I" } : Jvm.MethodName)) ∈ lw_tbl := List.mem_of_getElem? (i := 805) (by decide +kernel)
theorem wd_806 : (Jvm.Cond.methodLink "BunchNotes$Telling" (38 : Nat) ({ cls := "BunchNotes$Note", name := "holds", desc := "(I)Z" } : Jvm.MethodName)) ∈ lw_tbl := List.mem_of_getElem? (i := 806) (by decide +kernel)
theorem wd_807 : (Jvm.Cond.methodLink "BunchNotes$Telling" (42 : Nat) ({ cls := "BunchNotes$Note", name := "nearestFarAt", desc := "(I)I" } : Jvm.MethodName)) ∈ lw_tbl := List.mem_of_getElem? (i := 807) (by decide +kernel)
theorem wd_808 : (Jvm.Cond.methodLink "BunchNotes$Telling" (45 : Nat) ({ cls := "BunchNotes$Note", name := "farOf", desc := "(I)I" } : Jvm.MethodName)) ∈ lw_tbl := List.mem_of_getElem? (i := 808) (by decide +kernel)
theorem wd_809 : (Jvm.Cond.methodLink "BunchNotesLaw" (121 : Nat) ({ cls := "BunchNotes", name := "why", desc := "(III)I" } : Jvm.MethodName)) ∈ lw_tbl := List.mem_of_getElem? (i := 809) (by decide +kernel)
theorem wd_810 : (Jvm.Cond.instanceMethod ({ cls := "BunchNotes", name := "why", desc := "(III)I" } : Jvm.MethodName)) ∈ lw_tbl := List.mem_of_getElem? (i := 810) (by decide +kernel)
theorem wd_811 : (Jvm.Cond.selects "BunchNotes" ({ cls := "BunchNotes", name := "why", desc := "(III)I" } : Jvm.MethodName) ({ cls := "BunchNotes", name := "why", desc := "(III)I" } : Jvm.MethodName)) ∈ lw_tbl := List.mem_of_getElem? (i := 811) (by decide +kernel)
theorem wd_812 : (Jvm.Cond.code ({ cls := "BunchNotes", name := "why", desc := "(III)I" } : Jvm.MethodName) prog_1_method_28_code (4 : Nat) (Option.some Jvm.ClassFile.FieldType.int)) ∈ lw_tbl := List.mem_of_getElem? (i := 812) (by decide +kernel)
theorem wd_813 : (Jvm.Cond.methodLink "BunchNotesLaw" (125 : Nat) ({ cls := "BunchNotes", name := "route", desc := "(III)I" } : Jvm.MethodName)) ∈ lw_tbl := List.mem_of_getElem? (i := 813) (by decide +kernel)
theorem wd_814 : (Jvm.Cond.instanceMethod ({ cls := "BunchNotes", name := "route", desc := "(III)I" } : Jvm.MethodName)) ∈ lw_tbl := List.mem_of_getElem? (i := 814) (by decide +kernel)
theorem wd_815 : (Jvm.Cond.selects "BunchNotes" ({ cls := "BunchNotes", name := "route", desc := "(III)I" } : Jvm.MethodName) ({ cls := "BunchNotes", name := "route", desc := "(III)I" } : Jvm.MethodName)) ∈ lw_tbl := List.mem_of_getElem? (i := 815) (by decide +kernel)
theorem wd_816 : (Jvm.Cond.code ({ cls := "BunchNotes", name := "route", desc := "(III)I" } : Jvm.MethodName) prog_1_method_29_code (6 : Nat) (Option.some Jvm.ClassFile.FieldType.int)) ∈ lw_tbl := List.mem_of_getElem? (i := 816) (by decide +kernel)
theorem wd_817 : (Jvm.Cond.methodLink "BunchNotes" (256 : Nat) ({ cls := "BunchNotes", name := "stepsBetween", desc := "(II)I" } : Jvm.MethodName)) ∈ lw_tbl := List.mem_of_getElem? (i := 817) (by decide +kernel)
theorem wd_818 : (Jvm.Cond.privateMethod ({ cls := "BunchNotes", name := "stepsBetween", desc := "(II)I" } : Jvm.MethodName)) ∈ lw_tbl := List.mem_of_getElem? (i := 818) (by decide +kernel)
theorem wd_819 : (Jvm.Cond.instanceMethod ({ cls := "BunchNotes", name := "stepsBetween", desc := "(II)I" } : Jvm.MethodName)) ∈ lw_tbl := List.mem_of_getElem? (i := 819) (by decide +kernel)
theorem wd_820 : (Jvm.Cond.code ({ cls := "BunchNotes", name := "stepsBetween", desc := "(II)I" } : Jvm.MethodName) prog_1_method_44_code (5 : Nat) (Option.some Jvm.ClassFile.FieldType.int)) ∈ lw_tbl := List.mem_of_getElem? (i := 820) (by decide +kernel)
theorem wd_821 : (Jvm.Cond.methodLink "BunchNotes" (259 : Nat) ({ cls := "BunchNotes", name := "nodeAfter", desc := "(III)I" } : Jvm.MethodName)) ∈ lw_tbl := List.mem_of_getElem? (i := 821) (by decide +kernel)
theorem wd_822 : (Jvm.Cond.privateMethod ({ cls := "BunchNotes", name := "nodeAfter", desc := "(III)I" } : Jvm.MethodName)) ∈ lw_tbl := List.mem_of_getElem? (i := 822) (by decide +kernel)
theorem wd_823 : (Jvm.Cond.instanceMethod ({ cls := "BunchNotes", name := "nodeAfter", desc := "(III)I" } : Jvm.MethodName)) ∈ lw_tbl := List.mem_of_getElem? (i := 823) (by decide +kernel)
theorem wd_824 : (Jvm.Cond.code ({ cls := "BunchNotes", name := "nodeAfter", desc := "(III)I" } : Jvm.MethodName) prog_1_method_45_code (6 : Nat) (Option.some Jvm.ClassFile.FieldType.int)) ∈ lw_tbl := List.mem_of_getElem? (i := 824) (by decide +kernel)
theorem wd_825 : (Jvm.Cond.methodLink "BunchNotesLaw" (129 : Nat) ({ cls := "BunchNotes", name := "pairs", desc := "(I)I" } : Jvm.MethodName)) ∈ lw_tbl := List.mem_of_getElem? (i := 825) (by decide +kernel)
theorem wd_826 : (Jvm.Cond.instanceMethod ({ cls := "BunchNotes", name := "pairs", desc := "(I)I" } : Jvm.MethodName)) ∈ lw_tbl := List.mem_of_getElem? (i := 826) (by decide +kernel)
theorem wd_827 : (Jvm.Cond.selects "BunchNotes" ({ cls := "BunchNotes", name := "pairs", desc := "(I)I" } : Jvm.MethodName) ({ cls := "BunchNotes", name := "pairs", desc := "(I)I" } : Jvm.MethodName)) ∈ lw_tbl := List.mem_of_getElem? (i := 827) (by decide +kernel)
theorem wd_828 : (Jvm.Cond.code ({ cls := "BunchNotes", name := "pairs", desc := "(I)I" } : Jvm.MethodName) prog_1_method_30_code (3 : Nat) (Option.some Jvm.ClassFile.FieldType.int)) ∈ lw_tbl := List.mem_of_getElem? (i := 828) (by decide +kernel)
theorem wd_829 : (Jvm.Cond.methodLink "BunchNotes" (263 : Nat) ({ cls := "BunchNotes", name := "weighTold", desc := "()I" } : Jvm.MethodName)) ∈ lw_tbl := List.mem_of_getElem? (i := 829) (by decide +kernel)
theorem wd_830 : (Jvm.Cond.privateMethod ({ cls := "BunchNotes", name := "weighTold", desc := "()I" } : Jvm.MethodName)) ∈ lw_tbl := List.mem_of_getElem? (i := 830) (by decide +kernel)
theorem wd_831 : (Jvm.Cond.instanceMethod ({ cls := "BunchNotes", name := "weighTold", desc := "()I" } : Jvm.MethodName)) ∈ lw_tbl := List.mem_of_getElem? (i := 831) (by decide +kernel)
theorem wd_832 : (Jvm.Cond.code ({ cls := "BunchNotes", name := "weighTold", desc := "()I" } : Jvm.MethodName) prog_1_method_47_code (5 : Nat) (Option.some Jvm.ClassFile.FieldType.int)) ∈ lw_tbl := List.mem_of_getElem? (i := 832) (by decide +kernel)
theorem wd_833 : (Jvm.Cond.methodLink "BunchNotesLaw" (133 : Nat) ({ cls := "BunchNotes", name := "count", desc := "(I)I" } : Jvm.MethodName)) ∈ lw_tbl := List.mem_of_getElem? (i := 833) (by decide +kernel)
theorem wd_834 : (Jvm.Cond.instanceMethod ({ cls := "BunchNotes", name := "count", desc := "(I)I" } : Jvm.MethodName)) ∈ lw_tbl := List.mem_of_getElem? (i := 834) (by decide +kernel)
theorem wd_835 : (Jvm.Cond.selects "BunchNotes" ({ cls := "BunchNotes", name := "count", desc := "(I)I" } : Jvm.MethodName) ({ cls := "BunchNotes", name := "count", desc := "(I)I" } : Jvm.MethodName)) ∈ lw_tbl := List.mem_of_getElem? (i := 835) (by decide +kernel)
theorem wd_836 : (Jvm.Cond.code ({ cls := "BunchNotes", name := "count", desc := "(I)I" } : Jvm.MethodName) prog_1_method_31_code (2 : Nat) (Option.some Jvm.ClassFile.FieldType.int)) ∈ lw_tbl := List.mem_of_getElem? (i := 836) (by decide +kernel)
theorem wd_837 : (Jvm.Cond.methodLink "BunchNotes" (272 : Nat) ({ cls := "BunchNotes", name := "parts", desc := "()I" } : Jvm.MethodName)) ∈ lw_tbl := List.mem_of_getElem? (i := 837) (by decide +kernel)
theorem wd_838 : (Jvm.Cond.privateMethod ({ cls := "BunchNotes", name := "parts", desc := "()I" } : Jvm.MethodName)) ∈ lw_tbl := List.mem_of_getElem? (i := 838) (by decide +kernel)
theorem wd_839 : (Jvm.Cond.instanceMethod ({ cls := "BunchNotes", name := "parts", desc := "()I" } : Jvm.MethodName)) ∈ lw_tbl := List.mem_of_getElem? (i := 839) (by decide +kernel)
theorem wd_840 : (Jvm.Cond.code ({ cls := "BunchNotes", name := "parts", desc := "()I" } : Jvm.MethodName) prog_1_method_48_code (4 : Nat) (Option.some Jvm.ClassFile.FieldType.int)) ∈ lw_tbl := List.mem_of_getElem? (i := 840) (by decide +kernel)
theorem wd_841 : (Jvm.Cond.methodLink "BunchNotes" (275 : Nat) ({ cls := "BunchNotes", name := "freshNotes", desc := "()I" } : Jvm.MethodName)) ∈ lw_tbl := List.mem_of_getElem? (i := 841) (by decide +kernel)
theorem wd_842 : (Jvm.Cond.privateMethod ({ cls := "BunchNotes", name := "freshNotes", desc := "()I" } : Jvm.MethodName)) ∈ lw_tbl := List.mem_of_getElem? (i := 842) (by decide +kernel)
theorem wd_843 : (Jvm.Cond.instanceMethod ({ cls := "BunchNotes", name := "freshNotes", desc := "()I" } : Jvm.MethodName)) ∈ lw_tbl := List.mem_of_getElem? (i := 843) (by decide +kernel)
theorem wd_844 : (Jvm.Cond.code ({ cls := "BunchNotes", name := "freshNotes", desc := "()I" } : Jvm.MethodName) prog_1_method_50_code (3 : Nat) (Option.some Jvm.ClassFile.FieldType.int)) ∈ lw_tbl := List.mem_of_getElem? (i := 844) (by decide +kernel)
theorem wd_845 : (Jvm.Cond.methodLink "BunchNotes" (278 : Nat) ({ cls := "BunchNotes", name := "nodesInNotes", desc := "()I" } : Jvm.MethodName)) ∈ lw_tbl := List.mem_of_getElem? (i := 845) (by decide +kernel)
theorem wd_846 : (Jvm.Cond.privateMethod ({ cls := "BunchNotes", name := "nodesInNotes", desc := "()I" } : Jvm.MethodName)) ∈ lw_tbl := List.mem_of_getElem? (i := 846) (by decide +kernel)
theorem wd_847 : (Jvm.Cond.instanceMethod ({ cls := "BunchNotes", name := "nodesInNotes", desc := "()I" } : Jvm.MethodName)) ∈ lw_tbl := List.mem_of_getElem? (i := 847) (by decide +kernel)
theorem wd_848 : (Jvm.Cond.code ({ cls := "BunchNotes", name := "nodesInNotes", desc := "()I" } : Jvm.MethodName) prog_1_method_51_code (3 : Nat) (Option.some Jvm.ClassFile.FieldType.int)) ∈ lw_tbl := List.mem_of_getElem? (i := 848) (by decide +kernel)
theorem wd_849 : (Jvm.Cond.classLink "BunchNotesLaw" (10 : Nat) "BunchNotesModel") ∈ lw_tbl := List.mem_of_getElem? (i := 849) (by decide +kernel)
theorem wd_850 : (Jvm.Cond.instantiable "BunchNotesModel" (25 : Nat)) ∈ lw_tbl := List.mem_of_getElem? (i := 850) (by decide +kernel)
theorem wd_851 : (Jvm.Cond.methodLink "BunchNotesLaw" (12 : Nat) ({ cls := "BunchNotesModel", name := "<init>", desc := "()V" } : Jvm.MethodName)) ∈ lw_tbl := List.mem_of_getElem? (i := 851) (by decide +kernel)
theorem wd_852 : (Jvm.Cond.instanceMethod ({ cls := "BunchNotesModel", name := "<init>", desc := "()V" } : Jvm.MethodName)) ∈ lw_tbl := List.mem_of_getElem? (i := 852) (by decide +kernel)
theorem wd_853 : (Jvm.Cond.code ({ cls := "BunchNotesModel", name := "<init>", desc := "()V" } : Jvm.MethodName) prog_12_method_1_code (1 : Nat) (Option.none : Option Jvm.ClassFile.FieldType)) ∈ lw_tbl := List.mem_of_getElem? (i := 853) (by decide +kernel)
theorem wd_854 : (Jvm.Cond.methodLink "BunchNotesModel" (1 : Nat) ({ cls := "java/lang/Object", name := "<init>", desc := "()V" } : Jvm.MethodName)) ∈ lw_tbl := List.mem_of_getElem? (i := 854) (by decide +kernel)
theorem wd_855 : (Jvm.Cond.fieldLink "BunchNotesModel" (7 : Nat) "BunchNotesModel" "row" "[I") ∈ lw_tbl := List.mem_of_getElem? (i := 855) (by decide +kernel)
theorem wd_856 : (Jvm.Cond.fieldLink "BunchNotesModel" (133 : Nat) "BunchNotesModel" "undos" "I") ∈ lw_tbl := List.mem_of_getElem? (i := 856) (by decide +kernel)
theorem wd_857 : (Jvm.Cond.fieldLink "BunchNotesModel" (13 : Nat) "BunchNotesModel" "nodes" "I") ∈ lw_tbl := List.mem_of_getElem? (i := 857) (by decide +kernel)
theorem wd_858 : (Jvm.Cond.fieldLink "BunchNotesModel" (17 : Nat) "BunchNotesModel" "notes" "[I") ∈ lw_tbl := List.mem_of_getElem? (i := 858) (by decide +kernel)
theorem wd_859 : (Jvm.Cond.fieldLink "BunchNotesModel" (20 : Nat) "BunchNotesModel" "isKept" "[Z") ∈ lw_tbl := List.mem_of_getElem? (i := 859) (by decide +kernel)
theorem wd_860 : (Jvm.Cond.fieldLink "BunchNotesModel" (24 : Nat) "BunchNotesModel" "text" "[I") ∈ lw_tbl := List.mem_of_getElem? (i := 860) (by decide +kernel)
theorem wd_861 : (Jvm.Cond.fieldLink "BunchNotesModel" (54 : Nat) "BunchNotesModel" "length" "I") ∈ lw_tbl := List.mem_of_getElem? (i := 861) (by decide +kernel)
theorem wd_862 : (Jvm.Cond.fieldLink "BunchNotesModel" (68 : Nat) "BunchNotesModel" "first" "I") ∈ lw_tbl := List.mem_of_getElem? (i := 862) (by decide +kernel)
theorem wd_863 : (Jvm.Cond.fieldLink "BunchNotesModel" (65 : Nat) "BunchNotesModel" "behind" "I") ∈ lw_tbl := List.mem_of_getElem? (i := 863) (by decide +kernel)
theorem wd_864 : (Jvm.Cond.fieldLink "BunchNotesModel" (85 : Nat) "BunchNotesModel" "told" "I") ∈ lw_tbl := List.mem_of_getElem? (i := 864) (by decide +kernel)
theorem wd_865 : (Jvm.Cond.fieldLink "BunchNotesModel" (27 : Nat) "BunchNotesModel" "toldPairs" "[Z") ∈ lw_tbl := List.mem_of_getElem? (i := 865) (by decide +kernel)
theorem wd_866 : (Jvm.Cond.fieldLink "BunchNotesModel" (88 : Nat) "BunchNotesModel" "toldLinks" "I") ∈ lw_tbl := List.mem_of_getElem? (i := 866) (by decide +kernel)
theorem wd_867 : (Jvm.Cond.fieldLink "BunchNotesModel" (120 : Nat) "BunchNotesModel" "clauses" "I") ∈ lw_tbl := List.mem_of_getElem? (i := 867) (by decide +kernel)
theorem wd_868 : (Jvm.Cond.fieldLink "BunchNotesModel" (112 : Nat) "BunchNotesModel" "doing" "Z") ∈ lw_tbl := List.mem_of_getElem? (i := 868) (by decide +kernel)
theorem wd_869 : (Jvm.Cond.fieldLink "BunchNotesModel" (30 : Nat) "BunchNotesModel" "numbers" "[I") ∈ lw_tbl := List.mem_of_getElem? (i := 869) (by decide +kernel)
theorem wd_870 : (Jvm.Cond.fieldLink "BunchNotesModel" (33 : Nat) "BunchNotesModel" "words" "[I") ∈ lw_tbl := List.mem_of_getElem? (i := 870) (by decide +kernel)
theorem wd_871 : (Jvm.Cond.fieldLink "BunchNotesModel" (36 : Nat) "BunchNotesModel" "far" "[I") ∈ lw_tbl := List.mem_of_getElem? (i := 871) (by decide +kernel)
theorem wd_872 : (Jvm.Cond.fieldLink "BunchNotesModel" (39 : Nat) "BunchNotesModel" "taken" "[Z") ∈ lw_tbl := List.mem_of_getElem? (i := 872) (by decide +kernel)
theorem wd_873 : (Jvm.Cond.fieldLink "BunchNotesModel" (42 : Nat) "BunchNotesModel" "whole" "[I") ∈ lw_tbl := List.mem_of_getElem? (i := 873) (by decide +kernel)
theorem wd_874 : (Jvm.Cond.fieldLink "BunchNotesModel" (45 : Nat) "BunchNotesModel" "fresh" "[I") ∈ lw_tbl := List.mem_of_getElem? (i := 874) (by decide +kernel)
theorem wd_875 : (Jvm.Cond.fieldLink "BunchNotesModel" (219 : Nat) "BunchNotesModel" "toldFar" "I") ∈ lw_tbl := List.mem_of_getElem? (i := 875) (by decide +kernel)
theorem wd_876 : (Jvm.Cond.fieldLink "BunchNotesModel" (222 : Nat) "BunchNotesModel" "toldBy" "I") ∈ lw_tbl := List.mem_of_getElem? (i := 876) (by decide +kernel)
theorem wd_877 : (Jvm.Cond.fieldLink "BunchNotesModel" (225 : Nat) "BunchNotesModel" "toldLevel" "I") ∈ lw_tbl := List.mem_of_getElem? (i := 877) (by decide +kernel)
theorem wd_878 : (Jvm.Cond.fieldLink "BunchNotesModel" (213 : Nat) "BunchNotesModel" "reason" "I") ∈ lw_tbl := List.mem_of_getElem? (i := 878) (by decide +kernel)
theorem wd_879 : (Jvm.Cond.fieldLink "BunchNotesModel" (216 : Nat) "BunchNotesModel" "looked" "I") ∈ lw_tbl := List.mem_of_getElem? (i := 879) (by decide +kernel)
theorem wd_880 : (Jvm.Cond.laysFinal "BunchNotesModel" "BunchNotesModel" "row" "[I") ∈ lw_tbl := List.mem_of_getElem? (i := 880) (by decide +kernel)
theorem wd_881 : (Jvm.Cond.soleField "BunchNotesModel" "row") ∈ lw_tbl := List.mem_of_getElem? (i := 881) (by decide +kernel)
theorem wd_882 : (Jvm.Cond.lays "BunchNotesModel" "BunchNotesModel" "undos" "I") ∈ lw_tbl := List.mem_of_getElem? (i := 882) (by decide +kernel)
theorem wd_883 : (Jvm.Cond.soleField "BunchNotesModel" "undos") ∈ lw_tbl := List.mem_of_getElem? (i := 883) (by decide +kernel)
theorem wd_884 : (Jvm.Cond.lays "BunchNotesModel" "BunchNotesModel" "nodes" "I") ∈ lw_tbl := List.mem_of_getElem? (i := 884) (by decide +kernel)
theorem wd_885 : (Jvm.Cond.soleField "BunchNotesModel" "nodes") ∈ lw_tbl := List.mem_of_getElem? (i := 885) (by decide +kernel)
theorem wd_886 : (Jvm.Cond.laysFinal "BunchNotesModel" "BunchNotesModel" "notes" "[I") ∈ lw_tbl := List.mem_of_getElem? (i := 886) (by decide +kernel)
theorem wd_887 : (Jvm.Cond.soleField "BunchNotesModel" "notes") ∈ lw_tbl := List.mem_of_getElem? (i := 887) (by decide +kernel)
theorem wd_888 : (Jvm.Cond.laysFinal "BunchNotesModel" "BunchNotesModel" "isKept" "[Z") ∈ lw_tbl := List.mem_of_getElem? (i := 888) (by decide +kernel)
theorem wd_889 : (Jvm.Cond.soleField "BunchNotesModel" "isKept") ∈ lw_tbl := List.mem_of_getElem? (i := 889) (by decide +kernel)
theorem wd_890 : (Jvm.Cond.laysFinal "BunchNotesModel" "BunchNotesModel" "text" "[I") ∈ lw_tbl := List.mem_of_getElem? (i := 890) (by decide +kernel)
theorem wd_891 : (Jvm.Cond.soleField "BunchNotesModel" "text") ∈ lw_tbl := List.mem_of_getElem? (i := 891) (by decide +kernel)
theorem wd_892 : (Jvm.Cond.lays "BunchNotesModel" "BunchNotesModel" "length" "I") ∈ lw_tbl := List.mem_of_getElem? (i := 892) (by decide +kernel)
theorem wd_893 : (Jvm.Cond.soleField "BunchNotesModel" "length") ∈ lw_tbl := List.mem_of_getElem? (i := 893) (by decide +kernel)
theorem wd_894 : (Jvm.Cond.lays "BunchNotesModel" "BunchNotesModel" "first" "I") ∈ lw_tbl := List.mem_of_getElem? (i := 894) (by decide +kernel)
theorem wd_895 : (Jvm.Cond.soleField "BunchNotesModel" "first") ∈ lw_tbl := List.mem_of_getElem? (i := 895) (by decide +kernel)
theorem wd_896 : (Jvm.Cond.lays "BunchNotesModel" "BunchNotesModel" "behind" "I") ∈ lw_tbl := List.mem_of_getElem? (i := 896) (by decide +kernel)
theorem wd_897 : (Jvm.Cond.soleField "BunchNotesModel" "behind") ∈ lw_tbl := List.mem_of_getElem? (i := 897) (by decide +kernel)
theorem wd_898 : (Jvm.Cond.lays "BunchNotesModel" "BunchNotesModel" "told" "I") ∈ lw_tbl := List.mem_of_getElem? (i := 898) (by decide +kernel)
theorem wd_899 : (Jvm.Cond.soleField "BunchNotesModel" "told") ∈ lw_tbl := List.mem_of_getElem? (i := 899) (by decide +kernel)
theorem wd_900 : (Jvm.Cond.laysFinal "BunchNotesModel" "BunchNotesModel" "toldPairs" "[Z") ∈ lw_tbl := List.mem_of_getElem? (i := 900) (by decide +kernel)
theorem wd_901 : (Jvm.Cond.soleField "BunchNotesModel" "toldPairs") ∈ lw_tbl := List.mem_of_getElem? (i := 901) (by decide +kernel)
theorem wd_902 : (Jvm.Cond.lays "BunchNotesModel" "BunchNotesModel" "toldLinks" "I") ∈ lw_tbl := List.mem_of_getElem? (i := 902) (by decide +kernel)
theorem wd_903 : (Jvm.Cond.soleField "BunchNotesModel" "toldLinks") ∈ lw_tbl := List.mem_of_getElem? (i := 903) (by decide +kernel)
theorem wd_904 : (Jvm.Cond.lays "BunchNotesModel" "BunchNotesModel" "clauses" "I") ∈ lw_tbl := List.mem_of_getElem? (i := 904) (by decide +kernel)
theorem wd_905 : (Jvm.Cond.soleField "BunchNotesModel" "clauses") ∈ lw_tbl := List.mem_of_getElem? (i := 905) (by decide +kernel)
theorem wd_906 : (Jvm.Cond.lays "BunchNotesModel" "BunchNotesModel" "doing" "Z") ∈ lw_tbl := List.mem_of_getElem? (i := 906) (by decide +kernel)
theorem wd_907 : (Jvm.Cond.soleField "BunchNotesModel" "doing") ∈ lw_tbl := List.mem_of_getElem? (i := 907) (by decide +kernel)
theorem wd_908 : (Jvm.Cond.laysFinal "BunchNotesModel" "BunchNotesModel" "numbers" "[I") ∈ lw_tbl := List.mem_of_getElem? (i := 908) (by decide +kernel)
theorem wd_909 : (Jvm.Cond.soleField "BunchNotesModel" "numbers") ∈ lw_tbl := List.mem_of_getElem? (i := 909) (by decide +kernel)
theorem wd_910 : (Jvm.Cond.laysFinal "BunchNotesModel" "BunchNotesModel" "words" "[I") ∈ lw_tbl := List.mem_of_getElem? (i := 910) (by decide +kernel)
theorem wd_911 : (Jvm.Cond.soleField "BunchNotesModel" "words") ∈ lw_tbl := List.mem_of_getElem? (i := 911) (by decide +kernel)
theorem wd_912 : (Jvm.Cond.laysFinal "BunchNotesModel" "BunchNotesModel" "far" "[I") ∈ lw_tbl := List.mem_of_getElem? (i := 912) (by decide +kernel)
theorem wd_913 : (Jvm.Cond.soleField "BunchNotesModel" "far") ∈ lw_tbl := List.mem_of_getElem? (i := 913) (by decide +kernel)
theorem wd_914 : (Jvm.Cond.laysFinal "BunchNotesModel" "BunchNotesModel" "taken" "[Z") ∈ lw_tbl := List.mem_of_getElem? (i := 914) (by decide +kernel)
theorem wd_915 : (Jvm.Cond.soleField "BunchNotesModel" "taken") ∈ lw_tbl := List.mem_of_getElem? (i := 915) (by decide +kernel)
theorem wd_916 : (Jvm.Cond.laysFinal "BunchNotesModel" "BunchNotesModel" "whole" "[I") ∈ lw_tbl := List.mem_of_getElem? (i := 916) (by decide +kernel)
theorem wd_917 : (Jvm.Cond.soleField "BunchNotesModel" "whole") ∈ lw_tbl := List.mem_of_getElem? (i := 917) (by decide +kernel)
theorem wd_918 : (Jvm.Cond.laysFinal "BunchNotesModel" "BunchNotesModel" "fresh" "[I") ∈ lw_tbl := List.mem_of_getElem? (i := 918) (by decide +kernel)
theorem wd_919 : (Jvm.Cond.soleField "BunchNotesModel" "fresh") ∈ lw_tbl := List.mem_of_getElem? (i := 919) (by decide +kernel)
theorem wd_920 : (Jvm.Cond.lays "BunchNotesModel" "BunchNotesModel" "toldFar" "I") ∈ lw_tbl := List.mem_of_getElem? (i := 920) (by decide +kernel)
theorem wd_921 : (Jvm.Cond.soleField "BunchNotesModel" "toldFar") ∈ lw_tbl := List.mem_of_getElem? (i := 921) (by decide +kernel)
theorem wd_922 : (Jvm.Cond.lays "BunchNotesModel" "BunchNotesModel" "toldBy" "I") ∈ lw_tbl := List.mem_of_getElem? (i := 922) (by decide +kernel)
theorem wd_923 : (Jvm.Cond.soleField "BunchNotesModel" "toldBy") ∈ lw_tbl := List.mem_of_getElem? (i := 923) (by decide +kernel)
theorem wd_924 : (Jvm.Cond.lays "BunchNotesModel" "BunchNotesModel" "toldLevel" "I") ∈ lw_tbl := List.mem_of_getElem? (i := 924) (by decide +kernel)
theorem wd_925 : (Jvm.Cond.soleField "BunchNotesModel" "toldLevel") ∈ lw_tbl := List.mem_of_getElem? (i := 925) (by decide +kernel)
theorem wd_926 : (Jvm.Cond.lays "BunchNotesModel" "BunchNotesModel" "reason" "I") ∈ lw_tbl := List.mem_of_getElem? (i := 926) (by decide +kernel)
theorem wd_927 : (Jvm.Cond.soleField "BunchNotesModel" "reason") ∈ lw_tbl := List.mem_of_getElem? (i := 927) (by decide +kernel)
theorem wd_928 : (Jvm.Cond.lays "BunchNotesModel" "BunchNotesModel" "looked" "I") ∈ lw_tbl := List.mem_of_getElem? (i := 928) (by decide +kernel)
theorem wd_929 : (Jvm.Cond.soleField "BunchNotesModel" "looked") ∈ lw_tbl := List.mem_of_getElem? (i := 929) (by decide +kernel)
theorem wd_930 : (Jvm.Cond.superclass "BunchNotesModel" "java/lang/Object") ∈ lw_tbl := List.mem_of_getElem? (i := 930) (by decide +kernel)
theorem wd_931 : (Jvm.Cond.arrayClass Jvm.ClassFile.FieldType.boolean) ∈ lw_tbl := List.mem_of_getElem? (i := 931) (by decide +kernel)
theorem wd_932 : (Jvm.Cond.methodLink "BunchNotesLaw" (17 : Nat) ({ cls := "BunchNotesModel", name := "type", desc := "(I)I" } : Jvm.MethodName)) ∈ lw_tbl := List.mem_of_getElem? (i := 932) (by decide +kernel)
theorem wd_933 : (Jvm.Cond.instanceMethod ({ cls := "BunchNotesModel", name := "type", desc := "(I)I" } : Jvm.MethodName)) ∈ lw_tbl := List.mem_of_getElem? (i := 933) (by decide +kernel)
theorem wd_934 : (Jvm.Cond.selects "BunchNotesModel" ({ cls := "BunchNotesModel", name := "type", desc := "(I)I" } : Jvm.MethodName) ({ cls := "BunchNotesModel", name := "type", desc := "(I)I" } : Jvm.MethodName)) ∈ lw_tbl := List.mem_of_getElem? (i := 934) (by decide +kernel)
theorem wd_935 : (Jvm.Cond.code ({ cls := "BunchNotesModel", name := "type", desc := "(I)I" } : Jvm.MethodName) prog_12_method_10_code (2 : Nat) (Option.some Jvm.ClassFile.FieldType.int)) ∈ lw_tbl := List.mem_of_getElem? (i := 935) (by decide +kernel)
theorem wd_936 : (Jvm.Cond.constantLong "BunchNotesModel" (52 : Nat) (255 : Int64)) ∈ lw_tbl := List.mem_of_getElem? (i := 936) (by decide +kernel)
theorem wd_937 : (Jvm.Cond.methodLink "BunchNotesModel" (48 : Nat) ({ cls := "BunchNotesModel", name := "in", desc := "(JJJ)Z" } : Jvm.MethodName)) ∈ lw_tbl := List.mem_of_getElem? (i := 937) (by decide +kernel)
theorem wd_938 : (Jvm.Cond.static ({ cls := "BunchNotesModel", name := "in", desc := "(JJJ)Z" } : Jvm.MethodName)) ∈ lw_tbl := List.mem_of_getElem? (i := 938) (by decide +kernel)
theorem wd_939 : (Jvm.Cond.code ({ cls := "BunchNotesModel", name := "in", desc := "(JJJ)Z" } : Jvm.MethodName) prog_12_method_2_code (6 : Nat) (Option.some Jvm.ClassFile.FieldType.boolean)) ∈ lw_tbl := List.mem_of_getElem? (i := 939) (by decide +kernel)
theorem wd_940 : (Jvm.Cond.methodLink "BunchNotesLaw" (22 : Nat) ({ cls := "BunchNotesModel", name := "erase", desc := "()I" } : Jvm.MethodName)) ∈ lw_tbl := List.mem_of_getElem? (i := 940) (by decide +kernel)
theorem wd_941 : (Jvm.Cond.instanceMethod ({ cls := "BunchNotesModel", name := "erase", desc := "()I" } : Jvm.MethodName)) ∈ lw_tbl := List.mem_of_getElem? (i := 941) (by decide +kernel)
theorem wd_942 : (Jvm.Cond.selects "BunchNotesModel" ({ cls := "BunchNotesModel", name := "erase", desc := "()I" } : Jvm.MethodName) ({ cls := "BunchNotesModel", name := "erase", desc := "()I" } : Jvm.MethodName)) ∈ lw_tbl := List.mem_of_getElem? (i := 942) (by decide +kernel)
theorem wd_943 : (Jvm.Cond.code ({ cls := "BunchNotesModel", name := "erase", desc := "()I" } : Jvm.MethodName) prog_12_method_11_code (2 : Nat) (Option.some Jvm.ClassFile.FieldType.int)) ∈ lw_tbl := List.mem_of_getElem? (i := 943) (by decide +kernel)
theorem wd_944 : (Jvm.Cond.methodLink "BunchNotesLaw" (26 : Nat) ({ cls := "BunchNotesModel", name := "fault", desc := "()I" } : Jvm.MethodName)) ∈ lw_tbl := List.mem_of_getElem? (i := 944) (by decide +kernel)
theorem wd_945 : (Jvm.Cond.instanceMethod ({ cls := "BunchNotesModel", name := "fault", desc := "()I" } : Jvm.MethodName)) ∈ lw_tbl := List.mem_of_getElem? (i := 945) (by decide +kernel)
theorem wd_946 : (Jvm.Cond.selects "BunchNotesModel" ({ cls := "BunchNotesModel", name := "fault", desc := "()I" } : Jvm.MethodName) ({ cls := "BunchNotesModel", name := "fault", desc := "()I" } : Jvm.MethodName)) ∈ lw_tbl := List.mem_of_getElem? (i := 946) (by decide +kernel)
theorem wd_947 : (Jvm.Cond.code ({ cls := "BunchNotesModel", name := "fault", desc := "()I" } : Jvm.MethodName) prog_12_method_24_code (1 : Nat) (Option.some Jvm.ClassFile.FieldType.int)) ∈ lw_tbl := List.mem_of_getElem? (i := 947) (by decide +kernel)
theorem wd_948 : (Jvm.Cond.methodLink "BunchNotesModel" (129 : Nat) ({ cls := "BunchNotesModel", name := "reads", desc := "(Z)Z" } : Jvm.MethodName)) ∈ lw_tbl := List.mem_of_getElem? (i := 948) (by decide +kernel)
theorem wd_949 : (Jvm.Cond.privateMethod ({ cls := "BunchNotesModel", name := "reads", desc := "(Z)Z" } : Jvm.MethodName)) ∈ lw_tbl := List.mem_of_getElem? (i := 949) (by decide +kernel)
theorem wd_950 : (Jvm.Cond.instanceMethod ({ cls := "BunchNotesModel", name := "reads", desc := "(Z)Z" } : Jvm.MethodName)) ∈ lw_tbl := List.mem_of_getElem? (i := 950) (by decide +kernel)
theorem wd_951 : (Jvm.Cond.code ({ cls := "BunchNotesModel", name := "reads", desc := "(Z)Z" } : Jvm.MethodName) prog_12_method_23_code (3 : Nat) (Option.some Jvm.ClassFile.FieldType.boolean)) ∈ lw_tbl := List.mem_of_getElem? (i := 951) (by decide +kernel)
theorem wd_952 : (Jvm.Cond.methodLink "BunchNotesModel" (123 : Nat) ({ cls := "BunchNotesModel", name := "links", desc := "()I" } : Jvm.MethodName)) ∈ lw_tbl := List.mem_of_getElem? (i := 952) (by decide +kernel)
theorem wd_953 : (Jvm.Cond.privateMethod ({ cls := "BunchNotesModel", name := "links", desc := "()I" } : Jvm.MethodName)) ∈ lw_tbl := List.mem_of_getElem? (i := 953) (by decide +kernel)
theorem wd_954 : (Jvm.Cond.instanceMethod ({ cls := "BunchNotesModel", name := "links", desc := "()I" } : Jvm.MethodName)) ∈ lw_tbl := List.mem_of_getElem? (i := 954) (by decide +kernel)
theorem wd_955 : (Jvm.Cond.code ({ cls := "BunchNotesModel", name := "links", desc := "()I" } : Jvm.MethodName) prog_12_method_8_code (3 : Nat) (Option.some Jvm.ClassFile.FieldType.int)) ∈ lw_tbl := List.mem_of_getElem? (i := 955) (by decide +kernel)
theorem wd_956 : (Jvm.Cond.methodLink "BunchNotesModel" (82 : Nat) ({ cls := "BunchNotesModel", name := "nextToken", desc := "()V" } : Jvm.MethodName)) ∈ lw_tbl := List.mem_of_getElem? (i := 956) (by decide +kernel)
theorem wd_957 : (Jvm.Cond.privateMethod ({ cls := "BunchNotesModel", name := "nextToken", desc := "()V" } : Jvm.MethodName)) ∈ lw_tbl := List.mem_of_getElem? (i := 957) (by decide +kernel)
theorem wd_958 : (Jvm.Cond.instanceMethod ({ cls := "BunchNotesModel", name := "nextToken", desc := "()V" } : Jvm.MethodName)) ∈ lw_tbl := List.mem_of_getElem? (i := 958) (by decide +kernel)
theorem wd_959 : (Jvm.Cond.code ({ cls := "BunchNotesModel", name := "nextToken", desc := "()V" } : Jvm.MethodName) prog_12_method_14_code (1 : Nat) (Option.none : Option Jvm.ClassFile.FieldType)) ∈ lw_tbl := List.mem_of_getElem? (i := 959) (by decide +kernel)
theorem wd_960 : (Jvm.Cond.methodLink "BunchNotesModel" (71 : Nat) ({ cls := "BunchNotesModel", name := "isSmall", desc := "(I)Z" } : Jvm.MethodName)) ∈ lw_tbl := List.mem_of_getElem? (i := 960) (by decide +kernel)
theorem wd_961 : (Jvm.Cond.static ({ cls := "BunchNotesModel", name := "isSmall", desc := "(I)Z" } : Jvm.MethodName)) ∈ lw_tbl := List.mem_of_getElem? (i := 961) (by decide +kernel)
theorem wd_962 : (Jvm.Cond.code ({ cls := "BunchNotesModel", name := "isSmall", desc := "(I)Z" } : Jvm.MethodName) prog_12_method_12_code (1 : Nat) (Option.some Jvm.ClassFile.FieldType.boolean)) ∈ lw_tbl := List.mem_of_getElem? (i := 962) (by decide +kernel)
theorem wd_963 : (Jvm.Cond.constantLong "BunchNotesModel" (57 : Nat) (97 : Int64)) ∈ lw_tbl := List.mem_of_getElem? (i := 963) (by decide +kernel)
theorem wd_964 : (Jvm.Cond.constantLong "BunchNotesModel" (59 : Nat) (122 : Int64)) ∈ lw_tbl := List.mem_of_getElem? (i := 964) (by decide +kernel)
theorem wd_965 : (Jvm.Cond.methodLink "BunchNotesModel" (75 : Nat) ({ cls := "BunchNotesModel", name := "isDigit", desc := "(I)Z" } : Jvm.MethodName)) ∈ lw_tbl := List.mem_of_getElem? (i := 965) (by decide +kernel)
theorem wd_966 : (Jvm.Cond.static ({ cls := "BunchNotesModel", name := "isDigit", desc := "(I)Z" } : Jvm.MethodName)) ∈ lw_tbl := List.mem_of_getElem? (i := 966) (by decide +kernel)
theorem wd_967 : (Jvm.Cond.code ({ cls := "BunchNotesModel", name := "isDigit", desc := "(I)Z" } : Jvm.MethodName) prog_12_method_13_code (1 : Nat) (Option.some Jvm.ClassFile.FieldType.boolean)) ∈ lw_tbl := List.mem_of_getElem? (i := 967) (by decide +kernel)
theorem wd_968 : (Jvm.Cond.constantLong "BunchNotesModel" (61 : Nat) (48 : Int64)) ∈ lw_tbl := List.mem_of_getElem? (i := 968) (by decide +kernel)
theorem wd_969 : (Jvm.Cond.constantLong "BunchNotesModel" (63 : Nat) (57 : Int64)) ∈ lw_tbl := List.mem_of_getElem? (i := 969) (by decide +kernel)
theorem wd_970 : (Jvm.Cond.methodLink "BunchNotesModel" (126 : Nat) ({ cls := "BunchNotesModel", name := "readsClause", desc := "()Z" } : Jvm.MethodName)) ∈ lw_tbl := List.mem_of_getElem? (i := 970) (by decide +kernel)
theorem wd_971 : (Jvm.Cond.privateMethod ({ cls := "BunchNotesModel", name := "readsClause", desc := "()Z" } : Jvm.MethodName)) ∈ lw_tbl := List.mem_of_getElem? (i := 971) (by decide +kernel)
theorem wd_972 : (Jvm.Cond.instanceMethod ({ cls := "BunchNotesModel", name := "readsClause", desc := "()Z" } : Jvm.MethodName)) ∈ lw_tbl := List.mem_of_getElem? (i := 972) (by decide +kernel)
theorem wd_973 : (Jvm.Cond.code ({ cls := "BunchNotesModel", name := "readsClause", desc := "()Z" } : Jvm.MethodName) prog_12_method_22_code (3 : Nat) (Option.some Jvm.ClassFile.FieldType.boolean)) ∈ lw_tbl := List.mem_of_getElem? (i := 973) (by decide +kernel)
theorem wd_974 : (Jvm.Cond.methodLink "BunchNotesModel" (99 : Nat) ({ cls := "BunchNotesModel", name := "wordHere", desc := "()I" } : Jvm.MethodName)) ∈ lw_tbl := List.mem_of_getElem? (i := 974) (by decide +kernel)
theorem wd_975 : (Jvm.Cond.privateMethod ({ cls := "BunchNotesModel", name := "wordHere", desc := "()I" } : Jvm.MethodName)) ∈ lw_tbl := List.mem_of_getElem? (i := 975) (by decide +kernel)
theorem wd_976 : (Jvm.Cond.instanceMethod ({ cls := "BunchNotesModel", name := "wordHere", desc := "()I" } : Jvm.MethodName)) ∈ lw_tbl := List.mem_of_getElem? (i := 976) (by decide +kernel)
theorem wd_977 : (Jvm.Cond.code ({ cls := "BunchNotesModel", name := "wordHere", desc := "()I" } : Jvm.MethodName) prog_12_method_15_code (4 : Nat) (Option.some Jvm.ClassFile.FieldType.int)) ∈ lw_tbl := List.mem_of_getElem? (i := 977) (by decide +kernel)
theorem wd_978 : (Jvm.Cond.methodLink "BunchNotesModel" (91 : Nat) ({ cls := "BunchNotesModel", name := "number", desc := "(III)Z" } : Jvm.MethodName)) ∈ lw_tbl := List.mem_of_getElem? (i := 978) (by decide +kernel)
theorem wd_979 : (Jvm.Cond.privateMethod ({ cls := "BunchNotesModel", name := "number", desc := "(III)Z" } : Jvm.MethodName)) ∈ lw_tbl := List.mem_of_getElem? (i := 979) (by decide +kernel)
theorem wd_980 : (Jvm.Cond.instanceMethod ({ cls := "BunchNotesModel", name := "number", desc := "(III)Z" } : Jvm.MethodName)) ∈ lw_tbl := List.mem_of_getElem? (i := 980) (by decide +kernel)
theorem wd_981 : (Jvm.Cond.code ({ cls := "BunchNotesModel", name := "number", desc := "(III)Z" } : Jvm.MethodName) prog_12_method_17_code (5 : Nat) (Option.some Jvm.ClassFile.FieldType.boolean)) ∈ lw_tbl := List.mem_of_getElem? (i := 981) (by decide +kernel)
theorem wd_982 : (Jvm.Cond.methodLink "BunchNotesModel" (78 : Nat) ({ cls := "BunchNotesModel", name := "numberHere", desc := "()I" } : Jvm.MethodName)) ∈ lw_tbl := List.mem_of_getElem? (i := 982) (by decide +kernel)
theorem wd_983 : (Jvm.Cond.privateMethod ({ cls := "BunchNotesModel", name := "numberHere", desc := "()I" } : Jvm.MethodName)) ∈ lw_tbl := List.mem_of_getElem? (i := 983) (by decide +kernel)
theorem wd_984 : (Jvm.Cond.instanceMethod ({ cls := "BunchNotesModel", name := "numberHere", desc := "()I" } : Jvm.MethodName)) ∈ lw_tbl := List.mem_of_getElem? (i := 984) (by decide +kernel)
theorem wd_985 : (Jvm.Cond.code ({ cls := "BunchNotesModel", name := "numberHere", desc := "()I" } : Jvm.MethodName) prog_12_method_16_code (3 : Nat) (Option.some Jvm.ClassFile.FieldType.int)) ∈ lw_tbl := List.mem_of_getElem? (i := 985) (by decide +kernel)
theorem wd_986 : (Jvm.Cond.methodLink "BunchNotesModel" (102 : Nat) ({ cls := "BunchNotesModel", name := "otherNode", desc := "()Z" } : Jvm.MethodName)) ∈ lw_tbl := List.mem_of_getElem? (i := 986) (by decide +kernel)
theorem wd_987 : (Jvm.Cond.privateMethod ({ cls := "BunchNotesModel", name := "otherNode", desc := "()Z" } : Jvm.MethodName)) ∈ lw_tbl := List.mem_of_getElem? (i := 987) (by decide +kernel)
theorem wd_988 : (Jvm.Cond.instanceMethod ({ cls := "BunchNotesModel", name := "otherNode", desc := "()Z" } : Jvm.MethodName)) ∈ lw_tbl := List.mem_of_getElem? (i := 988) (by decide +kernel)
theorem wd_989 : (Jvm.Cond.code ({ cls := "BunchNotesModel", name := "otherNode", desc := "()Z" } : Jvm.MethodName) prog_12_method_18_code (4 : Nat) (Option.some Jvm.ClassFile.FieldType.boolean)) ∈ lw_tbl := List.mem_of_getElem? (i := 989) (by decide +kernel)
theorem wd_990 : (Jvm.Cond.methodLink "BunchNotesModel" (106 : Nat) ({ cls := "BunchNotesModel", name := "tellsNet", desc := "()V" } : Jvm.MethodName)) ∈ lw_tbl := List.mem_of_getElem? (i := 990) (by decide +kernel)
theorem wd_991 : (Jvm.Cond.privateMethod ({ cls := "BunchNotesModel", name := "tellsNet", desc := "()V" } : Jvm.MethodName)) ∈ lw_tbl := List.mem_of_getElem? (i := 991) (by decide +kernel)
theorem wd_992 : (Jvm.Cond.instanceMethod ({ cls := "BunchNotesModel", name := "tellsNet", desc := "()V" } : Jvm.MethodName)) ∈ lw_tbl := List.mem_of_getElem? (i := 992) (by decide +kernel)
theorem wd_993 : (Jvm.Cond.code ({ cls := "BunchNotesModel", name := "tellsNet", desc := "()V" } : Jvm.MethodName) prog_12_method_19_code (2 : Nat) (Option.none : Option Jvm.ClassFile.FieldType)) ∈ lw_tbl := List.mem_of_getElem? (i := 993) (by decide +kernel)
theorem wd_994 : (Jvm.Cond.methodLink "BunchNotesModel" (109 : Nat) ({ cls := "BunchNotesModel", name := "tellsLink", desc := "()V" } : Jvm.MethodName)) ∈ lw_tbl := List.mem_of_getElem? (i := 994) (by decide +kernel)
theorem wd_995 : (Jvm.Cond.privateMethod ({ cls := "BunchNotesModel", name := "tellsLink", desc := "()V" } : Jvm.MethodName)) ∈ lw_tbl := List.mem_of_getElem? (i := 995) (by decide +kernel)
theorem wd_996 : (Jvm.Cond.instanceMethod ({ cls := "BunchNotesModel", name := "tellsLink", desc := "()V" } : Jvm.MethodName)) ∈ lw_tbl := List.mem_of_getElem? (i := 996) (by decide +kernel)
theorem wd_997 : (Jvm.Cond.code ({ cls := "BunchNotesModel", name := "tellsLink", desc := "()V" } : Jvm.MethodName) prog_12_method_20_code (3 : Nat) (Option.none : Option Jvm.ClassFile.FieldType)) ∈ lw_tbl := List.mem_of_getElem? (i := 997) (by decide +kernel)
theorem wd_998 : (Jvm.Cond.methodLink "BunchNotesModel" (116 : Nat) ({ cls := "BunchNotesModel", name := "does", desc := "(I)V" } : Jvm.MethodName)) ∈ lw_tbl := List.mem_of_getElem? (i := 998) (by decide +kernel)
theorem wd_999 : (Jvm.Cond.privateMethod ({ cls := "BunchNotesModel", name := "does", desc := "(I)V" } : Jvm.MethodName)) ∈ lw_tbl := List.mem_of_getElem? (i := 999) (by decide +kernel)
theorem wd_1000 : (Jvm.Cond.instanceMethod ({ cls := "BunchNotesModel", name := "does", desc := "(I)V" } : Jvm.MethodName)) ∈ lw_tbl := List.mem_of_getElem? (i := 1000) (by decide +kernel)
theorem wd_1001 : (Jvm.Cond.code ({ cls := "BunchNotesModel", name := "does", desc := "(I)V" } : Jvm.MethodName) prog_12_method_21_code (3 : Nat) (Option.none : Option Jvm.ClassFile.FieldType)) ∈ lw_tbl := List.mem_of_getElem? (i := 1001) (by decide +kernel)
theorem wd_1002 : (Jvm.Cond.methodLink "BunchNotesModel" (95 : Nat) ({ cls := "BunchNotesModel", name := "lies", desc := "(III)V" } : Jvm.MethodName)) ∈ lw_tbl := List.mem_of_getElem? (i := 1002) (by decide +kernel)
theorem wd_1003 : (Jvm.Cond.privateMethod ({ cls := "BunchNotesModel", name := "lies", desc := "(III)V" } : Jvm.MethodName)) ∈ lw_tbl := List.mem_of_getElem? (i := 1003) (by decide +kernel)
theorem wd_1004 : (Jvm.Cond.instanceMethod ({ cls := "BunchNotesModel", name := "lies", desc := "(III)V" } : Jvm.MethodName)) ∈ lw_tbl := List.mem_of_getElem? (i := 1004) (by decide +kernel)
theorem wd_1005 : (Jvm.Cond.code ({ cls := "BunchNotesModel", name := "lies", desc := "(III)V" } : Jvm.MethodName) prog_12_method_7_code (4 : Nat) (Option.none : Option Jvm.ClassFile.FieldType)) ∈ lw_tbl := List.mem_of_getElem? (i := 1005) (by decide +kernel)
theorem wd_1006 : (Jvm.Cond.methodLink "BunchNotesLaw" (30 : Nat) ({ cls := "BunchNotesModel", name := "net", desc := "()I" } : Jvm.MethodName)) ∈ lw_tbl := List.mem_of_getElem? (i := 1006) (by decide +kernel)
theorem wd_1007 : (Jvm.Cond.instanceMethod ({ cls := "BunchNotesModel", name := "net", desc := "()I" } : Jvm.MethodName)) ∈ lw_tbl := List.mem_of_getElem? (i := 1007) (by decide +kernel)
theorem wd_1008 : (Jvm.Cond.selects "BunchNotesModel" ({ cls := "BunchNotesModel", name := "net", desc := "()I" } : Jvm.MethodName) ({ cls := "BunchNotesModel", name := "net", desc := "()I" } : Jvm.MethodName)) ∈ lw_tbl := List.mem_of_getElem? (i := 1008) (by decide +kernel)
theorem wd_1009 : (Jvm.Cond.code ({ cls := "BunchNotesModel", name := "net", desc := "()I" } : Jvm.MethodName) prog_12_method_25_code (1 : Nat) (Option.some Jvm.ClassFile.FieldType.int)) ∈ lw_tbl := List.mem_of_getElem? (i := 1009) (by decide +kernel)
theorem wd_1010 : (Jvm.Cond.methodLink "BunchNotesLaw" (35 : Nat) ({ cls := "BunchNotesModel", name := "link", desc := "(II)I" } : Jvm.MethodName)) ∈ lw_tbl := List.mem_of_getElem? (i := 1010) (by decide +kernel)
theorem wd_1011 : (Jvm.Cond.instanceMethod ({ cls := "BunchNotesModel", name := "link", desc := "(II)I" } : Jvm.MethodName)) ∈ lw_tbl := List.mem_of_getElem? (i := 1011) (by decide +kernel)
theorem wd_1012 : (Jvm.Cond.selects "BunchNotesModel" ({ cls := "BunchNotesModel", name := "link", desc := "(II)I" } : Jvm.MethodName) ({ cls := "BunchNotesModel", name := "link", desc := "(II)I" } : Jvm.MethodName)) ∈ lw_tbl := List.mem_of_getElem? (i := 1012) (by decide +kernel)
theorem wd_1013 : (Jvm.Cond.code ({ cls := "BunchNotesModel", name := "link", desc := "(II)I" } : Jvm.MethodName) prog_12_method_26_code (4 : Nat) (Option.some Jvm.ClassFile.FieldType.int)) ∈ lw_tbl := List.mem_of_getElem? (i := 1013) (by decide +kernel)
theorem wd_1014 : (Jvm.Cond.methodLink "BunchNotesModel" (136 : Nat) ({ cls := "BunchNotesModel", name := "pairOf", desc := "(I)I" } : Jvm.MethodName)) ∈ lw_tbl := List.mem_of_getElem? (i := 1014) (by decide +kernel)
theorem wd_1015 : (Jvm.Cond.privateMethod ({ cls := "BunchNotesModel", name := "pairOf", desc := "(I)I" } : Jvm.MethodName)) ∈ lw_tbl := List.mem_of_getElem? (i := 1015) (by decide +kernel)
theorem wd_1016 : (Jvm.Cond.instanceMethod ({ cls := "BunchNotesModel", name := "pairOf", desc := "(I)I" } : Jvm.MethodName)) ∈ lw_tbl := List.mem_of_getElem? (i := 1016) (by decide +kernel)
theorem wd_1017 : (Jvm.Cond.code ({ cls := "BunchNotesModel", name := "pairOf", desc := "(I)I" } : Jvm.MethodName) prog_12_method_9_code (4 : Nat) (Option.some Jvm.ClassFile.FieldType.int)) ∈ lw_tbl := List.mem_of_getElem? (i := 1017) (by decide +kernel)
theorem wd_1018 : (Jvm.Cond.methodLink "BunchNotesLaw" (39 : Nat) ({ cls := "BunchNotesModel", name := "level", desc := "(I)I" } : Jvm.MethodName)) ∈ lw_tbl := List.mem_of_getElem? (i := 1018) (by decide +kernel)
theorem wd_1019 : (Jvm.Cond.instanceMethod ({ cls := "BunchNotesModel", name := "level", desc := "(I)I" } : Jvm.MethodName)) ∈ lw_tbl := List.mem_of_getElem? (i := 1019) (by decide +kernel)
theorem wd_1020 : (Jvm.Cond.selects "BunchNotesModel" ({ cls := "BunchNotesModel", name := "level", desc := "(I)I" } : Jvm.MethodName) ({ cls := "BunchNotesModel", name := "level", desc := "(I)I" } : Jvm.MethodName)) ∈ lw_tbl := List.mem_of_getElem? (i := 1020) (by decide +kernel)
theorem wd_1021 : (Jvm.Cond.code ({ cls := "BunchNotesModel", name := "level", desc := "(I)I" } : Jvm.MethodName) prog_12_method_27_code (2 : Nat) (Option.some Jvm.ClassFile.FieldType.int)) ∈ lw_tbl := List.mem_of_getElem? (i := 1021) (by decide +kernel)
theorem wd_1022 : (Jvm.Cond.methodLink "BunchNotesModel" (140 : Nat) ({ cls := "BunchNotesModel", name := "isNode", desc := "(I)Z" } : Jvm.MethodName)) ∈ lw_tbl := List.mem_of_getElem? (i := 1022) (by decide +kernel)
theorem wd_1023 : (Jvm.Cond.privateMethod ({ cls := "BunchNotesModel", name := "isNode", desc := "(I)Z" } : Jvm.MethodName)) ∈ lw_tbl := List.mem_of_getElem? (i := 1023) (by decide +kernel)
theorem wd_1024 : (Jvm.Cond.instanceMethod ({ cls := "BunchNotesModel", name := "isNode", desc := "(I)Z" } : Jvm.MethodName)) ∈ lw_tbl := List.mem_of_getElem? (i := 1024) (by decide +kernel)
theorem wd_1025 : (Jvm.Cond.code ({ cls := "BunchNotesModel", name := "isNode", desc := "(I)Z" } : Jvm.MethodName) prog_12_method_3_code (2 : Nat) (Option.some Jvm.ClassFile.FieldType.boolean)) ∈ lw_tbl := List.mem_of_getElem? (i := 1025) (by decide +kernel)
theorem wd_1026 : (Jvm.Cond.methodLink "BunchNotesLaw" (76 : Nat) ({ cls := "BunchNotesModel", name := "distance", desc := "(II)I" } : Jvm.MethodName)) ∈ lw_tbl := List.mem_of_getElem? (i := 1026) (by decide +kernel)
theorem wd_1027 : (Jvm.Cond.instanceMethod ({ cls := "BunchNotesModel", name := "distance", desc := "(II)I" } : Jvm.MethodName)) ∈ lw_tbl := List.mem_of_getElem? (i := 1027) (by decide +kernel)
theorem wd_1028 : (Jvm.Cond.selects "BunchNotesModel" ({ cls := "BunchNotesModel", name := "distance", desc := "(II)I" } : Jvm.MethodName) ({ cls := "BunchNotesModel", name := "distance", desc := "(II)I" } : Jvm.MethodName)) ∈ lw_tbl := List.mem_of_getElem? (i := 1028) (by decide +kernel)
theorem wd_1029 : (Jvm.Cond.code ({ cls := "BunchNotesModel", name := "distance", desc := "(II)I" } : Jvm.MethodName) prog_12_method_30_code (3 : Nat) (Option.some Jvm.ClassFile.FieldType.int)) ∈ lw_tbl := List.mem_of_getElem? (i := 1029) (by decide +kernel)
theorem wd_1030 : (Jvm.Cond.methodLink "BunchNotesModel" (144 : Nat) ({ cls := "BunchNotesModel", name := "finds", desc := "(Z)V" } : Jvm.MethodName)) ∈ lw_tbl := List.mem_of_getElem? (i := 1030) (by decide +kernel)
theorem wd_1031 : (Jvm.Cond.privateMethod ({ cls := "BunchNotesModel", name := "finds", desc := "(Z)V" } : Jvm.MethodName)) ∈ lw_tbl := List.mem_of_getElem? (i := 1031) (by decide +kernel)
theorem wd_1032 : (Jvm.Cond.instanceMethod ({ cls := "BunchNotesModel", name := "finds", desc := "(Z)V" } : Jvm.MethodName)) ∈ lw_tbl := List.mem_of_getElem? (i := 1032) (by decide +kernel)
theorem wd_1033 : (Jvm.Cond.code ({ cls := "BunchNotesModel", name := "finds", desc := "(Z)V" } : Jvm.MethodName) prog_12_method_28_code (6 : Nat) (Option.none : Option Jvm.ClassFile.FieldType)) ∈ lw_tbl := List.mem_of_getElem? (i := 1033) (by decide +kernel)
theorem wd_1034 : (Jvm.Cond.constant "BunchNotesModel" (143 : Nat) (100000 : Int32)) ∈ lw_tbl := List.mem_of_getElem? (i := 1034) (by decide +kernel)
theorem wd_1035 : (Jvm.Cond.methodLink "BunchNotesModel" (148 : Nat) ({ cls := "BunchNotesModel", name := "isWay", desc := "(II)Z" } : Jvm.MethodName)) ∈ lw_tbl := List.mem_of_getElem? (i := 1035) (by decide +kernel)
theorem wd_1036 : (Jvm.Cond.privateMethod ({ cls := "BunchNotesModel", name := "isWay", desc := "(II)Z" } : Jvm.MethodName)) ∈ lw_tbl := List.mem_of_getElem? (i := 1036) (by decide +kernel)
theorem wd_1037 : (Jvm.Cond.instanceMethod ({ cls := "BunchNotesModel", name := "isWay", desc := "(II)Z" } : Jvm.MethodName)) ∈ lw_tbl := List.mem_of_getElem? (i := 1037) (by decide +kernel)
theorem wd_1038 : (Jvm.Cond.code ({ cls := "BunchNotesModel", name := "isWay", desc := "(II)Z" } : Jvm.MethodName) prog_12_method_29_code (3 : Nat) (Option.some Jvm.ClassFile.FieldType.boolean)) ∈ lw_tbl := List.mem_of_getElem? (i := 1038) (by decide +kernel)
theorem wd_1039 : (Jvm.Cond.methodLink "BunchNotesLaw" (80 : Nat) ({ cls := "BunchNotesModel", name := "nearest", desc := "(III)I" } : Jvm.MethodName)) ∈ lw_tbl := List.mem_of_getElem? (i := 1039) (by decide +kernel)
theorem wd_1040 : (Jvm.Cond.instanceMethod ({ cls := "BunchNotesModel", name := "nearest", desc := "(III)I" } : Jvm.MethodName)) ∈ lw_tbl := List.mem_of_getElem? (i := 1040) (by decide +kernel)
theorem wd_1041 : (Jvm.Cond.selects "BunchNotesModel" ({ cls := "BunchNotesModel", name := "nearest", desc := "(III)I" } : Jvm.MethodName) ({ cls := "BunchNotesModel", name := "nearest", desc := "(III)I" } : Jvm.MethodName)) ∈ lw_tbl := List.mem_of_getElem? (i := 1041) (by decide +kernel)
theorem wd_1042 : (Jvm.Cond.code ({ cls := "BunchNotesModel", name := "nearest", desc := "(III)I" } : Jvm.MethodName) prog_12_method_34_code (5 : Nat) (Option.some Jvm.ClassFile.FieldType.int)) ∈ lw_tbl := List.mem_of_getElem? (i := 1042) (by decide +kernel)
theorem wd_1043 : (Jvm.Cond.constantLong "BunchNotesModel" (159 : Nat) (2 : Int64)) ∈ lw_tbl := List.mem_of_getElem? (i := 1043) (by decide +kernel)
theorem wd_1044 : (Jvm.Cond.methodLink "BunchNotesModel" (152 : Nat) ({ cls := "BunchNotesModel", name := "nearestOf", desc := "(II)I" } : Jvm.MethodName)) ∈ lw_tbl := List.mem_of_getElem? (i := 1044) (by decide +kernel)
theorem wd_1045 : (Jvm.Cond.privateMethod ({ cls := "BunchNotesModel", name := "nearestOf", desc := "(II)I" } : Jvm.MethodName)) ∈ lw_tbl := List.mem_of_getElem? (i := 1045) (by decide +kernel)
theorem wd_1046 : (Jvm.Cond.instanceMethod ({ cls := "BunchNotesModel", name := "nearestOf", desc := "(II)I" } : Jvm.MethodName)) ∈ lw_tbl := List.mem_of_getElem? (i := 1046) (by decide +kernel)
theorem wd_1047 : (Jvm.Cond.code ({ cls := "BunchNotesModel", name := "nearestOf", desc := "(II)I" } : Jvm.MethodName) prog_12_method_31_code (5 : Nat) (Option.some Jvm.ClassFile.FieldType.int)) ∈ lw_tbl := List.mem_of_getElem? (i := 1047) (by decide +kernel)
theorem wd_1048 : (Jvm.Cond.methodLink "BunchNotesLaw" (84 : Nat) ({ cls := "BunchNotesModel", name := "bunch", desc := "(II)I" } : Jvm.MethodName)) ∈ lw_tbl := List.mem_of_getElem? (i := 1048) (by decide +kernel)
theorem wd_1049 : (Jvm.Cond.instanceMethod ({ cls := "BunchNotesModel", name := "bunch", desc := "(II)I" } : Jvm.MethodName)) ∈ lw_tbl := List.mem_of_getElem? (i := 1049) (by decide +kernel)
theorem wd_1050 : (Jvm.Cond.selects "BunchNotesModel" ({ cls := "BunchNotesModel", name := "bunch", desc := "(II)I" } : Jvm.MethodName) ({ cls := "BunchNotesModel", name := "bunch", desc := "(II)I" } : Jvm.MethodName)) ∈ lw_tbl := List.mem_of_getElem? (i := 1050) (by decide +kernel)
theorem wd_1051 : (Jvm.Cond.code ({ cls := "BunchNotesModel", name := "bunch", desc := "(II)I" } : Jvm.MethodName) prog_12_method_35_code (5 : Nat) (Option.some Jvm.ClassFile.FieldType.int)) ∈ lw_tbl := List.mem_of_getElem? (i := 1051) (by decide +kernel)
theorem wd_1052 : (Jvm.Cond.methodLink "BunchNotesModel" (161 : Nat) ({ cls := "BunchNotesModel", name := "bunchOf", desc := "(I)I" } : Jvm.MethodName)) ∈ lw_tbl := List.mem_of_getElem? (i := 1052) (by decide +kernel)
theorem wd_1053 : (Jvm.Cond.privateMethod ({ cls := "BunchNotesModel", name := "bunchOf", desc := "(I)I" } : Jvm.MethodName)) ∈ lw_tbl := List.mem_of_getElem? (i := 1053) (by decide +kernel)
theorem wd_1054 : (Jvm.Cond.instanceMethod ({ cls := "BunchNotesModel", name := "bunchOf", desc := "(I)I" } : Jvm.MethodName)) ∈ lw_tbl := List.mem_of_getElem? (i := 1054) (by decide +kernel)
theorem wd_1055 : (Jvm.Cond.code ({ cls := "BunchNotesModel", name := "bunchOf", desc := "(I)I" } : Jvm.MethodName) prog_12_method_33_code (4 : Nat) (Option.some Jvm.ClassFile.FieldType.int)) ∈ lw_tbl := List.mem_of_getElem? (i := 1055) (by decide +kernel)
theorem wd_1056 : (Jvm.Cond.methodLink "BunchNotesModel" (156 : Nat) ({ cls := "BunchNotesModel", name := "isInBunch", desc := "(II)Z" } : Jvm.MethodName)) ∈ lw_tbl := List.mem_of_getElem? (i := 1056) (by decide +kernel)
theorem wd_1057 : (Jvm.Cond.privateMethod ({ cls := "BunchNotesModel", name := "isInBunch", desc := "(II)Z" } : Jvm.MethodName)) ∈ lw_tbl := List.mem_of_getElem? (i := 1057) (by decide +kernel)
theorem wd_1058 : (Jvm.Cond.instanceMethod ({ cls := "BunchNotesModel", name := "isInBunch", desc := "(II)Z" } : Jvm.MethodName)) ∈ lw_tbl := List.mem_of_getElem? (i := 1058) (by decide +kernel)
theorem wd_1059 : (Jvm.Cond.code ({ cls := "BunchNotesModel", name := "isInBunch", desc := "(II)Z" } : Jvm.MethodName) prog_12_method_32_code (4 : Nat) (Option.some Jvm.ClassFile.FieldType.boolean)) ∈ lw_tbl := List.mem_of_getElem? (i := 1059) (by decide +kernel)
theorem wd_1060 : (Jvm.Cond.methodLink "BunchNotesLaw" (88 : Nat) ({ cls := "BunchNotesModel", name := "next", desc := "(II)I" } : Jvm.MethodName)) ∈ lw_tbl := List.mem_of_getElem? (i := 1060) (by decide +kernel)
theorem wd_1061 : (Jvm.Cond.instanceMethod ({ cls := "BunchNotesModel", name := "next", desc := "(II)I" } : Jvm.MethodName)) ∈ lw_tbl := List.mem_of_getElem? (i := 1061) (by decide +kernel)
theorem wd_1062 : (Jvm.Cond.selects "BunchNotesModel" ({ cls := "BunchNotesModel", name := "next", desc := "(II)I" } : Jvm.MethodName) ({ cls := "BunchNotesModel", name := "next", desc := "(II)I" } : Jvm.MethodName)) ∈ lw_tbl := List.mem_of_getElem? (i := 1062) (by decide +kernel)
theorem wd_1063 : (Jvm.Cond.code ({ cls := "BunchNotesModel", name := "next", desc := "(II)I" } : Jvm.MethodName) prog_12_method_37_code (3 : Nat) (Option.some Jvm.ClassFile.FieldType.int)) ∈ lw_tbl := List.mem_of_getElem? (i := 1063) (by decide +kernel)
theorem wd_1064 : (Jvm.Cond.methodLink "BunchNotesModel" (166 : Nat) ({ cls := "BunchNotesModel", name := "nextOf", desc := "(II)I" } : Jvm.MethodName)) ∈ lw_tbl := List.mem_of_getElem? (i := 1064) (by decide +kernel)
theorem wd_1065 : (Jvm.Cond.privateMethod ({ cls := "BunchNotesModel", name := "nextOf", desc := "(II)I" } : Jvm.MethodName)) ∈ lw_tbl := List.mem_of_getElem? (i := 1065) (by decide +kernel)
theorem wd_1066 : (Jvm.Cond.instanceMethod ({ cls := "BunchNotesModel", name := "nextOf", desc := "(II)I" } : Jvm.MethodName)) ∈ lw_tbl := List.mem_of_getElem? (i := 1066) (by decide +kernel)
theorem wd_1067 : (Jvm.Cond.code ({ cls := "BunchNotesModel", name := "nextOf", desc := "(II)I" } : Jvm.MethodName) prog_12_method_36_code (4 : Nat) (Option.some Jvm.ClassFile.FieldType.int)) ∈ lw_tbl := List.mem_of_getElem? (i := 1067) (by decide +kernel)
theorem wd_1068 : (Jvm.Cond.methodLink "BunchNotesModel" (164 : Nat) ({ cls := "BunchNotesModel", name := "length", desc := "(II)I" } : Jvm.MethodName)) ∈ lw_tbl := List.mem_of_getElem? (i := 1068) (by decide +kernel)
theorem wd_1069 : (Jvm.Cond.privateMethod ({ cls := "BunchNotesModel", name := "length", desc := "(II)I" } : Jvm.MethodName)) ∈ lw_tbl := List.mem_of_getElem? (i := 1069) (by decide +kernel)
theorem wd_1070 : (Jvm.Cond.instanceMethod ({ cls := "BunchNotesModel", name := "length", desc := "(II)I" } : Jvm.MethodName)) ∈ lw_tbl := List.mem_of_getElem? (i := 1070) (by decide +kernel)
theorem wd_1071 : (Jvm.Cond.code ({ cls := "BunchNotesModel", name := "length", desc := "(II)I" } : Jvm.MethodName) prog_12_method_6_code (3 : Nat) (Option.some Jvm.ClassFile.FieldType.int)) ∈ lw_tbl := List.mem_of_getElem? (i := 1071) (by decide +kernel)
theorem wd_1072 : (Jvm.Cond.methodLink "BunchNotesLaw" (92 : Nat) ({ cls := "BunchNotesModel", name := "thinned", desc := "(II)I" } : Jvm.MethodName)) ∈ lw_tbl := List.mem_of_getElem? (i := 1072) (by decide +kernel)
theorem wd_1073 : (Jvm.Cond.instanceMethod ({ cls := "BunchNotesModel", name := "thinned", desc := "(II)I" } : Jvm.MethodName)) ∈ lw_tbl := List.mem_of_getElem? (i := 1073) (by decide +kernel)
theorem wd_1074 : (Jvm.Cond.selects "BunchNotesModel" ({ cls := "BunchNotesModel", name := "thinned", desc := "(II)I" } : Jvm.MethodName) ({ cls := "BunchNotesModel", name := "thinned", desc := "(II)I" } : Jvm.MethodName)) ∈ lw_tbl := List.mem_of_getElem? (i := 1074) (by decide +kernel)
theorem wd_1075 : (Jvm.Cond.code ({ cls := "BunchNotesModel", name := "thinned", desc := "(II)I" } : Jvm.MethodName) prog_12_method_40_code (6 : Nat) (Option.some Jvm.ClassFile.FieldType.int)) ∈ lw_tbl := List.mem_of_getElem? (i := 1075) (by decide +kernel)
theorem wd_1076 : (Jvm.Cond.constantLong "BunchNotesModel" (173 : Nat) (9 : Int64)) ∈ lw_tbl := List.mem_of_getElem? (i := 1076) (by decide +kernel)
theorem wd_1077 : (Jvm.Cond.methodLink "BunchNotesModel" (175 : Nat) ({ cls := "BunchNotesModel", name := "thins", desc := "(I)V" } : Jvm.MethodName)) ∈ lw_tbl := List.mem_of_getElem? (i := 1077) (by decide +kernel)
theorem wd_1078 : (Jvm.Cond.privateMethod ({ cls := "BunchNotesModel", name := "thins", desc := "(I)V" } : Jvm.MethodName)) ∈ lw_tbl := List.mem_of_getElem? (i := 1078) (by decide +kernel)
theorem wd_1079 : (Jvm.Cond.instanceMethod ({ cls := "BunchNotesModel", name := "thins", desc := "(I)V" } : Jvm.MethodName)) ∈ lw_tbl := List.mem_of_getElem? (i := 1079) (by decide +kernel)
theorem wd_1080 : (Jvm.Cond.code ({ cls := "BunchNotesModel", name := "thins", desc := "(I)V" } : Jvm.MethodName) prog_12_method_39_code (3 : Nat) (Option.none : Option Jvm.ClassFile.FieldType)) ∈ lw_tbl := List.mem_of_getElem? (i := 1080) (by decide +kernel)
theorem wd_1081 : (Jvm.Cond.methodLink "BunchNotesModel" (169 : Nat) ({ cls := "BunchNotesModel", name := "takes", desc := "(II)V" } : Jvm.MethodName)) ∈ lw_tbl := List.mem_of_getElem? (i := 1081) (by decide +kernel)
theorem wd_1082 : (Jvm.Cond.privateMethod ({ cls := "BunchNotesModel", name := "takes", desc := "(II)V" } : Jvm.MethodName)) ∈ lw_tbl := List.mem_of_getElem? (i := 1082) (by decide +kernel)
theorem wd_1083 : (Jvm.Cond.instanceMethod ({ cls := "BunchNotesModel", name := "takes", desc := "(II)V" } : Jvm.MethodName)) ∈ lw_tbl := List.mem_of_getElem? (i := 1083) (by decide +kernel)
theorem wd_1084 : (Jvm.Cond.code ({ cls := "BunchNotesModel", name := "takes", desc := "(II)V" } : Jvm.MethodName) prog_12_method_38_code (5 : Nat) (Option.none : Option Jvm.ClassFile.FieldType)) ∈ lw_tbl := List.mem_of_getElem? (i := 1084) (by decide +kernel)
theorem wd_1085 : (Jvm.Cond.methodLink "BunchNotesLaw" (96 : Nat) ({ cls := "BunchNotesModel", name := "worst", desc := "(II)I" } : Jvm.MethodName)) ∈ lw_tbl := List.mem_of_getElem? (i := 1085) (by decide +kernel)
theorem wd_1086 : (Jvm.Cond.instanceMethod ({ cls := "BunchNotesModel", name := "worst", desc := "(II)I" } : Jvm.MethodName)) ∈ lw_tbl := List.mem_of_getElem? (i := 1086) (by decide +kernel)
theorem wd_1087 : (Jvm.Cond.selects "BunchNotesModel" ({ cls := "BunchNotesModel", name := "worst", desc := "(II)I" } : Jvm.MethodName) ({ cls := "BunchNotesModel", name := "worst", desc := "(II)I" } : Jvm.MethodName)) ∈ lw_tbl := List.mem_of_getElem? (i := 1087) (by decide +kernel)
theorem wd_1088 : (Jvm.Cond.code ({ cls := "BunchNotesModel", name := "worst", desc := "(II)I" } : Jvm.MethodName) prog_12_method_42_code (8 : Nat) (Option.some Jvm.ClassFile.FieldType.int)) ∈ lw_tbl := List.mem_of_getElem? (i := 1088) (by decide +kernel)
theorem wd_1089 : (Jvm.Cond.methodLink "BunchNotesModel" (178 : Nat) ({ cls := "BunchNotesModel", name := "divisor", desc := "(II)I" } : Jvm.MethodName)) ∈ lw_tbl := List.mem_of_getElem? (i := 1089) (by decide +kernel)
theorem wd_1090 : (Jvm.Cond.static ({ cls := "BunchNotesModel", name := "divisor", desc := "(II)I" } : Jvm.MethodName)) ∈ lw_tbl := List.mem_of_getElem? (i := 1090) (by decide +kernel)
theorem wd_1091 : (Jvm.Cond.code ({ cls := "BunchNotesModel", name := "divisor", desc := "(II)I" } : Jvm.MethodName) prog_12_method_41_code (5 : Nat) (Option.some Jvm.ClassFile.FieldType.int)) ∈ lw_tbl := List.mem_of_getElem? (i := 1091) (by decide +kernel)
theorem wd_1092 : (Jvm.Cond.methodLink "BunchNotesLaw" (44 : Nat) ({ cls := "BunchNotesModel", name := "join", desc := "(III)I" } : Jvm.MethodName)) ∈ lw_tbl := List.mem_of_getElem? (i := 1092) (by decide +kernel)
theorem wd_1093 : (Jvm.Cond.instanceMethod ({ cls := "BunchNotesModel", name := "join", desc := "(III)I" } : Jvm.MethodName)) ∈ lw_tbl := List.mem_of_getElem? (i := 1093) (by decide +kernel)
theorem wd_1094 : (Jvm.Cond.selects "BunchNotesModel" ({ cls := "BunchNotesModel", name := "join", desc := "(III)I" } : Jvm.MethodName) ({ cls := "BunchNotesModel", name := "join", desc := "(III)I" } : Jvm.MethodName)) ∈ lw_tbl := List.mem_of_getElem? (i := 1094) (by decide +kernel)
theorem wd_1095 : (Jvm.Cond.code ({ cls := "BunchNotesModel", name := "join", desc := "(III)I" } : Jvm.MethodName) prog_12_method_45_code (4 : Nat) (Option.some Jvm.ClassFile.FieldType.int)) ∈ lw_tbl := List.mem_of_getElem? (i := 1095) (by decide +kernel)
theorem wd_1096 : (Jvm.Cond.constantLong "BunchNotesModel" (184 : Nat) (99 : Int64)) ∈ lw_tbl := List.mem_of_getElem? (i := 1096) (by decide +kernel)
theorem wd_1097 : (Jvm.Cond.methodLink "BunchNotesModel" (186 : Nat) ({ cls := "BunchNotesModel", name := "keepPast", desc := "()V" } : Jvm.MethodName)) ∈ lw_tbl := List.mem_of_getElem? (i := 1097) (by decide +kernel)
theorem wd_1098 : (Jvm.Cond.privateMethod ({ cls := "BunchNotesModel", name := "keepPast", desc := "()V" } : Jvm.MethodName)) ∈ lw_tbl := List.mem_of_getElem? (i := 1098) (by decide +kernel)
theorem wd_1099 : (Jvm.Cond.instanceMethod ({ cls := "BunchNotesModel", name := "keepPast", desc := "()V" } : Jvm.MethodName)) ∈ lw_tbl := List.mem_of_getElem? (i := 1099) (by decide +kernel)
theorem wd_1100 : (Jvm.Cond.code ({ cls := "BunchNotesModel", name := "keepPast", desc := "()V" } : Jvm.MethodName) prog_12_method_43_code (2 : Nat) (Option.none : Option Jvm.ClassFile.FieldType)) ∈ lw_tbl := List.mem_of_getElem? (i := 1100) (by decide +kernel)
theorem wd_1101 : (Jvm.Cond.methodLink "BunchNotesModel" (181 : Nat) ({ cls := "BunchNotesModel", name := "copyRow", desc := "(II)V" } : Jvm.MethodName)) ∈ lw_tbl := List.mem_of_getElem? (i := 1101) (by decide +kernel)
theorem wd_1102 : (Jvm.Cond.privateMethod ({ cls := "BunchNotesModel", name := "copyRow", desc := "(II)V" } : Jvm.MethodName)) ∈ lw_tbl := List.mem_of_getElem? (i := 1102) (by decide +kernel)
theorem wd_1103 : (Jvm.Cond.instanceMethod ({ cls := "BunchNotesModel", name := "copyRow", desc := "(II)V" } : Jvm.MethodName)) ∈ lw_tbl := List.mem_of_getElem? (i := 1103) (by decide +kernel)
theorem wd_1104 : (Jvm.Cond.code ({ cls := "BunchNotesModel", name := "copyRow", desc := "(II)V" } : Jvm.MethodName) prog_12_method_44_code (4 : Nat) (Option.none : Option Jvm.ClassFile.FieldType)) ∈ lw_tbl := List.mem_of_getElem? (i := 1104) (by decide +kernel)
theorem wd_1105 : (Jvm.Cond.methodLink "BunchNotesLaw" (48 : Nat) ({ cls := "BunchNotesModel", name := "cut", desc := "(II)I" } : Jvm.MethodName)) ∈ lw_tbl := List.mem_of_getElem? (i := 1105) (by decide +kernel)
theorem wd_1106 : (Jvm.Cond.instanceMethod ({ cls := "BunchNotesModel", name := "cut", desc := "(II)I" } : Jvm.MethodName)) ∈ lw_tbl := List.mem_of_getElem? (i := 1106) (by decide +kernel)
theorem wd_1107 : (Jvm.Cond.selects "BunchNotesModel" ({ cls := "BunchNotesModel", name := "cut", desc := "(II)I" } : Jvm.MethodName) ({ cls := "BunchNotesModel", name := "cut", desc := "(II)I" } : Jvm.MethodName)) ∈ lw_tbl := List.mem_of_getElem? (i := 1107) (by decide +kernel)
theorem wd_1108 : (Jvm.Cond.code ({ cls := "BunchNotesModel", name := "cut", desc := "(II)I" } : Jvm.MethodName) prog_12_method_46_code (4 : Nat) (Option.some Jvm.ClassFile.FieldType.int)) ∈ lw_tbl := List.mem_of_getElem? (i := 1108) (by decide +kernel)
theorem wd_1109 : (Jvm.Cond.methodLink "BunchNotesLaw" (52 : Nat) ({ cls := "BunchNotesModel", name := "lift", desc := "(II)I" } : Jvm.MethodName)) ∈ lw_tbl := List.mem_of_getElem? (i := 1109) (by decide +kernel)
theorem wd_1110 : (Jvm.Cond.instanceMethod ({ cls := "BunchNotesModel", name := "lift", desc := "(II)I" } : Jvm.MethodName)) ∈ lw_tbl := List.mem_of_getElem? (i := 1110) (by decide +kernel)
theorem wd_1111 : (Jvm.Cond.selects "BunchNotesModel" ({ cls := "BunchNotesModel", name := "lift", desc := "(II)I" } : Jvm.MethodName) ({ cls := "BunchNotesModel", name := "lift", desc := "(II)I" } : Jvm.MethodName)) ∈ lw_tbl := List.mem_of_getElem? (i := 1111) (by decide +kernel)
theorem wd_1112 : (Jvm.Cond.code ({ cls := "BunchNotesModel", name := "lift", desc := "(II)I" } : Jvm.MethodName) prog_12_method_47_code (4 : Nat) (Option.some Jvm.ClassFile.FieldType.int)) ∈ lw_tbl := List.mem_of_getElem? (i := 1112) (by decide +kernel)
theorem wd_1113 : (Jvm.Cond.methodLink "BunchNotesLaw" (56 : Nat) ({ cls := "BunchNotesModel", name := "draw", desc := "(I)I" } : Jvm.MethodName)) ∈ lw_tbl := List.mem_of_getElem? (i := 1113) (by decide +kernel)
theorem wd_1114 : (Jvm.Cond.instanceMethod ({ cls := "BunchNotesModel", name := "draw", desc := "(I)I" } : Jvm.MethodName)) ∈ lw_tbl := List.mem_of_getElem? (i := 1114) (by decide +kernel)
theorem wd_1115 : (Jvm.Cond.selects "BunchNotesModel" ({ cls := "BunchNotesModel", name := "draw", desc := "(I)I" } : Jvm.MethodName) ({ cls := "BunchNotesModel", name := "draw", desc := "(I)I" } : Jvm.MethodName)) ∈ lw_tbl := List.mem_of_getElem? (i := 1115) (by decide +kernel)
theorem wd_1116 : (Jvm.Cond.code ({ cls := "BunchNotesModel", name := "draw", desc := "(I)I" } : Jvm.MethodName) prog_12_method_48_code (5 : Nat) (Option.some Jvm.ClassFile.FieldType.int)) ∈ lw_tbl := List.mem_of_getElem? (i := 1116) (by decide +kernel)
theorem wd_1117 : (Jvm.Cond.constant "BunchNotesModel" (189 : Nat) (69069 : Int32)) ∈ lw_tbl := List.mem_of_getElem? (i := 1117) (by decide +kernel)
theorem wd_1118 : (Jvm.Cond.methodLink "BunchNotesLaw" (60 : Nat) ({ cls := "BunchNotesModel", name := "thin", desc := "(I)I" } : Jvm.MethodName)) ∈ lw_tbl := List.mem_of_getElem? (i := 1118) (by decide +kernel)
theorem wd_1119 : (Jvm.Cond.instanceMethod ({ cls := "BunchNotesModel", name := "thin", desc := "(I)I" } : Jvm.MethodName)) ∈ lw_tbl := List.mem_of_getElem? (i := 1119) (by decide +kernel)
theorem wd_1120 : (Jvm.Cond.selects "BunchNotesModel" ({ cls := "BunchNotesModel", name := "thin", desc := "(I)I" } : Jvm.MethodName) ({ cls := "BunchNotesModel", name := "thin", desc := "(I)I" } : Jvm.MethodName)) ∈ lw_tbl := List.mem_of_getElem? (i := 1120) (by decide +kernel)
theorem wd_1121 : (Jvm.Cond.code ({ cls := "BunchNotesModel", name := "thin", desc := "(I)I" } : Jvm.MethodName) prog_12_method_49_code (3 : Nat) (Option.some Jvm.ClassFile.FieldType.int)) ∈ lw_tbl := List.mem_of_getElem? (i := 1121) (by decide +kernel)
theorem wd_1122 : (Jvm.Cond.methodLink "BunchNotesLaw" (64 : Nat) ({ cls := "BunchNotesModel", name := "undo", desc := "()I" } : Jvm.MethodName)) ∈ lw_tbl := List.mem_of_getElem? (i := 1122) (by decide +kernel)
theorem wd_1123 : (Jvm.Cond.instanceMethod ({ cls := "BunchNotesModel", name := "undo", desc := "()I" } : Jvm.MethodName)) ∈ lw_tbl := List.mem_of_getElem? (i := 1123) (by decide +kernel)
theorem wd_1124 : (Jvm.Cond.selects "BunchNotesModel" ({ cls := "BunchNotesModel", name := "undo", desc := "()I" } : Jvm.MethodName) ({ cls := "BunchNotesModel", name := "undo", desc := "()I" } : Jvm.MethodName)) ∈ lw_tbl := List.mem_of_getElem? (i := 1124) (by decide +kernel)
theorem wd_1125 : (Jvm.Cond.code ({ cls := "BunchNotesModel", name := "undo", desc := "()I" } : Jvm.MethodName) prog_12_method_50_code (1 : Nat) (Option.some Jvm.ClassFile.FieldType.int)) ∈ lw_tbl := List.mem_of_getElem? (i := 1125) (by decide +kernel)
theorem wd_1126 : (Jvm.Cond.methodLink "BunchNotesLaw" (68 : Nat) ({ cls := "BunchNotesModel", name := "keep", desc := "(I)I" } : Jvm.MethodName)) ∈ lw_tbl := List.mem_of_getElem? (i := 1126) (by decide +kernel)
theorem wd_1127 : (Jvm.Cond.instanceMethod ({ cls := "BunchNotesModel", name := "keep", desc := "(I)I" } : Jvm.MethodName)) ∈ lw_tbl := List.mem_of_getElem? (i := 1127) (by decide +kernel)
theorem wd_1128 : (Jvm.Cond.selects "BunchNotesModel" ({ cls := "BunchNotesModel", name := "keep", desc := "(I)I" } : Jvm.MethodName) ({ cls := "BunchNotesModel", name := "keep", desc := "(I)I" } : Jvm.MethodName)) ∈ lw_tbl := List.mem_of_getElem? (i := 1128) (by decide +kernel)
theorem wd_1129 : (Jvm.Cond.code ({ cls := "BunchNotesModel", name := "keep", desc := "(I)I" } : Jvm.MethodName) prog_12_method_53_code (3 : Nat) (Option.some Jvm.ClassFile.FieldType.int)) ∈ lw_tbl := List.mem_of_getElem? (i := 1129) (by decide +kernel)
theorem wd_1130 : (Jvm.Cond.methodLink "BunchNotesModel" (193 : Nat) ({ cls := "BunchNotesModel", name := "written", desc := "()I" } : Jvm.MethodName)) ∈ lw_tbl := List.mem_of_getElem? (i := 1130) (by decide +kernel)
theorem wd_1131 : (Jvm.Cond.privateMethod ({ cls := "BunchNotesModel", name := "written", desc := "()I" } : Jvm.MethodName)) ∈ lw_tbl := List.mem_of_getElem? (i := 1131) (by decide +kernel)
theorem wd_1132 : (Jvm.Cond.instanceMethod ({ cls := "BunchNotesModel", name := "written", desc := "()I" } : Jvm.MethodName)) ∈ lw_tbl := List.mem_of_getElem? (i := 1132) (by decide +kernel)
theorem wd_1133 : (Jvm.Cond.code ({ cls := "BunchNotesModel", name := "written", desc := "()I" } : Jvm.MethodName) prog_12_method_52_code (3 : Nat) (Option.some Jvm.ClassFile.FieldType.int)) ∈ lw_tbl := List.mem_of_getElem? (i := 1133) (by decide +kernel)
theorem wd_1134 : (Jvm.Cond.methodLink "BunchNotesModel" (190 : Nat) ({ cls := "BunchNotesModel", name := "isWritten", desc := "(I)Z" } : Jvm.MethodName)) ∈ lw_tbl := List.mem_of_getElem? (i := 1134) (by decide +kernel)
theorem wd_1135 : (Jvm.Cond.privateMethod ({ cls := "BunchNotesModel", name := "isWritten", desc := "(I)Z" } : Jvm.MethodName)) ∈ lw_tbl := List.mem_of_getElem? (i := 1135) (by decide +kernel)
theorem wd_1136 : (Jvm.Cond.instanceMethod ({ cls := "BunchNotesModel", name := "isWritten", desc := "(I)Z" } : Jvm.MethodName)) ∈ lw_tbl := List.mem_of_getElem? (i := 1136) (by decide +kernel)
theorem wd_1137 : (Jvm.Cond.code ({ cls := "BunchNotesModel", name := "isWritten", desc := "(I)Z" } : Jvm.MethodName) prog_12_method_51_code (2 : Nat) (Option.some Jvm.ClassFile.FieldType.boolean)) ∈ lw_tbl := List.mem_of_getElem? (i := 1137) (by decide +kernel)
theorem wd_1138 : (Jvm.Cond.methodLink "BunchNotesLaw" (72 : Nat) ({ cls := "BunchNotesModel", name := "back", desc := "(I)I" } : Jvm.MethodName)) ∈ lw_tbl := List.mem_of_getElem? (i := 1138) (by decide +kernel)
theorem wd_1139 : (Jvm.Cond.instanceMethod ({ cls := "BunchNotesModel", name := "back", desc := "(I)I" } : Jvm.MethodName)) ∈ lw_tbl := List.mem_of_getElem? (i := 1139) (by decide +kernel)
theorem wd_1140 : (Jvm.Cond.selects "BunchNotesModel" ({ cls := "BunchNotesModel", name := "back", desc := "(I)I" } : Jvm.MethodName) ({ cls := "BunchNotesModel", name := "back", desc := "(I)I" } : Jvm.MethodName)) ∈ lw_tbl := List.mem_of_getElem? (i := 1140) (by decide +kernel)
theorem wd_1141 : (Jvm.Cond.code ({ cls := "BunchNotesModel", name := "back", desc := "(I)I" } : Jvm.MethodName) prog_12_method_54_code (3 : Nat) (Option.some Jvm.ClassFile.FieldType.int)) ∈ lw_tbl := List.mem_of_getElem? (i := 1141) (by decide +kernel)
theorem wd_1142 : (Jvm.Cond.methodLink "BunchNotesLaw" (100 : Nat) ({ cls := "BunchNotesModel", name := "note", desc := "(I)I" } : Jvm.MethodName)) ∈ lw_tbl := List.mem_of_getElem? (i := 1142) (by decide +kernel)
theorem wd_1143 : (Jvm.Cond.instanceMethod ({ cls := "BunchNotesModel", name := "note", desc := "(I)I" } : Jvm.MethodName)) ∈ lw_tbl := List.mem_of_getElem? (i := 1143) (by decide +kernel)
theorem wd_1144 : (Jvm.Cond.selects "BunchNotesModel" ({ cls := "BunchNotesModel", name := "note", desc := "(I)I" } : Jvm.MethodName) ({ cls := "BunchNotesModel", name := "note", desc := "(I)I" } : Jvm.MethodName)) ∈ lw_tbl := List.mem_of_getElem? (i := 1144) (by decide +kernel)
theorem wd_1145 : (Jvm.Cond.code ({ cls := "BunchNotesModel", name := "note", desc := "(I)I" } : Jvm.MethodName) prog_12_method_58_code (2 : Nat) (Option.some Jvm.ClassFile.FieldType.int)) ∈ lw_tbl := List.mem_of_getElem? (i := 1145) (by decide +kernel)
theorem wd_1146 : (Jvm.Cond.methodLink "BunchNotesModel" (202 : Nat) ({ cls := "BunchNotesModel", name := "writes", desc := "(I)V" } : Jvm.MethodName)) ∈ lw_tbl := List.mem_of_getElem? (i := 1146) (by decide +kernel)
theorem wd_1147 : (Jvm.Cond.privateMethod ({ cls := "BunchNotesModel", name := "writes", desc := "(I)V" } : Jvm.MethodName)) ∈ lw_tbl := List.mem_of_getElem? (i := 1147) (by decide +kernel)
theorem wd_1148 : (Jvm.Cond.instanceMethod ({ cls := "BunchNotesModel", name := "writes", desc := "(I)V" } : Jvm.MethodName)) ∈ lw_tbl := List.mem_of_getElem? (i := 1148) (by decide +kernel)
theorem wd_1149 : (Jvm.Cond.code ({ cls := "BunchNotesModel", name := "writes", desc := "(I)V" } : Jvm.MethodName) prog_12_method_57_code (3 : Nat) (Option.none : Option Jvm.ClassFile.FieldType)) ∈ lw_tbl := List.mem_of_getElem? (i := 1149) (by decide +kernel)
theorem wd_1150 : (Jvm.Cond.methodLink "BunchNotesModel" (199 : Nat) ({ cls := "BunchNotesModel", name := "freshens", desc := "(I)V" } : Jvm.MethodName)) ∈ lw_tbl := List.mem_of_getElem? (i := 1150) (by decide +kernel)
theorem wd_1151 : (Jvm.Cond.privateMethod ({ cls := "BunchNotesModel", name := "freshens", desc := "(I)V" } : Jvm.MethodName)) ∈ lw_tbl := List.mem_of_getElem? (i := 1151) (by decide +kernel)
theorem wd_1152 : (Jvm.Cond.instanceMethod ({ cls := "BunchNotesModel", name := "freshens", desc := "(I)V" } : Jvm.MethodName)) ∈ lw_tbl := List.mem_of_getElem? (i := 1152) (by decide +kernel)
theorem wd_1153 : (Jvm.Cond.code ({ cls := "BunchNotesModel", name := "freshens", desc := "(I)V" } : Jvm.MethodName) prog_12_method_55_code (4 : Nat) (Option.none : Option Jvm.ClassFile.FieldType)) ∈ lw_tbl := List.mem_of_getElem? (i := 1153) (by decide +kernel)
theorem wd_1154 : (Jvm.Cond.methodLink "BunchNotesModel" (196 : Nat) ({ cls := "BunchNotesModel", name := "has", desc := "(II)Z" } : Jvm.MethodName)) ∈ lw_tbl := List.mem_of_getElem? (i := 1154) (by decide +kernel)
theorem wd_1155 : (Jvm.Cond.static ({ cls := "BunchNotesModel", name := "has", desc := "(II)Z" } : Jvm.MethodName)) ∈ lw_tbl := List.mem_of_getElem? (i := 1155) (by decide +kernel)
theorem wd_1156 : (Jvm.Cond.code ({ cls := "BunchNotesModel", name := "has", desc := "(II)Z" } : Jvm.MethodName) prog_12_method_4_code (2 : Nat) (Option.some Jvm.ClassFile.FieldType.boolean)) ∈ lw_tbl := List.mem_of_getElem? (i := 1156) (by decide +kernel)
theorem wd_1157 : (Jvm.Cond.methodLink "BunchNotesModel" (205 : Nat) ({ cls := "BunchNotesModel", name := "ones", desc := "(I)I" } : Jvm.MethodName)) ∈ lw_tbl := List.mem_of_getElem? (i := 1157) (by decide +kernel)
theorem wd_1158 : (Jvm.Cond.static ({ cls := "BunchNotesModel", name := "ones", desc := "(I)I" } : Jvm.MethodName)) ∈ lw_tbl := List.mem_of_getElem? (i := 1158) (by decide +kernel)
theorem wd_1159 : (Jvm.Cond.code ({ cls := "BunchNotesModel", name := "ones", desc := "(I)I" } : Jvm.MethodName) prog_12_method_5_code (3 : Nat) (Option.some Jvm.ClassFile.FieldType.int)) ∈ lw_tbl := List.mem_of_getElem? (i := 1159) (by decide +kernel)
theorem wd_1160 : (Jvm.Cond.methodLink "BunchNotesLaw" (104 : Nat) ({ cls := "BunchNotesModel", name := "mend", desc := "()I" } : Jvm.MethodName)) ∈ lw_tbl := List.mem_of_getElem? (i := 1160) (by decide +kernel)
theorem wd_1161 : (Jvm.Cond.instanceMethod ({ cls := "BunchNotesModel", name := "mend", desc := "()I" } : Jvm.MethodName)) ∈ lw_tbl := List.mem_of_getElem? (i := 1161) (by decide +kernel)
theorem wd_1162 : (Jvm.Cond.selects "BunchNotesModel" ({ cls := "BunchNotesModel", name := "mend", desc := "()I" } : Jvm.MethodName) ({ cls := "BunchNotesModel", name := "mend", desc := "()I" } : Jvm.MethodName)) ∈ lw_tbl := List.mem_of_getElem? (i := 1162) (by decide +kernel)
theorem wd_1163 : (Jvm.Cond.code ({ cls := "BunchNotesModel", name := "mend", desc := "()I" } : Jvm.MethodName) prog_12_method_59_code (3 : Nat) (Option.some Jvm.ClassFile.FieldType.int)) ∈ lw_tbl := List.mem_of_getElem? (i := 1163) (by decide +kernel)
theorem wd_1164 : (Jvm.Cond.methodLink "BunchNotesModel" (208 : Nat) ({ cls := "BunchNotesModel", name := "isFresh", desc := "(I)Z" } : Jvm.MethodName)) ∈ lw_tbl := List.mem_of_getElem? (i := 1164) (by decide +kernel)
theorem wd_1165 : (Jvm.Cond.privateMethod ({ cls := "BunchNotesModel", name := "isFresh", desc := "(I)Z" } : Jvm.MethodName)) ∈ lw_tbl := List.mem_of_getElem? (i := 1165) (by decide +kernel)
theorem wd_1166 : (Jvm.Cond.instanceMethod ({ cls := "BunchNotesModel", name := "isFresh", desc := "(I)Z" } : Jvm.MethodName)) ∈ lw_tbl := List.mem_of_getElem? (i := 1166) (by decide +kernel)
theorem wd_1167 : (Jvm.Cond.code ({ cls := "BunchNotesModel", name := "isFresh", desc := "(I)Z" } : Jvm.MethodName) prog_12_method_56_code (4 : Nat) (Option.some Jvm.ClassFile.FieldType.boolean)) ∈ lw_tbl := List.mem_of_getElem? (i := 1167) (by decide +kernel)
theorem wd_1168 : (Jvm.Cond.methodLink "BunchNotesLaw" (108 : Nat) ({ cls := "BunchNotesModel", name := "tear", desc := "(I)I" } : Jvm.MethodName)) ∈ lw_tbl := List.mem_of_getElem? (i := 1168) (by decide +kernel)
theorem wd_1169 : (Jvm.Cond.instanceMethod ({ cls := "BunchNotesModel", name := "tear", desc := "(I)I" } : Jvm.MethodName)) ∈ lw_tbl := List.mem_of_getElem? (i := 1169) (by decide +kernel)
theorem wd_1170 : (Jvm.Cond.selects "BunchNotesModel" ({ cls := "BunchNotesModel", name := "tear", desc := "(I)I" } : Jvm.MethodName) ({ cls := "BunchNotesModel", name := "tear", desc := "(I)I" } : Jvm.MethodName)) ∈ lw_tbl := List.mem_of_getElem? (i := 1170) (by decide +kernel)
theorem wd_1171 : (Jvm.Cond.code ({ cls := "BunchNotesModel", name := "tear", desc := "(I)I" } : Jvm.MethodName) prog_12_method_60_code (4 : Nat) (Option.some Jvm.ClassFile.FieldType.int)) ∈ lw_tbl := List.mem_of_getElem? (i := 1171) (by decide +kernel)
theorem wd_1172 : (Jvm.Cond.methodLink "BunchNotesLaw" (112 : Nat) ({ cls := "BunchNotesModel", name := "noted", desc := "(II)I" } : Jvm.MethodName)) ∈ lw_tbl := List.mem_of_getElem? (i := 1172) (by decide +kernel)
theorem wd_1173 : (Jvm.Cond.instanceMethod ({ cls := "BunchNotesModel", name := "noted", desc := "(II)I" } : Jvm.MethodName)) ∈ lw_tbl := List.mem_of_getElem? (i := 1173) (by decide +kernel)
theorem wd_1174 : (Jvm.Cond.selects "BunchNotesModel" ({ cls := "BunchNotesModel", name := "noted", desc := "(II)I" } : Jvm.MethodName) ({ cls := "BunchNotesModel", name := "noted", desc := "(II)I" } : Jvm.MethodName)) ∈ lw_tbl := List.mem_of_getElem? (i := 1174) (by decide +kernel)
theorem wd_1175 : (Jvm.Cond.code ({ cls := "BunchNotesModel", name := "noted", desc := "(II)I" } : Jvm.MethodName) prog_12_method_61_code (3 : Nat) (Option.some Jvm.ClassFile.FieldType.int)) ∈ lw_tbl := List.mem_of_getElem? (i := 1175) (by decide +kernel)
theorem wd_1176 : (Jvm.Cond.constantLong "BunchNotesModel" (211 : Nat) (7 : Int64)) ∈ lw_tbl := List.mem_of_getElem? (i := 1176) (by decide +kernel)
theorem wd_1177 : (Jvm.Cond.methodLink "BunchNotesLaw" (116 : Nat) ({ cls := "BunchNotesModel", name := "notedFar", desc := "(II)I" } : Jvm.MethodName)) ∈ lw_tbl := List.mem_of_getElem? (i := 1177) (by decide +kernel)
theorem wd_1178 : (Jvm.Cond.instanceMethod ({ cls := "BunchNotesModel", name := "notedFar", desc := "(II)I" } : Jvm.MethodName)) ∈ lw_tbl := List.mem_of_getElem? (i := 1178) (by decide +kernel)
theorem wd_1179 : (Jvm.Cond.selects "BunchNotesModel" ({ cls := "BunchNotesModel", name := "notedFar", desc := "(II)I" } : Jvm.MethodName) ({ cls := "BunchNotesModel", name := "notedFar", desc := "(II)I" } : Jvm.MethodName)) ∈ lw_tbl := List.mem_of_getElem? (i := 1179) (by decide +kernel)
theorem wd_1180 : (Jvm.Cond.code ({ cls := "BunchNotesModel", name := "notedFar", desc := "(II)I" } : Jvm.MethodName) prog_12_method_62_code (3 : Nat) (Option.some Jvm.ClassFile.FieldType.int)) ∈ lw_tbl := List.mem_of_getElem? (i := 1180) (by decide +kernel)
theorem wd_1181 : (Jvm.Cond.methodLink "BunchNotesLaw" (120 : Nat) ({ cls := "BunchNotesModel", name := "told", desc := "(III)I" } : Jvm.MethodName)) ∈ lw_tbl := List.mem_of_getElem? (i := 1181) (by decide +kernel)
theorem wd_1182 : (Jvm.Cond.instanceMethod ({ cls := "BunchNotesModel", name := "told", desc := "(III)I" } : Jvm.MethodName)) ∈ lw_tbl := List.mem_of_getElem? (i := 1182) (by decide +kernel)
theorem wd_1183 : (Jvm.Cond.selects "BunchNotesModel" ({ cls := "BunchNotesModel", name := "told", desc := "(III)I" } : Jvm.MethodName) ({ cls := "BunchNotesModel", name := "told", desc := "(III)I" } : Jvm.MethodName)) ∈ lw_tbl := List.mem_of_getElem? (i := 1183) (by decide +kernel)
theorem wd_1184 : (Jvm.Cond.code ({ cls := "BunchNotesModel", name := "told", desc := "(III)I" } : Jvm.MethodName) prog_12_method_65_code (5 : Nat) (Option.some Jvm.ClassFile.FieldType.int)) ∈ lw_tbl := List.mem_of_getElem? (i := 1184) (by decide +kernel)
theorem wd_1185 : (Jvm.Cond.methodLink "BunchNotesModel" (231 : Nat) ({ cls := "BunchNotesModel", name := "tells", desc := "(II)Z" } : Jvm.MethodName)) ∈ lw_tbl := List.mem_of_getElem? (i := 1185) (by decide +kernel)
theorem wd_1186 : (Jvm.Cond.privateMethod ({ cls := "BunchNotesModel", name := "tells", desc := "(II)Z" } : Jvm.MethodName)) ∈ lw_tbl := List.mem_of_getElem? (i := 1186) (by decide +kernel)
theorem wd_1187 : (Jvm.Cond.instanceMethod ({ cls := "BunchNotesModel", name := "tells", desc := "(II)Z" } : Jvm.MethodName)) ∈ lw_tbl := List.mem_of_getElem? (i := 1187) (by decide +kernel)
theorem wd_1188 : (Jvm.Cond.code ({ cls := "BunchNotesModel", name := "tells", desc := "(II)Z" } : Jvm.MethodName) prog_12_method_64_code (8 : Nat) (Option.some Jvm.ClassFile.FieldType.boolean)) ∈ lw_tbl := List.mem_of_getElem? (i := 1188) (by decide +kernel)
theorem wd_1189 : (Jvm.Cond.methodLink "BunchNotesModel" (228 : Nat) ({ cls := "BunchNotesModel", name := "untold", desc := "(II)Z" } : Jvm.MethodName)) ∈ lw_tbl := List.mem_of_getElem? (i := 1189) (by decide +kernel)
theorem wd_1190 : (Jvm.Cond.privateMethod ({ cls := "BunchNotesModel", name := "untold", desc := "(II)Z" } : Jvm.MethodName)) ∈ lw_tbl := List.mem_of_getElem? (i := 1190) (by decide +kernel)
theorem wd_1191 : (Jvm.Cond.instanceMethod ({ cls := "BunchNotesModel", name := "untold", desc := "(II)Z" } : Jvm.MethodName)) ∈ lw_tbl := List.mem_of_getElem? (i := 1191) (by decide +kernel)
theorem wd_1192 : (Jvm.Cond.code ({ cls := "BunchNotesModel", name := "untold", desc := "(II)Z" } : Jvm.MethodName) prog_12_method_63_code (3 : Nat) (Option.some Jvm.ClassFile.FieldType.boolean)) ∈ lw_tbl := List.mem_of_getElem? (i := 1192) (by decide +kernel)
theorem wd_1193 : (Jvm.Cond.methodLink "BunchNotesLaw" (124 : Nat) ({ cls := "BunchNotesModel", name := "why", desc := "(III)I" } : Jvm.MethodName)) ∈ lw_tbl := List.mem_of_getElem? (i := 1193) (by decide +kernel)
theorem wd_1194 : (Jvm.Cond.instanceMethod ({ cls := "BunchNotesModel", name := "why", desc := "(III)I" } : Jvm.MethodName)) ∈ lw_tbl := List.mem_of_getElem? (i := 1194) (by decide +kernel)
theorem wd_1195 : (Jvm.Cond.selects "BunchNotesModel" ({ cls := "BunchNotesModel", name := "why", desc := "(III)I" } : Jvm.MethodName) ({ cls := "BunchNotesModel", name := "why", desc := "(III)I" } : Jvm.MethodName)) ∈ lw_tbl := List.mem_of_getElem? (i := 1195) (by decide +kernel)
theorem wd_1196 : (Jvm.Cond.code ({ cls := "BunchNotesModel", name := "why", desc := "(III)I" } : Jvm.MethodName) prog_12_method_66_code (5 : Nat) (Option.some Jvm.ClassFile.FieldType.int)) ∈ lw_tbl := List.mem_of_getElem? (i := 1196) (by decide +kernel)
theorem wd_1197 : (Jvm.Cond.methodLink "BunchNotesLaw" (128 : Nat) ({ cls := "BunchNotesModel", name := "route", desc := "(III)I" } : Jvm.MethodName)) ∈ lw_tbl := List.mem_of_getElem? (i := 1197) (by decide +kernel)
theorem wd_1198 : (Jvm.Cond.instanceMethod ({ cls := "BunchNotesModel", name := "route", desc := "(III)I" } : Jvm.MethodName)) ∈ lw_tbl := List.mem_of_getElem? (i := 1198) (by decide +kernel)
theorem wd_1199 : (Jvm.Cond.selects "BunchNotesModel" ({ cls := "BunchNotesModel", name := "route", desc := "(III)I" } : Jvm.MethodName) ({ cls := "BunchNotesModel", name := "route", desc := "(III)I" } : Jvm.MethodName)) ∈ lw_tbl := List.mem_of_getElem? (i := 1199) (by decide +kernel)
theorem wd_1200 : (Jvm.Cond.code ({ cls := "BunchNotesModel", name := "route", desc := "(III)I" } : Jvm.MethodName) prog_12_method_67_code (7 : Nat) (Option.some Jvm.ClassFile.FieldType.int)) ∈ lw_tbl := List.mem_of_getElem? (i := 1200) (by decide +kernel)
theorem wd_1201 : (Jvm.Cond.methodLink "BunchNotesLaw" (132 : Nat) ({ cls := "BunchNotesModel", name := "pairs", desc := "(I)I" } : Jvm.MethodName)) ∈ lw_tbl := List.mem_of_getElem? (i := 1201) (by decide +kernel)
theorem wd_1202 : (Jvm.Cond.instanceMethod ({ cls := "BunchNotesModel", name := "pairs", desc := "(I)I" } : Jvm.MethodName)) ∈ lw_tbl := List.mem_of_getElem? (i := 1202) (by decide +kernel)
theorem wd_1203 : (Jvm.Cond.selects "BunchNotesModel" ({ cls := "BunchNotesModel", name := "pairs", desc := "(I)I" } : Jvm.MethodName) ({ cls := "BunchNotesModel", name := "pairs", desc := "(I)I" } : Jvm.MethodName)) ∈ lw_tbl := List.mem_of_getElem? (i := 1203) (by decide +kernel)
theorem wd_1204 : (Jvm.Cond.code ({ cls := "BunchNotesModel", name := "pairs", desc := "(I)I" } : Jvm.MethodName) prog_12_method_68_code (11 : Nat) (Option.some Jvm.ClassFile.FieldType.int)) ∈ lw_tbl := List.mem_of_getElem? (i := 1204) (by decide +kernel)
theorem wd_1205 : (Jvm.Cond.constantLong "BunchNotesModel" (234 : Nat) (3 : Int64)) ∈ lw_tbl := List.mem_of_getElem? (i := 1205) (by decide +kernel)
theorem wd_1206 : (Jvm.Cond.methodLink "BunchNotesLaw" (136 : Nat) ({ cls := "BunchNotesModel", name := "count", desc := "(I)I" } : Jvm.MethodName)) ∈ lw_tbl := List.mem_of_getElem? (i := 1206) (by decide +kernel)
theorem wd_1207 : (Jvm.Cond.instanceMethod ({ cls := "BunchNotesModel", name := "count", desc := "(I)I" } : Jvm.MethodName)) ∈ lw_tbl := List.mem_of_getElem? (i := 1207) (by decide +kernel)
theorem wd_1208 : (Jvm.Cond.selects "BunchNotesModel" ({ cls := "BunchNotesModel", name := "count", desc := "(I)I" } : Jvm.MethodName) ({ cls := "BunchNotesModel", name := "count", desc := "(I)I" } : Jvm.MethodName)) ∈ lw_tbl := List.mem_of_getElem? (i := 1208) (by decide +kernel)
theorem wd_1209 : (Jvm.Cond.code ({ cls := "BunchNotesModel", name := "count", desc := "(I)I" } : Jvm.MethodName) prog_12_method_73_code (2 : Nat) (Option.some Jvm.ClassFile.FieldType.int)) ∈ lw_tbl := List.mem_of_getElem? (i := 1209) (by decide +kernel)
theorem wd_1210 : (Jvm.Cond.methodLink "BunchNotesModel" (236 : Nat) ({ cls := "BunchNotesModel", name := "parts", desc := "()I" } : Jvm.MethodName)) ∈ lw_tbl := List.mem_of_getElem? (i := 1210) (by decide +kernel)
theorem wd_1211 : (Jvm.Cond.privateMethod ({ cls := "BunchNotesModel", name := "parts", desc := "()I" } : Jvm.MethodName)) ∈ lw_tbl := List.mem_of_getElem? (i := 1211) (by decide +kernel)
theorem wd_1212 : (Jvm.Cond.instanceMethod ({ cls := "BunchNotesModel", name := "parts", desc := "()I" } : Jvm.MethodName)) ∈ lw_tbl := List.mem_of_getElem? (i := 1212) (by decide +kernel)
theorem wd_1213 : (Jvm.Cond.code ({ cls := "BunchNotesModel", name := "parts", desc := "()I" } : Jvm.MethodName) prog_12_method_69_code (5 : Nat) (Option.some Jvm.ClassFile.FieldType.int)) ∈ lw_tbl := List.mem_of_getElem? (i := 1213) (by decide +kernel)
theorem wd_1214 : (Jvm.Cond.methodLink "BunchNotesModel" (239 : Nat) ({ cls := "BunchNotesModel", name := "freshNotes", desc := "()I" } : Jvm.MethodName)) ∈ lw_tbl := List.mem_of_getElem? (i := 1214) (by decide +kernel)
theorem wd_1215 : (Jvm.Cond.privateMethod ({ cls := "BunchNotesModel", name := "freshNotes", desc := "()I" } : Jvm.MethodName)) ∈ lw_tbl := List.mem_of_getElem? (i := 1215) (by decide +kernel)
theorem wd_1216 : (Jvm.Cond.instanceMethod ({ cls := "BunchNotesModel", name := "freshNotes", desc := "()I" } : Jvm.MethodName)) ∈ lw_tbl := List.mem_of_getElem? (i := 1216) (by decide +kernel)
theorem wd_1217 : (Jvm.Cond.code ({ cls := "BunchNotesModel", name := "freshNotes", desc := "()I" } : Jvm.MethodName) prog_12_method_70_code (3 : Nat) (Option.some Jvm.ClassFile.FieldType.int)) ∈ lw_tbl := List.mem_of_getElem? (i := 1217) (by decide +kernel)
theorem wd_1218 : (Jvm.Cond.methodLink "BunchNotesModel" (242 : Nat) ({ cls := "BunchNotesModel", name := "inBunches", desc := "()I" } : Jvm.MethodName)) ∈ lw_tbl := List.mem_of_getElem? (i := 1218) (by decide +kernel)
theorem wd_1219 : (Jvm.Cond.privateMethod ({ cls := "BunchNotesModel", name := "inBunches", desc := "()I" } : Jvm.MethodName)) ∈ lw_tbl := List.mem_of_getElem? (i := 1219) (by decide +kernel)
theorem wd_1220 : (Jvm.Cond.instanceMethod ({ cls := "BunchNotesModel", name := "inBunches", desc := "()I" } : Jvm.MethodName)) ∈ lw_tbl := List.mem_of_getElem? (i := 1220) (by decide +kernel)
theorem wd_1221 : (Jvm.Cond.code ({ cls := "BunchNotesModel", name := "inBunches", desc := "()I" } : Jvm.MethodName) prog_12_method_71_code (3 : Nat) (Option.some Jvm.ClassFile.FieldType.int)) ∈ lw_tbl := List.mem_of_getElem? (i := 1221) (by decide +kernel)
theorem wd_1222 : (Jvm.Cond.methodLink "BunchNotesModel" (245 : Nat) ({ cls := "BunchNotesModel", name := "ofLevel", desc := "(I)I" } : Jvm.MethodName)) ∈ lw_tbl := List.mem_of_getElem? (i := 1222) (by decide +kernel)
theorem wd_1223 : (Jvm.Cond.privateMethod ({ cls := "BunchNotesModel", name := "ofLevel", desc := "(I)I" } : Jvm.MethodName)) ∈ lw_tbl := List.mem_of_getElem? (i := 1223) (by decide +kernel)
theorem wd_1224 : (Jvm.Cond.instanceMethod ({ cls := "BunchNotesModel", name := "ofLevel", desc := "(I)I" } : Jvm.MethodName)) ∈ lw_tbl := List.mem_of_getElem? (i := 1224) (by decide +kernel)
theorem wd_1225 : (Jvm.Cond.code ({ cls := "BunchNotesModel", name := "ofLevel", desc := "(I)I" } : Jvm.MethodName) prog_12_method_72_code (4 : Nat) (Option.some Jvm.ClassFile.FieldType.int)) ∈ lw_tbl := List.mem_of_getElem? (i := 1225) (by decide +kernel)
theorem wd_1226 : (Jvm.Cond.fieldLink "java/lang/String" (9 : Nat) "java/lang/String" "value" "[B") ∈ lw_tbl := List.mem_of_getElem? (i := 1226) (by decide +kernel)
theorem wd_1227 : (Jvm.Cond.fieldLink "java/lang/String" (15 : Nat) "java/lang/String" "coder" "B") ∈ lw_tbl := List.mem_of_getElem? (i := 1227) (by decide +kernel)
theorem gtbl_good : ∀ w ∈ lw_tbl, goodWord w = true := by
  have h : lw_tbl.all goodWord = true := by decide +kernel
  exact fun w hw => List.all_eq_true.mp h w hw
theorem gin_0 : ∀ w ∈ u_ws RX0 TX0 3, w ∈ lw_tbl := by decide +kernel
theorem gin_1 : ∀ w ∈ u_ws RX1 TX1 6, w ∈ lw_tbl := by decide +kernel
theorem gin_2 : ∀ w ∈ u_ws RX2 TX2 5, w ∈ lw_tbl := by decide +kernel
theorem gin_3 : ∀ w ∈ u_ws RX3 TX3 3, w ∈ lw_tbl := by decide +kernel
theorem gin_4 : ∀ w ∈ u_ws RX4 TX4 5, w ∈ lw_tbl := by decide +kernel
theorem gin_5 : ∀ w ∈ u_ws RX5 TX5 3, w ∈ lw_tbl := by decide +kernel
theorem gin_6 : ∀ w ∈ u_ws RX6 TX6 5, w ∈ lw_tbl := by decide +kernel
theorem gin_7 : ∀ w ∈ u_ws RX7 TX7 7, w ∈ lw_tbl := by decide +kernel
theorem gin_8 : ∀ w ∈ u_ws RX8 TX8 7, w ∈ lw_tbl := by decide +kernel
theorem gin_9 : ∀ w ∈ u_ws RX9 TX9 11, w ∈ lw_tbl := by decide +kernel
theorem gin_10 : ∀ w ∈ u_ws RX10 TX10 25, w ∈ lw_tbl := by decide +kernel
end
section
/-! THE SMALL MACHINE: a method's run told by pure words: numbers are Int, cells are numbered, memory is a function. -/
-- numbers
def gR (z : Int) : Prop := -2147483648 ≤ z ∧ z < 2147483648
def g32 (z : Int) : Int32 := Int32.ofInt z
theorem g32_toInt {z : Int} (h : gR z) : (g32 z).toInt = z := Int32.toInt_ofInt_of_le (by have := h.1; omega) (by have := h.2; omega)
theorem gR_toInt (x : Int32) : gR x.toInt := ⟨by have := x.le_toInt; omega, by have := x.toInt_lt; omega⟩
theorem g32_of (x : Int32) : g32 x.toInt = x := Int32.ofInt_toInt x
theorem g32_inj {a b : Int} (ha : gR a) (hb : gR b) : g32 a = g32 b ↔ a = b := ⟨fun h => by rw [← g32_toInt ha, ← g32_toInt hb, h], fun h => by rw [h]⟩
theorem g32_lt {a b : Int} (ha : gR a) (hb : gR b) : g32 a < g32 b ↔ a < b := by rw [Int32.lt_iff_toInt_lt, g32_toInt ha, g32_toInt hb]
theorem g32_le {a b : Int} (ha : gR a) (hb : gR b) : g32 a ≤ g32 b ↔ a ≤ b := by rw [Int32.le_iff_toInt_le, g32_toInt ha, g32_toInt hb]
theorem gR_0 : gR 0 := ⟨by decide, by decide⟩
theorem g32_nat {a : Int} (ha : gR a) : (g32 a).toNatClampNeg = a.toNat := by
  show (g32 a).toInt.toNat = a.toNat
  rw [g32_toInt ha]
theorem g32_in {i : Int} {n : Nat} (h0 : 0 ≤ i) (h1 : i < n) (hi : gR i) : vp_in (g32 i) n := vp_in_iff.mpr (by rw [g32_toInt hi]; exact ⟨h0, h1⟩)
-- memory: cell, place, number
abbrev gMem : Type := Int → Int → Int
def gup (M : gMem) (c k v : Int) : gMem := fun c' k' => if c' = c then (if k' = k then v else M c' k') else M c' k'
theorem gup_s (M : gMem) (c k v : Int) : gup M c k v c k = v := by simp [gup]
theorem gup_k (M : gMem) {c k v k' : Int} (h : k' ≠ k) : gup M c k v c k' = M c k' := by simp [gup, h]
theorem gup_c (M : gMem) {c k v c' : Int} (h : c' ≠ c) : gup M c k v c' = M c' := by funext k'; simp [gup, h]
def gOM (M : gMem) : Prop := ∀ c k : Int, gR (M c k)
theorem gOM_up {M : gMem} (h : gOM M) {c k v : Int} (hv : gR v) : gOM (gup M c k v) := by
  intro c' k'
  unfold gup
  split
  · split
    · exact hv
    · exact h _ _
  · exact h _ _
-- a value: 0 a number, 1 a cell, 2 a long, 3 an address as it stands
abbrev gSV : Type := Nat × Int
abbrev gI (z : Int) : gSV := (0, z)
abbrev gF (z : Int) : gSV := (1, z)
abbrev gJ (z : Int) : gSV := (2, z)
abbrev gB (z : Int) : gSV := (3, z)
def gOK (q : gSV) : Prop := match q.1 with
  | 0 => gR q.2
  | 2 => -9223372036854775808 ≤ q.2 ∧ q.2 < 9223372036854775808
  | _ => True
-- a world: class numbers and places of fields, classes of arrays, addresses of cells, which addresses may change
abbrev gW : Type := va_G × (Nat → ClassId) × (Int → Nat) × (Nat → Prop)
def grv (V : gW) (q : gSV) : Value := match q.1 with
  | 0 => .int (g32 q.2)
  | 1 => .ref (V.2.2.1 q.2)
  | 2 => .long (Int64.ofInt q.2)
  | _ => .ref q.2.toNat
def gcat (st : List gSV) : Nat := (st.map (fun q => if q.1 = 2 then 2 else 1)).sum
theorem grv_cat (V : gW) (q : gSV) : (grv V q).category = if q.1 = 2 then 2 else 1 := by
  obtain ⟨t, z⟩ := q
  match t with
  | 0 => rfl
  | 1 => rfl
  | 2 => rfl
  | t + 3 => rfl
theorem gcat_eq (V : gW) (st : List gSV) : ((st.map (grv V)).map fun v => v.category).sum = gcat st := by
  unfold gcat
  rw [List.map_map]
  exact congrArg List.sum (List.map_congr_left fun q _ => grv_cat V q)
-- what a cell of a type holds (a class by its number; 1xxxx: ints, 2xxxx: booleans, 3xxxx on: references)
def gcV (cA : Nat → ClassId) (t : Nat) (f : Nat → Int32) (r : Nat → Option Nat) : va_E := match t with
  | 0 => .inr (0, [.int (f 0), .int (f 1), va_rf (r 2)])
  | 1 => .inr (1, [.int (f 0), .int (f 1), .int (f 2), .int (f 3), va_rf (r 4), va_rf (r 5)])
  | 2 => .inr (2, [.int (f 0), .int (f 1), va_rf (r 2), va_rf (r 3), va_rf (r 4)])
  | 3 => .inr (3, [.int (f 0), .int (f 1), va_rf (r 2)])
  | 4 => .inr (4, [.int (f 0), .int (f 1), .int (f 2), .int (f 3), .int (f 4)])
  | 5 => .inr (5, [.int (f 0), va_rf (r 1), va_rf (r 2)])
  | 6 => .inr (6, [.int (f 0), .int (f 1), .int (f 2), .int (f 3), .int (f 4)])
  | 7 => .inr (7, [.int (f 0), .int (f 1), .int (f 2), .int (f 3), .int (f 4), .int (f 5), va_rf (r 6)])
  | 8 => .inr (8, [.int (f 0), va_rf (r 1), .int (f 2), .int (f 3), .int (f 4), va_rf (r 5), va_rf (r 6)])
  | 9 => .inr (9, [va_rf (r 0), va_rf (r 1), va_rf (r 2), va_rf (r 3), va_rf (r 4), va_rf (r 5), va_rf (r 6), va_rf (r 7), va_rf (r 8), va_rf (r 9), va_rf (r 10)])
  | 10 => .inr (10, [va_rf (r 0), .int (f 1), .int (f 2), va_rf (r 3), va_rf (r 4), va_rf (r 5), .int (f 6), .int (f 7), .int (f 8), .int (f 9), va_rf (r 10), .int (f 11), .int (f 12), .int (f 13), va_rf (r 14), va_rf (r 15), va_rf (r 16), va_rf (r 17), va_rf (r 18), va_rf (r 19), .int (f 20), .int (f 21), .int (f 22), .int (f 23), .int (f 24)])
  | t => if t < 20000 then .inl (cA 1, t - 10000, .inl f) else if t < 30000 then .inl (cA 2, t - 20000, .inl f) else .inl (cA (t / 10000), t % 10000, .inr (.inr (.inr (.inr r))))
def goff (t k : Nat) : Int := match t, k with
  | 0, 2 => 1
  | 1, 4 => 1
  | 1, 5 => 2
  | 2, 2 => 1
  | 2, 3 => 2
  | 2, 4 => 3
  | 3, 2 => 1
  | 5, 1 => 1
  | 5, 2 => 4
  | 7, 6 => 1
  | 8, 1 => 1
  | 8, 5 => 15
  | 8, 6 => 16
  | 9, 0 => 1
  | 9, 1 => 4
  | 9, 2 => 7
  | 9, 3 => 9
  | 9, 4 => 35
  | 9, 5 => 84
  | 9, 6 => 88
  | 9, 7 => 195
  | 9, 8 => 209
  | 9, 9 => 226
  | 9, 10 => 227
  | 10, 0 => 1
  | 10, 3 => 2
  | 10, 4 => 3
  | 10, 5 => 4
  | 10, 10 => 5
  | 10, 14 => 6
  | 10, 15 => 7
  | 10, 16 => 8
  | 10, 17 => 9
  | 10, 18 => 10
  | 10, 19 => 11
  | _, _ => 0
def gst (t : Nat) : Int := match t with
  | 60012 => 1
  | 40008 => 3
  | 30012 => 4
  | 50002 => 53
  | _ => 0
def gsh : List Nat := [9, 1, 10144, 10012, 1, 10144, 10012, 7, 10200, 3, 40008, 1, 10144, 10012, 1, 10144, 10012, 1, 10144, 10012, 1, 10144, 10012, 1, 10144, 10012, 1, 10144, 10012, 1, 10144, 10012, 1, 10144, 10012, 30012, 2, 10003, 10003, 10012, 2, 10003, 10003, 10012, 2, 10003, 10003, 10012, 2, 10003, 10003, 10012, 2, 10003, 10003, 10012, 2, 10003, 10003, 10012, 2, 10003, 10003, 10012, 2, 10003, 10003, 10012, 2, 10003, 10003, 10012, 2, 10003, 10003, 10012, 2, 10003, 10003, 10012, 2, 10003, 10003, 10012, 2, 10003, 10003, 10012, 50002, 5, 1, 10144, 10012, 30012, 2, 10003, 10003, 10012, 2, 10003, 10003, 10012, 2, 10003, 10003, 10012, 2, 10003, 10003, 10012, 2, 10003, 10003, 10012, 2, 10003, 10003, 10012, 2, 10003, 10003, 10012, 2, 10003, 10003, 10012, 2, 10003, 10003, 10012, 2, 10003, 10003, 10012, 2, 10003, 10003, 10012, 2, 10003, 10003, 10012, 5, 1, 10144, 10012, 30012, 2, 10003, 10003, 10012, 2, 10003, 10003, 10012, 2, 10003, 10003, 10012, 2, 10003, 10003, 10012, 2, 10003, 10003, 10012, 2, 10003, 10003, 10012, 2, 10003, 10003, 10012, 2, 10003, 10003, 10012, 2, 10003, 10003, 10012, 2, 10003, 10003, 10012, 2, 10003, 10003, 10012, 2, 10003, 10003, 10012, 0, 60012, 10012, 10012, 10012, 10012, 10012, 10012, 10012, 10012, 10012, 10012, 10012, 10012, 8, 0, 60012, 10012, 10012, 10012, 10012, 10012, 10012, 10012, 10012, 10012, 10012, 10012, 10012, 10030, 10012, 6, 4, 10, 11727, 10720, 20002, 10200, 20144, 10003, 10015, 10144, 20144, 10144, 10020]
def gtys (V : gW) : List (ClassId × FieldType) := [(V.2.1 1, .int), (V.2.1 2, .boolean), (V.2.1 3, .object "BunchNotes$Note"), (V.2.1 4, .object "BunchNotes$Net"), (V.2.1 5, .object "BunchNotes$Slot"), (V.2.1 6, .array .int)]
-- the cells of the world: all made, their references fixed by the numbering
def grB (ad : Int → Nat) (t : Nat) (c : Int) (k : Nat) : Option Nat := if t < 11 then some (ad (c + goff t k)) else some (ad (c + 1 + gst t * (k : Int)))
def gcell (V : gW) (M : gMem) (n : Nat) : Nat × va_E := (V.2.2.1 (n : Int), gcV V.2.1 (gsh.getD n 0) (fun k => g32 (M (n : Int) (k : Int))) (grB V.2.2.1 (gsh.getD n 0) (n : Int)))
def gws (V : gW) (M : gMem) : va_W := (List.range 240).map (gcell V M)
def gT (c : Int) (t : Nat) : Prop := 0 ≤ c ∧ c < 240 ∧ gsh.getD c.toNat 0 = t
theorem gws_at {V : gW} {M : gMem} {c : Int} {t : Nat} (h : gT c t) : (gws V M)[c.toNat]? = some (V.2.2.1 c, gcV V.2.1 t (fun k => g32 (M c (k : Int))) (grB V.2.2.1 t c)) := by
  obtain ⟨h0, h1, h2⟩ := h
  have e : ((c.toNat : Nat) : Int) = c := by omega
  unfold gws
  rw [List.getElem?_map, List.getElem?_range (by omega), Option.map_some]
  unfold gcell
  rw [e, h2]
theorem gws_set {V : gW} {M M' : gMem} {c : Int} {t : Nat} {x : va_E} (h : gT c t) (hx : x = gcV V.2.1 t (fun k => g32 (M' c (k : Int))) (grB V.2.2.1 t c)) (ho : ∀ c', c' ≠ c → M' c' = M c') : (gws V M).set c.toNat (V.2.2.1 c, x) = gws V M' := by
  obtain ⟨h0, h1, h2⟩ := h
  have e : ((c.toNat : Nat) : Int) = c := by omega
  apply List.ext_getElem?
  intro i
  rw [List.getElem?_set]
  by_cases hi : c.toNat = i
  · subst hi
    unfold gws
    rw [if_pos rfl, List.length_map, List.length_range, if_pos (by omega), List.getElem?_map, List.getElem?_range (by omega), Option.map_some]
    unfold gcell
    rw [e, h2, hx]
  · rw [if_neg hi]
    unfold gws
    rw [List.getElem?_map, List.getElem?_map]
    by_cases hl : i < 240
    · rw [List.getElem?_range hl, Option.map_some, Option.map_some]
      unfold gcell
      rw [ho (i : Int) (by omega)]
    · rw [List.getElem?_eq_none (by rw [List.length_range]; omega)]
      rfl
-- where a run stands: program, launch, env, room, start, method, arguments, below, method, code, end, cells, slots
abbrev gX : Type := Program × Launch × Env × Room × State × MethodId × Array Value × List Frame × Method × Code × (State → Prop) × Nat × Nat
abbrev gxp (X : gX) : Program := X.1
abbrev gxl (X : gX) : Launch := X.2.1
abbrev gxe (X : gX) : Env := X.2.2.1
abbrev gxR (X : gX) : Room := X.2.2.2.1
abbrev gxs (X : gX) : State := X.2.2.2.2.1
abbrev gxm (X : gX) : MethodId := X.2.2.2.2.2.1
abbrev gxa (X : gX) : Array Value := X.2.2.2.2.2.2.1
abbrev gxb (X : gX) : List Frame := X.2.2.2.2.2.2.2.1
abbrev gxt (X : gX) : Method := X.2.2.2.2.2.2.2.2.1
abbrev gxc (X : gX) : Code := X.2.2.2.2.2.2.2.2.2.1
abbrev gxQ (X : gX) : State → Prop := X.2.2.2.2.2.2.2.2.2.2.1
abbrev gxk (X : gX) : Nat := X.2.2.2.2.2.2.2.2.2.2.2.1
abbrev gxn (X : gX) : Nat := X.2.2.2.2.2.2.2.2.2.2.2.2
/-- the run as the machine has it -/
abbrev gWW (X : gX) (H : Heap) (locs : List Loc) (g : JFrame) : Prop := W (gxp X) (gxl X) (gxe X) (gxR X) (gxs X) (gxm X) (gxa X) (gxb X) (gxt X) (gxc X) H locs (gxk X) (gxn X) (gxQ X) g
/-- from here (place, locals, stack, memory) the run comes to its end -/
def gG (X : gX) (V : gW) (nL pc : Nat) (L : List (Nat × gSV)) (st : List gSV) (M : gMem) : Prop :=
  (∀ q ∈ L, gOK q.2) → (∀ q ∈ st, gOK q) → gOM M → ∀ (ls : Array Slot) (H : Heap) (locs : List Loc), lv_has ls nL (L.map (fun q => (q.1, grv V q.2))) → va_P V.1 vwCl (gws V M) H → va_S V.2.2.2 (gxs X).heap H locs →
    gWW X H locs (F0 (gxm X) pc ls (st.map (grv V)))
/-- what a run knows of its method -/
def gC (X : gX) (V : gW) (l : Launch) (cc : ByteArray) (nL : Nat) (own : String) (fr lo : Nat) : Prop :=
  (gxp X).tables.exec = Jvm.exec ∧ (gxc X).code = cc ∧ (gxc X).maxLocals = nL ∧ (gxs X).vm.findClass own = some (gxm X).cls ∧ (∀ w ∈ lw_tbl, w.before (gxa X) (gxs X) = true) ∧ va_K V.1 vwCl (gtys V) (gxs X) ∧ (∀ M : gMem, va_D V.2.2.2 (gws V M)) ∧
  gxl X = l ∧ (gxR X).frames = fr ∧ (gxR X).locals = lo ∧ gxk X ≤ (gxR X).cells ∧ gxn X ≤ (gxR X).slots
section GI
variable {X : gX} {V : gW} {l : Launch} {cc : ByteArray} {nL : Nat} {own : String} {fr lo : Nat} {pc : Nat} {L : List (Nat × gSV)} {st : List gSV} {M : gMem}
theorem gok_c {q : gSV} {st : List gSV} (h : ∀ x ∈ q :: st, gOK x) : gOK q := h q List.mem_cons_self
theorem gok_t {q : gSV} {st : List gSV} (h : ∀ x ∈ q :: st, gOK x) : ∀ x ∈ st, gOK x := fun x hx => h x (List.mem_cons_of_mem _ hx)
theorem gok_n {q : gSV} {st : List gSV} (h0 : gOK q) (h : ∀ x ∈ st, gOK x) : ∀ x ∈ q :: st, gOK x := List.forall_mem_cons.mpr ⟨h0, h⟩
-- constants
theorem g_iconst (C : gC X V l cc nL own fr lo) {n : Int} (d : decode cc pc = .ok (.iconst n, 1)) (hn : gR n) (k : gG X V nL (pc + 1) L (gI n :: st) M) : gG X V nL pc L st M :=
  fun hL hS hM ls H locs hl hP hV => lv_iconst C.1 C.2.1 d rfl (k hL (gok_n hn hS) hM ls H locs hl hP hV)
theorem g_bipush (C : gC X V l cc nL own fr lo) {n : Int} (d : decode cc pc = .ok (.bipush n, 2)) (hn : gR n) (hv : (Int8.ofInt n).toInt32 = g32 n) (k : gG X V nL (pc + 2) L (gI n :: st) M) : gG X V nL pc L st M :=
  fun hL hS hM ls H locs hl hP hV => lv_bipush C.1 C.2.1 d hv (k hL (gok_n hn hS) hM ls H locs hl hP hV)
theorem g_sipush (C : gC X V l cc nL own fr lo) {n : Int} (d : decode cc pc = .ok (.sipush n, 3)) (hn : gR n) (hv : (Int16.ofInt n).toInt32 = g32 n) (k : gG X V nL (pc + 3) L (gI n :: st) M) : gG X V nL pc L st M :=
  fun hL hS hM ls H locs hl hP hV => lv_sipush C.1 C.2.1 d hv (k hL (gok_n hn hS) hM ls H locs hl hP hV)
theorem g_ldc (C : gC X V l cc nL own fr lo) {i : Nat} {n : Int} {v : Int32} (d : decode cc pc = .ok (.ldc i, 2)) (hw : Cond.constant own i v ∈ lw_tbl) (hn : gR n) (hv : v = g32 n) (k : gG X V nL (pc + 2) L (gI n :: st) M) : gG X V nL pc L st M := by
  subst hv
  exact fun hL hS hM ls H locs hl hP hV => lv_ldc C.1 C.2.1 C.2.2.2.1 (C.2.2.2.2.1 _ hw) d (k hL (gok_n hn hS) hM ls H locs hl hP hV)
theorem g_lconst (C : gC X V l cc nL own fr lo) {i : Fin 2} {n : Int} (d : decode cc pc = .ok (.lconst i, 1)) (hv : Int64.ofNat (i : Nat) = Int64.ofInt n) (hn : gOK (gJ n)) (k : gG X V nL (pc + 1) L (gJ n :: st) M) : gG X V nL pc L st M :=
  fun hL hS hM ls H locs hl hP hV => lv_lconst C.1 C.2.1 d hv (k hL (gok_n hn hS) hM ls H locs hl hP hV)
theorem g_ldc2 (C : gC X V l cc nL own fr lo) {i : Nat} {n : Int} {v : Int64} (d : decode cc pc = .ok (.ldc2_w i, 3)) (hw : Cond.constantLong own i v ∈ lw_tbl) (hv : v = Int64.ofInt n) (hn : gOK (gJ n)) (k : gG X V nL (pc + 3) L (gJ n :: st) M) : gG X V nL pc L st M := by
  subst hv
  exact fun hL hS hM ls H locs hl hP hV => lv_ldc2 C.1 C.2.1 C.2.2.2.1 (C.2.2.2.2.1 _ hw) d (k hL (gok_n hn hS) hM ls H locs hl hP hV)
-- locals
theorem g_lat {ls : Array Slot} (hl : lv_has ls nL (L.map (fun q => (q.1, grv V q.2)))) (j : Nat) {i : Nat} {q : gSV} (h : L[j]? = some (i, q)) : ls[i]? = some (.val (grv V q)) := lv_at hl j (by rw [List.getElem?_map, h]; rfl)
theorem g_lok (hL : ∀ q ∈ L, gOK q.2) (j : Nat) {i : Nat} {q : gSV} (h : L[j]? = some (i, q)) : gOK q := hL _ (List.mem_of_getElem? h)
theorem g_iloadn (C : gC X V l cc nL own fr lo) {k : Fin 4} {z : Int} (d : decode cc pc = .ok (.iload_n k, 1)) (j : Nat) (h : L[j]? = some ((k : Nat), gI z)) (kk : gG X V nL (pc + 1) L (gI z :: st) M) : gG X V nL pc L st M :=
  fun hL hS hM ls H locs hl hP hV => lv_iload_n C.1 C.2.1 d rfl (g_lat hl j h) (kk hL (gok_n (g_lok hL j h) hS) hM ls H locs hl hP hV)
theorem g_iload (C : gC X V l cc nL own fr lo) {i : Nat} {z : Int} (d : decode cc pc = .ok (.iload i, 2)) (j : Nat) (h : L[j]? = some (i, gI z)) (kk : gG X V nL (pc + 2) L (gI z :: st) M) : gG X V nL pc L st M :=
  fun hL hS hM ls H locs hl hP hV => lv_iload C.1 C.2.1 d (g_lat hl j h) (kk hL (gok_n (g_lok hL j h) hS) hM ls H locs hl hP hV)
theorem g_aloadn (C : gC X V l cc nL own fr lo) {k : Fin 4} {z : Int} (d : decode cc pc = .ok (.aload_n k, 1)) (j : Nat) (h : L[j]? = some ((k : Nat), gF z)) (kk : gG X V nL (pc + 1) L (gF z :: st) M) : gG X V nL pc L st M :=
  fun hL hS hM ls H locs hl hP hV => lv_aload_n C.1 C.2.1 d rfl (g_lat hl j h) (kk hL (gok_n (g_lok hL j h) hS) hM ls H locs hl hP hV)
theorem g_aloadnB (C : gC X V l cc nL own fr lo) {k : Fin 4} {z : Int} (d : decode cc pc = .ok (.aload_n k, 1)) (j : Nat) (h : L[j]? = some ((k : Nat), gB z)) (kk : gG X V nL (pc + 1) L (gB z :: st) M) : gG X V nL pc L st M :=
  fun hL hS hM ls H locs hl hP hV => lv_aload_n C.1 C.2.1 d rfl (g_lat hl j h) (kk hL (gok_n (g_lok hL j h) hS) hM ls H locs hl hP hV)
theorem g_aload (C : gC X V l cc nL own fr lo) {i : Nat} {z : Int} (d : decode cc pc = .ok (.aload i, 2)) (j : Nat) (h : L[j]? = some (i, gF z)) (kk : gG X V nL (pc + 2) L (gF z :: st) M) : gG X V nL pc L st M :=
  fun hL hS hM ls H locs hl hP hV => lv_aload C.1 C.2.1 d (g_lat hl j h) (kk hL (gok_n (g_lok hL j h) hS) hM ls H locs hl hP hV)
theorem g_lloadn (C : gC X V l cc nL own fr lo) {k : Fin 4} {z : Int} (d : decode cc pc = .ok (.lload_n k, 1)) (j : Nat) (h : L[j]? = some ((k : Nat), gJ z)) (kk : gG X V nL (pc + 1) L (gJ z :: st) M) : gG X V nL pc L st M :=
  fun hL hS hM ls H locs hl hP hV => lv_lload_n C.1 C.2.1 d rfl (g_lat hl j h) (kk hL (gok_n (g_lok hL j h) hS) hM ls H locs hl hP hV)
theorem g_lload (C : gC X V l cc nL own fr lo) {i : Nat} {z : Int} (d : decode cc pc = .ok (.lload i, 2)) (j : Nat) (h : L[j]? = some (i, gJ z)) (kk : gG X V nL (pc + 2) L (gJ z :: st) M) : gG X V nL pc L st M :=
  fun hL hS hM ls H locs hl hP hV => lv_lload C.1 C.2.1 d (g_lat hl j h) (kk hL (gok_n (g_lok hL j h) hS) hM ls H locs hl hP hV)
def gset (L : List (Nat × gSV)) (i : Nat) (q : gSV) : List (Nat × gSV) := (i, q) :: L.filter (fun x => !(x.1 == i) && !(x.1 + 1 == i && x.2.1 == 2))
theorem gset_map (i : Nat) (q : gSV) : (i, grv V q) :: (L.map (fun x => (x.1, grv V x.2))).filter (fun x => !(x.1 == i) && !(x.1 + 1 == i && x.2.category == 2)) = (gset L i q).map (fun x => (x.1, grv V x.2)) := by
  unfold gset
  rw [List.map_cons, List.filter_map]
  congr 2
  apply List.filter_congr
  intro x _
  simp only [Function.comp_apply, grv_cat]
  by_cases h : x.2.1 = 2 <;> simp [h]
theorem gset_ok {i : Nat} {q : gSV} (hq : gOK q) (hL : ∀ q ∈ L, gOK q.2) : ∀ x ∈ gset L i q, gOK x.2 := by
  intro x hx
  unfold gset at hx
  rcases List.mem_cons.mp hx with rfl | hx
  · exact hq
  · exact hL x (List.mem_filter.mp hx).1
theorem g_istoren (C : gC X V l cc nL own fr lo) {k : Fin 4} {z : Int} (L' : List (Nat × gSV)) (d : decode cc pc = .ok (.istore_n k, 1)) (hn : (k : Nat) < nL) (e : gset L (k : Nat) (gI z) = L') (kk : gG X V nL (pc + 1) L' st M) : gG X V nL pc L (gI z :: st) M := by
  subst e
  exact fun hL hS hM ls H locs hl hP hV => lv_istore_n C.1 C.2.1 d rfl hl hn (gset_map _ (gI z)) (fun ls' hl' => kk (gset_ok (gok_c hS) hL) (gok_t hS) hM ls' H locs hl' hP hV)
theorem g_istore (C : gC X V l cc nL own fr lo) {i : Nat} {z : Int} (L' : List (Nat × gSV)) (d : decode cc pc = .ok (.istore i, 2)) (hn : i < nL) (e : gset L i (gI z) = L') (kk : gG X V nL (pc + 2) L' st M) : gG X V nL pc L (gI z :: st) M := by
  subst e
  exact fun hL hS hM ls H locs hl hP hV => lv_istore C.1 C.2.1 d hl hn (gset_map _ (gI z)) (fun ls' hl' => kk (gset_ok (gok_c hS) hL) (gok_t hS) hM ls' H locs hl' hP hV)
theorem g_astoren (C : gC X V l cc nL own fr lo) {k : Fin 4} {z : Int} (L' : List (Nat × gSV)) (d : decode cc pc = .ok (.astore_n k, 1)) (hn : (k : Nat) < nL) (e : gset L (k : Nat) (gF z) = L') (kk : gG X V nL (pc + 1) L' st M) : gG X V nL pc L (gF z :: st) M := by
  subst e
  exact fun hL hS hM ls H locs hl hP hV => lv_astore_n C.1 C.2.1 d rfl hl hn (gset_map _ (gF z)) (fun ls' hl' => kk (gset_ok (gok_c hS) hL) (gok_t hS) hM ls' H locs hl' hP hV)
theorem g_astore (C : gC X V l cc nL own fr lo) {i : Nat} {z : Int} (L' : List (Nat × gSV)) (d : decode cc pc = .ok (.astore i, 2)) (hn : i < nL) (e : gset L i (gF z) = L') (kk : gG X V nL (pc + 2) L' st M) : gG X V nL pc L (gF z :: st) M := by
  subst e
  exact fun hL hS hM ls H locs hl hP hV => lv_astore C.1 C.2.1 d hl hn (gset_map _ (gF z)) (fun ls' hl' => kk (gset_ok (gok_c hS) hL) (gok_t hS) hM ls' H locs hl' hP hV)
theorem g_iinc (C : gC X V l cc nL own fr lo) {i : Nat} {n z : Int} (L' : List (Nat × gSV)) (d : decode cc pc = .ok (.iinc i n, 3)) (j : Nat) (h : L[j]? = some (i, gI z)) (hn : i < nL) (hr : gR (z + n)) (e : gset L i (gI (z + n)) = L') (kk : gG X V nL (pc + 3) L' st M) : gG X V nL pc L st M := by
  subst e
  exact fun hL hS hM ls H locs hl hP hV => lv_iinc (x := g32 z) (v := g32 (z + n)) (k := j) C.1 C.2.1 d hl (by rw [List.getElem?_map, h]; rfl) (Int32.ofInt_add z n).symm hn (gset_map _ (gI (z + n))) (fun ls' hl' => kk (gset_ok hr hL) hS hM ls' H locs hl' hP hV)
/-- fewer locals -/
theorem g_sub (L' : List (Nat × gSV)) (ks : List Nat) (e : ks.filterMap (fun k => L[k]?) = L') (kk : gG X V nL pc L' st M) : gG X V nL pc L st M := by
  subst e
  intro hL hS hM ls H locs hl hP hV
  refine kk (fun q hq => ?_) hS hM ls H locs ?_ hP hV
  · obtain ⟨k, -, hk⟩ := List.mem_filterMap.mp hq
    exact hL q (List.mem_of_getElem? hk)
  · refine lv_sub hl ks ?_
    unfold lv_pick
    rw [List.map_filterMap]
    apply congrArg (fun f => List.filterMap f ks)
    funext k
    rw [List.getElem?_map]
-- arithmetic
theorem g_iadd (C : gC X V l cc nL own fr lo) {a b : Int} (d : decode cc pc = .ok (.iadd, 1)) (hr : gR (a + b)) (k : gG X V nL (pc + 1) L (gI (a + b) :: st) M) : gG X V nL pc L (gI b :: gI a :: st) M := by
  intro hL hS hM ls H locs hl hP hV
  have k := k hL (gok_n hr (gok_t (gok_t hS))) hM ls H locs hl hP hV
  refine lv_iadd C.1 C.2.1 d ?_
  rw [show g32 (gI a).2 + g32 (gI b).2 = g32 (a + b) from (Int32.ofInt_add a b).symm]
  exact k
theorem g_isub (C : gC X V l cc nL own fr lo) {a b : Int} (d : decode cc pc = .ok (.isub, 1)) (hr : gR (a - b)) (k : gG X V nL (pc + 1) L (gI (a - b) :: st) M) : gG X V nL pc L (gI b :: gI a :: st) M := by
  intro hL hS hM ls H locs hl hP hV
  have k := k hL (gok_n hr (gok_t (gok_t hS))) hM ls H locs hl hP hV
  refine lv_isub C.1 C.2.1 d ?_
  rw [show g32 (gI a).2 - g32 (gI b).2 = g32 (a - b) from (Int32.ofInt_sub a b).symm]
  exact k
theorem g_imul (C : gC X V l cc nL own fr lo) {a b : Int} (d : decode cc pc = .ok (.imul, 1)) (hr : gR (a * b)) (k : gG X V nL (pc + 1) L (gI (a * b) :: st) M) : gG X V nL pc L (gI b :: gI a :: st) M := by
  intro hL hS hM ls H locs hl hP hV
  have k := k hL (gok_n hr (gok_t (gok_t hS))) hM ls H locs hl hP hV
  refine lv_imul C.1 C.2.1 d ?_
  rw [show g32 (gI a).2 * g32 (gI b).2 = g32 (a * b) from (Int32.ofInt_mul a b).symm]
  exact k
end GI
end
section
-- bits
theorem g32_bv (n : Nat) : (g32 (n : Int)).toBitVec = BitVec.ofNat 32 n := by
  show BitVec.ofInt 32 (n : Int) = _
  exact BitVec.ofInt_natCast ..
theorem g32_or (a b : Nat) : g32 (a : Int) ||| g32 (b : Int) = g32 ((a ||| b : Nat) : Int) := by
  apply Int32.toBitVec_inj.mp
  rw [Int32.toBitVec_or, g32_bv, g32_bv, g32_bv, BitVec.ofNat_or]
theorem g32_and (a b : Nat) : g32 (a : Int) &&& g32 (b : Int) = g32 ((a &&& b : Nat) : Int) := by
  apply Int32.toBitVec_inj.mp
  rw [Int32.toBitVec_and, g32_bv, g32_bv, g32_bv, BitVec.ofNat_and]
theorem g32_emod (a : Int) : g32 (a % 4294967296) = g32 a := by
  apply Int32.toBitVec_inj.mp
  show BitVec.ofInt 32 (a % 4294967296) = BitVec.ofInt 32 a
  apply BitVec.eq_of_toInt_eq
  rw [BitVec.toInt_ofInt, BitVec.toInt_ofInt]
  exact Int.emod_bmod ..
theorem g32_mask (a : Int) (k : Nat) (hk : k < 32) : g32 a &&& g32 ((2 ^ k - 1 : Nat) : Int) = g32 (a % ((2 ^ k : Nat) : Int)) := by
  have h0 : 0 ≤ a % 4294967296 := Int.emod_nonneg _ (by decide)
  obtain ⟨n, hn⟩ : ∃ n : Nat, a % 4294967296 = (n : Int) := ⟨(a % 4294967296).toNat, by omega⟩
  have hd : (((2 ^ k : Nat) : Int)) ∣ 4294967296 := by
    refine ⟨((2 ^ (32 - k) : Nat) : Int), ?_⟩
    rw [← Int.natCast_mul, ← Nat.pow_add, show k + (32 - k) = 32 by omega]
    rfl
  have e : a % ((2 ^ k : Nat) : Int) = ((n % 2 ^ k : Nat) : Int) := by
    rw [Int.natCast_emod, ← hn, Int.emod_emod_of_dvd _ hd]
  rw [← g32_emod a, hn, g32_and, e, Nat.and_two_pow_sub_one_eq_mod]
theorem g32_shl : ∀ n : Nat, n < 31 → g32 1 <<< (g32 (n : Int) &&& 31) = g32 ((2 ^ n : Nat) : Int) := by decide +kernel
theorem g32_cnt : ∀ n : Nat, n < 32 → ((g32 (n : Int) &&& 31).toBitVec.smod 32).toNat = n := by decide +kernel
theorem g32_shr (a n : Nat) (ha : a < 2147483648) (hn : n < 32) : g32 (a : Int) >>> (g32 (n : Int) &&& 31) = g32 ((a / 2 ^ n : Nat) : Int) := by
  have h1 : ((a / 2 ^ n : Nat) : Int) = (a : Int) / ((2 ^ n : Nat) : Int) := Int.natCast_ediv ..
  have h2 : a / 2 ^ n ≤ a := Nat.div_le_self ..
  apply Int32.toInt_inj.mp
  have hz : gR ((a / 2 ^ n : Nat) : Int) := by
    generalize a / 2 ^ n = q at h2
    exact ⟨by omega, by omega⟩
  rw [g32_toInt hz]
  show ((g32 (a : Int)).toBitVec.sshiftRight' _).toInt = _
  rw [BitVec.sshiftRight', BitVec.toInt_sshiftRight, g32_cnt n hn, Int.shiftRight_eq_div_pow]
  have h3 : (g32 (a : Int)).toBitVec.toInt = (a : Int) := g32_toInt ⟨by omega, by omega⟩
  rw [h3, h1]
theorem g32_ushr16 (a : Int) : ((g32 a).toUInt32 >>> ((g32 16).toUInt32 &&& Int32.toUInt32 31)).toInt32 = g32 (a % 4294967296 / 65536) := by
  have h0 : 0 ≤ a % 4294967296 := Int.emod_nonneg _ (by decide)
  have h9 : a % 4294967296 < 4294967296 := Int.emod_lt_of_pos _ (by decide)
  obtain ⟨n, hn⟩ : ∃ n : Nat, a % 4294967296 = (n : Int) := ⟨(a % 4294967296).toNat, by omega⟩
  rw [← g32_emod a, hn]
  have e : (n : Int) % 4294967296 / 65536 = ((n / 65536 : Nat) : Int) := by omega
  first | rw [e] | skip
  have e2 : (n : Int) / 65536 = ((n / 65536 : Nat) : Int) := by omega
  first | rw [e2] | skip
  apply Int32.toBitVec_inj.mp
  rw [g32_bv]
  show ((g32 (n : Int)).toBitVec >>> ((16#32 &&& 31#32) % 32)) = _
  rw [g32_bv]
  apply BitVec.eq_of_toNat_eq
  have e3 : BitVec.ofNat 32 n >>> ((16#32 &&& 31#32) % 32) = BitVec.ofNat 32 n >>> (16 : Nat) := rfl
  rw [e3, BitVec.toNat_ushiftRight, BitVec.toNat_ofNat, BitVec.toNat_ofNat, Nat.shiftRight_eq_div_pow]
  show n % 2 ^ 32 / 2 ^ 16 = n / 65536 % 2 ^ 32
  omega
theorem g32_div {a b : Int} (ha : gR a) (hb : gR b) (h0 : 0 ≤ a) (h1 : 0 < b) : g32 a / g32 b = g32 (a / b) := by
  apply Int32.toInt_inj.mp
  have hq : a / b ≤ a := Int.ediv_le_self _ h0
  have hq0 : 0 ≤ a / b := Int.ediv_nonneg h0 (by omega)
  have hr : gR (a / b) := ⟨by omega, by have := ha.2; omega⟩
  rw [Int32.toInt_div, g32_toInt ha, g32_toInt hb, g32_toInt hr, Int.tdiv_eq_ediv_of_nonneg h0]
  have := g32_toInt hr
  rw [g32, Int32.toInt_ofInt] at this
  exact this
theorem g32_rem {a b : Int} (ha : gR a) (hb : gR b) (h0 : 0 ≤ a) (h1 : 0 < b) : g32 a - g32 a / g32 b * g32 b = g32 (a % b) := by
  apply Int32.toInt_inj.mp
  rw [rem_toInt, g32_toInt ha, g32_toInt hb, Int.tmod_eq_emod_of_nonneg h0]
  have h2 := Int.emod_nonneg a (show b ≠ 0 by omega)
  have h3 := Int.emod_lt_of_pos a h1
  rw [g32_toInt ⟨by omega, by have := hb.2; omega⟩]
def gor (a b : Int) : Int := ((a.toNat ||| b.toNat : Nat) : Int)
def gand (a b : Int) : Int := ((a.toNat &&& b.toNat : Nat) : Int)
def gpw (k : Int) : Int := ((2 ^ k.toNat : Nat) : Int)
def gwr (z : Int) : Int := (g32 z).toInt
theorem gor_R {a b : Int} (ha : gR a) (hb : gR b) (h0 : 0 ≤ a) (h1 : 0 ≤ b) : gR (gor a b) := by
  have : a.toNat ||| b.toNat < 2 ^ 31 := Nat.or_lt_two_pow (by have := ha.2; omega) (by have := hb.2; omega)
  unfold gor
  exact ⟨by omega, by omega⟩
theorem gand_R {a b : Int} (ha : gR a) (h0 : 0 ≤ a) : gR (gand a b) := by
  have : a.toNat &&& b.toNat ≤ a.toNat := Nat.and_le_left
  have := ha.2
  unfold gand
  exact ⟨by omega, by omega⟩
theorem gpw_R : ∀ n : Nat, n < 31 → gR (gpw (n : Int)) := by
  intro n hn
  have : 2 ^ n < 2 ^ 31 := Nat.pow_lt_pow_right (by decide) hn
  unfold gpw
  rw [Int.toNat_natCast]
  generalize 2 ^ n = q at this
  exact ⟨by omega, by omega⟩
section GI2
variable {X : gX} {V : gW} {l : Launch} {cc : ByteArray} {nL : Nat} {own : String} {fr lo : Nat} {pc : Nat} {L : List (Nat × gSV)} {st : List gSV} {M : gMem}
theorem g_iaddW (C : gC X V l cc nL own fr lo) {a b : Int} (d : decode cc pc = .ok (.iadd, 1)) (k : gG X V nL (pc + 1) L (gI (gwr (a + b)) :: st) M) : gG X V nL pc L (gI b :: gI a :: st) M := by
  intro hL hS hM ls H locs hl hP hV
  have k := k hL (gok_n (gR_toInt _) (gok_t (gok_t hS))) hM ls H locs hl hP hV
  refine lv_iadd C.1 C.2.1 d ?_
  rw [show g32 (gI a).2 + g32 (gI b).2 = g32 (gwr (a + b)) from by rw [gwr, g32_of]; exact (Int32.ofInt_add a b).symm]
  exact k
theorem g_imulW (C : gC X V l cc nL own fr lo) {a b : Int} (d : decode cc pc = .ok (.imul, 1)) (k : gG X V nL (pc + 1) L (gI (gwr (a * b)) :: st) M) : gG X V nL pc L (gI b :: gI a :: st) M := by
  intro hL hS hM ls H locs hl hP hV
  have k := k hL (gok_n (gR_toInt _) (gok_t (gok_t hS))) hM ls H locs hl hP hV
  refine lv_imul C.1 C.2.1 d ?_
  rw [show g32 (gI a).2 * g32 (gI b).2 = g32 (gwr (a * b)) from by rw [gwr, g32_of]; exact (Int32.ofInt_mul a b).symm]
  exact k
theorem g_idiv (C : gC X V l cc nL own fr lo) {a b : Int} (d : decode cc pc = .ok (.idiv, 1)) (h : 0 ≤ a ∧ 0 < b) (k : gG X V nL (pc + 1) L (gI (a / b) :: st) M) : gG X V nL pc L (gI b :: gI a :: st) M := by
  intro hL hS hM ls H locs hl hP hV
  have hb : gR b := gok_c hS
  have ha : gR a := gok_c (gok_t hS)
  have hq : a / b ≤ a := Int.ediv_le_self _ h.1
  have hq0 : 0 ≤ a / b := Int.ediv_nonneg h.1 (by omega)
  have k := k hL (gok_n (show gR (a / b) from ⟨by omega, by have := ha.2; omega⟩) (gok_t (gok_t hS))) hM ls H locs hl hP hV
  refine lv_idiv (x := g32 a) (y := g32 b) C.1 C.2.1 d (fun e => ?_) ?_
  · have : b = 0 := (g32_inj hb gR_0).mp e
    omega
  · rw [g32_div ha hb h.1 h.2]
    exact k
theorem g_irem (C : gC X V l cc nL own fr lo) {a b : Int} (d : decode cc pc = .ok (.irem, 1)) (h : 0 ≤ a ∧ 0 < b) (k : gG X V nL (pc + 1) L (gI (a % b) :: st) M) : gG X V nL pc L (gI b :: gI a :: st) M := by
  intro hL hS hM ls H locs hl hP hV
  have hb : gR b := gok_c hS
  have ha : gR a := gok_c (gok_t hS)
  have h2 := Int.emod_nonneg a (show b ≠ 0 by omega)
  have h3 := Int.emod_lt_of_pos a h.2
  have k := k hL (gok_n (show gR (a % b) from ⟨by omega, by have := hb.2; omega⟩) (gok_t (gok_t hS))) hM ls H locs hl hP hV
  refine lv_irem (x := g32 a) (y := g32 b) C.1 C.2.1 d (fun e => ?_) ?_
  · have : b = 0 := (g32_inj hb gR_0).mp e
    omega
  · rw [g32_rem ha hb h.1 h.2]
    exact k
theorem g_ishl (C : gC X V l cc nL own fr lo) {b : Int} (d : decode cc pc = .ok (.ishl, 1)) (h : 0 ≤ b ∧ b < 31) (k : gG X V nL (pc + 1) L (gI (gpw b) :: st) M) : gG X V nL pc L (gI b :: gI 1 :: st) M := by
  intro hL hS hM ls H locs hl hP hV
  obtain ⟨n, rfl⟩ : ∃ n : Nat, b = (n : Int) := ⟨b.toNat, by omega⟩
  have k := k hL (gok_n (gpw_R n (by omega)) (gok_t (gok_t hS))) hM ls H locs hl hP hV
  refine lv_ishl (x := g32 1) (y := g32 (n : Int)) C.1 C.2.1 d ?_
  rw [g32_shl n (by omega)]
  exact k
theorem g_ishr (C : gC X V l cc nL own fr lo) {a b : Int} (d : decode cc pc = .ok (.ishr, 1)) (h : 0 ≤ a ∧ 0 ≤ b ∧ b < 32) (k : gG X V nL (pc + 1) L (gI (a / gpw b) :: st) M) : gG X V nL pc L (gI b :: gI a :: st) M := by
  intro hL hS hM ls H locs hl hP hV
  have ha : gR a := gok_c (gok_t hS)
  obtain ⟨n, rfl⟩ : ∃ n : Nat, b = (n : Int) := ⟨b.toNat, by omega⟩
  obtain ⟨x, rfl⟩ : ∃ x : Nat, a = (x : Int) := ⟨a.toNat, by omega⟩
  have hq : x / 2 ^ n ≤ x := Nat.div_le_self ..
  have e : (x : Int) / gpw (n : Int) = ((x / 2 ^ n : Nat) : Int) := by unfold gpw; rw [Int.toNat_natCast]; exact (Int.natCast_ediv ..).symm
  rw [e] at k
  have hz : gR ((x / 2 ^ n : Nat) : Int) := by
    have := ha.2
    generalize x / 2 ^ n = q at hq
    exact ⟨by omega, by omega⟩
  have k := k hL (gok_n hz (gok_t (gok_t hS))) hM ls H locs hl hP hV
  refine lv_ishr (x := g32 (x : Int)) (y := g32 (n : Int)) C.1 C.2.1 d ?_
  rw [g32_shr x n (by have := ha.2; omega) (by omega)]
  exact k
theorem g_iushr16 (C : gC X V l cc nL own fr lo) {a : Int} (d : decode cc pc = .ok (.iushr, 1)) (k : gG X V nL (pc + 1) L (gI (a % 4294967296 / 65536) :: st) M) : gG X V nL pc L (gI 16 :: gI a :: st) M := by
  intro hL hS hM ls H locs hl hP hV
  have k := k hL (gok_n (show gR (a % 4294967296 / 65536) from ⟨by omega, by omega⟩) (gok_t (gok_t hS))) hM ls H locs hl hP hV
  exact lv_iushr (x := g32 a) (y := g32 16) C.1 C.2.1 d (g32_ushr16 a) k
theorem g_ior (C : gC X V l cc nL own fr lo) {a b : Int} (d : decode cc pc = .ok (.ior, 1)) (h : 0 ≤ a ∧ 0 ≤ b) (k : gG X V nL (pc + 1) L (gI (gor a b) :: st) M) : gG X V nL pc L (gI b :: gI a :: st) M := by
  intro hL hS hM ls H locs hl hP hV
  have hb : gR b := gok_c hS
  have ha : gR a := gok_c (gok_t hS)
  have k := k hL (gok_n (gor_R ha hb h.1 h.2) (gok_t (gok_t hS))) hM ls H locs hl hP hV
  obtain ⟨n, rfl⟩ : ∃ n : Nat, b = (n : Int) := ⟨b.toNat, by omega⟩
  obtain ⟨x, rfl⟩ : ∃ x : Nat, a = (x : Int) := ⟨a.toNat, by omega⟩
  refine lv_ior (x := g32 (x : Int)) (y := g32 (n : Int)) C.1 C.2.1 d ?_
  rw [g32_or]
  exact k
theorem g_iand (C : gC X V l cc nL own fr lo) {a b : Int} (d : decode cc pc = .ok (.iand, 1)) (h : 0 ≤ a ∧ 0 ≤ b) (k : gG X V nL (pc + 1) L (gI (gand a b) :: st) M) : gG X V nL pc L (gI b :: gI a :: st) M := by
  intro hL hS hM ls H locs hl hP hV
  have ha : gR a := gok_c (gok_t hS)
  have k := k hL (gok_n (gand_R ha h.1) (gok_t (gok_t hS))) hM ls H locs hl hP hV
  obtain ⟨n, rfl⟩ : ∃ n : Nat, b = (n : Int) := ⟨b.toNat, by omega⟩
  obtain ⟨x, rfl⟩ : ∃ x : Nat, a = (x : Int) := ⟨a.toNat, by omega⟩
  refine lv_iand (x := g32 (x : Int)) (y := g32 (n : Int)) C.1 C.2.1 d ?_
  rw [g32_and]
  exact k
theorem g_iandM (C : gC X V l cc nL own fr lo) {a m : Int} (n : Nat) (p : Int) (d : decode cc pc = .ok (.iand, 1)) (hn : n < 31) (hm : m = ((2 ^ n - 1 : Nat) : Int)) (hp : p = ((2 ^ n : Nat) : Int)) (k : gG X V nL (pc + 1) L (gI (a % p) :: st) M) : gG X V nL pc L (gI m :: gI a :: st) M := by
  subst hm
  subst hp
  intro hL hS hM ls H locs hl hP hV
  have hp : 2 ^ n < 2 ^ 31 := Nat.pow_lt_pow_right (by decide) hn
  have h0 : 0 < 2 ^ n := Nat.pow_pos (by decide)
  have h2 := Int.emod_nonneg a (show ((2 ^ n : Nat) : Int) ≠ 0 by omega)
  have h3 := Int.emod_lt_of_pos a (show (0 : Int) < ((2 ^ n : Nat) : Int) by omega)
  have k := k hL (gok_n (show gR (a % ((2 ^ n : Nat) : Int)) from ⟨by omega, by omega⟩) (gok_t (gok_t hS))) hM ls H locs hl hP hV
  refine lv_iand (x := g32 a) (y := g32 ((2 ^ n - 1 : Nat) : Int)) C.1 C.2.1 d ?_
  rw [g32_mask a n (by omega)]
  exact k
-- longs
theorem g_i2l (C : gC X V l cc nL own fr lo) {a : Int} (d : decode cc pc = .ok (.i2l, 1)) (k : gG X V nL (pc + 1) L (gJ a :: st) M) : gG X V nL pc L (gI a :: st) M := by
  intro hL hS hM ls H locs hl hP hV
  have ha : gR a := gok_c hS
  have h1 := ha.1
  have h2 := ha.2
  have k := k hL (gok_n (show gOK (gJ a) from (show -9223372036854775808 ≤ a ∧ a < 9223372036854775808 from ⟨by omega, by omega⟩)) (gok_t hS)) hM ls H locs hl hP hV
  refine lv_i2l (x := g32 a) C.1 C.2.1 d ?_ k
  apply Int64.toInt_inj.mp
  rw [Int32.toInt_toInt64, g32_toInt ha]
  exact (Int64.toInt_ofInt_of_le (by omega) (by omega)).symm
theorem g_lcmp (C : gC X V l cc nL own fr lo) {a b : Int} (d : decode cc pc = .ok (.lcmp, 1)) (k : gG X V nL (pc + 1) L (gI (if a < b then -1 else if a = b then 0 else 1) :: st) M) : gG X V nL pc L (gJ b :: gJ a :: st) M := by
  intro hL hS hM ls H locs hl hP hV
  have hb : -9223372036854775808 ≤ b ∧ b < 9223372036854775808 := gok_c hS
  have ha : -9223372036854775808 ≤ a ∧ a < 9223372036854775808 := gok_c (gok_t hS)
  have eb : (Int64.ofInt b).toInt = b := Int64.toInt_ofInt_of_le (by have := hb.1; omega) (by have := hb.2; omega)
  have ea : (Int64.ofInt a).toInt = a := Int64.toInt_ofInt_of_le (by have := ha.1; omega) (by have := ha.2; omega)
  have k := k hL (gok_n (show gR (if a < b then -1 else if a = b then 0 else 1) from by split <;> (try split) <;> exact ⟨by decide, by decide⟩) (gok_t (gok_t hS))) hM ls H locs hl hP hV
  refine W.lcmp (x := Int64.ofInt a) (y := Int64.ofInt b) C.1 C.2.1 d ?_
  have e : lg_cmp (Int64.ofInt a) (Int64.ofInt b) = g32 (if a < b then -1 else if a = b then 0 else 1) := by
    unfold lg_cmp
    simp only [Int64.lt_iff_toInt_lt, ← Int64.toInt_inj, ea, eb]
    rcases Int.lt_trichotomy a b with h | h | h
    · simp [h, show ¬ a = b by omega, show ¬ b < a by omega]; first | rfl | decide
    · subst h; simp; first | rfl | decide
    · simp [h, show ¬ a = b by omega, show ¬ a < b by omega]; first | rfl | decide
  rw [e]
  exact k
-- the stack
theorem g_dup (C : gC X V l cc nL own fr lo) {q : gSV} (d : decode cc pc = .ok (.dup, 1)) (hq : q.1 ≠ 2) (k : gG X V nL (pc + 1) L (q :: q :: st) M) : gG X V nL pc L (q :: st) M :=
  fun hL hS hM ls H locs hl hP hV => lv_dup C.1 C.2.1 d (by rw [grv_cat, if_neg hq]) (k hL (gok_n (gok_c hS) hS) hM ls H locs hl hP hV)
theorem g_dup2 (C : gC X V l cc nL own fr lo) {q r : gSV} (d : decode cc pc = .ok (.dup2, 1)) (hq : q.1 ≠ 2) (hr : r.1 ≠ 2) (k : gG X V nL (pc + 1) L (q :: r :: q :: r :: st) M) : gG X V nL pc L (q :: r :: st) M :=
  fun hL hS hM ls H locs hl hP hV => lv_dup2_11 C.1 C.2.1 d (by rw [grv_cat, if_neg hq]) (by rw [grv_cat, if_neg hr]) (k hL (gok_n (gok_c hS) (gok_n (gok_c (gok_t hS)) hS)) hM ls H locs hl hP hV)
theorem g_pop (C : gC X V l cc nL own fr lo) {q : gSV} (d : decode cc pc = .ok (.pop, 1)) (hq : q.1 ≠ 2) (k : gG X V nL (pc + 1) L st M) : gG X V nL pc L (q :: st) M :=
  fun hL hS hM ls H locs hl hP hV => lv_pop C.1 C.2.1 d (by rw [grv_cat, if_neg hq]) (k hL (gok_t hS) hM ls H locs hl hP hV)
theorem g_goto (C : gC X V l cc nL own fr lo) {off : Int} {t : Nat} (d : decode cc pc = .ok (.goto off, 3)) (ht : (pc : Int) + off = (t : Int)) (k : gG X V nL t L st M) : gG X V nL pc L st M :=
  fun hL hS hM ls H locs hl hP hV => lv_goto C.1 C.2.1 d ht (k hL hS hM ls H locs hl hP hV)
theorem g_if_eq (C : gC X V l cc nL own fr lo) {a off : Int} {t : Nat} (d : decode cc pc = .ok (.ifCond .eq off, 3)) (ht : (pc : Int) + off = (t : Int)) (kt : a = 0 → gG X V nL t L st M) (kf : ¬ a = 0 → gG X V nL (pc + 3) L st M) : gG X V nL pc L (gI a :: st) M := by
  intro hL hS hM ls H locs hl hP hV
  have ha : gR a := gok_c hS
  exact lv_if_eq (x := g32 a) C.1 C.2.1 d ht (fun h => kt ((g32_inj ha gR_0).mp h) hL (gok_t hS) hM ls H locs hl hP hV) (fun h => kf (fun q => h ((g32_inj ha gR_0).mpr q)) hL (gok_t hS) hM ls H locs hl hP hV)
theorem g_if_ne (C : gC X V l cc nL own fr lo) {a off : Int} {t : Nat} (d : decode cc pc = .ok (.ifCond .ne off, 3)) (ht : (pc : Int) + off = (t : Int)) (kt : ¬ a = 0 → gG X V nL t L st M) (kf : a = 0 → gG X V nL (pc + 3) L st M) : gG X V nL pc L (gI a :: st) M := by
  intro hL hS hM ls H locs hl hP hV
  have ha : gR a := gok_c hS
  exact lv_if_ne (x := g32 a) C.1 C.2.1 d ht (fun h => kt ((not_congr (g32_inj ha gR_0)).mp h) hL (gok_t hS) hM ls H locs hl hP hV) (fun h => kf ((g32_inj ha gR_0).mp h) hL (gok_t hS) hM ls H locs hl hP hV)
theorem g_if_lt (C : gC X V l cc nL own fr lo) {a off : Int} {t : Nat} (d : decode cc pc = .ok (.ifCond .lt off, 3)) (ht : (pc : Int) + off = (t : Int)) (kt : a < 0 → gG X V nL t L st M) (kf : ¬ a < 0 → gG X V nL (pc + 3) L st M) : gG X V nL pc L (gI a :: st) M := by
  intro hL hS hM ls H locs hl hP hV
  have ha : gR a := gok_c hS
  exact lv_if_lt (x := g32 a) C.1 C.2.1 d ht (fun h => kt ((g32_lt ha gR_0).mp h) hL (gok_t hS) hM ls H locs hl hP hV) (fun h => kf (fun q => h ((g32_lt ha gR_0).mpr q)) hL (gok_t hS) hM ls H locs hl hP hV)
theorem g_if_ge (C : gC X V l cc nL own fr lo) {a off : Int} {t : Nat} (d : decode cc pc = .ok (.ifCond .ge off, 3)) (ht : (pc : Int) + off = (t : Int)) (kt : 0 ≤ a → gG X V nL t L st M) (kf : ¬ 0 ≤ a → gG X V nL (pc + 3) L st M) : gG X V nL pc L (gI a :: st) M := by
  intro hL hS hM ls H locs hl hP hV
  have ha : gR a := gok_c hS
  exact lv_if_ge (x := g32 a) C.1 C.2.1 d ht (fun h => kt ((g32_le gR_0 ha).mp h) hL (gok_t hS) hM ls H locs hl hP hV) (fun h => kf (fun q => h ((g32_le gR_0 ha).mpr q)) hL (gok_t hS) hM ls H locs hl hP hV)
theorem g_if_gt (C : gC X V l cc nL own fr lo) {a off : Int} {t : Nat} (d : decode cc pc = .ok (.ifCond .gt off, 3)) (ht : (pc : Int) + off = (t : Int)) (kt : 0 < a → gG X V nL t L st M) (kf : ¬ 0 < a → gG X V nL (pc + 3) L st M) : gG X V nL pc L (gI a :: st) M := by
  intro hL hS hM ls H locs hl hP hV
  have ha : gR a := gok_c hS
  exact lv_if_gt (x := g32 a) C.1 C.2.1 d ht (fun h => kt ((g32_lt gR_0 ha).mp h) hL (gok_t hS) hM ls H locs hl hP hV) (fun h => kf (fun q => h ((g32_lt gR_0 ha).mpr q)) hL (gok_t hS) hM ls H locs hl hP hV)
theorem g_if_le (C : gC X V l cc nL own fr lo) {a off : Int} {t : Nat} (d : decode cc pc = .ok (.ifCond .le off, 3)) (ht : (pc : Int) + off = (t : Int)) (kt : a ≤ 0 → gG X V nL t L st M) (kf : ¬ a ≤ 0 → gG X V nL (pc + 3) L st M) : gG X V nL pc L (gI a :: st) M := by
  intro hL hS hM ls H locs hl hP hV
  have ha : gR a := gok_c hS
  exact lv_if_le (x := g32 a) C.1 C.2.1 d ht (fun h => kt ((g32_le ha gR_0).mp h) hL (gok_t hS) hM ls H locs hl hP hV) (fun h => kf (fun q => h ((g32_le ha gR_0).mpr q)) hL (gok_t hS) hM ls H locs hl hP hV)
theorem g_ic_eq (C : gC X V l cc nL own fr lo) {a b off : Int} {t : Nat} (d : decode cc pc = .ok (.if_icmp .eq off, 3)) (ht : (pc : Int) + off = (t : Int)) (kt : a = b → gG X V nL t L st M) (kf : ¬ a = b → gG X V nL (pc + 3) L st M) : gG X V nL pc L (gI b :: gI a :: st) M := by
  intro hL hS hM ls H locs hl hP hV
  have hb : gR b := gok_c hS
  have ha : gR a := gok_c (gok_t hS)
  have hS := gok_t (gok_t hS)
  exact lv_icmp_eq (x := g32 a) (y := g32 b) C.1 C.2.1 d ht (fun h => kt ((g32_inj ha hb).mp h) hL hS hM ls H locs hl hP hV) (fun h => kf (fun q => h ((g32_inj ha hb).mpr q)) hL hS hM ls H locs hl hP hV)
theorem g_ic_ne (C : gC X V l cc nL own fr lo) {a b off : Int} {t : Nat} (d : decode cc pc = .ok (.if_icmp .ne off, 3)) (ht : (pc : Int) + off = (t : Int)) (kt : ¬ a = b → gG X V nL t L st M) (kf : a = b → gG X V nL (pc + 3) L st M) : gG X V nL pc L (gI b :: gI a :: st) M := by
  intro hL hS hM ls H locs hl hP hV
  have hb : gR b := gok_c hS
  have ha : gR a := gok_c (gok_t hS)
  have hS := gok_t (gok_t hS)
  exact lv_icmp_ne (x := g32 a) (y := g32 b) C.1 C.2.1 d ht (fun h => kt ((not_congr (g32_inj ha hb)).mp h) hL hS hM ls H locs hl hP hV) (fun h => kf ((g32_inj ha hb).mp h) hL hS hM ls H locs hl hP hV)
theorem g_ic_lt (C : gC X V l cc nL own fr lo) {a b off : Int} {t : Nat} (d : decode cc pc = .ok (.if_icmp .lt off, 3)) (ht : (pc : Int) + off = (t : Int)) (kt : a < b → gG X V nL t L st M) (kf : ¬ a < b → gG X V nL (pc + 3) L st M) : gG X V nL pc L (gI b :: gI a :: st) M := by
  intro hL hS hM ls H locs hl hP hV
  have hb : gR b := gok_c hS
  have ha : gR a := gok_c (gok_t hS)
  have hS := gok_t (gok_t hS)
  exact lv_icmp_lt (x := g32 a) (y := g32 b) C.1 C.2.1 d ht (fun h => kt ((g32_lt ha hb).mp h) hL hS hM ls H locs hl hP hV) (fun h => kf (fun q => h ((g32_lt ha hb).mpr q)) hL hS hM ls H locs hl hP hV)
theorem g_ic_ge (C : gC X V l cc nL own fr lo) {a b off : Int} {t : Nat} (d : decode cc pc = .ok (.if_icmp .ge off, 3)) (ht : (pc : Int) + off = (t : Int)) (kt : b ≤ a → gG X V nL t L st M) (kf : ¬ b ≤ a → gG X V nL (pc + 3) L st M) : gG X V nL pc L (gI b :: gI a :: st) M := by
  intro hL hS hM ls H locs hl hP hV
  have hb : gR b := gok_c hS
  have ha : gR a := gok_c (gok_t hS)
  have hS := gok_t (gok_t hS)
  exact lv_icmp_ge (x := g32 a) (y := g32 b) C.1 C.2.1 d ht (fun h => kt ((g32_le hb ha).mp h) hL hS hM ls H locs hl hP hV) (fun h => kf (fun q => h ((g32_le hb ha).mpr q)) hL hS hM ls H locs hl hP hV)
theorem g_ic_gt (C : gC X V l cc nL own fr lo) {a b off : Int} {t : Nat} (d : decode cc pc = .ok (.if_icmp .gt off, 3)) (ht : (pc : Int) + off = (t : Int)) (kt : b < a → gG X V nL t L st M) (kf : ¬ b < a → gG X V nL (pc + 3) L st M) : gG X V nL pc L (gI b :: gI a :: st) M := by
  intro hL hS hM ls H locs hl hP hV
  have hb : gR b := gok_c hS
  have ha : gR a := gok_c (gok_t hS)
  have hS := gok_t (gok_t hS)
  exact lv_icmp_gt (x := g32 a) (y := g32 b) C.1 C.2.1 d ht (fun h => kt ((g32_lt hb ha).mp h) hL hS hM ls H locs hl hP hV) (fun h => kf (fun q => h ((g32_lt hb ha).mpr q)) hL hS hM ls H locs hl hP hV)
theorem g_ic_le (C : gC X V l cc nL own fr lo) {a b off : Int} {t : Nat} (d : decode cc pc = .ok (.if_icmp .le off, 3)) (ht : (pc : Int) + off = (t : Int)) (kt : a ≤ b → gG X V nL t L st M) (kf : ¬ a ≤ b → gG X V nL (pc + 3) L st M) : gG X V nL pc L (gI b :: gI a :: st) M := by
  intro hL hS hM ls H locs hl hP hV
  have hb : gR b := gok_c hS
  have ha : gR a := gok_c (gok_t hS)
  have hS := gok_t (gok_t hS)
  exact lv_icmp_le (x := g32 a) (y := g32 b) C.1 C.2.1 d ht (fun h => kt ((g32_le ha hb).mp h) hL hS hM ls H locs hl hP hV) (fun h => kf (fun q => h ((g32_le ha hb).mpr q)) hL hS hM ls H locs hl hP hV)
theorem g_switch (C : gC X V l cc nL own fr lo) {dflt lo' hi : Int} {offs : Array Int} {len : Nat} {a : Int} (d : decode cc pc = .ok (.tableswitch dflt lo' hi offs, len)) {t : Nat} (ht : (pc : Int) + dflt = (t : Int)) (ko : (a < lo' ∨ hi < a) → gG X V nL t L st M)
    (ki : lo' ≤ a → a ≤ hi → ∃ (off : Int) (t : Nat), offs[(a - lo').toNat]? = some off ∧ (pc : Int) + off = (t : Int) ∧ gG X V nL t L st M) : gG X V nL pc L (gI a :: st) M := by
  intro hL hS hM ls H locs hl hP hV
  have ha : gR a := gok_c hS
  by_cases h : a < lo' ∨ hi < a
  · exact lv_tableOut (x := g32 a) C.1 C.2.1 d (by rw [g32_toInt ha]; exact h) ht (ko h hL (gok_t hS) hM ls H locs hl hP hV)
  · obtain ⟨off, t', h1, h2, h3⟩ := ki (by omega) (by omega)
    exact lv_tableIn (x := g32 a) C.1 C.2.1 d (by rw [g32_toInt ha]; omega) (by rw [g32_toInt ha]; omega) (by rw [g32_toInt ha]; exact h1) h2 (h3 hL (gok_t hS) hM ls H locs hl hP hV)
end GI2
end
