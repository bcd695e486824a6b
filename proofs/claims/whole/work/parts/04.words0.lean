def lw_good : List Cond := lw_tbl.filter goodWord
theorem wd_0 : Cond.selects "BunchNotes" ⟨"BunchNotes", "readText", "()I"⟩ ⟨"BunchNotes", "readText", "()I"⟩ ∈ lw_good := List.mem_filter.mpr ⟨List.mem_of_getElem? (i := 0) (by decide +kernel), rfl⟩
theorem wd_1 : Cond.selects "BunchNotes$Text" ⟨"BunchNotes$Text", "pass", "()V"⟩ ⟨"BunchNotes$Text", "pass", "()V"⟩ ∈ lw_good := List.mem_filter.mpr ⟨List.mem_of_getElem? (i := 1) (by decide +kernel), rfl⟩
theorem wd_2 : Cond.selects "BunchNotes$Text" ⟨"BunchNotes$Text", "kindAt", "(I)I"⟩ ⟨"BunchNotes$Text", "kindAt", "(I)I"⟩ ∈ lw_good := List.mem_filter.mpr ⟨List.mem_of_getElem? (i := 2) (by decide +kernel), rfl⟩
theorem wd_3 : Cond.selects "BunchNotes$Text" ⟨"BunchNotes$Text", "readClause", "(LBunchNotes$Net;)Z"⟩ ⟨"BunchNotes$Text", "readClause", "(LBunchNotes$Net;)Z"⟩ ∈ lw_good := List.mem_filter.mpr ⟨List.mem_of_getElem? (i := 3) (by decide +kernel), rfl⟩
theorem wd_4 : Cond.selects "BunchNotes$Text" ⟨"BunchNotes$Text", "isWord", "(Ljava/lang/String;)Z"⟩ ⟨"BunchNotes$Text", "isWord", "(Ljava/lang/String;)Z"⟩ ∈ lw_good := List.mem_filter.mpr ⟨List.mem_of_getElem? (i := 4) (by decide +kernel), rfl⟩
theorem wd_5 : Cond.selects "BunchNotes$Text" ⟨"BunchNotes$Text", "readNet", "(LBunchNotes$Net;)Z"⟩ ⟨"BunchNotes$Text", "readNet", "(LBunchNotes$Net;)Z"⟩ ∈ lw_good := List.mem_filter.mpr ⟨List.mem_of_getElem? (i := 5) (by decide +kernel), rfl⟩
theorem wd_6 : Cond.selects "BunchNotes$Text" ⟨"BunchNotes$Text", "number", "(II)I"⟩ ⟨"BunchNotes$Text", "number", "(II)I"⟩ ∈ lw_good := List.mem_filter.mpr ⟨List.mem_of_getElem? (i := 6) (by decide +kernel), rfl⟩
theorem wd_7 : Cond.selects "BunchNotes$Text" ⟨"BunchNotes$Text", "readLink", "(LBunchNotes$Net;)Z"⟩ ⟨"BunchNotes$Text", "readLink", "(LBunchNotes$Net;)Z"⟩ ∈ lw_good := List.mem_filter.mpr ⟨List.mem_of_getElem? (i := 7) (by decide +kernel), rfl⟩
theorem wd_8 : Cond.selects "BunchNotes$Text" ⟨"BunchNotes$Text", "readLevel", "(LBunchNotes$Net;)Z"⟩ ⟨"BunchNotes$Text", "readLevel", "(LBunchNotes$Net;)Z"⟩ ∈ lw_good := List.mem_filter.mpr ⟨List.mem_of_getElem? (i := 8) (by decide +kernel), rfl⟩
theorem wd_9 : Cond.selects "BunchNotes$Text" ⟨"BunchNotes$Text", "isSemicolon", "()Z"⟩ ⟨"BunchNotes$Text", "isSemicolon", "()Z"⟩ ∈ lw_good := List.mem_filter.mpr ⟨List.mem_of_getElem? (i := 9) (by decide +kernel), rfl⟩
theorem wd_10 : Cond.selects "BunchNotes" ⟨"BunchNotes", "blankAll", "()V"⟩ ⟨"BunchNotes", "blankAll", "()V"⟩ ∈ lw_good := List.mem_filter.mpr ⟨List.mem_of_getElem? (i := 10) (by decide +kernel), rfl⟩
theorem wd_11 : Cond.selects "BunchNotes" ⟨"BunchNotes", "forgetSlots", "()V"⟩ ⟨"BunchNotes", "forgetSlots", "()V"⟩ ∈ lw_good := List.mem_filter.mpr ⟨List.mem_of_getElem? (i := 11) (by decide +kernel), rfl⟩
theorem wd_12 : Cond.selects "BunchNotes" ⟨"BunchNotes", "bothThere", "(II)Z"⟩ ⟨"BunchNotes", "bothThere", "(II)Z"⟩ ∈ lw_good := List.mem_filter.mpr ⟨List.mem_of_getElem? (i := 12) (by decide +kernel), rfl⟩
theorem wd_13 : Cond.selects "BunchNotes$Thinning" ⟨"BunchNotes$Thinning", "sortLinks", "(LBunchNotes$Net;)V"⟩ ⟨"BunchNotes$Thinning", "sortLinks", "(LBunchNotes$Net;)V"⟩ ∈ lw_good := List.mem_filter.mpr ⟨List.mem_of_getElem? (i := 13) (by decide +kernel), rfl⟩
theorem wd_14 : Cond.selects "BunchNotes$Thinning" ⟨"BunchNotes$Thinning", "insert", "(LBunchNotes$Net;II)V"⟩ ⟨"BunchNotes$Thinning", "insert", "(LBunchNotes$Net;II)V"⟩ ∈ lw_good := List.mem_filter.mpr ⟨List.mem_of_getElem? (i := 14) (by decide +kernel), rfl⟩
theorem wd_15 : Cond.selects "BunchNotes$Thinning" ⟨"BunchNotes$Thinning", "lengthAt", "(LBunchNotes$Net;I)I"⟩ ⟨"BunchNotes$Thinning", "lengthAt", "(LBunchNotes$Net;I)I"⟩ ∈ lw_good := List.mem_filter.mpr ⟨List.mem_of_getElem? (i := 15) (by decide +kernel), rfl⟩
theorem wd_16 : Cond.selects "BunchNotes$Thinning" ⟨"BunchNotes$Thinning", "clear", "(I)V"⟩ ⟨"BunchNotes$Thinning", "clear", "(I)V"⟩ ∈ lw_good := List.mem_filter.mpr ⟨List.mem_of_getElem? (i := 16) (by decide +kernel), rfl⟩
theorem wd_17 : Cond.selects "BunchNotes$Thinning" ⟨"BunchNotes$Thinning", "take", "(III)V"⟩ ⟨"BunchNotes$Thinning", "take", "(III)V"⟩ ∈ lw_good := List.mem_filter.mpr ⟨List.mem_of_getElem? (i := 17) (by decide +kernel), rfl⟩
theorem wd_18 : Cond.selects "BunchNotes" ⟨"BunchNotes", "writtenNotes", "()I"⟩ ⟨"BunchNotes", "writtenNotes", "()I"⟩ ∈ lw_good := List.mem_filter.mpr ⟨List.mem_of_getElem? (i := 18) (by decide +kernel), rfl⟩
theorem wd_19 : Cond.selects "BunchNotes" ⟨"BunchNotes", "writeDraft", "(I)V"⟩ ⟨"BunchNotes", "writeDraft", "(I)V"⟩ ∈ lw_good := List.mem_filter.mpr ⟨List.mem_of_getElem? (i := 19) (by decide +kernel), rfl⟩
theorem wd_20 : Cond.selects "BunchNotes$Note" ⟨"BunchNotes$Note", "findNearest", "(LBunchNotes$Net;LBunchNotes$Far;II)V"⟩ ⟨"BunchNotes$Note", "findNearest", "(LBunchNotes$Net;LBunchNotes$Far;II)V"⟩ ∈ lw_good := List.mem_filter.mpr ⟨List.mem_of_getElem? (i := 20) (by decide +kernel), rfl⟩
theorem wd_21 : Cond.selects "BunchNotes$Note" ⟨"BunchNotes$Note", "isNear", "(II)Z"⟩ ⟨"BunchNotes$Note", "isNear", "(II)Z"⟩ ∈ lw_good := List.mem_filter.mpr ⟨List.mem_of_getElem? (i := 21) (by decide +kernel), rfl⟩
theorem wd_22 : Cond.selects "BunchNotes" ⟨"BunchNotes", "clusterOf", "(I)I"⟩ ⟨"BunchNotes", "clusterOf", "(I)I"⟩ ∈ lw_good := List.mem_filter.mpr ⟨List.mem_of_getElem? (i := 22) (by decide +kernel), rfl⟩
theorem wd_23 : Cond.selects "BunchNotes" ⟨"BunchNotes", "stepTowards", "(II)I"⟩ ⟨"BunchNotes", "stepTowards", "(II)I"⟩ ∈ lw_good := List.mem_filter.mpr ⟨List.mem_of_getElem? (i := 23) (by decide +kernel), rfl⟩
theorem wd_24 : Cond.selects "BunchNotes" ⟨"BunchNotes", "weighThinned", "(I)V"⟩ ⟨"BunchNotes", "weighThinned", "(I)V"⟩ ∈ lw_good := List.mem_filter.mpr ⟨List.mem_of_getElem? (i := 24) (by decide +kernel), rfl⟩
theorem wd_25 : Cond.selects "BunchNotes" ⟨"BunchNotes", "isFresh", "(I)Z"⟩ ⟨"BunchNotes", "isFresh", "(I)Z"⟩ ∈ lw_good := List.mem_filter.mpr ⟨List.mem_of_getElem? (i := 25) (by decide +kernel), rfl⟩
theorem wd_26 : Cond.selects "BunchNotes$Telling" ⟨"BunchNotes$Telling", "look", "([LBunchNotes$Note;II)I"⟩ ⟨"BunchNotes$Telling", "look", "([LBunchNotes$Note;II)I"⟩ ∈ lw_good := List.mem_filter.mpr ⟨List.mem_of_getElem? (i := 26) (by decide +kernel), rfl⟩
theorem wd_27 : Cond.selects "BunchNotes" ⟨"BunchNotes", "stepsBetween", "(II)I"⟩ ⟨"BunchNotes", "stepsBetween", "(II)I"⟩ ∈ lw_good := List.mem_filter.mpr ⟨List.mem_of_getElem? (i := 27) (by decide +kernel), rfl⟩
theorem wd_28 : Cond.selects "BunchNotes" ⟨"BunchNotes", "nodeAfter", "(III)I"⟩ ⟨"BunchNotes", "nodeAfter", "(III)I"⟩ ∈ lw_good := List.mem_filter.mpr ⟨List.mem_of_getElem? (i := 28) (by decide +kernel), rfl⟩
theorem wd_29 : Cond.selects "BunchNotes" ⟨"BunchNotes", "weighTold", "()I"⟩ ⟨"BunchNotes", "weighTold", "()I"⟩ ∈ lw_good := List.mem_filter.mpr ⟨List.mem_of_getElem? (i := 29) (by decide +kernel), rfl⟩
theorem wd_30 : Cond.selects "BunchNotes" ⟨"BunchNotes", "parts", "()I"⟩ ⟨"BunchNotes", "parts", "()I"⟩ ∈ lw_good := List.mem_filter.mpr ⟨List.mem_of_getElem? (i := 30) (by decide +kernel), rfl⟩
theorem wd_31 : Cond.selects "BunchNotes" ⟨"BunchNotes", "freshNotes", "()I"⟩ ⟨"BunchNotes", "freshNotes", "()I"⟩ ∈ lw_good := List.mem_filter.mpr ⟨List.mem_of_getElem? (i := 31) (by decide +kernel), rfl⟩
theorem wd_32 : Cond.selects "BunchNotes" ⟨"BunchNotes", "nodesInNotes", "()I"⟩ ⟨"BunchNotes", "nodesInNotes", "()I"⟩ ∈ lw_good := List.mem_filter.mpr ⟨List.mem_of_getElem? (i := 32) (by decide +kernel), rfl⟩
theorem wd_33 : Cond.selects "BunchNotesModel" ⟨"BunchNotesModel", "reads", "(Z)Z"⟩ ⟨"BunchNotesModel", "reads", "(Z)Z"⟩ ∈ lw_good := List.mem_filter.mpr ⟨List.mem_of_getElem? (i := 33) (by decide +kernel), rfl⟩
theorem wd_34 : Cond.selects "BunchNotesModel" ⟨"BunchNotesModel", "links", "()I"⟩ ⟨"BunchNotesModel", "links", "()I"⟩ ∈ lw_good := List.mem_filter.mpr ⟨List.mem_of_getElem? (i := 34) (by decide +kernel), rfl⟩
theorem wd_35 : Cond.selects "BunchNotesModel" ⟨"BunchNotesModel", "nextToken", "()V"⟩ ⟨"BunchNotesModel", "nextToken", "()V"⟩ ∈ lw_good := List.mem_filter.mpr ⟨List.mem_of_getElem? (i := 35) (by decide +kernel), rfl⟩
theorem wd_36 : Cond.selects "BunchNotesModel" ⟨"BunchNotesModel", "readsClause", "()Z"⟩ ⟨"BunchNotesModel", "readsClause", "()Z"⟩ ∈ lw_good := List.mem_filter.mpr ⟨List.mem_of_getElem? (i := 36) (by decide +kernel), rfl⟩
theorem wd_37 : Cond.selects "BunchNotesModel" ⟨"BunchNotesModel", "wordHere", "()I"⟩ ⟨"BunchNotesModel", "wordHere", "()I"⟩ ∈ lw_good := List.mem_filter.mpr ⟨List.mem_of_getElem? (i := 37) (by decide +kernel), rfl⟩
theorem wd_38 : Cond.selects "BunchNotesModel" ⟨"BunchNotesModel", "number", "(III)Z"⟩ ⟨"BunchNotesModel", "number", "(III)Z"⟩ ∈ lw_good := List.mem_filter.mpr ⟨List.mem_of_getElem? (i := 38) (by decide +kernel), rfl⟩
theorem wd_39 : Cond.selects "BunchNotesModel" ⟨"BunchNotesModel", "numberHere", "()I"⟩ ⟨"BunchNotesModel", "numberHere", "()I"⟩ ∈ lw_good := List.mem_filter.mpr ⟨List.mem_of_getElem? (i := 39) (by decide +kernel), rfl⟩
theorem wd_40 : Cond.selects "BunchNotesModel" ⟨"BunchNotesModel", "otherNode", "()Z"⟩ ⟨"BunchNotesModel", "otherNode", "()Z"⟩ ∈ lw_good := List.mem_filter.mpr ⟨List.mem_of_getElem? (i := 40) (by decide +kernel), rfl⟩
theorem wd_41 : Cond.selects "BunchNotesModel" ⟨"BunchNotesModel", "tellsNet", "()V"⟩ ⟨"BunchNotesModel", "tellsNet", "()V"⟩ ∈ lw_good := List.mem_filter.mpr ⟨List.mem_of_getElem? (i := 41) (by decide +kernel), rfl⟩
theorem wd_42 : Cond.selects "BunchNotesModel" ⟨"BunchNotesModel", "tellsLink", "()V"⟩ ⟨"BunchNotesModel", "tellsLink", "()V"⟩ ∈ lw_good := List.mem_filter.mpr ⟨List.mem_of_getElem? (i := 42) (by decide +kernel), rfl⟩
theorem wd_43 : Cond.selects "BunchNotesModel" ⟨"BunchNotesModel", "does", "(I)V"⟩ ⟨"BunchNotesModel", "does", "(I)V"⟩ ∈ lw_good := List.mem_filter.mpr ⟨List.mem_of_getElem? (i := 43) (by decide +kernel), rfl⟩
theorem wd_44 : Cond.selects "BunchNotesModel" ⟨"BunchNotesModel", "lies", "(III)V"⟩ ⟨"BunchNotesModel", "lies", "(III)V"⟩ ∈ lw_good := List.mem_filter.mpr ⟨List.mem_of_getElem? (i := 44) (by decide +kernel), rfl⟩
theorem wd_45 : Cond.selects "BunchNotesModel" ⟨"BunchNotesModel", "pairOf", "(I)I"⟩ ⟨"BunchNotesModel", "pairOf", "(I)I"⟩ ∈ lw_good := List.mem_filter.mpr ⟨List.mem_of_getElem? (i := 45) (by decide +kernel), rfl⟩
theorem wd_46 : Cond.selects "BunchNotesModel" ⟨"BunchNotesModel", "isNode", "(I)Z"⟩ ⟨"BunchNotesModel", "isNode", "(I)Z"⟩ ∈ lw_good := List.mem_filter.mpr ⟨List.mem_of_getElem? (i := 46) (by decide +kernel), rfl⟩
theorem wd_47 : Cond.selects "BunchNotesModel" ⟨"BunchNotesModel", "finds", "(Z)V"⟩ ⟨"BunchNotesModel", "finds", "(Z)V"⟩ ∈ lw_good := List.mem_filter.mpr ⟨List.mem_of_getElem? (i := 47) (by decide +kernel), rfl⟩
theorem wd_48 : Cond.selects "BunchNotesModel" ⟨"BunchNotesModel", "isWay", "(II)Z"⟩ ⟨"BunchNotesModel", "isWay", "(II)Z"⟩ ∈ lw_good := List.mem_filter.mpr ⟨List.mem_of_getElem? (i := 48) (by decide +kernel), rfl⟩
theorem wd_49 : Cond.selects "BunchNotesModel" ⟨"BunchNotesModel", "nearestOf", "(II)I"⟩ ⟨"BunchNotesModel", "nearestOf", "(II)I"⟩ ∈ lw_good := List.mem_filter.mpr ⟨List.mem_of_getElem? (i := 49) (by decide +kernel), rfl⟩
theorem wd_50 : Cond.selects "BunchNotesModel" ⟨"BunchNotesModel", "bunchOf", "(I)I"⟩ ⟨"BunchNotesModel", "bunchOf", "(I)I"⟩ ∈ lw_good := List.mem_filter.mpr ⟨List.mem_of_getElem? (i := 50) (by decide +kernel), rfl⟩
theorem wd_51 : Cond.selects "BunchNotesModel" ⟨"BunchNotesModel", "isInBunch", "(II)Z"⟩ ⟨"BunchNotesModel", "isInBunch", "(II)Z"⟩ ∈ lw_good := List.mem_filter.mpr ⟨List.mem_of_getElem? (i := 51) (by decide +kernel), rfl⟩
theorem wd_52 : Cond.selects "BunchNotesModel" ⟨"BunchNotesModel", "nextOf", "(II)I"⟩ ⟨"BunchNotesModel", "nextOf", "(II)I"⟩ ∈ lw_good := List.mem_filter.mpr ⟨List.mem_of_getElem? (i := 52) (by decide +kernel), rfl⟩
theorem wd_53 : Cond.selects "BunchNotesModel" ⟨"BunchNotesModel", "length", "(II)I"⟩ ⟨"BunchNotesModel", "length", "(II)I"⟩ ∈ lw_good := List.mem_filter.mpr ⟨List.mem_of_getElem? (i := 53) (by decide +kernel), rfl⟩
theorem wd_54 : Cond.selects "BunchNotesModel" ⟨"BunchNotesModel", "thins", "(I)V"⟩ ⟨"BunchNotesModel", "thins", "(I)V"⟩ ∈ lw_good := List.mem_filter.mpr ⟨List.mem_of_getElem? (i := 54) (by decide +kernel), rfl⟩
theorem wd_55 : Cond.selects "BunchNotesModel" ⟨"BunchNotesModel", "takes", "(II)V"⟩ ⟨"BunchNotesModel", "takes", "(II)V"⟩ ∈ lw_good := List.mem_filter.mpr ⟨List.mem_of_getElem? (i := 55) (by decide +kernel), rfl⟩
theorem wd_56 : Cond.selects "BunchNotesModel" ⟨"BunchNotesModel", "keepPast", "()V"⟩ ⟨"BunchNotesModel", "keepPast", "()V"⟩ ∈ lw_good := List.mem_filter.mpr ⟨List.mem_of_getElem? (i := 56) (by decide +kernel), rfl⟩
theorem wd_57 : Cond.selects "BunchNotesModel" ⟨"BunchNotesModel", "copyRow", "(II)V"⟩ ⟨"BunchNotesModel", "copyRow", "(II)V"⟩ ∈ lw_good := List.mem_filter.mpr ⟨List.mem_of_getElem? (i := 57) (by decide +kernel), rfl⟩
theorem wd_58 : Cond.selects "BunchNotesModel" ⟨"BunchNotesModel", "written", "()I"⟩ ⟨"BunchNotesModel", "written", "()I"⟩ ∈ lw_good := List.mem_filter.mpr ⟨List.mem_of_getElem? (i := 58) (by decide +kernel), rfl⟩
theorem wd_59 : Cond.selects "BunchNotesModel" ⟨"BunchNotesModel", "isWritten", "(I)Z"⟩ ⟨"BunchNotesModel", "isWritten", "(I)Z"⟩ ∈ lw_good := List.mem_filter.mpr ⟨List.mem_of_getElem? (i := 59) (by decide +kernel), rfl⟩
theorem wd_60 : Cond.selects "BunchNotesModel" ⟨"BunchNotesModel", "writes", "(I)V"⟩ ⟨"BunchNotesModel", "writes", "(I)V"⟩ ∈ lw_good := List.mem_filter.mpr ⟨List.mem_of_getElem? (i := 60) (by decide +kernel), rfl⟩
theorem wd_61 : Cond.selects "BunchNotesModel" ⟨"BunchNotesModel", "freshens", "(I)V"⟩ ⟨"BunchNotesModel", "freshens", "(I)V"⟩ ∈ lw_good := List.mem_filter.mpr ⟨List.mem_of_getElem? (i := 61) (by decide +kernel), rfl⟩
theorem wd_62 : Cond.selects "BunchNotesModel" ⟨"BunchNotesModel", "isFresh", "(I)Z"⟩ ⟨"BunchNotesModel", "isFresh", "(I)Z"⟩ ∈ lw_good := List.mem_filter.mpr ⟨List.mem_of_getElem? (i := 62) (by decide +kernel), rfl⟩
theorem wd_63 : Cond.selects "BunchNotesModel" ⟨"BunchNotesModel", "tells", "(II)Z"⟩ ⟨"BunchNotesModel", "tells", "(II)Z"⟩ ∈ lw_good := List.mem_filter.mpr ⟨List.mem_of_getElem? (i := 63) (by decide +kernel), rfl⟩
theorem wd_64 : Cond.selects "BunchNotesModel" ⟨"BunchNotesModel", "untold", "(II)Z"⟩ ⟨"BunchNotesModel", "untold", "(II)Z"⟩ ∈ lw_good := List.mem_filter.mpr ⟨List.mem_of_getElem? (i := 64) (by decide +kernel), rfl⟩
theorem wd_65 : Cond.selects "BunchNotesModel" ⟨"BunchNotesModel", "parts", "()I"⟩ ⟨"BunchNotesModel", "parts", "()I"⟩ ∈ lw_good := List.mem_filter.mpr ⟨List.mem_of_getElem? (i := 65) (by decide +kernel), rfl⟩
theorem wd_66 : Cond.selects "BunchNotesModel" ⟨"BunchNotesModel", "freshNotes", "()I"⟩ ⟨"BunchNotesModel", "freshNotes", "()I"⟩ ∈ lw_good := List.mem_filter.mpr ⟨List.mem_of_getElem? (i := 66) (by decide +kernel), rfl⟩
theorem wd_67 : Cond.selects "BunchNotesModel" ⟨"BunchNotesModel", "inBunches", "()I"⟩ ⟨"BunchNotesModel", "inBunches", "()I"⟩ ∈ lw_good := List.mem_filter.mpr ⟨List.mem_of_getElem? (i := 67) (by decide +kernel), rfl⟩
theorem wd_68 : Cond.selects "BunchNotesModel" ⟨"BunchNotesModel", "ofLevel", "(I)I"⟩ ⟨"BunchNotesModel", "ofLevel", "(I)I"⟩ ∈ lw_good := List.mem_filter.mpr ⟨List.mem_of_getElem? (i := 68) (by decide +kernel), rfl⟩
theorem wd_69 : (Jvm.Cond.initialized "BunchNotesLaw") ∈ lw_good := List.mem_filter.mpr ⟨List.mem_of_getElem? (i := 69) (by decide +kernel), rfl⟩
theorem wd_70 : (Jvm.Cond.initialized "BunchNotes") ∈ lw_good := List.mem_filter.mpr ⟨List.mem_of_getElem? (i := 70) (by decide +kernel), rfl⟩
theorem wd_71 : (Jvm.Cond.initialized "BunchNotes$Net") ∈ lw_good := List.mem_filter.mpr ⟨List.mem_of_getElem? (i := 71) (by decide +kernel), rfl⟩
theorem wd_72 : (Jvm.Cond.initialized "BunchNotes$Text") ∈ lw_good := List.mem_filter.mpr ⟨List.mem_of_getElem? (i := 72) (by decide +kernel), rfl⟩
theorem wd_73 : (Jvm.Cond.initialized "BunchNotes$Past") ∈ lw_good := List.mem_filter.mpr ⟨List.mem_of_getElem? (i := 73) (by decide +kernel), rfl⟩
theorem wd_74 : (Jvm.Cond.initialized "BunchNotes$Note") ∈ lw_good := List.mem_filter.mpr ⟨List.mem_of_getElem? (i := 74) (by decide +kernel), rfl⟩
theorem wd_75 : (Jvm.Cond.initialized "BunchNotes$Slot") ∈ lw_good := List.mem_filter.mpr ⟨List.mem_of_getElem? (i := 75) (by decide +kernel), rfl⟩
theorem wd_76 : (Jvm.Cond.initialized "BunchNotes$Far") ∈ lw_good := List.mem_filter.mpr ⟨List.mem_of_getElem? (i := 76) (by decide +kernel), rfl⟩
theorem wd_77 : (Jvm.Cond.initialized "BunchNotes$Thinning") ∈ lw_good := List.mem_filter.mpr ⟨List.mem_of_getElem? (i := 77) (by decide +kernel), rfl⟩
theorem wd_78 : (Jvm.Cond.initialized "BunchNotes$Telling") ∈ lw_good := List.mem_filter.mpr ⟨List.mem_of_getElem? (i := 78) (by decide +kernel), rfl⟩
theorem wd_79 : (Jvm.Cond.initialized "BunchNotes$Peak") ∈ lw_good := List.mem_filter.mpr ⟨List.mem_of_getElem? (i := 79) (by decide +kernel), rfl⟩
theorem wd_80 : (Jvm.Cond.initialized "BunchNotesModel") ∈ lw_good := List.mem_filter.mpr ⟨List.mem_of_getElem? (i := 80) (by decide +kernel), rfl⟩
theorem wd_81 : (Jvm.Cond.initialized "java/lang/System") ∈ lw_good := List.mem_filter.mpr ⟨List.mem_of_getElem? (i := 81) (by decide +kernel), rfl⟩
theorem wd_82 : (Jvm.Cond.initialized "java/lang/String") ∈ lw_good := List.mem_filter.mpr ⟨List.mem_of_getElem? (i := 82) (by decide +kernel), rfl⟩
theorem wd_83 : (Jvm.Cond.initialized "java/lang/StringLatin1") ∈ lw_good := List.mem_filter.mpr ⟨List.mem_of_getElem? (i := 83) (by decide +kernel), rfl⟩
theorem wd_84 : (Jvm.Cond.initialized "jdk/internal/util/Preconditions") ∈ lw_good := List.mem_filter.mpr ⟨List.mem_of_getElem? (i := 84) (by decide +kernel), rfl⟩
theorem wd_85 : (Jvm.Cond.initialized "java/lang/StringUTF16") ∈ lw_good := List.mem_filter.mpr ⟨List.mem_of_getElem? (i := 85) (by decide +kernel), rfl⟩
theorem wd_86 : (Jvm.Cond.initialized "java/util/Arrays") ∈ lw_good := List.mem_filter.mpr ⟨List.mem_of_getElem? (i := 86) (by decide +kernel), rfl⟩
theorem wd_87 : (Jvm.Cond.initialized "java/lang/Math") ∈ lw_good := List.mem_filter.mpr ⟨List.mem_of_getElem? (i := 87) (by decide +kernel), rfl⟩
theorem wd_88 : (Jvm.Cond.initialized "java/lang/Integer") ∈ lw_good := List.mem_filter.mpr ⟨List.mem_of_getElem? (i := 88) (by decide +kernel), rfl⟩
theorem wd_89 : (Jvm.Cond.classLink "BunchNotesLaw" (7 : Nat) "BunchNotes") ∈ lw_good := List.mem_filter.mpr ⟨List.mem_of_getElem? (i := 89) (by decide +kernel), rfl⟩
theorem wd_90 : (Jvm.Cond.instantiable "BunchNotes" (11 : Nat)) ∈ lw_good := List.mem_filter.mpr ⟨List.mem_of_getElem? (i := 90) (by decide +kernel), rfl⟩
theorem wd_91 : (Jvm.Cond.methodLink "BunchNotesLaw" (9 : Nat) ({ cls := "BunchNotes", name := "<init>", desc := "()V" } : Jvm.MethodName)) ∈ lw_good := List.mem_filter.mpr ⟨List.mem_of_getElem? (i := 91) (by decide +kernel), rfl⟩
theorem wd_92 : (Jvm.Cond.instanceMethod ({ cls := "BunchNotes", name := "<init>", desc := "()V" } : Jvm.MethodName)) ∈ lw_good := List.mem_filter.mpr ⟨List.mem_of_getElem? (i := 92) (by decide +kernel), rfl⟩
theorem wd_93 : (Jvm.Cond.code ({ cls := "BunchNotes", name := "<init>", desc := "()V" } : Jvm.MethodName) prog_1_method_1_code (2 : Nat) (Option.none : Option Jvm.ClassFile.FieldType)) ∈ lw_good := List.mem_filter.mpr ⟨List.mem_of_getElem? (i := 93) (by decide +kernel), rfl⟩
theorem wd_94 : (Jvm.Cond.methodLink "BunchNotes" (1 : Nat) ({ cls := "java/lang/Object", name := "<init>", desc := "()V" } : Jvm.MethodName)) ∈ lw_good := List.mem_filter.mpr ⟨List.mem_of_getElem? (i := 94) (by decide +kernel), rfl⟩
theorem wd_95 : (Jvm.Cond.instanceMethod ({ cls := "java/lang/Object", name := "<init>", desc := "()V" } : Jvm.MethodName)) ∈ lw_good := List.mem_filter.mpr ⟨List.mem_of_getElem? (i := 95) (by decide +kernel), rfl⟩
theorem wd_96 : (Jvm.Cond.code ({ cls := "java/lang/Object", name := "<init>", desc := "()V" } : Jvm.MethodName) object_method_1_code (1 : Nat) (Option.none : Option Jvm.ClassFile.FieldType)) ∈ lw_good := List.mem_filter.mpr ⟨List.mem_of_getElem? (i := 96) (by decide +kernel), rfl⟩
theorem wd_97 : (Jvm.Cond.classLink "BunchNotes" (7 : Nat) "BunchNotes$Net") ∈ lw_good := List.mem_filter.mpr ⟨List.mem_of_getElem? (i := 97) (by decide +kernel), rfl⟩
theorem wd_98 : (Jvm.Cond.instantiable "BunchNotes$Net" (6 : Nat)) ∈ lw_good := List.mem_filter.mpr ⟨List.mem_of_getElem? (i := 98) (by decide +kernel), rfl⟩
theorem wd_99 : (Jvm.Cond.methodLink "BunchNotes" (9 : Nat) ({ cls := "BunchNotes$Net", name := "<init>", desc := "()V" } : Jvm.MethodName)) ∈ lw_good := List.mem_filter.mpr ⟨List.mem_of_getElem? (i := 99) (by decide +kernel), rfl⟩
theorem wd_100 : (Jvm.Cond.instanceMethod ({ cls := "BunchNotes$Net", name := "<init>", desc := "()V" } : Jvm.MethodName)) ∈ lw_good := List.mem_filter.mpr ⟨List.mem_of_getElem? (i := 100) (by decide +kernel), rfl⟩
theorem wd_101 : (Jvm.Cond.code ({ cls := "BunchNotes$Net", name := "<init>", desc := "()V" } : Jvm.MethodName) prog_3_method_1_code (1 : Nat) (Option.none : Option Jvm.ClassFile.FieldType)) ∈ lw_good := List.mem_filter.mpr ⟨List.mem_of_getElem? (i := 101) (by decide +kernel), rfl⟩
theorem wd_102 : (Jvm.Cond.methodLink "BunchNotes$Net" (3 : Nat) ({ cls := "java/lang/Object", name := "<init>", desc := "()V" } : Jvm.MethodName)) ∈ lw_good := List.mem_filter.mpr ⟨List.mem_of_getElem? (i := 102) (by decide +kernel), rfl⟩
theorem wd_103 : (Jvm.Cond.fieldLink "BunchNotes$Net" (9 : Nat) "BunchNotes$Net" "nodes" "I") ∈ lw_good := List.mem_filter.mpr ⟨List.mem_of_getElem? (i := 103) (by decide +kernel), rfl⟩
theorem wd_104 : (Jvm.Cond.fieldLink "BunchNotes$Far" (25 : Nat) "BunchNotes$Net" "nodes" "I") ∈ lw_good := List.mem_filter.mpr ⟨List.mem_of_getElem? (i := 104) (by decide +kernel), rfl⟩
theorem wd_105 : (Jvm.Cond.fieldLink "BunchNotes$Thinning" (41 : Nat) "BunchNotes$Net" "nodes" "I") ∈ lw_good := List.mem_filter.mpr ⟨List.mem_of_getElem? (i := 105) (by decide +kernel), rfl⟩
theorem wd_106 : (Jvm.Cond.fieldLink "BunchNotes$Text" (75 : Nat) "BunchNotes$Net" "nodes" "I") ∈ lw_good := List.mem_filter.mpr ⟨List.mem_of_getElem? (i := 106) (by decide +kernel), rfl⟩
theorem wd_107 : (Jvm.Cond.fieldLink "BunchNotes$Note" (52 : Nat) "BunchNotes$Net" "nodes" "I") ∈ lw_good := List.mem_filter.mpr ⟨List.mem_of_getElem? (i := 107) (by decide +kernel), rfl⟩
theorem wd_108 : (Jvm.Cond.fieldLink "BunchNotes" (152 : Nat) "BunchNotes$Net" "nodes" "I") ∈ lw_good := List.mem_filter.mpr ⟨List.mem_of_getElem? (i := 108) (by decide +kernel), rfl⟩
theorem wd_109 : (Jvm.Cond.fieldLink "BunchNotes$Net" (36 : Nat) "BunchNotes$Net" "links" "I") ∈ lw_good := List.mem_filter.mpr ⟨List.mem_of_getElem? (i := 109) (by decide +kernel), rfl⟩
theorem wd_110 : (Jvm.Cond.fieldLink "BunchNotes" (142 : Nat) "BunchNotes$Net" "links" "I") ∈ lw_good := List.mem_filter.mpr ⟨List.mem_of_getElem? (i := 110) (by decide +kernel), rfl⟩
theorem wd_111 : (Jvm.Cond.fieldLink "BunchNotes$Net" (15 : Nat) "BunchNotes$Net" "draw" "I") ∈ lw_good := List.mem_filter.mpr ⟨List.mem_of_getElem? (i := 111) (by decide +kernel), rfl⟩
theorem wd_112 : (Jvm.Cond.fieldLink "BunchNotes" (281 : Nat) "BunchNotes$Net" "draw" "I") ∈ lw_good := List.mem_filter.mpr ⟨List.mem_of_getElem? (i := 112) (by decide +kernel), rfl⟩
theorem wd_113 : (Jvm.Cond.fieldLink "BunchNotes$Net" (18 : Nat) "BunchNotes$Net" "version" "I") ∈ lw_good := List.mem_filter.mpr ⟨List.mem_of_getElem? (i := 113) (by decide +kernel), rfl⟩
theorem wd_114 : (Jvm.Cond.fieldLink "BunchNotes$Far" (20 : Nat) "BunchNotes$Net" "version" "I") ∈ lw_good := List.mem_filter.mpr ⟨List.mem_of_getElem? (i := 114) (by decide +kernel), rfl⟩
theorem wd_115 : (Jvm.Cond.fieldLink "BunchNotes$Thinning" (29 : Nat) "BunchNotes$Net" "version" "I") ∈ lw_good := List.mem_filter.mpr ⟨List.mem_of_getElem? (i := 115) (by decide +kernel), rfl⟩
theorem wd_116 : (Jvm.Cond.fieldLink "BunchNotes$Net" (21 : Nat) "BunchNotes$Net" "lengths" "[I") ∈ lw_good := List.mem_filter.mpr ⟨List.mem_of_getElem? (i := 116) (by decide +kernel), rfl⟩
theorem wd_117 : (Jvm.Cond.fieldLink "BunchNotes$Net" (25 : Nat) "BunchNotes$Net" "levels" "[I") ∈ lw_good := List.mem_filter.mpr ⟨List.mem_of_getElem? (i := 117) (by decide +kernel), rfl⟩
theorem wd_118 : (Jvm.Cond.lays "BunchNotes$Net" "BunchNotes$Net" "nodes" "I") ∈ lw_good := List.mem_filter.mpr ⟨List.mem_of_getElem? (i := 118) (by decide +kernel), rfl⟩
theorem wd_119 : (Jvm.Cond.soleField "BunchNotes$Net" "nodes") ∈ lw_good := List.mem_filter.mpr ⟨List.mem_of_getElem? (i := 119) (by decide +kernel), rfl⟩
theorem wd_120 : (Jvm.Cond.lays "BunchNotes$Net" "BunchNotes$Net" "links" "I") ∈ lw_good := List.mem_filter.mpr ⟨List.mem_of_getElem? (i := 120) (by decide +kernel), rfl⟩
theorem wd_121 : (Jvm.Cond.soleField "BunchNotes$Net" "links") ∈ lw_good := List.mem_filter.mpr ⟨List.mem_of_getElem? (i := 121) (by decide +kernel), rfl⟩
theorem wd_122 : (Jvm.Cond.lays "BunchNotes$Net" "BunchNotes$Net" "draw" "I") ∈ lw_good := List.mem_filter.mpr ⟨List.mem_of_getElem? (i := 122) (by decide +kernel), rfl⟩
theorem wd_123 : (Jvm.Cond.soleField "BunchNotes$Net" "draw") ∈ lw_good := List.mem_filter.mpr ⟨List.mem_of_getElem? (i := 123) (by decide +kernel), rfl⟩
theorem wd_124 : (Jvm.Cond.lays "BunchNotes$Net" "BunchNotes$Net" "version" "I") ∈ lw_good := List.mem_filter.mpr ⟨List.mem_of_getElem? (i := 124) (by decide +kernel), rfl⟩
theorem wd_125 : (Jvm.Cond.soleField "BunchNotes$Net" "version") ∈ lw_good := List.mem_filter.mpr ⟨List.mem_of_getElem? (i := 125) (by decide +kernel), rfl⟩
theorem wd_126 : (Jvm.Cond.laysFinal "BunchNotes$Net" "BunchNotes$Net" "lengths" "[I") ∈ lw_good := List.mem_filter.mpr ⟨List.mem_of_getElem? (i := 126) (by decide +kernel), rfl⟩
theorem wd_127 : (Jvm.Cond.soleField "BunchNotes$Net" "lengths") ∈ lw_good := List.mem_filter.mpr ⟨List.mem_of_getElem? (i := 127) (by decide +kernel), rfl⟩
theorem wd_128 : (Jvm.Cond.laysFinal "BunchNotes$Net" "BunchNotes$Net" "levels" "[I") ∈ lw_good := List.mem_filter.mpr ⟨List.mem_of_getElem? (i := 128) (by decide +kernel), rfl⟩
theorem wd_129 : (Jvm.Cond.soleField "BunchNotes$Net" "levels") ∈ lw_good := List.mem_filter.mpr ⟨List.mem_of_getElem? (i := 129) (by decide +kernel), rfl⟩
theorem wd_130 : (Jvm.Cond.superclass "BunchNotes$Net" "java/lang/Object") ∈ lw_good := List.mem_filter.mpr ⟨List.mem_of_getElem? (i := 130) (by decide +kernel), rfl⟩
theorem wd_131 : (Jvm.Cond.arrayClass Jvm.ClassFile.FieldType.int) ∈ lw_good := List.mem_filter.mpr ⟨List.mem_of_getElem? (i := 131) (by decide +kernel), rfl⟩
theorem wd_132 : (Jvm.Cond.classLink "BunchNotes" (19 : Nat) "BunchNotes$Text") ∈ lw_good := List.mem_filter.mpr ⟨List.mem_of_getElem? (i := 132) (by decide +kernel), rfl⟩
theorem wd_133 : (Jvm.Cond.instantiable "BunchNotes$Text" (7 : Nat)) ∈ lw_good := List.mem_filter.mpr ⟨List.mem_of_getElem? (i := 133) (by decide +kernel), rfl⟩
theorem wd_134 : (Jvm.Cond.methodLink "BunchNotes" (21 : Nat) ({ cls := "BunchNotes$Text", name := "<init>", desc := "()V" } : Jvm.MethodName)) ∈ lw_good := List.mem_filter.mpr ⟨List.mem_of_getElem? (i := 134) (by decide +kernel), rfl⟩
theorem wd_135 : (Jvm.Cond.instanceMethod ({ cls := "BunchNotes$Text", name := "<init>", desc := "()V" } : Jvm.MethodName)) ∈ lw_good := List.mem_filter.mpr ⟨List.mem_of_getElem? (i := 135) (by decide +kernel), rfl⟩
theorem wd_136 : (Jvm.Cond.code ({ cls := "BunchNotes$Text", name := "<init>", desc := "()V" } : Jvm.MethodName) prog_9_method_1_code (1 : Nat) (Option.none : Option Jvm.ClassFile.FieldType)) ∈ lw_good := List.mem_filter.mpr ⟨List.mem_of_getElem? (i := 136) (by decide +kernel), rfl⟩
theorem wd_137 : (Jvm.Cond.methodLink "BunchNotes$Text" (3 : Nat) ({ cls := "java/lang/Object", name := "<init>", desc := "()V" } : Jvm.MethodName)) ∈ lw_good := List.mem_filter.mpr ⟨List.mem_of_getElem? (i := 137) (by decide +kernel), rfl⟩
theorem wd_138 : (Jvm.Cond.fieldLink "BunchNotes$Text" (15 : Nat) "BunchNotes$Text" "size" "I") ∈ lw_good := List.mem_filter.mpr ⟨List.mem_of_getElem? (i := 138) (by decide +kernel), rfl⟩
theorem wd_139 : (Jvm.Cond.fieldLink "BunchNotes" (83 : Nat) "BunchNotes$Text" "size" "I") ∈ lw_good := List.mem_filter.mpr ⟨List.mem_of_getElem? (i := 139) (by decide +kernel), rfl⟩
theorem wd_140 : (Jvm.Cond.fieldLink "BunchNotes$Text" (19 : Nat) "BunchNotes$Text" "clauses" "I") ∈ lw_good := List.mem_filter.mpr ⟨List.mem_of_getElem? (i := 140) (by decide +kernel), rfl⟩
theorem wd_141 : (Jvm.Cond.fieldLink "BunchNotes" (110 : Nat) "BunchNotes$Text" "clauses" "I") ∈ lw_good := List.mem_filter.mpr ⟨List.mem_of_getElem? (i := 141) (by decide +kernel), rfl⟩
theorem wd_142 : (Jvm.Cond.fieldLink "BunchNotes$Text" (22 : Nat) "BunchNotes$Text" "startsAnew" "Z") ∈ lw_good := List.mem_filter.mpr ⟨List.mem_of_getElem? (i := 142) (by decide +kernel), rfl⟩
theorem wd_143 : (Jvm.Cond.fieldLink "BunchNotes" (99 : Nat) "BunchNotes$Text" "startsAnew" "Z") ∈ lw_good := List.mem_filter.mpr ⟨List.mem_of_getElem? (i := 143) (by decide +kernel), rfl⟩
theorem wd_144 : (Jvm.Cond.fieldLink "BunchNotes$Text" (39 : Nat) "BunchNotes$Text" "kind" "I") ∈ lw_good := List.mem_filter.mpr ⟨List.mem_of_getElem? (i := 144) (by decide +kernel), rfl⟩
theorem wd_145 : (Jvm.Cond.fieldLink "BunchNotes$Text" (36 : Nat) "BunchNotes$Text" "begin" "I") ∈ lw_good := List.mem_filter.mpr ⟨List.mem_of_getElem? (i := 145) (by decide +kernel), rfl⟩
theorem wd_146 : (Jvm.Cond.fieldLink "BunchNotes$Text" (26 : Nat) "BunchNotes$Text" "end" "I") ∈ lw_good := List.mem_filter.mpr ⟨List.mem_of_getElem? (i := 146) (by decide +kernel), rfl⟩
theorem wd_147 : (Jvm.Cond.fieldLink "BunchNotes$Text" (9 : Nat) "BunchNotes$Text" "letters" "[I") ∈ lw_good := List.mem_filter.mpr ⟨List.mem_of_getElem? (i := 147) (by decide +kernel), rfl⟩
theorem wd_148 : (Jvm.Cond.lays "BunchNotes$Text" "BunchNotes$Text" "size" "I") ∈ lw_good := List.mem_filter.mpr ⟨List.mem_of_getElem? (i := 148) (by decide +kernel), rfl⟩
theorem wd_149 : (Jvm.Cond.soleField "BunchNotes$Text" "size") ∈ lw_good := List.mem_filter.mpr ⟨List.mem_of_getElem? (i := 149) (by decide +kernel), rfl⟩
theorem wd_150 : (Jvm.Cond.lays "BunchNotes$Text" "BunchNotes$Text" "clauses" "I") ∈ lw_good := List.mem_filter.mpr ⟨List.mem_of_getElem? (i := 150) (by decide +kernel), rfl⟩
theorem wd_151 : (Jvm.Cond.soleField "BunchNotes$Text" "clauses") ∈ lw_good := List.mem_filter.mpr ⟨List.mem_of_getElem? (i := 151) (by decide +kernel), rfl⟩
theorem wd_152 : (Jvm.Cond.lays "BunchNotes$Text" "BunchNotes$Text" "startsAnew" "Z") ∈ lw_good := List.mem_filter.mpr ⟨List.mem_of_getElem? (i := 152) (by decide +kernel), rfl⟩
theorem wd_153 : (Jvm.Cond.soleField "BunchNotes$Text" "startsAnew") ∈ lw_good := List.mem_filter.mpr ⟨List.mem_of_getElem? (i := 153) (by decide +kernel), rfl⟩
theorem wd_154 : (Jvm.Cond.lays "BunchNotes$Text" "BunchNotes$Text" "kind" "I") ∈ lw_good := List.mem_filter.mpr ⟨List.mem_of_getElem? (i := 154) (by decide +kernel), rfl⟩
theorem wd_155 : (Jvm.Cond.soleField "BunchNotes$Text" "kind") ∈ lw_good := List.mem_filter.mpr ⟨List.mem_of_getElem? (i := 155) (by decide +kernel), rfl⟩
theorem wd_156 : (Jvm.Cond.lays "BunchNotes$Text" "BunchNotes$Text" "begin" "I") ∈ lw_good := List.mem_filter.mpr ⟨List.mem_of_getElem? (i := 156) (by decide +kernel), rfl⟩
theorem wd_157 : (Jvm.Cond.soleField "BunchNotes$Text" "begin") ∈ lw_good := List.mem_filter.mpr ⟨List.mem_of_getElem? (i := 157) (by decide +kernel), rfl⟩
theorem wd_158 : (Jvm.Cond.lays "BunchNotes$Text" "BunchNotes$Text" "end" "I") ∈ lw_good := List.mem_filter.mpr ⟨List.mem_of_getElem? (i := 158) (by decide +kernel), rfl⟩
theorem wd_159 : (Jvm.Cond.soleField "BunchNotes$Text" "end") ∈ lw_good := List.mem_filter.mpr ⟨List.mem_of_getElem? (i := 159) (by decide +kernel), rfl⟩
theorem wd_160 : (Jvm.Cond.laysFinal "BunchNotes$Text" "BunchNotes$Text" "letters" "[I") ∈ lw_good := List.mem_filter.mpr ⟨List.mem_of_getElem? (i := 160) (by decide +kernel), rfl⟩
theorem wd_161 : (Jvm.Cond.soleField "BunchNotes$Text" "letters") ∈ lw_good := List.mem_filter.mpr ⟨List.mem_of_getElem? (i := 161) (by decide +kernel), rfl⟩
theorem wd_162 : (Jvm.Cond.superclass "BunchNotes$Text" "java/lang/Object") ∈ lw_good := List.mem_filter.mpr ⟨List.mem_of_getElem? (i := 162) (by decide +kernel), rfl⟩
theorem wd_163 : (Jvm.Cond.classLink "BunchNotes" (26 : Nat) "BunchNotes$Past") ∈ lw_good := List.mem_filter.mpr ⟨List.mem_of_getElem? (i := 163) (by decide +kernel), rfl⟩
theorem wd_164 : (Jvm.Cond.instantiable "BunchNotes$Past" (3 : Nat)) ∈ lw_good := List.mem_filter.mpr ⟨List.mem_of_getElem? (i := 164) (by decide +kernel), rfl⟩
theorem wd_165 : (Jvm.Cond.methodLink "BunchNotes" (28 : Nat) ({ cls := "BunchNotes$Past", name := "<init>", desc := "()V" } : Jvm.MethodName)) ∈ lw_good := List.mem_filter.mpr ⟨List.mem_of_getElem? (i := 165) (by decide +kernel), rfl⟩
theorem wd_166 : (Jvm.Cond.instanceMethod ({ cls := "BunchNotes$Past", name := "<init>", desc := "()V" } : Jvm.MethodName)) ∈ lw_good := List.mem_filter.mpr ⟨List.mem_of_getElem? (i := 166) (by decide +kernel), rfl⟩
theorem wd_167 : (Jvm.Cond.code ({ cls := "BunchNotes$Past", name := "<init>", desc := "()V" } : Jvm.MethodName) prog_5_method_1_code (2 : Nat) (Option.none : Option Jvm.ClassFile.FieldType)) ∈ lw_good := List.mem_filter.mpr ⟨List.mem_of_getElem? (i := 167) (by decide +kernel), rfl⟩
theorem wd_168 : (Jvm.Cond.methodLink "BunchNotes$Past" (3 : Nat) ({ cls := "java/lang/Object", name := "<init>", desc := "()V" } : Jvm.MethodName)) ∈ lw_good := List.mem_filter.mpr ⟨List.mem_of_getElem? (i := 168) (by decide +kernel), rfl⟩
theorem wd_169 : (Jvm.Cond.classLink "BunchNotes$Past" (9 : Nat) "BunchNotes$Net") ∈ lw_good := List.mem_filter.mpr ⟨List.mem_of_getElem? (i := 169) (by decide +kernel), rfl⟩
theorem wd_170 : (Jvm.Cond.arrayOver (Jvm.ClassFile.FieldType.object "BunchNotes$Net")) ∈ lw_tbl := List.mem_of_getElem? (i := 170) (by decide +kernel)
theorem wd_171 : (Jvm.Cond.methodLink "BunchNotes$Past" (17 : Nat) ({ cls := "BunchNotes$Net", name := "<init>", desc := "()V" } : Jvm.MethodName)) ∈ lw_good := List.mem_filter.mpr ⟨List.mem_of_getElem? (i := 171) (by decide +kernel), rfl⟩
theorem wd_172 : (Jvm.Cond.fieldLink "BunchNotes$Past" (26 : Nat) "BunchNotes$Past" "size" "I") ∈ lw_good := List.mem_filter.mpr ⟨List.mem_of_getElem? (i := 172) (by decide +kernel), rfl⟩
theorem wd_173 : (Jvm.Cond.fieldLink "BunchNotes" (106 : Nat) "BunchNotes$Past" "size" "I") ∈ lw_good := List.mem_filter.mpr ⟨List.mem_of_getElem? (i := 173) (by decide +kernel), rfl⟩
theorem wd_174 : (Jvm.Cond.fieldLink "BunchNotes$Past" (18 : Nat) "BunchNotes$Past" "top" "I") ∈ lw_good := List.mem_filter.mpr ⟨List.mem_of_getElem? (i := 174) (by decide +kernel), rfl⟩
theorem wd_175 : (Jvm.Cond.fieldLink "BunchNotes$Past" (11 : Nat) "BunchNotes$Past" "ring" "[LBunchNotes$Net;") ∈ lw_good := List.mem_filter.mpr ⟨List.mem_of_getElem? (i := 175) (by decide +kernel), rfl⟩
theorem wd_176 : (Jvm.Cond.lays "BunchNotes$Past" "BunchNotes$Past" "size" "I") ∈ lw_good := List.mem_filter.mpr ⟨List.mem_of_getElem? (i := 176) (by decide +kernel), rfl⟩
theorem wd_177 : (Jvm.Cond.soleField "BunchNotes$Past" "size") ∈ lw_good := List.mem_filter.mpr ⟨List.mem_of_getElem? (i := 177) (by decide +kernel), rfl⟩
theorem wd_178 : (Jvm.Cond.lays "BunchNotes$Past" "BunchNotes$Past" "top" "I") ∈ lw_good := List.mem_filter.mpr ⟨List.mem_of_getElem? (i := 178) (by decide +kernel), rfl⟩
theorem wd_179 : (Jvm.Cond.soleField "BunchNotes$Past" "top") ∈ lw_good := List.mem_filter.mpr ⟨List.mem_of_getElem? (i := 179) (by decide +kernel), rfl⟩
theorem wd_180 : (Jvm.Cond.laysFinal "BunchNotes$Past" "BunchNotes$Past" "ring" "[LBunchNotes$Net;") ∈ lw_good := List.mem_filter.mpr ⟨List.mem_of_getElem? (i := 180) (by decide +kernel), rfl⟩
theorem wd_181 : (Jvm.Cond.soleField "BunchNotes$Past" "ring") ∈ lw_good := List.mem_filter.mpr ⟨List.mem_of_getElem? (i := 181) (by decide +kernel), rfl⟩
theorem wd_182 : (Jvm.Cond.superclass "BunchNotes$Past" "java/lang/Object") ∈ lw_good := List.mem_filter.mpr ⟨List.mem_of_getElem? (i := 182) (by decide +kernel), rfl⟩
theorem wd_183 : (Jvm.Cond.methodLink "BunchNotes" (33 : Nat) ({ cls := "BunchNotes", name := "blankNotes", desc := "()[LBunchNotes$Note;" } : Jvm.MethodName)) ∈ lw_good := List.mem_filter.mpr ⟨List.mem_of_getElem? (i := 183) (by decide +kernel), rfl⟩
theorem wd_184 : (Jvm.Cond.static ({ cls := "BunchNotes", name := "blankNotes", desc := "()[LBunchNotes$Note;" } : Jvm.MethodName)) ∈ lw_good := List.mem_filter.mpr ⟨List.mem_of_getElem? (i := 184) (by decide +kernel), rfl⟩
theorem wd_185 : (Jvm.Cond.code ({ cls := "BunchNotes", name := "blankNotes", desc := "()[LBunchNotes$Note;" } : Jvm.MethodName) prog_1_method_32_code (2 : Nat) (Option.some (Jvm.ClassFile.FieldType.array (Jvm.ClassFile.FieldType.object "BunchNotes$Note")))) ∈ lw_good := List.mem_filter.mpr ⟨List.mem_of_getElem? (i := 185) (by decide +kernel), rfl⟩
theorem wd_186 : (Jvm.Cond.classLink "BunchNotes" (41 : Nat) "BunchNotes$Note") ∈ lw_good := List.mem_filter.mpr ⟨List.mem_of_getElem? (i := 186) (by decide +kernel), rfl⟩
theorem wd_187 : (Jvm.Cond.arrayOver (Jvm.ClassFile.FieldType.object "BunchNotes$Note")) ∈ lw_tbl := List.mem_of_getElem? (i := 187) (by decide +kernel)
theorem wd_188 : (Jvm.Cond.instantiable "BunchNotes$Note" (5 : Nat)) ∈ lw_good := List.mem_filter.mpr ⟨List.mem_of_getElem? (i := 188) (by decide +kernel), rfl⟩
theorem wd_189 : (Jvm.Cond.methodLink "BunchNotes" (43 : Nat) ({ cls := "BunchNotes$Note", name := "<init>", desc := "()V" } : Jvm.MethodName)) ∈ lw_good := List.mem_filter.mpr ⟨List.mem_of_getElem? (i := 189) (by decide +kernel), rfl⟩
theorem wd_190 : (Jvm.Cond.instanceMethod ({ cls := "BunchNotes$Note", name := "<init>", desc := "()V" } : Jvm.MethodName)) ∈ lw_good := List.mem_filter.mpr ⟨List.mem_of_getElem? (i := 190) (by decide +kernel), rfl⟩
theorem wd_191 : (Jvm.Cond.code ({ cls := "BunchNotes$Note", name := "<init>", desc := "()V" } : Jvm.MethodName) prog_4_method_1_code (1 : Nat) (Option.none : Option Jvm.ClassFile.FieldType)) ∈ lw_good := List.mem_filter.mpr ⟨List.mem_of_getElem? (i := 191) (by decide +kernel), rfl⟩
theorem wd_192 : (Jvm.Cond.methodLink "BunchNotes$Note" (3 : Nat) ({ cls := "java/lang/Object", name := "<init>", desc := "()V" } : Jvm.MethodName)) ∈ lw_good := List.mem_filter.mpr ⟨List.mem_of_getElem? (i := 192) (by decide +kernel), rfl⟩
theorem wd_193 : (Jvm.Cond.fieldLink "BunchNotes$Telling" (25 : Nat) "BunchNotes$Note" "written" "Z") ∈ lw_good := List.mem_filter.mpr ⟨List.mem_of_getElem? (i := 193) (by decide +kernel), rfl⟩
theorem wd_194 : (Jvm.Cond.fieldLink "BunchNotes$Note" (25 : Nat) "BunchNotes$Note" "written" "Z") ∈ lw_good := List.mem_filter.mpr ⟨List.mem_of_getElem? (i := 194) (by decide +kernel), rfl⟩
theorem wd_195 : (Jvm.Cond.fieldLink "BunchNotes" (232 : Nat) "BunchNotes$Note" "written" "Z") ∈ lw_good := List.mem_filter.mpr ⟨List.mem_of_getElem? (i := 195) (by decide +kernel), rfl⟩
theorem wd_196 : (Jvm.Cond.fieldLink "BunchNotes$Note" (33 : Nat) "BunchNotes$Note" "bunch" "I") ∈ lw_good := List.mem_filter.mpr ⟨List.mem_of_getElem? (i := 196) (by decide +kernel), rfl⟩
theorem wd_197 : (Jvm.Cond.fieldLink "BunchNotes" (199 : Nat) "BunchNotes$Note" "bunch" "I") ∈ lw_good := List.mem_filter.mpr ⟨List.mem_of_getElem? (i := 197) (by decide +kernel), rfl⟩
theorem wd_198 : (Jvm.Cond.fieldLink "BunchNotes$Note" (9 : Nat) "BunchNotes$Note" "nearestNodes" "[I") ∈ lw_good := List.mem_filter.mpr ⟨List.mem_of_getElem? (i := 198) (by decide +kernel), rfl⟩
theorem wd_199 : (Jvm.Cond.fieldLink "BunchNotes$Note" (15 : Nat) "BunchNotes$Note" "nearestFars" "[I") ∈ lw_good := List.mem_filter.mpr ⟨List.mem_of_getElem? (i := 199) (by decide +kernel), rfl⟩
theorem wd_200 : (Jvm.Cond.fieldLink "BunchNotes$Note" (18 : Nat) "BunchNotes$Note" "fars" "[I") ∈ lw_good := List.mem_filter.mpr ⟨List.mem_of_getElem? (i := 200) (by decide +kernel), rfl⟩
theorem wd_201 : (Jvm.Cond.lays "BunchNotes$Note" "BunchNotes$Note" "written" "Z") ∈ lw_good := List.mem_filter.mpr ⟨List.mem_of_getElem? (i := 201) (by decide +kernel), rfl⟩
theorem wd_202 : (Jvm.Cond.soleField "BunchNotes$Note" "written") ∈ lw_good := List.mem_filter.mpr ⟨List.mem_of_getElem? (i := 202) (by decide +kernel), rfl⟩
theorem wd_203 : (Jvm.Cond.lays "BunchNotes$Note" "BunchNotes$Note" "bunch" "I") ∈ lw_good := List.mem_filter.mpr ⟨List.mem_of_getElem? (i := 203) (by decide +kernel), rfl⟩
theorem wd_204 : (Jvm.Cond.soleField "BunchNotes$Note" "bunch") ∈ lw_good := List.mem_filter.mpr ⟨List.mem_of_getElem? (i := 204) (by decide +kernel), rfl⟩
theorem wd_205 : (Jvm.Cond.laysFinal "BunchNotes$Note" "BunchNotes$Note" "nearestNodes" "[I") ∈ lw_good := List.mem_filter.mpr ⟨List.mem_of_getElem? (i := 205) (by decide +kernel), rfl⟩
theorem wd_206 : (Jvm.Cond.soleField "BunchNotes$Note" "nearestNodes") ∈ lw_good := List.mem_filter.mpr ⟨List.mem_of_getElem? (i := 206) (by decide +kernel), rfl⟩
theorem wd_207 : (Jvm.Cond.laysFinal "BunchNotes$Note" "BunchNotes$Note" "nearestFars" "[I") ∈ lw_good := List.mem_filter.mpr ⟨List.mem_of_getElem? (i := 207) (by decide +kernel), rfl⟩
theorem wd_208 : (Jvm.Cond.soleField "BunchNotes$Note" "nearestFars") ∈ lw_good := List.mem_filter.mpr ⟨List.mem_of_getElem? (i := 208) (by decide +kernel), rfl⟩
theorem wd_209 : (Jvm.Cond.laysFinal "BunchNotes$Note" "BunchNotes$Note" "fars" "[I") ∈ lw_good := List.mem_filter.mpr ⟨List.mem_of_getElem? (i := 209) (by decide +kernel), rfl⟩
theorem wd_210 : (Jvm.Cond.soleField "BunchNotes$Note" "fars") ∈ lw_good := List.mem_filter.mpr ⟨List.mem_of_getElem? (i := 210) (by decide +kernel), rfl⟩
theorem wd_211 : (Jvm.Cond.superclass "BunchNotes$Note" "java/lang/Object") ∈ lw_good := List.mem_filter.mpr ⟨List.mem_of_getElem? (i := 211) (by decide +kernel), rfl⟩
theorem wd_212 : (Jvm.Cond.classLink "BunchNotes" (48 : Nat) "BunchNotes$Slot") ∈ lw_good := List.mem_filter.mpr ⟨List.mem_of_getElem? (i := 212) (by decide +kernel), rfl⟩
theorem wd_213 : (Jvm.Cond.arrayOver (Jvm.ClassFile.FieldType.object "BunchNotes$Slot")) ∈ lw_tbl := List.mem_of_getElem? (i := 213) (by decide +kernel)
theorem wd_214 : (Jvm.Cond.instantiable "BunchNotes$Slot" (3 : Nat)) ∈ lw_good := List.mem_filter.mpr ⟨List.mem_of_getElem? (i := 214) (by decide +kernel), rfl⟩
theorem wd_215 : (Jvm.Cond.methodLink "BunchNotes" (54 : Nat) ({ cls := "BunchNotes$Slot", name := "<init>", desc := "()V" } : Jvm.MethodName)) ∈ lw_good := List.mem_filter.mpr ⟨List.mem_of_getElem? (i := 215) (by decide +kernel), rfl⟩
theorem wd_216 : (Jvm.Cond.instanceMethod ({ cls := "BunchNotes$Slot", name := "<init>", desc := "()V" } : Jvm.MethodName)) ∈ lw_good := List.mem_filter.mpr ⟨List.mem_of_getElem? (i := 216) (by decide +kernel), rfl⟩
theorem wd_217 : (Jvm.Cond.code ({ cls := "BunchNotes$Slot", name := "<init>", desc := "()V" } : Jvm.MethodName) prog_7_method_1_code (1 : Nat) (Option.none : Option Jvm.ClassFile.FieldType)) ∈ lw_good := List.mem_filter.mpr ⟨List.mem_of_getElem? (i := 217) (by decide +kernel), rfl⟩
theorem wd_218 : (Jvm.Cond.methodLink "BunchNotes$Slot" (1 : Nat) ({ cls := "java/lang/Object", name := "<init>", desc := "()V" } : Jvm.MethodName)) ∈ lw_good := List.mem_filter.mpr ⟨List.mem_of_getElem? (i := 218) (by decide +kernel), rfl⟩
theorem wd_219 : (Jvm.Cond.classLink "BunchNotes$Slot" (7 : Nat) "BunchNotes$Net") ∈ lw_good := List.mem_filter.mpr ⟨List.mem_of_getElem? (i := 219) (by decide +kernel), rfl⟩
theorem wd_220 : (Jvm.Cond.methodLink "BunchNotes$Slot" (9 : Nat) ({ cls := "BunchNotes$Net", name := "<init>", desc := "()V" } : Jvm.MethodName)) ∈ lw_good := List.mem_filter.mpr ⟨List.mem_of_getElem? (i := 220) (by decide +kernel), rfl⟩
theorem wd_221 : (Jvm.Cond.methodLinkNest "BunchNotes$Slot" (16 : Nat) ({ cls := "BunchNotes", name := "blankNotes", desc := "()[LBunchNotes$Note;" } : Jvm.MethodName) "BunchNotes") ∈ lw_tbl := List.mem_of_getElem? (i := 221) (by decide +kernel)
theorem wd_222 : (Jvm.Cond.fieldLink "BunchNotes" (168 : Nat) "BunchNotes$Slot" "filled" "Z") ∈ lw_good := List.mem_filter.mpr ⟨List.mem_of_getElem? (i := 222) (by decide +kernel), rfl⟩
theorem wd_223 : (Jvm.Cond.fieldLink "BunchNotes$Slot" (10 : Nat) "BunchNotes$Slot" "net" "LBunchNotes$Net;") ∈ lw_good := List.mem_filter.mpr ⟨List.mem_of_getElem? (i := 223) (by decide +kernel), rfl⟩
theorem wd_224 : (Jvm.Cond.fieldLink "BunchNotes" (171 : Nat) "BunchNotes$Slot" "net" "LBunchNotes$Net;") ∈ lw_good := List.mem_filter.mpr ⟨List.mem_of_getElem? (i := 224) (by decide +kernel), rfl⟩
theorem wd_225 : (Jvm.Cond.fieldLink "BunchNotes$Slot" (22 : Nat) "BunchNotes$Slot" "notes" "[LBunchNotes$Note;") ∈ lw_good := List.mem_filter.mpr ⟨List.mem_of_getElem? (i := 225) (by decide +kernel), rfl⟩
theorem wd_226 : (Jvm.Cond.fieldLink "BunchNotes" (174 : Nat) "BunchNotes$Slot" "notes" "[LBunchNotes$Note;") ∈ lw_good := List.mem_filter.mpr ⟨List.mem_of_getElem? (i := 226) (by decide +kernel), rfl⟩
theorem wd_227 : (Jvm.Cond.lays "BunchNotes$Slot" "BunchNotes$Slot" "filled" "Z") ∈ lw_good := List.mem_filter.mpr ⟨List.mem_of_getElem? (i := 227) (by decide +kernel), rfl⟩
theorem wd_228 : (Jvm.Cond.soleField "BunchNotes$Slot" "filled") ∈ lw_good := List.mem_filter.mpr ⟨List.mem_of_getElem? (i := 228) (by decide +kernel), rfl⟩
theorem wd_229 : (Jvm.Cond.laysFinal "BunchNotes$Slot" "BunchNotes$Slot" "net" "LBunchNotes$Net;") ∈ lw_good := List.mem_filter.mpr ⟨List.mem_of_getElem? (i := 229) (by decide +kernel), rfl⟩
theorem wd_230 : (Jvm.Cond.soleField "BunchNotes$Slot" "net") ∈ lw_good := List.mem_filter.mpr ⟨List.mem_of_getElem? (i := 230) (by decide +kernel), rfl⟩
theorem wd_231 : (Jvm.Cond.laysFinal "BunchNotes$Slot" "BunchNotes$Slot" "notes" "[LBunchNotes$Note;") ∈ lw_good := List.mem_filter.mpr ⟨List.mem_of_getElem? (i := 231) (by decide +kernel), rfl⟩
theorem wd_232 : (Jvm.Cond.soleField "BunchNotes$Slot" "notes") ∈ lw_good := List.mem_filter.mpr ⟨List.mem_of_getElem? (i := 232) (by decide +kernel), rfl⟩
theorem wd_233 : (Jvm.Cond.superclass "BunchNotes$Slot" "java/lang/Object") ∈ lw_good := List.mem_filter.mpr ⟨List.mem_of_getElem? (i := 233) (by decide +kernel), rfl⟩
theorem wd_234 : (Jvm.Cond.classLink "BunchNotes" (55 : Nat) "BunchNotes$Far") ∈ lw_good := List.mem_filter.mpr ⟨List.mem_of_getElem? (i := 234) (by decide +kernel), rfl⟩
theorem wd_235 : (Jvm.Cond.instantiable "BunchNotes$Far" (3 : Nat)) ∈ lw_good := List.mem_filter.mpr ⟨List.mem_of_getElem? (i := 235) (by decide +kernel), rfl⟩
theorem wd_236 : (Jvm.Cond.methodLink "BunchNotes" (57 : Nat) ({ cls := "BunchNotes$Far", name := "<init>", desc := "()V" } : Jvm.MethodName)) ∈ lw_good := List.mem_filter.mpr ⟨List.mem_of_getElem? (i := 236) (by decide +kernel), rfl⟩
theorem wd_237 : (Jvm.Cond.instanceMethod ({ cls := "BunchNotes$Far", name := "<init>", desc := "()V" } : Jvm.MethodName)) ∈ lw_good := List.mem_filter.mpr ⟨List.mem_of_getElem? (i := 237) (by decide +kernel), rfl⟩
theorem wd_238 : (Jvm.Cond.code ({ cls := "BunchNotes$Far", name := "<init>", desc := "()V" } : Jvm.MethodName) prog_2_method_1_code (1 : Nat) (Option.none : Option Jvm.ClassFile.FieldType)) ∈ lw_good := List.mem_filter.mpr ⟨List.mem_of_getElem? (i := 238) (by decide +kernel), rfl⟩
theorem wd_239 : (Jvm.Cond.methodLink "BunchNotes$Far" (3 : Nat) ({ cls := "java/lang/Object", name := "<init>", desc := "()V" } : Jvm.MethodName)) ∈ lw_good := List.mem_filter.mpr ⟨List.mem_of_getElem? (i := 239) (by decide +kernel), rfl⟩
theorem wd_240 : (Jvm.Cond.classLink "BunchNotes$Far" (9 : Nat) "[[I") ∈ lw_good := List.mem_filter.mpr ⟨List.mem_of_getElem? (i := 240) (by decide +kernel), rfl⟩
theorem wd_241 : (Jvm.Cond.arrayOver (Jvm.ClassFile.FieldType.array Jvm.ClassFile.FieldType.int)) ∈ lw_tbl := List.mem_of_getElem? (i := 241) (by decide +kernel)
theorem wd_242 : (Jvm.Cond.fieldLink "BunchNotes$Far" (32 : Nat) "BunchNotes$Far" "nodes" "I") ∈ lw_good := List.mem_filter.mpr ⟨List.mem_of_getElem? (i := 242) (by decide +kernel), rfl⟩
theorem wd_243 : (Jvm.Cond.fieldLink "BunchNotes$Far" (16 : Nat) "BunchNotes$Far" "seen" "I") ∈ lw_good := List.mem_filter.mpr ⟨List.mem_of_getElem? (i := 243) (by decide +kernel), rfl⟩
theorem wd_244 : (Jvm.Cond.fieldLink "BunchNotes$Far" (11 : Nat) "BunchNotes$Far" "table" "[[I") ∈ lw_good := List.mem_filter.mpr ⟨List.mem_of_getElem? (i := 244) (by decide +kernel), rfl⟩
theorem wd_245 : (Jvm.Cond.lays "BunchNotes$Far" "BunchNotes$Far" "nodes" "I") ∈ lw_good := List.mem_filter.mpr ⟨List.mem_of_getElem? (i := 245) (by decide +kernel), rfl⟩
theorem wd_246 : (Jvm.Cond.soleField "BunchNotes$Far" "nodes") ∈ lw_good := List.mem_filter.mpr ⟨List.mem_of_getElem? (i := 246) (by decide +kernel), rfl⟩
theorem wd_247 : (Jvm.Cond.lays "BunchNotes$Far" "BunchNotes$Far" "seen" "I") ∈ lw_good := List.mem_filter.mpr ⟨List.mem_of_getElem? (i := 247) (by decide +kernel), rfl⟩
theorem wd_248 : (Jvm.Cond.soleField "BunchNotes$Far" "seen") ∈ lw_good := List.mem_filter.mpr ⟨List.mem_of_getElem? (i := 248) (by decide +kernel), rfl⟩
theorem wd_249 : (Jvm.Cond.laysFinal "BunchNotes$Far" "BunchNotes$Far" "table" "[[I") ∈ lw_good := List.mem_filter.mpr ⟨List.mem_of_getElem? (i := 249) (by decide +kernel), rfl⟩
theorem wd_250 : (Jvm.Cond.soleField "BunchNotes$Far" "table") ∈ lw_good := List.mem_filter.mpr ⟨List.mem_of_getElem? (i := 250) (by decide +kernel), rfl⟩
theorem wd_251 : (Jvm.Cond.superclass "BunchNotes$Far" "java/lang/Object") ∈ lw_good := List.mem_filter.mpr ⟨List.mem_of_getElem? (i := 251) (by decide +kernel), rfl⟩
theorem wd_252 : (Jvm.Cond.classLink "BunchNotes" (62 : Nat) "BunchNotes$Thinning") ∈ lw_good := List.mem_filter.mpr ⟨List.mem_of_getElem? (i := 252) (by decide +kernel), rfl⟩
theorem wd_253 : (Jvm.Cond.instantiable "BunchNotes$Thinning" (7 : Nat)) ∈ lw_good := List.mem_filter.mpr ⟨List.mem_of_getElem? (i := 253) (by decide +kernel), rfl⟩
theorem wd_254 : (Jvm.Cond.methodLink "BunchNotes" (64 : Nat) ({ cls := "BunchNotes$Thinning", name := "<init>", desc := "()V" } : Jvm.MethodName)) ∈ lw_good := List.mem_filter.mpr ⟨List.mem_of_getElem? (i := 254) (by decide +kernel), rfl⟩
theorem wd_255 : (Jvm.Cond.instanceMethod ({ cls := "BunchNotes$Thinning", name := "<init>", desc := "()V" } : Jvm.MethodName)) ∈ lw_good := List.mem_filter.mpr ⟨List.mem_of_getElem? (i := 255) (by decide +kernel), rfl⟩
theorem wd_256 : (Jvm.Cond.code ({ cls := "BunchNotes$Thinning", name := "<init>", desc := "()V" } : Jvm.MethodName) prog_10_method_1_code (1 : Nat) (Option.none : Option Jvm.ClassFile.FieldType)) ∈ lw_good := List.mem_filter.mpr ⟨List.mem_of_getElem? (i := 256) (by decide +kernel), rfl⟩
theorem wd_257 : (Jvm.Cond.methodLink "BunchNotes$Thinning" (3 : Nat) ({ cls := "java/lang/Object", name := "<init>", desc := "()V" } : Jvm.MethodName)) ∈ lw_good := List.mem_filter.mpr ⟨List.mem_of_getElem? (i := 257) (by decide +kernel), rfl⟩
theorem wd_258 : (Jvm.Cond.classLink "BunchNotes$Thinning" (9 : Nat) "BunchNotes$Far") ∈ lw_good := List.mem_filter.mpr ⟨List.mem_of_getElem? (i := 258) (by decide +kernel), rfl⟩
theorem wd_259 : (Jvm.Cond.methodLink "BunchNotes$Thinning" (11 : Nat) ({ cls := "BunchNotes$Far", name := "<init>", desc := "()V" } : Jvm.MethodName)) ∈ lw_good := List.mem_filter.mpr ⟨List.mem_of_getElem? (i := 259) (by decide +kernel), rfl⟩
theorem wd_260 : (Jvm.Cond.fieldLink "BunchNotes$Thinning" (65 : Nat) "BunchNotes$Thinning" "size" "I") ∈ lw_good := List.mem_filter.mpr ⟨List.mem_of_getElem? (i := 260) (by decide +kernel), rfl⟩
theorem wd_261 : (Jvm.Cond.fieldLink "BunchNotes" (205 : Nat) "BunchNotes$Thinning" "size" "I") ∈ lw_good := List.mem_filter.mpr ⟨List.mem_of_getElem? (i := 261) (by decide +kernel), rfl⟩
theorem wd_262 : (Jvm.Cond.fieldLink "BunchNotes$Thinning" (12 : Nat) "BunchNotes$Thinning" "far" "LBunchNotes$Far;") ∈ lw_good := List.mem_filter.mpr ⟨List.mem_of_getElem? (i := 262) (by decide +kernel), rfl⟩
theorem wd_263 : (Jvm.Cond.fieldLink "BunchNotes" (302 : Nat) "BunchNotes$Thinning" "far" "LBunchNotes$Far;") ∈ lw_good := List.mem_filter.mpr ⟨List.mem_of_getElem? (i := 263) (by decide +kernel), rfl⟩
theorem wd_264 : (Jvm.Cond.fieldLink "BunchNotes$Thinning" (25 : Nat) "BunchNotes$Thinning" "seen" "I") ∈ lw_good := List.mem_filter.mpr ⟨List.mem_of_getElem? (i := 264) (by decide +kernel), rfl⟩
theorem wd_265 : (Jvm.Cond.fieldLink "BunchNotes$Thinning" (34 : Nat) "BunchNotes$Thinning" "times" "I") ∈ lw_good := List.mem_filter.mpr ⟨List.mem_of_getElem? (i := 265) (by decide +kernel), rfl⟩
theorem wd_266 : (Jvm.Cond.fieldLink "BunchNotes$Thinning" (48 : Nat) "BunchNotes$Thinning" "links" "I") ∈ lw_good := List.mem_filter.mpr ⟨List.mem_of_getElem? (i := 266) (by decide +kernel), rfl⟩
theorem wd_267 : (Jvm.Cond.fieldLink "BunchNotes$Thinning" (18 : Nat) "BunchNotes$Thinning" "order" "[I") ∈ lw_good := List.mem_filter.mpr ⟨List.mem_of_getElem? (i := 267) (by decide +kernel), rfl⟩
theorem wd_268 : (Jvm.Cond.fieldLink "BunchNotes$Thinning" (22 : Nat) "BunchNotes$Thinning" "taken" "[I") ∈ lw_good := List.mem_filter.mpr ⟨List.mem_of_getElem? (i := 268) (by decide +kernel), rfl⟩
theorem wd_269 : (Jvm.Cond.lays "BunchNotes$Thinning" "BunchNotes$Thinning" "size" "I") ∈ lw_good := List.mem_filter.mpr ⟨List.mem_of_getElem? (i := 269) (by decide +kernel), rfl⟩
theorem wd_270 : (Jvm.Cond.soleField "BunchNotes$Thinning" "size") ∈ lw_good := List.mem_filter.mpr ⟨List.mem_of_getElem? (i := 270) (by decide +kernel), rfl⟩
theorem wd_271 : (Jvm.Cond.laysFinal "BunchNotes$Thinning" "BunchNotes$Thinning" "far" "LBunchNotes$Far;") ∈ lw_good := List.mem_filter.mpr ⟨List.mem_of_getElem? (i := 271) (by decide +kernel), rfl⟩
theorem wd_272 : (Jvm.Cond.soleField "BunchNotes$Thinning" "far") ∈ lw_good := List.mem_filter.mpr ⟨List.mem_of_getElem? (i := 272) (by decide +kernel), rfl⟩
theorem wd_273 : (Jvm.Cond.lays "BunchNotes$Thinning" "BunchNotes$Thinning" "seen" "I") ∈ lw_good := List.mem_filter.mpr ⟨List.mem_of_getElem? (i := 273) (by decide +kernel), rfl⟩
theorem wd_274 : (Jvm.Cond.soleField "BunchNotes$Thinning" "seen") ∈ lw_good := List.mem_filter.mpr ⟨List.mem_of_getElem? (i := 274) (by decide +kernel), rfl⟩
theorem wd_275 : (Jvm.Cond.lays "BunchNotes$Thinning" "BunchNotes$Thinning" "times" "I") ∈ lw_good := List.mem_filter.mpr ⟨List.mem_of_getElem? (i := 275) (by decide +kernel), rfl⟩
theorem wd_276 : (Jvm.Cond.soleField "BunchNotes$Thinning" "times") ∈ lw_good := List.mem_filter.mpr ⟨List.mem_of_getElem? (i := 276) (by decide +kernel), rfl⟩
theorem wd_277 : (Jvm.Cond.lays "BunchNotes$Thinning" "BunchNotes$Thinning" "links" "I") ∈ lw_good := List.mem_filter.mpr ⟨List.mem_of_getElem? (i := 277) (by decide +kernel), rfl⟩
theorem wd_278 : (Jvm.Cond.soleField "BunchNotes$Thinning" "links") ∈ lw_good := List.mem_filter.mpr ⟨List.mem_of_getElem? (i := 278) (by decide +kernel), rfl⟩
theorem wd_279 : (Jvm.Cond.laysFinal "BunchNotes$Thinning" "BunchNotes$Thinning" "order" "[I") ∈ lw_good := List.mem_filter.mpr ⟨List.mem_of_getElem? (i := 279) (by decide +kernel), rfl⟩
theorem wd_280 : (Jvm.Cond.soleField "BunchNotes$Thinning" "order") ∈ lw_good := List.mem_filter.mpr ⟨List.mem_of_getElem? (i := 280) (by decide +kernel), rfl⟩
theorem wd_281 : (Jvm.Cond.laysFinal "BunchNotes$Thinning" "BunchNotes$Thinning" "taken" "[I") ∈ lw_good := List.mem_filter.mpr ⟨List.mem_of_getElem? (i := 281) (by decide +kernel), rfl⟩
theorem wd_282 : (Jvm.Cond.soleField "BunchNotes$Thinning" "taken") ∈ lw_good := List.mem_filter.mpr ⟨List.mem_of_getElem? (i := 282) (by decide +kernel), rfl⟩
theorem wd_283 : (Jvm.Cond.superclass "BunchNotes$Thinning" "java/lang/Object") ∈ lw_good := List.mem_filter.mpr ⟨List.mem_of_getElem? (i := 283) (by decide +kernel), rfl⟩
theorem wd_284 : (Jvm.Cond.classLink "BunchNotes" (69 : Nat) "BunchNotes$Telling") ∈ lw_good := List.mem_filter.mpr ⟨List.mem_of_getElem? (i := 284) (by decide +kernel), rfl⟩
theorem wd_285 : (Jvm.Cond.instantiable "BunchNotes$Telling" (5 : Nat)) ∈ lw_good := List.mem_filter.mpr ⟨List.mem_of_getElem? (i := 285) (by decide +kernel), rfl⟩
theorem wd_286 : (Jvm.Cond.methodLinkNest "BunchNotes" (71 : Nat) ({ cls := "BunchNotes$Telling", name := "<init>", desc := "()V" } : Jvm.MethodName) "BunchNotes") ∈ lw_tbl := List.mem_of_getElem? (i := 286) (by decide +kernel)
theorem wd_287 : (Jvm.Cond.instanceMethod ({ cls := "BunchNotes$Telling", name := "<init>", desc := "()V" } : Jvm.MethodName)) ∈ lw_good := List.mem_filter.mpr ⟨List.mem_of_getElem? (i := 287) (by decide +kernel), rfl⟩
theorem wd_288 : (Jvm.Cond.code ({ cls := "BunchNotes$Telling", name := "<init>", desc := "()V" } : Jvm.MethodName) prog_8_method_1_code (1 : Nat) (Option.none : Option Jvm.ClassFile.FieldType)) ∈ lw_good := List.mem_filter.mpr ⟨List.mem_of_getElem? (i := 288) (by decide +kernel), rfl⟩
theorem wd_289 : (Jvm.Cond.methodLink "BunchNotes$Telling" (3 : Nat) ({ cls := "java/lang/Object", name := "<init>", desc := "()V" } : Jvm.MethodName)) ∈ lw_good := List.mem_filter.mpr ⟨List.mem_of_getElem? (i := 289) (by decide +kernel), rfl⟩
theorem wd_290 : (Jvm.Cond.fieldLink "BunchNotes$Telling" (19 : Nat) "BunchNotes$Telling" "reason" "I") ∈ lw_good := List.mem_filter.mpr ⟨List.mem_of_getElem? (i := 290) (by decide +kernel), rfl⟩
theorem wd_291 : (Jvm.Cond.fieldLink "BunchNotes" (242 : Nat) "BunchNotes$Telling" "reason" "I") ∈ lw_good := List.mem_filter.mpr ⟨List.mem_of_getElem? (i := 291) (by decide +kernel), rfl⟩
theorem wd_292 : (Jvm.Cond.fieldLink "BunchNotes$Telling" (48 : Nat) "BunchNotes$Telling" "far" "I") ∈ lw_good := List.mem_filter.mpr ⟨List.mem_of_getElem? (i := 292) (by decide +kernel), rfl⟩
theorem wd_293 : (Jvm.Cond.fieldLink "BunchNotes" (245 : Nat) "BunchNotes$Telling" "far" "I") ∈ lw_good := List.mem_filter.mpr ⟨List.mem_of_getElem? (i := 293) (by decide +kernel), rfl⟩
theorem wd_294 : (Jvm.Cond.fieldLink "BunchNotes$Telling" (35 : Nat) "BunchNotes$Telling" "by" "I") ∈ lw_good := List.mem_filter.mpr ⟨List.mem_of_getElem? (i := 294) (by decide +kernel), rfl⟩
theorem wd_295 : (Jvm.Cond.fieldLink "BunchNotes" (247 : Nat) "BunchNotes$Telling" "by" "I") ∈ lw_good := List.mem_filter.mpr ⟨List.mem_of_getElem? (i := 295) (by decide +kernel), rfl⟩
theorem wd_296 : (Jvm.Cond.fieldLink "BunchNotes$Telling" (9 : Nat) "BunchNotes$Telling" "level" "I") ∈ lw_good := List.mem_filter.mpr ⟨List.mem_of_getElem? (i := 296) (by decide +kernel), rfl⟩
theorem wd_297 : (Jvm.Cond.fieldLink "BunchNotes" (250 : Nat) "BunchNotes$Telling" "level" "I") ∈ lw_good := List.mem_filter.mpr ⟨List.mem_of_getElem? (i := 297) (by decide +kernel), rfl⟩
theorem wd_298 : (Jvm.Cond.fieldLink "BunchNotes$Telling" (22 : Nat) "BunchNotes$Telling" "last" "I") ∈ lw_good := List.mem_filter.mpr ⟨List.mem_of_getElem? (i := 298) (by decide +kernel), rfl⟩
theorem wd_299 : (Jvm.Cond.fieldLink "BunchNotes" (253 : Nat) "BunchNotes$Telling" "last" "I") ∈ lw_good := List.mem_filter.mpr ⟨List.mem_of_getElem? (i := 299) (by decide +kernel), rfl⟩
theorem wd_300 : (Jvm.Cond.lays "BunchNotes$Telling" "BunchNotes$Telling" "reason" "I") ∈ lw_good := List.mem_filter.mpr ⟨List.mem_of_getElem? (i := 300) (by decide +kernel), rfl⟩
theorem wd_301 : (Jvm.Cond.soleField "BunchNotes$Telling" "reason") ∈ lw_good := List.mem_filter.mpr ⟨List.mem_of_getElem? (i := 301) (by decide +kernel), rfl⟩
theorem wd_302 : (Jvm.Cond.lays "BunchNotes$Telling" "BunchNotes$Telling" "far" "I") ∈ lw_good := List.mem_filter.mpr ⟨List.mem_of_getElem? (i := 302) (by decide +kernel), rfl⟩
theorem wd_303 : (Jvm.Cond.soleField "BunchNotes$Telling" "far") ∈ lw_good := List.mem_filter.mpr ⟨List.mem_of_getElem? (i := 303) (by decide +kernel), rfl⟩
theorem wd_304 : (Jvm.Cond.lays "BunchNotes$Telling" "BunchNotes$Telling" "by" "I") ∈ lw_good := List.mem_filter.mpr ⟨List.mem_of_getElem? (i := 304) (by decide +kernel), rfl⟩
theorem wd_305 : (Jvm.Cond.soleField "BunchNotes$Telling" "by") ∈ lw_good := List.mem_filter.mpr ⟨List.mem_of_getElem? (i := 305) (by decide +kernel), rfl⟩
theorem wd_306 : (Jvm.Cond.lays "BunchNotes$Telling" "BunchNotes$Telling" "level" "I") ∈ lw_good := List.mem_filter.mpr ⟨List.mem_of_getElem? (i := 306) (by decide +kernel), rfl⟩
theorem wd_307 : (Jvm.Cond.soleField "BunchNotes$Telling" "level") ∈ lw_good := List.mem_filter.mpr ⟨List.mem_of_getElem? (i := 307) (by decide +kernel), rfl⟩
theorem wd_308 : (Jvm.Cond.lays "BunchNotes$Telling" "BunchNotes$Telling" "last" "I") ∈ lw_good := List.mem_filter.mpr ⟨List.mem_of_getElem? (i := 308) (by decide +kernel), rfl⟩
theorem wd_309 : (Jvm.Cond.soleField "BunchNotes$Telling" "last") ∈ lw_good := List.mem_filter.mpr ⟨List.mem_of_getElem? (i := 309) (by decide +kernel), rfl⟩
theorem wd_310 : (Jvm.Cond.superclass "BunchNotes$Telling" "java/lang/Object") ∈ lw_good := List.mem_filter.mpr ⟨List.mem_of_getElem? (i := 310) (by decide +kernel), rfl⟩
theorem wd_311 : (Jvm.Cond.classLink "BunchNotes" (76 : Nat) "BunchNotes$Peak") ∈ lw_good := List.mem_filter.mpr ⟨List.mem_of_getElem? (i := 311) (by decide +kernel), rfl⟩
theorem wd_312 : (Jvm.Cond.instantiable "BunchNotes$Peak" (5 : Nat)) ∈ lw_good := List.mem_filter.mpr ⟨List.mem_of_getElem? (i := 312) (by decide +kernel), rfl⟩
theorem wd_313 : (Jvm.Cond.methodLinkNest "BunchNotes" (78 : Nat) ({ cls := "BunchNotes$Peak", name := "<init>", desc := "()V" } : Jvm.MethodName) "BunchNotes") ∈ lw_tbl := List.mem_of_getElem? (i := 313) (by decide +kernel)
theorem wd_314 : (Jvm.Cond.instanceMethod ({ cls := "BunchNotes$Peak", name := "<init>", desc := "()V" } : Jvm.MethodName)) ∈ lw_good := List.mem_filter.mpr ⟨List.mem_of_getElem? (i := 314) (by decide +kernel), rfl⟩
theorem wd_315 : (Jvm.Cond.code ({ cls := "BunchNotes$Peak", name := "<init>", desc := "()V" } : Jvm.MethodName) prog_6_method_1_code (1 : Nat) (Option.none : Option Jvm.ClassFile.FieldType)) ∈ lw_good := List.mem_filter.mpr ⟨List.mem_of_getElem? (i := 315) (by decide +kernel), rfl⟩
theorem wd_316 : (Jvm.Cond.methodLink "BunchNotes$Peak" (1 : Nat) ({ cls := "java/lang/Object", name := "<init>", desc := "()V" } : Jvm.MethodName)) ∈ lw_good := List.mem_filter.mpr ⟨List.mem_of_getElem? (i := 316) (by decide +kernel), rfl⟩
theorem wd_317 : (Jvm.Cond.fieldLink "BunchNotes$Peak" (16 : Nat) "BunchNotes$Peak" "above" "I") ∈ lw_good := List.mem_filter.mpr ⟨List.mem_of_getElem? (i := 317) (by decide +kernel), rfl⟩
theorem wd_318 : (Jvm.Cond.fieldLink "BunchNotes" (212 : Nat) "BunchNotes$Peak" "above" "I") ∈ lw_good := List.mem_filter.mpr ⟨List.mem_of_getElem? (i := 318) (by decide +kernel), rfl⟩
theorem wd_319 : (Jvm.Cond.fieldLink "BunchNotes$Peak" (13 : Nat) "BunchNotes$Peak" "below" "I") ∈ lw_good := List.mem_filter.mpr ⟨List.mem_of_getElem? (i := 319) (by decide +kernel), rfl⟩
theorem wd_320 : (Jvm.Cond.fieldLink "BunchNotes" (215 : Nat) "BunchNotes$Peak" "below" "I") ∈ lw_good := List.mem_filter.mpr ⟨List.mem_of_getElem? (i := 320) (by decide +kernel), rfl⟩
theorem wd_321 : (Jvm.Cond.fieldLink "BunchNotes$Peak" (19 : Nat) "BunchNotes$Peak" "u" "I") ∈ lw_good := List.mem_filter.mpr ⟨List.mem_of_getElem? (i := 321) (by decide +kernel), rfl⟩
theorem wd_322 : (Jvm.Cond.fieldLink "BunchNotes" (266 : Nat) "BunchNotes$Peak" "u" "I") ∈ lw_good := List.mem_filter.mpr ⟨List.mem_of_getElem? (i := 322) (by decide +kernel), rfl⟩
theorem wd_323 : (Jvm.Cond.fieldLink "BunchNotes$Peak" (22 : Nat) "BunchNotes$Peak" "v" "I") ∈ lw_good := List.mem_filter.mpr ⟨List.mem_of_getElem? (i := 323) (by decide +kernel), rfl⟩
theorem wd_324 : (Jvm.Cond.fieldLink "BunchNotes" (269 : Nat) "BunchNotes$Peak" "v" "I") ∈ lw_good := List.mem_filter.mpr ⟨List.mem_of_getElem? (i := 324) (by decide +kernel), rfl⟩
theorem wd_325 : (Jvm.Cond.fieldLink "BunchNotes$Peak" (7 : Nat) "BunchNotes$Peak" "met" "I") ∈ lw_good := List.mem_filter.mpr ⟨List.mem_of_getElem? (i := 325) (by decide +kernel), rfl⟩
theorem wd_326 : (Jvm.Cond.fieldLink "BunchNotes" (209 : Nat) "BunchNotes$Peak" "met" "I") ∈ lw_good := List.mem_filter.mpr ⟨List.mem_of_getElem? (i := 326) (by decide +kernel), rfl⟩
theorem wd_327 : (Jvm.Cond.lays "BunchNotes$Peak" "BunchNotes$Peak" "above" "I") ∈ lw_good := List.mem_filter.mpr ⟨List.mem_of_getElem? (i := 327) (by decide +kernel), rfl⟩
theorem wd_328 : (Jvm.Cond.soleField "BunchNotes$Peak" "above") ∈ lw_good := List.mem_filter.mpr ⟨List.mem_of_getElem? (i := 328) (by decide +kernel), rfl⟩
theorem wd_329 : (Jvm.Cond.lays "BunchNotes$Peak" "BunchNotes$Peak" "below" "I") ∈ lw_good := List.mem_filter.mpr ⟨List.mem_of_getElem? (i := 329) (by decide +kernel), rfl⟩
theorem wd_330 : (Jvm.Cond.soleField "BunchNotes$Peak" "below") ∈ lw_good := List.mem_filter.mpr ⟨List.mem_of_getElem? (i := 330) (by decide +kernel), rfl⟩
theorem wd_331 : (Jvm.Cond.lays "BunchNotes$Peak" "BunchNotes$Peak" "u" "I") ∈ lw_good := List.mem_filter.mpr ⟨List.mem_of_getElem? (i := 331) (by decide +kernel), rfl⟩
theorem wd_332 : (Jvm.Cond.soleField "BunchNotes$Peak" "u") ∈ lw_good := List.mem_filter.mpr ⟨List.mem_of_getElem? (i := 332) (by decide +kernel), rfl⟩
theorem wd_333 : (Jvm.Cond.lays "BunchNotes$Peak" "BunchNotes$Peak" "v" "I") ∈ lw_good := List.mem_filter.mpr ⟨List.mem_of_getElem? (i := 333) (by decide +kernel), rfl⟩
theorem wd_334 : (Jvm.Cond.soleField "BunchNotes$Peak" "v") ∈ lw_good := List.mem_filter.mpr ⟨List.mem_of_getElem? (i := 334) (by decide +kernel), rfl⟩
theorem wd_335 : (Jvm.Cond.lays "BunchNotes$Peak" "BunchNotes$Peak" "met" "I") ∈ lw_good := List.mem_filter.mpr ⟨List.mem_of_getElem? (i := 335) (by decide +kernel), rfl⟩
theorem wd_336 : (Jvm.Cond.soleField "BunchNotes$Peak" "met") ∈ lw_good := List.mem_filter.mpr ⟨List.mem_of_getElem? (i := 336) (by decide +kernel), rfl⟩
theorem wd_337 : (Jvm.Cond.superclass "BunchNotes$Peak" "java/lang/Object") ∈ lw_good := List.mem_filter.mpr ⟨List.mem_of_getElem? (i := 337) (by decide +kernel), rfl⟩
theorem wd_338 : (Jvm.Cond.fieldLink "BunchNotes" (10 : Nat) "BunchNotes" "now" "LBunchNotes$Net;") ∈ lw_good := List.mem_filter.mpr ⟨List.mem_of_getElem? (i := 338) (by decide +kernel), rfl⟩
theorem wd_339 : (Jvm.Cond.fieldLink "BunchNotes" (16 : Nat) "BunchNotes" "trial" "LBunchNotes$Net;") ∈ lw_good := List.mem_filter.mpr ⟨List.mem_of_getElem? (i := 339) (by decide +kernel), rfl⟩
theorem wd_340 : (Jvm.Cond.fieldLink "BunchNotes" (22 : Nat) "BunchNotes" "text" "LBunchNotes$Text;") ∈ lw_good := List.mem_filter.mpr ⟨List.mem_of_getElem? (i := 340) (by decide +kernel), rfl⟩
theorem wd_341 : (Jvm.Cond.fieldLink "BunchNotes" (29 : Nat) "BunchNotes" "past" "LBunchNotes$Past;") ∈ lw_good := List.mem_filter.mpr ⟨List.mem_of_getElem? (i := 341) (by decide +kernel), rfl⟩
theorem wd_342 : (Jvm.Cond.fieldLink "BunchNotes" (37 : Nat) "BunchNotes" "notes" "[LBunchNotes$Note;") ∈ lw_good := List.mem_filter.mpr ⟨List.mem_of_getElem? (i := 342) (by decide +kernel), rfl⟩
theorem wd_343 : (Jvm.Cond.fieldLink "BunchNotes" (44 : Nat) "BunchNotes" "draft" "LBunchNotes$Note;") ∈ lw_good := List.mem_filter.mpr ⟨List.mem_of_getElem? (i := 343) (by decide +kernel), rfl⟩
theorem wd_344 : (Jvm.Cond.fieldLink "BunchNotes" (50 : Nat) "BunchNotes" "slots" "[LBunchNotes$Slot;") ∈ lw_good := List.mem_filter.mpr ⟨List.mem_of_getElem? (i := 344) (by decide +kernel), rfl⟩
theorem wd_345 : (Jvm.Cond.fieldLink "BunchNotes" (58 : Nat) "BunchNotes" "far" "LBunchNotes$Far;") ∈ lw_good := List.mem_filter.mpr ⟨List.mem_of_getElem? (i := 345) (by decide +kernel), rfl⟩
theorem wd_346 : (Jvm.Cond.fieldLink "BunchNotes" (65 : Nat) "BunchNotes" "thinning" "LBunchNotes$Thinning;") ∈ lw_good := List.mem_filter.mpr ⟨List.mem_of_getElem? (i := 346) (by decide +kernel), rfl⟩
theorem wd_347 : (Jvm.Cond.fieldLink "BunchNotes" (72 : Nat) "BunchNotes" "telling" "LBunchNotes$Telling;") ∈ lw_good := List.mem_filter.mpr ⟨List.mem_of_getElem? (i := 347) (by decide +kernel), rfl⟩
theorem wd_348 : (Jvm.Cond.fieldLink "BunchNotes" (79 : Nat) "BunchNotes" "peak" "LBunchNotes$Peak;") ∈ lw_good := List.mem_filter.mpr ⟨List.mem_of_getElem? (i := 348) (by decide +kernel), rfl⟩
theorem wd_349 : (Jvm.Cond.laysFinal "BunchNotes" "BunchNotes" "now" "LBunchNotes$Net;") ∈ lw_good := List.mem_filter.mpr ⟨List.mem_of_getElem? (i := 349) (by decide +kernel), rfl⟩
theorem wd_350 : (Jvm.Cond.soleField "BunchNotes" "now") ∈ lw_good := List.mem_filter.mpr ⟨List.mem_of_getElem? (i := 350) (by decide +kernel), rfl⟩
theorem wd_351 : (Jvm.Cond.laysFinal "BunchNotes" "BunchNotes" "trial" "LBunchNotes$Net;") ∈ lw_good := List.mem_filter.mpr ⟨List.mem_of_getElem? (i := 351) (by decide +kernel), rfl⟩
theorem wd_352 : (Jvm.Cond.soleField "BunchNotes" "trial") ∈ lw_good := List.mem_filter.mpr ⟨List.mem_of_getElem? (i := 352) (by decide +kernel), rfl⟩
theorem wd_353 : (Jvm.Cond.laysFinal "BunchNotes" "BunchNotes" "text" "LBunchNotes$Text;") ∈ lw_good := List.mem_filter.mpr ⟨List.mem_of_getElem? (i := 353) (by decide +kernel), rfl⟩
theorem wd_354 : (Jvm.Cond.soleField "BunchNotes" "text") ∈ lw_good := List.mem_filter.mpr ⟨List.mem_of_getElem? (i := 354) (by decide +kernel), rfl⟩
theorem wd_355 : (Jvm.Cond.laysFinal "BunchNotes" "BunchNotes" "past" "LBunchNotes$Past;") ∈ lw_good := List.mem_filter.mpr ⟨List.mem_of_getElem? (i := 355) (by decide +kernel), rfl⟩
theorem wd_356 : (Jvm.Cond.soleField "BunchNotes" "past") ∈ lw_good := List.mem_filter.mpr ⟨List.mem_of_getElem? (i := 356) (by decide +kernel), rfl⟩
theorem wd_357 : (Jvm.Cond.laysFinal "BunchNotes" "BunchNotes" "notes" "[LBunchNotes$Note;") ∈ lw_good := List.mem_filter.mpr ⟨List.mem_of_getElem? (i := 357) (by decide +kernel), rfl⟩
theorem wd_358 : (Jvm.Cond.soleField "BunchNotes" "notes") ∈ lw_good := List.mem_filter.mpr ⟨List.mem_of_getElem? (i := 358) (by decide +kernel), rfl⟩
theorem wd_359 : (Jvm.Cond.laysFinal "BunchNotes" "BunchNotes" "draft" "LBunchNotes$Note;") ∈ lw_good := List.mem_filter.mpr ⟨List.mem_of_getElem? (i := 359) (by decide +kernel), rfl⟩
theorem wd_360 : (Jvm.Cond.soleField "BunchNotes" "draft") ∈ lw_good := List.mem_filter.mpr ⟨List.mem_of_getElem? (i := 360) (by decide +kernel), rfl⟩
theorem wd_361 : (Jvm.Cond.laysFinal "BunchNotes" "BunchNotes" "slots" "[LBunchNotes$Slot;") ∈ lw_good := List.mem_filter.mpr ⟨List.mem_of_getElem? (i := 361) (by decide +kernel), rfl⟩
theorem wd_362 : (Jvm.Cond.soleField "BunchNotes" "slots") ∈ lw_good := List.mem_filter.mpr ⟨List.mem_of_getElem? (i := 362) (by decide +kernel), rfl⟩
theorem wd_363 : (Jvm.Cond.laysFinal "BunchNotes" "BunchNotes" "far" "LBunchNotes$Far;") ∈ lw_good := List.mem_filter.mpr ⟨List.mem_of_getElem? (i := 363) (by decide +kernel), rfl⟩
theorem wd_364 : (Jvm.Cond.soleField "BunchNotes" "far") ∈ lw_good := List.mem_filter.mpr ⟨List.mem_of_getElem? (i := 364) (by decide +kernel), rfl⟩
theorem wd_365 : (Jvm.Cond.laysFinal "BunchNotes" "BunchNotes" "thinning" "LBunchNotes$Thinning;") ∈ lw_good := List.mem_filter.mpr ⟨List.mem_of_getElem? (i := 365) (by decide +kernel), rfl⟩
theorem wd_366 : (Jvm.Cond.soleField "BunchNotes" "thinning") ∈ lw_good := List.mem_filter.mpr ⟨List.mem_of_getElem? (i := 366) (by decide +kernel), rfl⟩
theorem wd_367 : (Jvm.Cond.laysFinal "BunchNotes" "BunchNotes" "telling" "LBunchNotes$Telling;") ∈ lw_good := List.mem_filter.mpr ⟨List.mem_of_getElem? (i := 367) (by decide +kernel), rfl⟩
theorem wd_368 : (Jvm.Cond.soleField "BunchNotes" "telling") ∈ lw_good := List.mem_filter.mpr ⟨List.mem_of_getElem? (i := 368) (by decide +kernel), rfl⟩
theorem wd_369 : (Jvm.Cond.laysFinal "BunchNotes" "BunchNotes" "peak" "LBunchNotes$Peak;") ∈ lw_good := List.mem_filter.mpr ⟨List.mem_of_getElem? (i := 369) (by decide +kernel), rfl⟩
theorem wd_370 : (Jvm.Cond.soleField "BunchNotes" "peak") ∈ lw_good := List.mem_filter.mpr ⟨List.mem_of_getElem? (i := 370) (by decide +kernel), rfl⟩
theorem wd_371 : (Jvm.Cond.superclass "BunchNotes" "java/lang/Object") ∈ lw_good := List.mem_filter.mpr ⟨List.mem_of_getElem? (i := 371) (by decide +kernel), rfl⟩
theorem wd_372 : (Jvm.Cond.methodLink "BunchNotesLaw" (13 : Nat) ({ cls := "BunchNotes", name := "type", desc := "(I)I" } : Jvm.MethodName)) ∈ lw_good := List.mem_filter.mpr ⟨List.mem_of_getElem? (i := 372) (by decide +kernel), rfl⟩
theorem wd_373 : (Jvm.Cond.instanceMethod ({ cls := "BunchNotes", name := "type", desc := "(I)I" } : Jvm.MethodName)) ∈ lw_good := List.mem_filter.mpr ⟨List.mem_of_getElem? (i := 373) (by decide +kernel), rfl⟩
theorem wd_374 : (Jvm.Cond.selects "BunchNotes" ({ cls := "BunchNotes", name := "type", desc := "(I)I" } : Jvm.MethodName) ({ cls := "BunchNotes", name := "type", desc := "(I)I" } : Jvm.MethodName)) ∈ lw_good := List.mem_filter.mpr ⟨List.mem_of_getElem? (i := 374) (by decide +kernel), rfl⟩
theorem wd_375 : (Jvm.Cond.code ({ cls := "BunchNotes", name := "type", desc := "(I)I" } : Jvm.MethodName) prog_1_method_2_code (2 : Nat) (Option.some Jvm.ClassFile.FieldType.int)) ∈ lw_good := List.mem_filter.mpr ⟨List.mem_of_getElem? (i := 375) (by decide +kernel), rfl⟩
theorem wd_376 : (Jvm.Cond.methodLink "BunchNotes" (87 : Nat) ({ cls := "BunchNotes$Text", name := "append", desc := "(I)V" } : Jvm.MethodName)) ∈ lw_good := List.mem_filter.mpr ⟨List.mem_of_getElem? (i := 376) (by decide +kernel), rfl⟩
theorem wd_377 : (Jvm.Cond.instanceMethod ({ cls := "BunchNotes$Text", name := "append", desc := "(I)V" } : Jvm.MethodName)) ∈ lw_good := List.mem_filter.mpr ⟨List.mem_of_getElem? (i := 377) (by decide +kernel), rfl⟩
theorem wd_378 : (Jvm.Cond.selects "BunchNotes$Text" ({ cls := "BunchNotes$Text", name := "append", desc := "(I)V" } : Jvm.MethodName) ({ cls := "BunchNotes$Text", name := "append", desc := "(I)V" } : Jvm.MethodName)) ∈ lw_good := List.mem_filter.mpr ⟨List.mem_of_getElem? (i := 378) (by decide +kernel), rfl⟩
theorem wd_379 : (Jvm.Cond.code ({ cls := "BunchNotes$Text", name := "append", desc := "(I)V" } : Jvm.MethodName) prog_9_method_2_code (2 : Nat) (Option.none : Option Jvm.ClassFile.FieldType)) ∈ lw_good := List.mem_filter.mpr ⟨List.mem_of_getElem? (i := 379) (by decide +kernel), rfl⟩
theorem wd_380 : (Jvm.Cond.methodLink "BunchNotesLaw" (18 : Nat) ({ cls := "BunchNotes", name := "erase", desc := "()I" } : Jvm.MethodName)) ∈ lw_good := List.mem_filter.mpr ⟨List.mem_of_getElem? (i := 380) (by decide +kernel), rfl⟩
theorem wd_381 : (Jvm.Cond.instanceMethod ({ cls := "BunchNotes", name := "erase", desc := "()I" } : Jvm.MethodName)) ∈ lw_good := List.mem_filter.mpr ⟨List.mem_of_getElem? (i := 381) (by decide +kernel), rfl⟩
theorem wd_382 : (Jvm.Cond.selects "BunchNotes" ({ cls := "BunchNotes", name := "erase", desc := "()I" } : Jvm.MethodName) ({ cls := "BunchNotes", name := "erase", desc := "()I" } : Jvm.MethodName)) ∈ lw_good := List.mem_filter.mpr ⟨List.mem_of_getElem? (i := 382) (by decide +kernel), rfl⟩
theorem wd_383 : (Jvm.Cond.code ({ cls := "BunchNotes", name := "erase", desc := "()I" } : Jvm.MethodName) prog_1_method_3_code (2 : Nat) (Option.some Jvm.ClassFile.FieldType.int)) ∈ lw_good := List.mem_filter.mpr ⟨List.mem_of_getElem? (i := 383) (by decide +kernel), rfl⟩
theorem wd_384 : (Jvm.Cond.methodLink "BunchNotesLaw" (23 : Nat) ({ cls := "BunchNotes", name := "fault", desc := "()I" } : Jvm.MethodName)) ∈ lw_good := List.mem_filter.mpr ⟨List.mem_of_getElem? (i := 384) (by decide +kernel), rfl⟩
theorem wd_385 : (Jvm.Cond.instanceMethod ({ cls := "BunchNotes", name := "fault", desc := "()I" } : Jvm.MethodName)) ∈ lw_good := List.mem_filter.mpr ⟨List.mem_of_getElem? (i := 385) (by decide +kernel), rfl⟩
theorem wd_386 : (Jvm.Cond.selects "BunchNotes" ({ cls := "BunchNotes", name := "fault", desc := "()I" } : Jvm.MethodName) ({ cls := "BunchNotes", name := "fault", desc := "()I" } : Jvm.MethodName)) ∈ lw_good := List.mem_filter.mpr ⟨List.mem_of_getElem? (i := 386) (by decide +kernel), rfl⟩
theorem wd_387 : (Jvm.Cond.code ({ cls := "BunchNotes", name := "fault", desc := "()I" } : Jvm.MethodName) prog_1_method_4_code (1 : Nat) (Option.some Jvm.ClassFile.FieldType.int)) ∈ lw_good := List.mem_filter.mpr ⟨List.mem_of_getElem? (i := 387) (by decide +kernel), rfl⟩
theorem wd_388 : (Jvm.Cond.methodLink "BunchNotes" (91 : Nat) ({ cls := "BunchNotes", name := "readText", desc := "()I" } : Jvm.MethodName)) ∈ lw_good := List.mem_filter.mpr ⟨List.mem_of_getElem? (i := 388) (by decide +kernel), rfl⟩
theorem wd_389 : (Jvm.Cond.privateMethod ({ cls := "BunchNotes", name := "readText", desc := "()I" } : Jvm.MethodName)) ∈ lw_tbl := List.mem_of_getElem? (i := 389) (by decide +kernel)
theorem wd_390 : (Jvm.Cond.instanceMethod ({ cls := "BunchNotes", name := "readText", desc := "()I" } : Jvm.MethodName)) ∈ lw_good := List.mem_filter.mpr ⟨List.mem_of_getElem? (i := 390) (by decide +kernel), rfl⟩
theorem wd_391 : (Jvm.Cond.code ({ cls := "BunchNotes", name := "readText", desc := "()I" } : Jvm.MethodName) prog_1_method_37_code (1 : Nat) (Option.some Jvm.ClassFile.FieldType.int)) ∈ lw_good := List.mem_filter.mpr ⟨List.mem_of_getElem? (i := 391) (by decide +kernel), rfl⟩
theorem wd_392 : (Jvm.Cond.methodLink "BunchNotes" (95 : Nat) ({ cls := "BunchNotes$Net", name := "copyFrom", desc := "(LBunchNotes$Net;)V" } : Jvm.MethodName)) ∈ lw_good := List.mem_filter.mpr ⟨List.mem_of_getElem? (i := 392) (by decide +kernel), rfl⟩
theorem wd_393 : (Jvm.Cond.instanceMethod ({ cls := "BunchNotes$Net", name := "copyFrom", desc := "(LBunchNotes$Net;)V" } : Jvm.MethodName)) ∈ lw_good := List.mem_filter.mpr ⟨List.mem_of_getElem? (i := 393) (by decide +kernel), rfl⟩
theorem wd_394 : (Jvm.Cond.selects "BunchNotes$Net" ({ cls := "BunchNotes$Net", name := "copyFrom", desc := "(LBunchNotes$Net;)V" } : Jvm.MethodName) ({ cls := "BunchNotes$Net", name := "copyFrom", desc := "(LBunchNotes$Net;)V" } : Jvm.MethodName)) ∈ lw_good := List.mem_filter.mpr ⟨List.mem_of_getElem? (i := 394) (by decide +kernel), rfl⟩
theorem wd_395 : (Jvm.Cond.code ({ cls := "BunchNotes$Net", name := "copyFrom", desc := "(LBunchNotes$Net;)V" } : Jvm.MethodName) prog_3_method_12_code (2 : Nat) (Option.none : Option Jvm.ClassFile.FieldType)) ∈ lw_good := List.mem_filter.mpr ⟨List.mem_of_getElem? (i := 395) (by decide +kernel), rfl⟩
theorem wd_396 : (Jvm.Cond.methodLink "BunchNotes$Net" (46 : Nat) ({ cls := "java/lang/System", name := "arraycopy", desc := "(Ljava/lang/Object;ILjava/lang/Object;II)V" } : Jvm.MethodName)) ∈ lw_good := List.mem_filter.mpr ⟨List.mem_of_getElem? (i := 396) (by decide +kernel), rfl⟩
theorem wd_397 : (Jvm.Cond.static ({ cls := "java/lang/System", name := "arraycopy", desc := "(Ljava/lang/Object;ILjava/lang/Object;II)V" } : Jvm.MethodName)) ∈ lw_good := List.mem_filter.mpr ⟨List.mem_of_getElem? (i := 397) (by decide +kernel), rfl⟩
theorem wd_398 : (Jvm.Cond.native ({ cls := "java/lang/System", name := "arraycopy", desc := "(Ljava/lang/Object;ILjava/lang/Object;II)V" } : Jvm.MethodName)) ∈ lw_good := List.mem_filter.mpr ⟨List.mem_of_getElem? (i := 398) (by decide +kernel), rfl⟩
theorem wd_399 : (Jvm.Cond.methodLink "BunchNotes" (284 : Nat) ({ cls := "BunchNotes$Text", name := "readInto", desc := "(LBunchNotes$Net;)I" } : Jvm.MethodName)) ∈ lw_good := List.mem_filter.mpr ⟨List.mem_of_getElem? (i := 399) (by decide +kernel), rfl⟩
theorem wd_400 : (Jvm.Cond.instanceMethod ({ cls := "BunchNotes$Text", name := "readInto", desc := "(LBunchNotes$Net;)I" } : Jvm.MethodName)) ∈ lw_good := List.mem_filter.mpr ⟨List.mem_of_getElem? (i := 400) (by decide +kernel), rfl⟩
theorem wd_401 : (Jvm.Cond.selects "BunchNotes$Text" ({ cls := "BunchNotes$Text", name := "readInto", desc := "(LBunchNotes$Net;)I" } : Jvm.MethodName) ({ cls := "BunchNotes$Text", name := "readInto", desc := "(LBunchNotes$Net;)I" } : Jvm.MethodName)) ∈ lw_good := List.mem_filter.mpr ⟨List.mem_of_getElem? (i := 401) (by decide +kernel), rfl⟩
theorem wd_402 : (Jvm.Cond.code ({ cls := "BunchNotes$Text", name := "readInto", desc := "(LBunchNotes$Net;)I" } : Jvm.MethodName) prog_9_method_3_code (3 : Nat) (Option.some Jvm.ClassFile.FieldType.int)) ∈ lw_good := List.mem_filter.mpr ⟨List.mem_of_getElem? (i := 402) (by decide +kernel), rfl⟩
theorem wd_403 : (Jvm.Cond.methodLink "BunchNotes$Text" (29 : Nat) ({ cls := "BunchNotes$Text", name := "pass", desc := "()V" } : Jvm.MethodName)) ∈ lw_good := List.mem_filter.mpr ⟨List.mem_of_getElem? (i := 403) (by decide +kernel), rfl⟩
theorem wd_404 : (Jvm.Cond.privateMethod ({ cls := "BunchNotes$Text", name := "pass", desc := "()V" } : Jvm.MethodName)) ∈ lw_tbl := List.mem_of_getElem? (i := 404) (by decide +kernel)
theorem wd_405 : (Jvm.Cond.instanceMethod ({ cls := "BunchNotes$Text", name := "pass", desc := "()V" } : Jvm.MethodName)) ∈ lw_good := List.mem_filter.mpr ⟨List.mem_of_getElem? (i := 405) (by decide +kernel), rfl⟩
theorem wd_406 : (Jvm.Cond.code ({ cls := "BunchNotes$Text", name := "pass", desc := "()V" } : Jvm.MethodName) prog_9_method_8_code (1 : Nat) (Option.none : Option Jvm.ClassFile.FieldType)) ∈ lw_good := List.mem_filter.mpr ⟨List.mem_of_getElem? (i := 406) (by decide +kernel), rfl⟩
theorem wd_407 : (Jvm.Cond.methodLink "BunchNotes$Text" (90 : Nat) ({ cls := "BunchNotes$Text", name := "kindAt", desc := "(I)I" } : Jvm.MethodName)) ∈ lw_good := List.mem_filter.mpr ⟨List.mem_of_getElem? (i := 407) (by decide +kernel), rfl⟩
theorem wd_408 : (Jvm.Cond.privateMethod ({ cls := "BunchNotes$Text", name := "kindAt", desc := "(I)I" } : Jvm.MethodName)) ∈ lw_tbl := List.mem_of_getElem? (i := 408) (by decide +kernel)
theorem wd_409 : (Jvm.Cond.instanceMethod ({ cls := "BunchNotes$Text", name := "kindAt", desc := "(I)I" } : Jvm.MethodName)) ∈ lw_good := List.mem_filter.mpr ⟨List.mem_of_getElem? (i := 409) (by decide +kernel), rfl⟩
theorem wd_410 : (Jvm.Cond.code ({ cls := "BunchNotes$Text", name := "kindAt", desc := "(I)I" } : Jvm.MethodName) prog_9_method_9_code (3 : Nat) (Option.some Jvm.ClassFile.FieldType.int)) ∈ lw_good := List.mem_filter.mpr ⟨List.mem_of_getElem? (i := 410) (by decide +kernel), rfl⟩
theorem wd_411 : (Jvm.Cond.methodLink "BunchNotes$Text" (32 : Nat) ({ cls := "BunchNotes$Text", name := "readClause", desc := "(LBunchNotes$Net;)Z" } : Jvm.MethodName)) ∈ lw_good := List.mem_filter.mpr ⟨List.mem_of_getElem? (i := 411) (by decide +kernel), rfl⟩
theorem wd_412 : (Jvm.Cond.privateMethod ({ cls := "BunchNotes$Text", name := "readClause", desc := "(LBunchNotes$Net;)Z" } : Jvm.MethodName)) ∈ lw_tbl := List.mem_of_getElem? (i := 412) (by decide +kernel)
theorem wd_413 : (Jvm.Cond.instanceMethod ({ cls := "BunchNotes$Text", name := "readClause", desc := "(LBunchNotes$Net;)Z" } : Jvm.MethodName)) ∈ lw_good := List.mem_filter.mpr ⟨List.mem_of_getElem? (i := 413) (by decide +kernel), rfl⟩
theorem wd_414 : (Jvm.Cond.code ({ cls := "BunchNotes$Text", name := "readClause", desc := "(LBunchNotes$Net;)Z" } : Jvm.MethodName) prog_9_method_4_code (2 : Nat) (Option.some Jvm.ClassFile.FieldType.boolean)) ∈ lw_good := List.mem_filter.mpr ⟨List.mem_of_getElem? (i := 414) (by decide +kernel), rfl⟩
theorem wd_415 : (Jvm.Cond.stringRef "BunchNotes$Text" (46 : Nat) "net") ∈ lw_tbl := List.mem_of_getElem? (i := 415) (by decide +kernel)
theorem wd_416 : (Jvm.Cond.methodLink "BunchNotes$Text" (48 : Nat) ({ cls := "BunchNotes$Text", name := "isWord", desc := "(Ljava/lang/String;)Z" } : Jvm.MethodName)) ∈ lw_good := List.mem_filter.mpr ⟨List.mem_of_getElem? (i := 416) (by decide +kernel), rfl⟩
theorem wd_417 : (Jvm.Cond.privateMethod ({ cls := "BunchNotes$Text", name := "isWord", desc := "(Ljava/lang/String;)Z" } : Jvm.MethodName)) ∈ lw_tbl := List.mem_of_getElem? (i := 417) (by decide +kernel)
theorem wd_418 : (Jvm.Cond.instanceMethod ({ cls := "BunchNotes$Text", name := "isWord", desc := "(Ljava/lang/String;)Z" } : Jvm.MethodName)) ∈ lw_good := List.mem_filter.mpr ⟨List.mem_of_getElem? (i := 418) (by decide +kernel), rfl⟩
