/-! every word of the tables, by its place; lw_ok: those that every callee may be handed -/
def lw_ok : List Cond := lw_tbl.filter goodWord
theorem q_0 : (Cond.selects "MusicBoxes" ⟨"MusicBoxes", "refuse", "(I)I"⟩ ⟨"MusicBoxes", "refuse", "(I)I"⟩) ∈ lw_ok := List.mem_filter.mpr ⟨List.mem_of_getElem? (i := 0) rfl, rfl⟩
theorem q_1 : (Cond.selects "MusicBoxes" ⟨"MusicBoxes", "grant", "(I)I"⟩ ⟨"MusicBoxes", "grant", "(I)I"⟩) ∈ lw_ok := List.mem_filter.mpr ⟨List.mem_of_getElem? (i := 1) rfl, rfl⟩
theorem q_2 : (Cond.selects "MusicBoxes" ⟨"MusicBoxes", "trackOfDrum", "(II)LMusicBoxes$Track;"⟩ ⟨"MusicBoxes", "trackOfDrum", "(II)LMusicBoxes$Track;"⟩) ∈ lw_ok := List.mem_filter.mpr ⟨List.mem_of_getElem? (i := 2) rfl, rfl⟩
theorem q_3 : (Cond.selects "MusicBoxes" ⟨"MusicBoxes", "wanted", "(LMusicBoxes$Track;)LMusicBoxes$Track;"⟩ ⟨"MusicBoxes", "wanted", "(LMusicBoxes$Track;)LMusicBoxes$Track;"⟩) ∈ lw_ok := List.mem_filter.mpr ⟨List.mem_of_getElem? (i := 3) rfl, rfl⟩
theorem q_4 : (Cond.selects "MusicBoxes" ⟨"MusicBoxes", "valueIn", "(LMusicBoxes$Track;I)I"⟩ ⟨"MusicBoxes", "valueIn", "(LMusicBoxes$Track;I)I"⟩) ∈ lw_ok := List.mem_filter.mpr ⟨List.mem_of_getElem? (i := 4) rfl, rfl⟩
theorem q_5 : (Cond.selects "MusicBoxes" ⟨"MusicBoxes", "putInto", "(LMusicBoxes$Track;II)I"⟩ ⟨"MusicBoxes", "putInto", "(LMusicBoxes$Track;II)I"⟩) ∈ lw_ok := List.mem_filter.mpr ⟨List.mem_of_getElem? (i := 5) rfl, rfl⟩
theorem q_6 : (Cond.selects "MusicBoxes" ⟨"MusicBoxes", "alterIn", "(LMusicBoxes$Track;II)I"⟩ ⟨"MusicBoxes", "alterIn", "(LMusicBoxes$Track;II)I"⟩) ∈ lw_ok := List.mem_filter.mpr ⟨List.mem_of_getElem? (i := 6) rfl, rfl⟩
theorem q_7 : (Cond.selects "MusicBoxes$Drum" ⟨"MusicBoxes$Drum", "someTrackHas", "(I)Z"⟩ ⟨"MusicBoxes$Drum", "someTrackHas", "(I)Z"⟩) ∈ lw_ok := List.mem_filter.mpr ⟨List.mem_of_getElem? (i := 7) rfl, rfl⟩
theorem q_8 : (Cond.selects "MusicBoxes$Drum" ⟨"MusicBoxes$Drum", "playPlace", "(I)V"⟩ ⟨"MusicBoxes$Drum", "playPlace", "(I)V"⟩) ∈ lw_ok := List.mem_filter.mpr ⟨List.mem_of_getElem? (i := 8) rfl, rfl⟩
theorem q_9 : (Cond.selects "MusicBoxes$Drum" ⟨"MusicBoxes$Drum", "ask", "(III)I"⟩ ⟨"MusicBoxes$Drum", "ask", "(III)I"⟩) ∈ lw_ok := List.mem_filter.mpr ⟨List.mem_of_getElem? (i := 9) rfl, rfl⟩
theorem q_10 : (Cond.selects "MusicBoxes$Drum" ⟨"MusicBoxes$Drum", "askLevel", "(I)F"⟩ ⟨"MusicBoxes$Drum", "askLevel", "(I)F"⟩) ∈ lw_ok := List.mem_filter.mpr ⟨List.mem_of_getElem? (i := 10) rfl, rfl⟩
theorem q_11 : (Cond.selects "MusicBoxes$Drum" ⟨"MusicBoxes$Drum", "sound", "(IIF)V"⟩ ⟨"MusicBoxes$Drum", "sound", "(IIF)V"⟩) ∈ lw_ok := List.mem_filter.mpr ⟨List.mem_of_getElem? (i := 11) rfl, rfl⟩
theorem q_12 : (Cond.selects "MusicBoxes" ⟨"MusicBoxes", "combOf", "(I)LMusicBoxes$Comb;"⟩ ⟨"MusicBoxes", "combOf", "(I)LMusicBoxes$Comb;"⟩) ∈ lw_ok := List.mem_filter.mpr ⟨List.mem_of_getElem? (i := 12) rfl, rfl⟩
theorem q_13 : (Cond.selects "MusicBoxes$Comb" ⟨"MusicBoxes$Comb", "countLacking", "()I"⟩ ⟨"MusicBoxes$Comb", "countLacking", "()I"⟩) ∈ lw_ok := List.mem_filter.mpr ⟨List.mem_of_getElem? (i := 13) rfl, rfl⟩
theorem q_14 : (Cond.selects "MusicBoxes$Comb" ⟨"MusicBoxes$Comb", "countPlaces", "()I"⟩ ⟨"MusicBoxes$Comb", "countPlaces", "()I"⟩) ∈ lw_ok := List.mem_filter.mpr ⟨List.mem_of_getElem? (i := 14) rfl, rfl⟩
theorem q_15 : (Cond.selects "MusicBoxes" ⟨"MusicBoxes", "combWithTooth", "(II)LMusicBoxes$Comb;"⟩ ⟨"MusicBoxes", "combWithTooth", "(II)LMusicBoxes$Comb;"⟩) ∈ lw_ok := List.mem_filter.mpr ⟨List.mem_of_getElem? (i := 15) rfl, rfl⟩
theorem q_16 : (Cond.selects "MusicBoxes" ⟨"MusicBoxes", "trackOfTooth", "(II)LMusicBoxes$Track;"⟩ ⟨"MusicBoxes", "trackOfTooth", "(II)LMusicBoxes$Track;"⟩) ∈ lw_ok := List.mem_filter.mpr ⟨List.mem_of_getElem? (i := 16) rfl, rfl⟩
theorem q_17 : (Cond.selects "MusicBoxesModel" ⟨"MusicBoxesModel", "told", "(I)I"⟩ ⟨"MusicBoxesModel", "told", "(I)I"⟩) ∈ lw_ok := List.mem_filter.mpr ⟨List.mem_of_getElem? (i := 17) rfl, rfl⟩
theorem q_18 : (Cond.selects "MusicBoxesModel" ⟨"MusicBoxesModel", "newTrack", "(I)I"⟩ ⟨"MusicBoxesModel", "newTrack", "(I)I"⟩) ∈ lw_ok := List.mem_filter.mpr ⟨List.mem_of_getElem? (i := 18) rfl, rfl⟩
theorem q_19 : (Cond.selects "MusicBoxesModel" ⟨"MusicBoxesModel", "drumGets", "(III)V"⟩ ⟨"MusicBoxesModel", "drumGets", "(III)V"⟩) ∈ lw_ok := List.mem_filter.mpr ⟨List.mem_of_getElem? (i := 19) rfl, rfl⟩
theorem q_20 : (Cond.selects "MusicBoxesModel" ⟨"MusicBoxesModel", "reads", "(II)I"⟩ ⟨"MusicBoxesModel", "reads", "(II)I"⟩) ∈ lw_ok := List.mem_filter.mpr ⟨List.mem_of_getElem? (i := 20) rfl, rfl⟩
theorem q_21 : (Cond.selects "MusicBoxesModel" ⟨"MusicBoxesModel", "lacks", "(II)I"⟩ ⟨"MusicBoxesModel", "lacks", "(II)I"⟩) ∈ lw_ok := List.mem_filter.mpr ⟨List.mem_of_getElem? (i := 21) rfl, rfl⟩
theorem q_22 : (Cond.selects "MusicBoxesModel" ⟨"MusicBoxesModel", "writes", "(IIII)I"⟩ ⟨"MusicBoxesModel", "writes", "(IIII)I"⟩) ∈ lw_ok := List.mem_filter.mpr ⟨List.mem_of_getElem? (i := 22) rfl, rfl⟩
theorem q_23 : (Cond.selects "MusicBoxesModel" ⟨"MusicBoxesModel", "turns", "(IIII)I"⟩ ⟨"MusicBoxesModel", "turns", "(IIII)I"⟩) ∈ lw_ok := List.mem_filter.mpr ⟨List.mem_of_getElem? (i := 23) rfl, rfl⟩
theorem q_24 : (Cond.selects "MusicBoxesModel" ⟨"MusicBoxesModel", "isThere", "(III)Z"⟩ ⟨"MusicBoxesModel", "isThere", "(III)Z"⟩) ∈ lw_ok := List.mem_filter.mpr ⟨List.mem_of_getElem? (i := 24) rfl, rfl⟩
theorem q_25 : (Cond.selects "MusicBoxesModel" ⟨"MusicBoxesModel", "sounds", "(II)Z"⟩ ⟨"MusicBoxesModel", "sounds", "(II)Z"⟩) ∈ lw_ok := List.mem_filter.mpr ⟨List.mem_of_getElem? (i := 25) rfl, rfl⟩
theorem q_26 : (Cond.selects "MusicBoxesModel" ⟨"MusicBoxesModel", "at", "(III)I"⟩ ⟨"MusicBoxesModel", "at", "(III)I"⟩) ∈ lw_ok := List.mem_filter.mpr ⟨List.mem_of_getElem? (i := 26) rfl, rfl⟩
theorem q_27 : (Cond.selects "MusicBoxesModel" ⟨"MusicBoxesModel", "empties", "(I)I"⟩ ⟨"MusicBoxesModel", "empties", "(I)I"⟩) ∈ lw_ok := List.mem_filter.mpr ⟨List.mem_of_getElem? (i := 27) rfl, rfl⟩
theorem q_28 : (Cond.selects "MusicBoxesModel" ⟨"MusicBoxesModel", "toothGets", "(III)V"⟩ ⟨"MusicBoxesModel", "toothGets", "(III)V"⟩) ∈ lw_ok := List.mem_filter.mpr ⟨List.mem_of_getElem? (i := 28) rfl, rfl⟩
theorem q_29 : (Cond.selects "MusicBoxesModel" ⟨"MusicBoxesModel", "isComb", "(I)Z"⟩ ⟨"MusicBoxesModel", "isComb", "(I)Z"⟩) ∈ lw_ok := List.mem_filter.mpr ⟨List.mem_of_getElem? (i := 29) rfl, rfl⟩
theorem q_30 : (Cond.selects "MusicBoxesModel" ⟨"MusicBoxesModel", "isTooth", "(II)Z"⟩ ⟨"MusicBoxesModel", "isTooth", "(II)Z"⟩) ∈ lw_ok := List.mem_filter.mpr ⟨List.mem_of_getElem? (i := 30) rfl, rfl⟩
theorem q_31 : (Cond.initialized "MusicBoxesLaw") ∈ lw_ok := List.mem_filter.mpr ⟨List.mem_of_getElem? (i := 31) rfl, rfl⟩
theorem q_32 : (Cond.initialized "MusicBoxes") ∈ lw_ok := List.mem_filter.mpr ⟨List.mem_of_getElem? (i := 32) rfl, rfl⟩
theorem q_33 : (Cond.initialized "MusicBoxes$Drum") ∈ lw_ok := List.mem_filter.mpr ⟨List.mem_of_getElem? (i := 33) rfl, rfl⟩
theorem q_34 : (Cond.initialized "MusicBoxesModel") ∈ lw_ok := List.mem_filter.mpr ⟨List.mem_of_getElem? (i := 34) rfl, rfl⟩
theorem q_35 : (Cond.initialized "MusicBoxes$Track") ∈ lw_ok := List.mem_filter.mpr ⟨List.mem_of_getElem? (i := 35) rfl, rfl⟩
theorem q_36 : (Cond.initialized "MusicBoxes$PinTrack") ∈ lw_ok := List.mem_filter.mpr ⟨List.mem_of_getElem? (i := 36) rfl, rfl⟩
theorem q_37 : (Cond.initialized "MusicBoxes$SignTrack") ∈ lw_ok := List.mem_filter.mpr ⟨List.mem_of_getElem? (i := 37) rfl, rfl⟩
theorem q_38 : (Cond.initialized "MusicBoxes$LengthTrack") ∈ lw_ok := List.mem_filter.mpr ⟨List.mem_of_getElem? (i := 38) rfl, rfl⟩
theorem q_39 : (Cond.initialized "MusicBoxes$LevelTrack") ∈ lw_ok := List.mem_filter.mpr ⟨List.mem_of_getElem? (i := 39) rfl, rfl⟩
theorem q_40 : (Cond.initialized "MusicBoxes$BendTrack") ∈ lw_ok := List.mem_filter.mpr ⟨List.mem_of_getElem? (i := 40) rfl, rfl⟩
theorem q_41 : (Cond.initialized "java/lang/Float") ∈ lw_ok := List.mem_filter.mpr ⟨List.mem_of_getElem? (i := 41) rfl, rfl⟩
theorem q_42 : (Cond.initialized "MusicBoxes$Comb") ∈ lw_ok := List.mem_filter.mpr ⟨List.mem_of_getElem? (i := 42) rfl, rfl⟩
theorem q_43 : (Cond.classLink "MusicBoxesLaw" 7 "MusicBoxes") ∈ lw_ok := List.mem_filter.mpr ⟨List.mem_of_getElem? (i := 43) rfl, rfl⟩
theorem q_44 : (Cond.instantiable "MusicBoxes" 3) ∈ lw_ok := List.mem_filter.mpr ⟨List.mem_of_getElem? (i := 44) rfl, rfl⟩
theorem q_45 : (Cond.methodLink "MusicBoxesLaw" 9 ⟨"MusicBoxes", "<init>", "()V"⟩) ∈ lw_ok := List.mem_filter.mpr ⟨List.mem_of_getElem? (i := 45) rfl, rfl⟩
theorem q_46 : (Cond.instanceMethod ⟨"MusicBoxes", "<init>", "()V"⟩) ∈ lw_ok := List.mem_filter.mpr ⟨List.mem_of_getElem? (i := 46) rfl, rfl⟩
theorem q_47 : (Cond.code ⟨"MusicBoxes", "<init>", "()V"⟩ prog_1_method_1_code 2 (Option.none : Option Jvm.ClassFile.FieldType)) ∈ lw_ok := List.mem_filter.mpr ⟨List.mem_of_getElem? (i := 47) rfl, rfl⟩
theorem q_48 : (Cond.methodLink "MusicBoxes" 1 ⟨"java/lang/Object", "<init>", "()V"⟩) ∈ lw_ok := List.mem_filter.mpr ⟨List.mem_of_getElem? (i := 48) rfl, rfl⟩
theorem q_49 : (Cond.instanceMethod ⟨"java/lang/Object", "<init>", "()V"⟩) ∈ lw_ok := List.mem_filter.mpr ⟨List.mem_of_getElem? (i := 49) rfl, rfl⟩
theorem q_50 : (Cond.code ⟨"java/lang/Object", "<init>", "()V"⟩ object_method_1_code 1 (Option.none : Option Jvm.ClassFile.FieldType)) ∈ lw_ok := List.mem_filter.mpr ⟨List.mem_of_getElem? (i := 50) rfl, rfl⟩
theorem q_51 : (Cond.classLink "MusicBoxes" 9 "MusicBoxes$Drum") ∈ lw_ok := List.mem_filter.mpr ⟨List.mem_of_getElem? (i := 51) rfl, rfl⟩
theorem q_52 : (Cond.arrayOver (Jvm.ClassFile.FieldType.object "MusicBoxes$Drum")) ∈ lw_tbl := List.mem_of_getElem? (i := 52) rfl
theorem q_53 : (Cond.instantiable "MusicBoxes$Drum" 8) ∈ lw_ok := List.mem_filter.mpr ⟨List.mem_of_getElem? (i := 53) rfl, rfl⟩
theorem q_54 : (Cond.methodLink "MusicBoxes" 15 ⟨"MusicBoxes$Drum", "<init>", "()V"⟩) ∈ lw_ok := List.mem_filter.mpr ⟨List.mem_of_getElem? (i := 54) rfl, rfl⟩
theorem q_55 : (Cond.instanceMethod ⟨"MusicBoxes$Drum", "<init>", "()V"⟩) ∈ lw_ok := List.mem_filter.mpr ⟨List.mem_of_getElem? (i := 55) rfl, rfl⟩
theorem q_56 : (Cond.code ⟨"MusicBoxes$Drum", "<init>", "()V"⟩ prog_4_method_1_code 1 (Option.none : Option Jvm.ClassFile.FieldType)) ∈ lw_ok := List.mem_filter.mpr ⟨List.mem_of_getElem? (i := 56) rfl, rfl⟩
theorem q_57 : (Cond.methodLink "MusicBoxes$Drum" 3 ⟨"java/lang/Object", "<init>", "()V"⟩) ∈ lw_ok := List.mem_filter.mpr ⟨List.mem_of_getElem? (i := 57) rfl, rfl⟩
theorem q_58 : (Cond.classLink "MusicBoxes$Drum" 9 "MusicBoxes$Track") ∈ lw_ok := List.mem_filter.mpr ⟨List.mem_of_getElem? (i := 58) rfl, rfl⟩
theorem q_59 : (Cond.arrayOver (Jvm.ClassFile.FieldType.object "MusicBoxes$Track")) ∈ lw_tbl := List.mem_of_getElem? (i := 59) rfl
theorem q_60 : (Cond.fieldLink "MusicBoxes$Drum" 11 "MusicBoxes$Drum" "tracks" "[LMusicBoxes$Track;") ∈ lw_ok := List.mem_filter.mpr ⟨List.mem_of_getElem? (i := 60) rfl, rfl⟩
theorem q_61 : (Cond.fieldLink "MusicBoxes" 41 "MusicBoxes$Drum" "tracks" "[LMusicBoxes$Track;") ∈ lw_ok := List.mem_filter.mpr ⟨List.mem_of_getElem? (i := 61) rfl, rfl⟩
theorem q_62 : (Cond.fieldLink "MusicBoxes$Drum" 21 "MusicBoxes$Drum" "headAt" "I") ∈ lw_ok := List.mem_filter.mpr ⟨List.mem_of_getElem? (i := 62) rfl, rfl⟩
theorem q_63 : (Cond.fieldLink "MusicBoxes" 71 "MusicBoxes$Drum" "headAt" "I") ∈ lw_ok := List.mem_filter.mpr ⟨List.mem_of_getElem? (i := 63) rfl, rfl⟩
theorem q_64 : (Cond.fieldLink "MusicBoxes$Drum" 17 "MusicBoxes$Drum" "notes" "I") ∈ lw_ok := List.mem_filter.mpr ⟨List.mem_of_getElem? (i := 64) rfl, rfl⟩
theorem q_65 : (Cond.fieldLink "MusicBoxes" 81 "MusicBoxes$Drum" "notes" "I") ∈ lw_ok := List.mem_filter.mpr ⟨List.mem_of_getElem? (i := 65) rfl, rfl⟩
theorem q_66 : (Cond.fieldLink "MusicBoxes$Drum" 43 "MusicBoxes$Drum" "placesPlayed" "I") ∈ lw_ok := List.mem_filter.mpr ⟨List.mem_of_getElem? (i := 66) rfl, rfl⟩
theorem q_67 : (Cond.fieldLink "MusicBoxes$Drum" 54 "MusicBoxes$Drum" "gaps" "I") ∈ lw_ok := List.mem_filter.mpr ⟨List.mem_of_getElem? (i := 67) rfl, rfl⟩
theorem q_68 : (Cond.fieldLink "MusicBoxes$Drum" 70 "MusicBoxes$Drum" "weights" "J") ∈ lw_ok := List.mem_filter.mpr ⟨List.mem_of_getElem? (i := 68) rfl, rfl⟩
theorem q_69 : (Cond.fieldLink "MusicBoxes$Drum" 63 "MusicBoxes$Drum" "highestPitch" "I") ∈ lw_ok := List.mem_filter.mpr ⟨List.mem_of_getElem? (i := 69) rfl, rfl⟩
theorem q_70 : (Cond.fieldLink "MusicBoxes$Drum" 66 "MusicBoxes$Drum" "greatestLevel" "F") ∈ lw_ok := List.mem_filter.mpr ⟨List.mem_of_getElem? (i := 70) rfl, rfl⟩
theorem q_71 : (Cond.laysFinal "MusicBoxes$Drum" "MusicBoxes$Drum" "tracks" "[LMusicBoxes$Track;") ∈ lw_ok := List.mem_filter.mpr ⟨List.mem_of_getElem? (i := 71) rfl, rfl⟩
theorem q_72 : (Cond.soleField "MusicBoxes$Drum" "tracks") ∈ lw_ok := List.mem_filter.mpr ⟨List.mem_of_getElem? (i := 72) rfl, rfl⟩
theorem q_73 : (Cond.lays "MusicBoxes$Drum" "MusicBoxes$Drum" "headAt" "I") ∈ lw_ok := List.mem_filter.mpr ⟨List.mem_of_getElem? (i := 73) rfl, rfl⟩
theorem q_74 : (Cond.soleField "MusicBoxes$Drum" "headAt") ∈ lw_ok := List.mem_filter.mpr ⟨List.mem_of_getElem? (i := 74) rfl, rfl⟩
theorem q_75 : (Cond.lays "MusicBoxes$Drum" "MusicBoxes$Drum" "notes" "I") ∈ lw_ok := List.mem_filter.mpr ⟨List.mem_of_getElem? (i := 75) rfl, rfl⟩
theorem q_76 : (Cond.soleField "MusicBoxes$Drum" "notes") ∈ lw_ok := List.mem_filter.mpr ⟨List.mem_of_getElem? (i := 76) rfl, rfl⟩
theorem q_77 : (Cond.lays "MusicBoxes$Drum" "MusicBoxes$Drum" "placesPlayed" "I") ∈ lw_ok := List.mem_filter.mpr ⟨List.mem_of_getElem? (i := 77) rfl, rfl⟩
theorem q_78 : (Cond.soleField "MusicBoxes$Drum" "placesPlayed") ∈ lw_ok := List.mem_filter.mpr ⟨List.mem_of_getElem? (i := 78) rfl, rfl⟩
theorem q_79 : (Cond.lays "MusicBoxes$Drum" "MusicBoxes$Drum" "gaps" "I") ∈ lw_ok := List.mem_filter.mpr ⟨List.mem_of_getElem? (i := 79) rfl, rfl⟩
theorem q_80 : (Cond.soleField "MusicBoxes$Drum" "gaps") ∈ lw_ok := List.mem_filter.mpr ⟨List.mem_of_getElem? (i := 80) rfl, rfl⟩
theorem q_81 : (Cond.lays "MusicBoxes$Drum" "MusicBoxes$Drum" "weights" "J") ∈ lw_ok := List.mem_filter.mpr ⟨List.mem_of_getElem? (i := 81) rfl, rfl⟩
theorem q_82 : (Cond.soleField "MusicBoxes$Drum" "weights") ∈ lw_ok := List.mem_filter.mpr ⟨List.mem_of_getElem? (i := 82) rfl, rfl⟩
theorem q_83 : (Cond.lays "MusicBoxes$Drum" "MusicBoxes$Drum" "highestPitch" "I") ∈ lw_ok := List.mem_filter.mpr ⟨List.mem_of_getElem? (i := 83) rfl, rfl⟩
theorem q_84 : (Cond.soleField "MusicBoxes$Drum" "highestPitch") ∈ lw_ok := List.mem_filter.mpr ⟨List.mem_of_getElem? (i := 84) rfl, rfl⟩
theorem q_85 : (Cond.lays "MusicBoxes$Drum" "MusicBoxes$Drum" "greatestLevel" "F") ∈ lw_ok := List.mem_filter.mpr ⟨List.mem_of_getElem? (i := 85) rfl, rfl⟩
theorem q_86 : (Cond.soleField "MusicBoxes$Drum" "greatestLevel") ∈ lw_ok := List.mem_filter.mpr ⟨List.mem_of_getElem? (i := 86) rfl, rfl⟩
theorem q_87 : (Cond.superclass "MusicBoxes$Drum" "java/lang/Object") ∈ lw_ok := List.mem_filter.mpr ⟨List.mem_of_getElem? (i := 87) rfl, rfl⟩
theorem q_88 : (Cond.classLink "MusicBoxes" 16 "MusicBoxes$Comb") ∈ lw_ok := List.mem_filter.mpr ⟨List.mem_of_getElem? (i := 88) rfl, rfl⟩
theorem q_89 : (Cond.arrayOver (Jvm.ClassFile.FieldType.object "MusicBoxes$Comb")) ∈ lw_tbl := List.mem_of_getElem? (i := 89) rfl
theorem q_90 : (Cond.fieldLink "MusicBoxes" 11 "MusicBoxes" "drums" "[LMusicBoxes$Drum;") ∈ lw_ok := List.mem_filter.mpr ⟨List.mem_of_getElem? (i := 90) rfl, rfl⟩
theorem q_91 : (Cond.fieldLink "MusicBoxes" 18 "MusicBoxes" "combs" "[LMusicBoxes$Comb;") ∈ lw_ok := List.mem_filter.mpr ⟨List.mem_of_getElem? (i := 91) rfl, rfl⟩
theorem q_92 : (Cond.fieldLink "MusicBoxes" 22 "MusicBoxes" "refusal" "I") ∈ lw_ok := List.mem_filter.mpr ⟨List.mem_of_getElem? (i := 92) rfl, rfl⟩
theorem q_93 : (Cond.laysFinal "MusicBoxes" "MusicBoxes" "drums" "[LMusicBoxes$Drum;") ∈ lw_ok := List.mem_filter.mpr ⟨List.mem_of_getElem? (i := 93) rfl, rfl⟩
theorem q_94 : (Cond.soleField "MusicBoxes" "drums") ∈ lw_ok := List.mem_filter.mpr ⟨List.mem_of_getElem? (i := 94) rfl, rfl⟩
theorem q_95 : (Cond.laysFinal "MusicBoxes" "MusicBoxes" "combs" "[LMusicBoxes$Comb;") ∈ lw_ok := List.mem_filter.mpr ⟨List.mem_of_getElem? (i := 95) rfl, rfl⟩
theorem q_96 : (Cond.soleField "MusicBoxes" "combs") ∈ lw_ok := List.mem_filter.mpr ⟨List.mem_of_getElem? (i := 96) rfl, rfl⟩
theorem q_97 : (Cond.lays "MusicBoxes" "MusicBoxes" "refusal" "I") ∈ lw_ok := List.mem_filter.mpr ⟨List.mem_of_getElem? (i := 97) rfl, rfl⟩
theorem q_98 : (Cond.soleField "MusicBoxes" "refusal") ∈ lw_ok := List.mem_filter.mpr ⟨List.mem_of_getElem? (i := 98) rfl, rfl⟩
theorem q_99 : (Cond.superclass "MusicBoxes" "java/lang/Object") ∈ lw_ok := List.mem_filter.mpr ⟨List.mem_of_getElem? (i := 99) rfl, rfl⟩
theorem q_100 : (Cond.methodLink "MusicBoxesLaw" 13 ⟨"MusicBoxes", "cut", "(III)I"⟩) ∈ lw_ok := List.mem_filter.mpr ⟨List.mem_of_getElem? (i := 100) rfl, rfl⟩
theorem q_101 : (Cond.instanceMethod ⟨"MusicBoxes", "cut", "(III)I"⟩) ∈ lw_ok := List.mem_filter.mpr ⟨List.mem_of_getElem? (i := 101) rfl, rfl⟩
theorem q_102 : (Cond.selects "MusicBoxes" ⟨"MusicBoxes", "cut", "(III)I"⟩ ⟨"MusicBoxes", "cut", "(III)I"⟩) ∈ lw_ok := List.mem_filter.mpr ⟨List.mem_of_getElem? (i := 102) rfl, rfl⟩
theorem q_103 : (Cond.code ⟨"MusicBoxes", "cut", "(III)I"⟩ prog_1_method_2_code 4 (Option.some Jvm.ClassFile.FieldType.int)) ∈ lw_ok := List.mem_filter.mpr ⟨List.mem_of_getElem? (i := 103) rfl, rfl⟩
theorem q_104 : (Cond.methodLink "MusicBoxes" 26 ⟨"MusicBoxes", "isDrum", "(I)Z"⟩) ∈ lw_ok := List.mem_filter.mpr ⟨List.mem_of_getElem? (i := 104) rfl, rfl⟩
theorem q_105 : (Cond.static ⟨"MusicBoxes", "isDrum", "(I)Z"⟩) ∈ lw_ok := List.mem_filter.mpr ⟨List.mem_of_getElem? (i := 105) rfl, rfl⟩
theorem q_106 : (Cond.code ⟨"MusicBoxes", "isDrum", "(I)Z"⟩ prog_1_method_26_code 1 (Option.some Jvm.ClassFile.FieldType.boolean)) ∈ lw_ok := List.mem_filter.mpr ⟨List.mem_of_getElem? (i := 106) rfl, rfl⟩
theorem q_107 : (Cond.methodLink "MusicBoxes" 30 ⟨"MusicBoxes", "isKind", "(I)Z"⟩) ∈ lw_ok := List.mem_filter.mpr ⟨List.mem_of_getElem? (i := 107) rfl, rfl⟩
theorem q_108 : (Cond.static ⟨"MusicBoxes", "isKind", "(I)Z"⟩) ∈ lw_ok := List.mem_filter.mpr ⟨List.mem_of_getElem? (i := 108) rfl, rfl⟩
theorem q_109 : (Cond.code ⟨"MusicBoxes", "isKind", "(I)Z"⟩ prog_1_method_27_code 1 (Option.some Jvm.ClassFile.FieldType.boolean)) ∈ lw_ok := List.mem_filter.mpr ⟨List.mem_of_getElem? (i := 109) rfl, rfl⟩
theorem q_110 : (Cond.methodLink "MusicBoxes" 33 ⟨"MusicBoxes", "refuse", "(I)I"⟩) ∈ lw_ok := List.mem_filter.mpr ⟨List.mem_of_getElem? (i := 110) rfl, rfl⟩
theorem q_111 : (Cond.privateMethod ⟨"MusicBoxes", "refuse", "(I)I"⟩) ∈ lw_tbl := List.mem_of_getElem? (i := 111) rfl
theorem q_112 : (Cond.instanceMethod ⟨"MusicBoxes", "refuse", "(I)I"⟩) ∈ lw_ok := List.mem_filter.mpr ⟨List.mem_of_getElem? (i := 112) rfl, rfl⟩
theorem q_113 : (Cond.code ⟨"MusicBoxes", "refuse", "(I)I"⟩ prog_1_method_23_code 2 (Option.some Jvm.ClassFile.FieldType.int)) ∈ lw_ok := List.mem_filter.mpr ⟨List.mem_of_getElem? (i := 113) rfl, rfl⟩
theorem q_114 : (Cond.methodLink "MusicBoxes" 37 ⟨"MusicBoxes", "isUpTo", "(II)Z"⟩) ∈ lw_ok := List.mem_filter.mpr ⟨List.mem_of_getElem? (i := 114) rfl, rfl⟩
theorem q_115 : (Cond.static ⟨"MusicBoxes", "isUpTo", "(II)Z"⟩) ∈ lw_ok := List.mem_filter.mpr ⟨List.mem_of_getElem? (i := 115) rfl, rfl⟩
theorem q_116 : (Cond.code ⟨"MusicBoxes", "isUpTo", "(II)Z"⟩ prog_1_method_25_code 2 (Option.some Jvm.ClassFile.FieldType.boolean)) ∈ lw_ok := List.mem_filter.mpr ⟨List.mem_of_getElem? (i := 116) rfl, rfl⟩
theorem q_117 : (Cond.methodLink "MusicBoxes" 45 ⟨"MusicBoxes", "newTrack", "(II)LMusicBoxes$Track;"⟩) ∈ lw_ok := List.mem_filter.mpr ⟨List.mem_of_getElem? (i := 117) rfl, rfl⟩
theorem q_118 : (Cond.static ⟨"MusicBoxes", "newTrack", "(II)LMusicBoxes$Track;"⟩) ∈ lw_ok := List.mem_filter.mpr ⟨List.mem_of_getElem? (i := 118) rfl, rfl⟩
theorem q_119 : (Cond.code ⟨"MusicBoxes", "newTrack", "(II)LMusicBoxes$Track;"⟩ prog_1_method_37_code 2 (Option.some (Jvm.ClassFile.FieldType.object "MusicBoxes$Track"))) ∈ lw_ok := List.mem_filter.mpr ⟨List.mem_of_getElem? (i := 119) rfl, rfl⟩
theorem q_120 : (Cond.classLink "MusicBoxes" 129 "MusicBoxes$PinTrack") ∈ lw_ok := List.mem_filter.mpr ⟨List.mem_of_getElem? (i := 120) rfl, rfl⟩
theorem q_121 : (Cond.instantiable "MusicBoxes$PinTrack" 2) ∈ lw_ok := List.mem_filter.mpr ⟨List.mem_of_getElem? (i := 121) rfl, rfl⟩
theorem q_122 : (Cond.methodLink "MusicBoxes" 131 ⟨"MusicBoxes$PinTrack", "<init>", "(I)V"⟩) ∈ lw_ok := List.mem_filter.mpr ⟨List.mem_of_getElem? (i := 122) rfl, rfl⟩
theorem q_123 : (Cond.instanceMethod ⟨"MusicBoxes$PinTrack", "<init>", "(I)V"⟩) ∈ lw_ok := List.mem_filter.mpr ⟨List.mem_of_getElem? (i := 123) rfl, rfl⟩
theorem q_124 : (Cond.code ⟨"MusicBoxes$PinTrack", "<init>", "(I)V"⟩ prog_7_method_1_code 2 (Option.none : Option Jvm.ClassFile.FieldType)) ∈ lw_ok := List.mem_filter.mpr ⟨List.mem_of_getElem? (i := 124) rfl, rfl⟩
theorem q_125 : (Cond.methodLink "MusicBoxes$PinTrack" 1 ⟨"MusicBoxes$Track", "<init>", "(I)V"⟩) ∈ lw_ok := List.mem_filter.mpr ⟨List.mem_of_getElem? (i := 125) rfl, rfl⟩
theorem q_126 : (Cond.instanceMethod ⟨"MusicBoxes$Track", "<init>", "(I)V"⟩) ∈ lw_ok := List.mem_filter.mpr ⟨List.mem_of_getElem? (i := 126) rfl, rfl⟩
theorem q_127 : (Cond.code ⟨"MusicBoxes$Track", "<init>", "(I)V"⟩ prog_9_method_1_code 2 (Option.none : Option Jvm.ClassFile.FieldType)) ∈ lw_ok := List.mem_filter.mpr ⟨List.mem_of_getElem? (i := 127) rfl, rfl⟩
theorem q_128 : (Cond.methodLink "MusicBoxes$Track" 1 ⟨"java/lang/Object", "<init>", "()V"⟩) ∈ lw_ok := List.mem_filter.mpr ⟨List.mem_of_getElem? (i := 128) rfl, rfl⟩
theorem q_129 : (Cond.fieldLink "MusicBoxes$PinTrack" 7 "MusicBoxes$PinTrack" "cells" "[Z") ∈ lw_ok := List.mem_filter.mpr ⟨List.mem_of_getElem? (i := 129) rfl, rfl⟩
theorem q_130 : (Cond.fieldLink "MusicBoxes$Track" 7 "MusicBoxes$Track" "extent" "I") ∈ lw_ok := List.mem_filter.mpr ⟨List.mem_of_getElem? (i := 130) rfl, rfl⟩
theorem q_131 : (Cond.fieldLink "MusicBoxes" 55 "MusicBoxes$Track" "extent" "I") ∈ lw_ok := List.mem_filter.mpr ⟨List.mem_of_getElem? (i := 131) rfl, rfl⟩
theorem q_132 : (Cond.fieldLink "MusicBoxes$Comb" 26 "MusicBoxes$Track" "extent" "I") ∈ lw_ok := List.mem_filter.mpr ⟨List.mem_of_getElem? (i := 132) rfl, rfl⟩
theorem q_133 : (Cond.laysFinal "MusicBoxes$PinTrack" "MusicBoxes$PinTrack" "cells" "[Z") ∈ lw_ok := List.mem_filter.mpr ⟨List.mem_of_getElem? (i := 133) rfl, rfl⟩
theorem q_134 : (Cond.soleField "MusicBoxes$PinTrack" "cells") ∈ lw_ok := List.mem_filter.mpr ⟨List.mem_of_getElem? (i := 134) rfl, rfl⟩
theorem q_135 : (Cond.laysFinal "MusicBoxes$PinTrack" "MusicBoxes$Track" "extent" "I") ∈ lw_ok := List.mem_filter.mpr ⟨List.mem_of_getElem? (i := 135) rfl, rfl⟩
theorem q_136 : (Cond.soleField "MusicBoxes$Track" "extent") ∈ lw_ok := List.mem_filter.mpr ⟨List.mem_of_getElem? (i := 136) rfl, rfl⟩
theorem q_137 : (Cond.superclass "MusicBoxes$PinTrack" "MusicBoxes$Track") ∈ lw_ok := List.mem_filter.mpr ⟨List.mem_of_getElem? (i := 137) rfl, rfl⟩
theorem q_138 : (Cond.arrayClass Jvm.ClassFile.FieldType.boolean) ∈ lw_ok := List.mem_filter.mpr ⟨List.mem_of_getElem? (i := 138) rfl, rfl⟩
theorem q_139 : (Cond.classLink "MusicBoxes" 134 "MusicBoxes$SignTrack") ∈ lw_ok := List.mem_filter.mpr ⟨List.mem_of_getElem? (i := 139) rfl, rfl⟩
theorem q_140 : (Cond.instantiable "MusicBoxes$SignTrack" 2) ∈ lw_ok := List.mem_filter.mpr ⟨List.mem_of_getElem? (i := 140) rfl, rfl⟩
theorem q_141 : (Cond.methodLink "MusicBoxes" 136 ⟨"MusicBoxes$SignTrack", "<init>", "(I)V"⟩) ∈ lw_ok := List.mem_filter.mpr ⟨List.mem_of_getElem? (i := 141) rfl, rfl⟩
theorem q_142 : (Cond.instanceMethod ⟨"MusicBoxes$SignTrack", "<init>", "(I)V"⟩) ∈ lw_ok := List.mem_filter.mpr ⟨List.mem_of_getElem? (i := 142) rfl, rfl⟩
theorem q_143 : (Cond.code ⟨"MusicBoxes$SignTrack", "<init>", "(I)V"⟩ prog_8_method_1_code 2 (Option.none : Option Jvm.ClassFile.FieldType)) ∈ lw_ok := List.mem_filter.mpr ⟨List.mem_of_getElem? (i := 143) rfl, rfl⟩
theorem q_144 : (Cond.methodLink "MusicBoxes$SignTrack" 1 ⟨"MusicBoxes$Track", "<init>", "(I)V"⟩) ∈ lw_ok := List.mem_filter.mpr ⟨List.mem_of_getElem? (i := 144) rfl, rfl⟩
theorem q_145 : (Cond.fieldLink "MusicBoxes$SignTrack" 7 "MusicBoxes$SignTrack" "cells" "[C") ∈ lw_ok := List.mem_filter.mpr ⟨List.mem_of_getElem? (i := 145) rfl, rfl⟩
theorem q_146 : (Cond.laysFinal "MusicBoxes$SignTrack" "MusicBoxes$SignTrack" "cells" "[C") ∈ lw_ok := List.mem_filter.mpr ⟨List.mem_of_getElem? (i := 146) rfl, rfl⟩
theorem q_147 : (Cond.soleField "MusicBoxes$SignTrack" "cells") ∈ lw_ok := List.mem_filter.mpr ⟨List.mem_of_getElem? (i := 147) rfl, rfl⟩
theorem q_148 : (Cond.laysFinal "MusicBoxes$SignTrack" "MusicBoxes$Track" "extent" "I") ∈ lw_ok := List.mem_filter.mpr ⟨List.mem_of_getElem? (i := 148) rfl, rfl⟩
theorem q_149 : (Cond.superclass "MusicBoxes$SignTrack" "MusicBoxes$Track") ∈ lw_ok := List.mem_filter.mpr ⟨List.mem_of_getElem? (i := 149) rfl, rfl⟩
theorem q_150 : (Cond.arrayClass Jvm.ClassFile.FieldType.char) ∈ lw_ok := List.mem_filter.mpr ⟨List.mem_of_getElem? (i := 150) rfl, rfl⟩
theorem q_151 : (Cond.classLink "MusicBoxes" 137 "MusicBoxes$LengthTrack") ∈ lw_ok := List.mem_filter.mpr ⟨List.mem_of_getElem? (i := 151) rfl, rfl⟩
theorem q_152 : (Cond.instantiable "MusicBoxes$LengthTrack" 2) ∈ lw_ok := List.mem_filter.mpr ⟨List.mem_of_getElem? (i := 152) rfl, rfl⟩
theorem q_153 : (Cond.methodLink "MusicBoxes" 139 ⟨"MusicBoxes$LengthTrack", "<init>", "(I)V"⟩) ∈ lw_ok := List.mem_filter.mpr ⟨List.mem_of_getElem? (i := 153) rfl, rfl⟩
theorem q_154 : (Cond.instanceMethod ⟨"MusicBoxes$LengthTrack", "<init>", "(I)V"⟩) ∈ lw_ok := List.mem_filter.mpr ⟨List.mem_of_getElem? (i := 154) rfl, rfl⟩
theorem q_155 : (Cond.code ⟨"MusicBoxes$LengthTrack", "<init>", "(I)V"⟩ prog_5_method_1_code 2 (Option.none : Option Jvm.ClassFile.FieldType)) ∈ lw_ok := List.mem_filter.mpr ⟨List.mem_of_getElem? (i := 155) rfl, rfl⟩
theorem q_156 : (Cond.methodLink "MusicBoxes$LengthTrack" 1 ⟨"MusicBoxes$Track", "<init>", "(I)V"⟩) ∈ lw_ok := List.mem_filter.mpr ⟨List.mem_of_getElem? (i := 156) rfl, rfl⟩
theorem q_157 : (Cond.fieldLink "MusicBoxes$LengthTrack" 7 "MusicBoxes$LengthTrack" "cells" "[S") ∈ lw_ok := List.mem_filter.mpr ⟨List.mem_of_getElem? (i := 157) rfl, rfl⟩
theorem q_158 : (Cond.laysFinal "MusicBoxes$LengthTrack" "MusicBoxes$LengthTrack" "cells" "[S") ∈ lw_ok := List.mem_filter.mpr ⟨List.mem_of_getElem? (i := 158) rfl, rfl⟩
theorem q_159 : (Cond.soleField "MusicBoxes$LengthTrack" "cells") ∈ lw_ok := List.mem_filter.mpr ⟨List.mem_of_getElem? (i := 159) rfl, rfl⟩
theorem q_160 : (Cond.laysFinal "MusicBoxes$LengthTrack" "MusicBoxes$Track" "extent" "I") ∈ lw_ok := List.mem_filter.mpr ⟨List.mem_of_getElem? (i := 160) rfl, rfl⟩
theorem q_161 : (Cond.superclass "MusicBoxes$LengthTrack" "MusicBoxes$Track") ∈ lw_ok := List.mem_filter.mpr ⟨List.mem_of_getElem? (i := 161) rfl, rfl⟩
theorem q_162 : (Cond.arrayClass Jvm.ClassFile.FieldType.short) ∈ lw_ok := List.mem_filter.mpr ⟨List.mem_of_getElem? (i := 162) rfl, rfl⟩
theorem q_163 : (Cond.classLink "MusicBoxes" 140 "MusicBoxes$LevelTrack") ∈ lw_ok := List.mem_filter.mpr ⟨List.mem_of_getElem? (i := 163) rfl, rfl⟩
theorem q_164 : (Cond.instantiable "MusicBoxes$LevelTrack" 2) ∈ lw_ok := List.mem_filter.mpr ⟨List.mem_of_getElem? (i := 164) rfl, rfl⟩
theorem q_165 : (Cond.methodLink "MusicBoxes" 142 ⟨"MusicBoxes$LevelTrack", "<init>", "(I)V"⟩) ∈ lw_ok := List.mem_filter.mpr ⟨List.mem_of_getElem? (i := 165) rfl, rfl⟩
theorem q_166 : (Cond.instanceMethod ⟨"MusicBoxes$LevelTrack", "<init>", "(I)V"⟩) ∈ lw_ok := List.mem_filter.mpr ⟨List.mem_of_getElem? (i := 166) rfl, rfl⟩
theorem q_167 : (Cond.code ⟨"MusicBoxes$LevelTrack", "<init>", "(I)V"⟩ prog_6_method_1_code 2 (Option.none : Option Jvm.ClassFile.FieldType)) ∈ lw_ok := List.mem_filter.mpr ⟨List.mem_of_getElem? (i := 167) rfl, rfl⟩
theorem q_168 : (Cond.methodLink "MusicBoxes$LevelTrack" 3 ⟨"MusicBoxes$Track", "<init>", "(I)V"⟩) ∈ lw_ok := List.mem_filter.mpr ⟨List.mem_of_getElem? (i := 168) rfl, rfl⟩
theorem q_169 : (Cond.fieldLink "MusicBoxes$LevelTrack" 9 "MusicBoxes$LevelTrack" "cells" "[F") ∈ lw_ok := List.mem_filter.mpr ⟨List.mem_of_getElem? (i := 169) rfl, rfl⟩
theorem q_170 : (Cond.laysFinal "MusicBoxes$LevelTrack" "MusicBoxes$LevelTrack" "cells" "[F") ∈ lw_ok := List.mem_filter.mpr ⟨List.mem_of_getElem? (i := 170) rfl, rfl⟩
theorem q_171 : (Cond.soleField "MusicBoxes$LevelTrack" "cells") ∈ lw_ok := List.mem_filter.mpr ⟨List.mem_of_getElem? (i := 171) rfl, rfl⟩
theorem q_172 : (Cond.laysFinal "MusicBoxes$LevelTrack" "MusicBoxes$Track" "extent" "I") ∈ lw_ok := List.mem_filter.mpr ⟨List.mem_of_getElem? (i := 172) rfl, rfl⟩
theorem q_173 : (Cond.superclass "MusicBoxes$LevelTrack" "MusicBoxes$Track") ∈ lw_ok := List.mem_filter.mpr ⟨List.mem_of_getElem? (i := 173) rfl, rfl⟩
theorem q_174 : (Cond.arrayClass Jvm.ClassFile.FieldType.float) ∈ lw_ok := List.mem_filter.mpr ⟨List.mem_of_getElem? (i := 174) rfl, rfl⟩
theorem q_175 : (Cond.classLink "MusicBoxes" 143 "MusicBoxes$BendTrack") ∈ lw_ok := List.mem_filter.mpr ⟨List.mem_of_getElem? (i := 175) rfl, rfl⟩
theorem q_176 : (Cond.instantiable "MusicBoxes$BendTrack" 2) ∈ lw_ok := List.mem_filter.mpr ⟨List.mem_of_getElem? (i := 176) rfl, rfl⟩
theorem q_177 : (Cond.methodLink "MusicBoxes" 145 ⟨"MusicBoxes$BendTrack", "<init>", "(I)V"⟩) ∈ lw_ok := List.mem_filter.mpr ⟨List.mem_of_getElem? (i := 177) rfl, rfl⟩
theorem q_178 : (Cond.instanceMethod ⟨"MusicBoxes$BendTrack", "<init>", "(I)V"⟩) ∈ lw_ok := List.mem_filter.mpr ⟨List.mem_of_getElem? (i := 178) rfl, rfl⟩
theorem q_179 : (Cond.code ⟨"MusicBoxes$BendTrack", "<init>", "(I)V"⟩ prog_2_method_1_code 2 (Option.none : Option Jvm.ClassFile.FieldType)) ∈ lw_ok := List.mem_filter.mpr ⟨List.mem_of_getElem? (i := 179) rfl, rfl⟩
theorem q_180 : (Cond.methodLink "MusicBoxes$BendTrack" 1 ⟨"MusicBoxes$Track", "<init>", "(I)V"⟩) ∈ lw_ok := List.mem_filter.mpr ⟨List.mem_of_getElem? (i := 180) rfl, rfl⟩
theorem q_181 : (Cond.fieldLink "MusicBoxes$BendTrack" 7 "MusicBoxes$BendTrack" "cells" "[B") ∈ lw_ok := List.mem_filter.mpr ⟨List.mem_of_getElem? (i := 181) rfl, rfl⟩
theorem q_182 : (Cond.laysFinal "MusicBoxes$BendTrack" "MusicBoxes$BendTrack" "cells" "[B") ∈ lw_ok := List.mem_filter.mpr ⟨List.mem_of_getElem? (i := 182) rfl, rfl⟩
theorem q_183 : (Cond.soleField "MusicBoxes$BendTrack" "cells") ∈ lw_ok := List.mem_filter.mpr ⟨List.mem_of_getElem? (i := 183) rfl, rfl⟩
theorem q_184 : (Cond.laysFinal "MusicBoxes$BendTrack" "MusicBoxes$Track" "extent" "I") ∈ lw_ok := List.mem_filter.mpr ⟨List.mem_of_getElem? (i := 184) rfl, rfl⟩
theorem q_185 : (Cond.superclass "MusicBoxes$BendTrack" "MusicBoxes$Track") ∈ lw_ok := List.mem_filter.mpr ⟨List.mem_of_getElem? (i := 185) rfl, rfl⟩
theorem q_186 : (Cond.arrayClass Jvm.ClassFile.FieldType.byte) ∈ lw_ok := List.mem_filter.mpr ⟨List.mem_of_getElem? (i := 186) rfl, rfl⟩
theorem q_187 : (Cond.methodLink "MusicBoxes" 49 ⟨"MusicBoxes", "grant", "(I)I"⟩) ∈ lw_ok := List.mem_filter.mpr ⟨List.mem_of_getElem? (i := 187) rfl, rfl⟩
theorem q_188 : (Cond.privateMethod ⟨"MusicBoxes", "grant", "(I)I"⟩) ∈ lw_tbl := List.mem_of_getElem? (i := 188) rfl
theorem q_189 : (Cond.instanceMethod ⟨"MusicBoxes", "grant", "(I)I"⟩) ∈ lw_ok := List.mem_filter.mpr ⟨List.mem_of_getElem? (i := 189) rfl, rfl⟩
theorem q_190 : (Cond.code ⟨"MusicBoxes", "grant", "(I)I"⟩ prog_1_method_24_code 2 (Option.some Jvm.ClassFile.FieldType.int)) ∈ lw_ok := List.mem_filter.mpr ⟨List.mem_of_getElem? (i := 190) rfl, rfl⟩
theorem q_191 : (Cond.methodLink "MusicBoxesLaw" 18 ⟨"MusicBoxes", "strip", "(II)I"⟩) ∈ lw_ok := List.mem_filter.mpr ⟨List.mem_of_getElem? (i := 191) rfl, rfl⟩
theorem q_192 : (Cond.instanceMethod ⟨"MusicBoxes", "strip", "(II)I"⟩) ∈ lw_ok := List.mem_filter.mpr ⟨List.mem_of_getElem? (i := 192) rfl, rfl⟩
theorem q_193 : (Cond.selects "MusicBoxes" ⟨"MusicBoxes", "strip", "(II)I"⟩ ⟨"MusicBoxes", "strip", "(II)I"⟩) ∈ lw_ok := List.mem_filter.mpr ⟨List.mem_of_getElem? (i := 193) rfl, rfl⟩
theorem q_194 : (Cond.code ⟨"MusicBoxes", "strip", "(II)I"⟩ prog_1_method_3_code 4 (Option.some Jvm.ClassFile.FieldType.int)) ∈ lw_ok := List.mem_filter.mpr ⟨List.mem_of_getElem? (i := 194) rfl, rfl⟩
theorem q_195 : (Cond.methodLink "MusicBoxes" 52 ⟨"MusicBoxes", "trackOfDrum", "(II)LMusicBoxes$Track;"⟩) ∈ lw_ok := List.mem_filter.mpr ⟨List.mem_of_getElem? (i := 195) rfl, rfl⟩
theorem q_196 : (Cond.privateMethod ⟨"MusicBoxes", "trackOfDrum", "(II)LMusicBoxes$Track;"⟩) ∈ lw_tbl := List.mem_of_getElem? (i := 196) rfl
theorem q_197 : (Cond.instanceMethod ⟨"MusicBoxes", "trackOfDrum", "(II)LMusicBoxes$Track;"⟩) ∈ lw_ok := List.mem_filter.mpr ⟨List.mem_of_getElem? (i := 197) rfl, rfl⟩
theorem q_198 : (Cond.code ⟨"MusicBoxes", "trackOfDrum", "(II)LMusicBoxes$Track;"⟩ prog_1_method_31_code 3 (Option.some (Jvm.ClassFile.FieldType.object "MusicBoxes$Track"))) ∈ lw_ok := List.mem_filter.mpr ⟨List.mem_of_getElem? (i := 198) rfl, rfl⟩
theorem q_199 : (Cond.methodLink "MusicBoxes" 113 ⟨"MusicBoxes", "wanted", "(LMusicBoxes$Track;)LMusicBoxes$Track;"⟩) ∈ lw_ok := List.mem_filter.mpr ⟨List.mem_of_getElem? (i := 199) rfl, rfl⟩
theorem q_200 : (Cond.privateMethod ⟨"MusicBoxes", "wanted", "(LMusicBoxes$Track;)LMusicBoxes$Track;"⟩) ∈ lw_tbl := List.mem_of_getElem? (i := 200) rfl
theorem q_201 : (Cond.instanceMethod ⟨"MusicBoxes", "wanted", "(LMusicBoxes$Track;)LMusicBoxes$Track;"⟩) ∈ lw_ok := List.mem_filter.mpr ⟨List.mem_of_getElem? (i := 201) rfl, rfl⟩
theorem q_202 : (Cond.code ⟨"MusicBoxes", "wanted", "(LMusicBoxes$Track;)LMusicBoxes$Track;"⟩ prog_1_method_33_code 2 (Option.some (Jvm.ClassFile.FieldType.object "MusicBoxes$Track"))) ∈ lw_ok := List.mem_filter.mpr ⟨List.mem_of_getElem? (i := 202) rfl, rfl⟩
theorem q_203 : (Cond.methodLink "MusicBoxesLaw" 23 ⟨"MusicBoxes", "share", "(III)I"⟩) ∈ lw_ok := List.mem_filter.mpr ⟨List.mem_of_getElem? (i := 203) rfl, rfl⟩
theorem q_204 : (Cond.instanceMethod ⟨"MusicBoxes", "share", "(III)I"⟩) ∈ lw_ok := List.mem_filter.mpr ⟨List.mem_of_getElem? (i := 204) rfl, rfl⟩
theorem q_205 : (Cond.selects "MusicBoxes" ⟨"MusicBoxes", "share", "(III)I"⟩ ⟨"MusicBoxes", "share", "(III)I"⟩) ∈ lw_ok := List.mem_filter.mpr ⟨List.mem_of_getElem? (i := 205) rfl, rfl⟩
theorem q_206 : (Cond.code ⟨"MusicBoxes", "share", "(III)I"⟩ prog_1_method_4_code 5 (Option.some Jvm.ClassFile.FieldType.int)) ∈ lw_ok := List.mem_filter.mpr ⟨List.mem_of_getElem? (i := 206) rfl, rfl⟩
theorem q_207 : (Cond.methodLink "MusicBoxesLaw" 27 ⟨"MusicBoxes", "places", "(II)I"⟩) ∈ lw_ok := List.mem_filter.mpr ⟨List.mem_of_getElem? (i := 207) rfl, rfl⟩
theorem q_208 : (Cond.instanceMethod ⟨"MusicBoxes", "places", "(II)I"⟩) ∈ lw_ok := List.mem_filter.mpr ⟨List.mem_of_getElem? (i := 208) rfl, rfl⟩
theorem q_209 : (Cond.selects "MusicBoxes" ⟨"MusicBoxes", "places", "(II)I"⟩ ⟨"MusicBoxes", "places", "(II)I"⟩) ∈ lw_ok := List.mem_filter.mpr ⟨List.mem_of_getElem? (i := 209) rfl, rfl⟩
theorem q_210 : (Cond.code ⟨"MusicBoxes", "places", "(II)I"⟩ prog_1_method_5_code 4 (Option.some Jvm.ClassFile.FieldType.int)) ∈ lw_ok := List.mem_filter.mpr ⟨List.mem_of_getElem? (i := 210) rfl, rfl⟩
theorem q_211 : (Cond.methodLink "MusicBoxesLaw" 31 ⟨"MusicBoxes", "read", "(III)I"⟩) ∈ lw_ok := List.mem_filter.mpr ⟨List.mem_of_getElem? (i := 211) rfl, rfl⟩
theorem q_212 : (Cond.instanceMethod ⟨"MusicBoxes", "read", "(III)I"⟩) ∈ lw_ok := List.mem_filter.mpr ⟨List.mem_of_getElem? (i := 212) rfl, rfl⟩
theorem q_213 : (Cond.selects "MusicBoxes" ⟨"MusicBoxes", "read", "(III)I"⟩ ⟨"MusicBoxes", "read", "(III)I"⟩) ∈ lw_ok := List.mem_filter.mpr ⟨List.mem_of_getElem? (i := 213) rfl, rfl⟩
theorem q_214 : (Cond.code ⟨"MusicBoxes", "read", "(III)I"⟩ prog_1_method_6_code 4 (Option.some Jvm.ClassFile.FieldType.int)) ∈ lw_ok := List.mem_filter.mpr ⟨List.mem_of_getElem? (i := 214) rfl, rfl⟩
theorem q_215 : (Cond.methodLink "MusicBoxes" 60 ⟨"MusicBoxes", "valueIn", "(LMusicBoxes$Track;I)I"⟩) ∈ lw_ok := List.mem_filter.mpr ⟨List.mem_of_getElem? (i := 215) rfl, rfl⟩
theorem q_216 : (Cond.privateMethod ⟨"MusicBoxes", "valueIn", "(LMusicBoxes$Track;I)I"⟩) ∈ lw_tbl := List.mem_of_getElem? (i := 216) rfl
theorem q_217 : (Cond.instanceMethod ⟨"MusicBoxes", "valueIn", "(LMusicBoxes$Track;I)I"⟩) ∈ lw_ok := List.mem_filter.mpr ⟨List.mem_of_getElem? (i := 217) rfl, rfl⟩
theorem q_218 : (Cond.code ⟨"MusicBoxes", "valueIn", "(LMusicBoxes$Track;I)I"⟩ prog_1_method_34_code 3 (Option.some Jvm.ClassFile.FieldType.int)) ∈ lw_ok := List.mem_filter.mpr ⟨List.mem_of_getElem? (i := 218) rfl, rfl⟩
theorem q_219 : (Cond.methodLink "MusicBoxes" 117 ⟨"MusicBoxes$Track", "hasPlace", "(I)Z"⟩) ∈ lw_ok := List.mem_filter.mpr ⟨List.mem_of_getElem? (i := 219) rfl, rfl⟩
theorem q_220 : (Cond.instanceMethod ⟨"MusicBoxes$Track", "hasPlace", "(I)Z"⟩) ∈ lw_ok := List.mem_filter.mpr ⟨List.mem_of_getElem? (i := 220) rfl, rfl⟩
theorem q_221 : (Cond.sameMethod "MusicBoxes$Track" "MusicBoxes$Track" "hasPlace" "(I)Z") ∈ lw_ok := List.mem_filter.mpr ⟨List.mem_of_getElem? (i := 221) rfl, rfl⟩
theorem q_222 : (Cond.selects "MusicBoxes$BendTrack" ⟨"MusicBoxes$Track", "hasPlace", "(I)Z"⟩ ⟨"MusicBoxes$Track", "hasPlace", "(I)Z"⟩) ∈ lw_ok := List.mem_filter.mpr ⟨List.mem_of_getElem? (i := 222) rfl, rfl⟩
theorem q_223 : (Cond.selects "MusicBoxes$LengthTrack" ⟨"MusicBoxes$Track", "hasPlace", "(I)Z"⟩ ⟨"MusicBoxes$Track", "hasPlace", "(I)Z"⟩) ∈ lw_ok := List.mem_filter.mpr ⟨List.mem_of_getElem? (i := 223) rfl, rfl⟩
theorem q_224 : (Cond.selects "MusicBoxes$LevelTrack" ⟨"MusicBoxes$Track", "hasPlace", "(I)Z"⟩ ⟨"MusicBoxes$Track", "hasPlace", "(I)Z"⟩) ∈ lw_ok := List.mem_filter.mpr ⟨List.mem_of_getElem? (i := 224) rfl, rfl⟩
theorem q_225 : (Cond.selects "MusicBoxes$PinTrack" ⟨"MusicBoxes$Track", "hasPlace", "(I)Z"⟩ ⟨"MusicBoxes$Track", "hasPlace", "(I)Z"⟩) ∈ lw_ok := List.mem_filter.mpr ⟨List.mem_of_getElem? (i := 225) rfl, rfl⟩
theorem q_226 : (Cond.selects "MusicBoxes$SignTrack" ⟨"MusicBoxes$Track", "hasPlace", "(I)Z"⟩ ⟨"MusicBoxes$Track", "hasPlace", "(I)Z"⟩) ∈ lw_ok := List.mem_filter.mpr ⟨List.mem_of_getElem? (i := 226) rfl, rfl⟩
theorem q_227 : (Cond.code ⟨"MusicBoxes$Track", "hasPlace", "(I)Z"⟩ prog_9_method_2_code 2 (Option.some Jvm.ClassFile.FieldType.boolean)) ∈ lw_ok := List.mem_filter.mpr ⟨List.mem_of_getElem? (i := 227) rfl, rfl⟩
theorem q_228 : (Cond.methodLink "MusicBoxes" 120 ⟨"MusicBoxes$Track", "valueAt", "(I)I"⟩) ∈ lw_ok := List.mem_filter.mpr ⟨List.mem_of_getElem? (i := 228) rfl, rfl⟩
theorem q_229 : (Cond.declares ⟨"MusicBoxes$Track", "valueAt", "(I)I"⟩) ∈ lw_tbl := List.mem_of_getElem? (i := 229) rfl
theorem q_230 : (Cond.sameMethod "MusicBoxes$Track" "MusicBoxes$Track" "valueAt" "(I)I") ∈ lw_ok := List.mem_filter.mpr ⟨List.mem_of_getElem? (i := 230) rfl, rfl⟩
theorem q_231 : (Cond.selects "MusicBoxes$BendTrack" ⟨"MusicBoxes$Track", "valueAt", "(I)I"⟩ ⟨"MusicBoxes$BendTrack", "valueAt", "(I)I"⟩) ∈ lw_ok := List.mem_filter.mpr ⟨List.mem_of_getElem? (i := 231) rfl, rfl⟩
theorem q_232 : (Cond.instanceMethod ⟨"MusicBoxes$BendTrack", "valueAt", "(I)I"⟩) ∈ lw_ok := List.mem_filter.mpr ⟨List.mem_of_getElem? (i := 232) rfl, rfl⟩
theorem q_233 : (Cond.code ⟨"MusicBoxes$BendTrack", "valueAt", "(I)I"⟩ prog_2_method_2_code 2 (Option.some Jvm.ClassFile.FieldType.int)) ∈ lw_ok := List.mem_filter.mpr ⟨List.mem_of_getElem? (i := 233) rfl, rfl⟩
theorem q_234 : (Cond.selects "MusicBoxes$LengthTrack" ⟨"MusicBoxes$Track", "valueAt", "(I)I"⟩ ⟨"MusicBoxes$LengthTrack", "valueAt", "(I)I"⟩) ∈ lw_ok := List.mem_filter.mpr ⟨List.mem_of_getElem? (i := 234) rfl, rfl⟩
theorem q_235 : (Cond.instanceMethod ⟨"MusicBoxes$LengthTrack", "valueAt", "(I)I"⟩) ∈ lw_ok := List.mem_filter.mpr ⟨List.mem_of_getElem? (i := 235) rfl, rfl⟩
theorem q_236 : (Cond.code ⟨"MusicBoxes$LengthTrack", "valueAt", "(I)I"⟩ prog_5_method_2_code 2 (Option.some Jvm.ClassFile.FieldType.int)) ∈ lw_ok := List.mem_filter.mpr ⟨List.mem_of_getElem? (i := 236) rfl, rfl⟩
theorem q_237 : (Cond.selects "MusicBoxes$LevelTrack" ⟨"MusicBoxes$Track", "valueAt", "(I)I"⟩ ⟨"MusicBoxes$LevelTrack", "valueAt", "(I)I"⟩) ∈ lw_ok := List.mem_filter.mpr ⟨List.mem_of_getElem? (i := 237) rfl, rfl⟩
theorem q_238 : (Cond.instanceMethod ⟨"MusicBoxes$LevelTrack", "valueAt", "(I)I"⟩) ∈ lw_ok := List.mem_filter.mpr ⟨List.mem_of_getElem? (i := 238) rfl, rfl⟩
theorem q_239 : (Cond.code ⟨"MusicBoxes$LevelTrack", "valueAt", "(I)I"⟩ prog_6_method_3_code 2 (Option.some Jvm.ClassFile.FieldType.int)) ∈ lw_ok := List.mem_filter.mpr ⟨List.mem_of_getElem? (i := 239) rfl, rfl⟩
theorem q_240 : (Cond.methodLink "MusicBoxes$LevelTrack" 15 ⟨"MusicBoxes$LevelTrack", "bitsOf", "(F)I"⟩) ∈ lw_ok := List.mem_filter.mpr ⟨List.mem_of_getElem? (i := 240) rfl, rfl⟩
theorem q_241 : (Cond.static ⟨"MusicBoxes$LevelTrack", "bitsOf", "(F)I"⟩) ∈ lw_ok := List.mem_filter.mpr ⟨List.mem_of_getElem? (i := 241) rfl, rfl⟩
theorem q_242 : (Cond.code ⟨"MusicBoxes$LevelTrack", "bitsOf", "(F)I"⟩ prog_6_method_6_code 4 (Option.some Jvm.ClassFile.FieldType.int)) ∈ lw_ok := List.mem_filter.mpr ⟨List.mem_of_getElem? (i := 242) rfl, rfl⟩
theorem q_243 : (Cond.methodLink "MusicBoxes$LevelTrack" 25 ⟨"MusicBoxes$LevelTrack", "isNegative", "(F)Z"⟩) ∈ lw_ok := List.mem_filter.mpr ⟨List.mem_of_getElem? (i := 243) rfl, rfl⟩
theorem q_244 : (Cond.static ⟨"MusicBoxes$LevelTrack", "isNegative", "(F)Z"⟩) ∈ lw_ok := List.mem_filter.mpr ⟨List.mem_of_getElem? (i := 244) rfl, rfl⟩
theorem q_245 : (Cond.code ⟨"MusicBoxes$LevelTrack", "isNegative", "(F)Z"⟩ prog_6_method_7_code 1 (Option.some Jvm.ClassFile.FieldType.boolean)) ∈ lw_ok := List.mem_filter.mpr ⟨List.mem_of_getElem? (i := 245) rfl, rfl⟩
theorem q_246 : (Cond.constant "MusicBoxes$LevelTrack" 29 (-2147483648 : Int32)) ∈ lw_ok := List.mem_filter.mpr ⟨List.mem_of_getElem? (i := 246) rfl, rfl⟩
theorem q_247 : (Cond.constantFloat "MusicBoxes$LevelTrack" 30 (1258291200 : UInt32)) ∈ lw_ok := List.mem_filter.mpr ⟨List.mem_of_getElem? (i := 247) rfl, rfl⟩
theorem q_248 : (Cond.selects "MusicBoxes$PinTrack" ⟨"MusicBoxes$Track", "valueAt", "(I)I"⟩ ⟨"MusicBoxes$PinTrack", "valueAt", "(I)I"⟩) ∈ lw_ok := List.mem_filter.mpr ⟨List.mem_of_getElem? (i := 248) rfl, rfl⟩
theorem q_249 : (Cond.instanceMethod ⟨"MusicBoxes$PinTrack", "valueAt", "(I)I"⟩) ∈ lw_ok := List.mem_filter.mpr ⟨List.mem_of_getElem? (i := 249) rfl, rfl⟩
theorem q_250 : (Cond.code ⟨"MusicBoxes$PinTrack", "valueAt", "(I)I"⟩ prog_7_method_2_code 2 (Option.some Jvm.ClassFile.FieldType.int)) ∈ lw_ok := List.mem_filter.mpr ⟨List.mem_of_getElem? (i := 250) rfl, rfl⟩
set_option maxRecDepth 20000 in
theorem q_251 : (Cond.selects "MusicBoxes$SignTrack" ⟨"MusicBoxes$Track", "valueAt", "(I)I"⟩ ⟨"MusicBoxes$SignTrack", "valueAt", "(I)I"⟩) ∈ lw_ok := List.mem_filter.mpr ⟨List.mem_of_getElem? (i := 251) rfl, rfl⟩
set_option maxRecDepth 20000 in
theorem q_252 : (Cond.instanceMethod ⟨"MusicBoxes$SignTrack", "valueAt", "(I)I"⟩) ∈ lw_ok := List.mem_filter.mpr ⟨List.mem_of_getElem? (i := 252) rfl, rfl⟩
set_option maxRecDepth 20000 in
theorem q_253 : (Cond.code ⟨"MusicBoxes$SignTrack", "valueAt", "(I)I"⟩ prog_8_method_2_code 2 (Option.some Jvm.ClassFile.FieldType.int)) ∈ lw_ok := List.mem_filter.mpr ⟨List.mem_of_getElem? (i := 253) rfl, rfl⟩
set_option maxRecDepth 20000 in
theorem q_254 : (Cond.methodLink "MusicBoxesLaw" 35 ⟨"MusicBoxes", "write", "(IIII)I"⟩) ∈ lw_ok := List.mem_filter.mpr ⟨List.mem_of_getElem? (i := 254) rfl, rfl⟩
set_option maxRecDepth 20000 in
theorem q_255 : (Cond.instanceMethod ⟨"MusicBoxes", "write", "(IIII)I"⟩) ∈ lw_ok := List.mem_filter.mpr ⟨List.mem_of_getElem? (i := 255) rfl, rfl⟩
set_option maxRecDepth 20000 in
theorem q_256 : (Cond.selects "MusicBoxes" ⟨"MusicBoxes", "write", "(IIII)I"⟩ ⟨"MusicBoxes", "write", "(IIII)I"⟩) ∈ lw_ok := List.mem_filter.mpr ⟨List.mem_of_getElem? (i := 256) rfl, rfl⟩
set_option maxRecDepth 20000 in
theorem q_257 : (Cond.code ⟨"MusicBoxes", "write", "(IIII)I"⟩ prog_1_method_7_code 5 (Option.some Jvm.ClassFile.FieldType.int)) ∈ lw_ok := List.mem_filter.mpr ⟨List.mem_of_getElem? (i := 257) rfl, rfl⟩
set_option maxRecDepth 20000 in
theorem q_258 : (Cond.methodLink "MusicBoxes" 64 ⟨"MusicBoxes", "putInto", "(LMusicBoxes$Track;II)I"⟩) ∈ lw_ok := List.mem_filter.mpr ⟨List.mem_of_getElem? (i := 258) rfl, rfl⟩
set_option maxRecDepth 20000 in
theorem q_259 : (Cond.privateMethod ⟨"MusicBoxes", "putInto", "(LMusicBoxes$Track;II)I"⟩) ∈ lw_tbl := List.mem_of_getElem? (i := 259) rfl
set_option maxRecDepth 20000 in
theorem q_260 : (Cond.instanceMethod ⟨"MusicBoxes", "putInto", "(LMusicBoxes$Track;II)I"⟩) ∈ lw_ok := List.mem_filter.mpr ⟨List.mem_of_getElem? (i := 260) rfl, rfl⟩
set_option maxRecDepth 20000 in
theorem q_261 : (Cond.code ⟨"MusicBoxes", "putInto", "(LMusicBoxes$Track;II)I"⟩ prog_1_method_35_code 4 (Option.some Jvm.ClassFile.FieldType.int)) ∈ lw_ok := List.mem_filter.mpr ⟨List.mem_of_getElem? (i := 261) rfl, rfl⟩
set_option maxRecDepth 20000 in
theorem q_262 : (Cond.methodLink "MusicBoxes" 123 ⟨"MusicBoxes$Track", "put", "(II)Z"⟩) ∈ lw_ok := List.mem_filter.mpr ⟨List.mem_of_getElem? (i := 262) rfl, rfl⟩
set_option maxRecDepth 20000 in
theorem q_263 : (Cond.declares ⟨"MusicBoxes$Track", "put", "(II)Z"⟩) ∈ lw_tbl := List.mem_of_getElem? (i := 263) rfl
set_option maxRecDepth 20000 in
theorem q_264 : (Cond.sameMethod "MusicBoxes$Track" "MusicBoxes$Track" "put" "(II)Z") ∈ lw_ok := List.mem_filter.mpr ⟨List.mem_of_getElem? (i := 264) rfl, rfl⟩
set_option maxRecDepth 20000 in
theorem q_265 : (Cond.selects "MusicBoxes$BendTrack" ⟨"MusicBoxes$Track", "put", "(II)Z"⟩ ⟨"MusicBoxes$BendTrack", "put", "(II)Z"⟩) ∈ lw_ok := List.mem_filter.mpr ⟨List.mem_of_getElem? (i := 265) rfl, rfl⟩
set_option maxRecDepth 20000 in
theorem q_266 : (Cond.instanceMethod ⟨"MusicBoxes$BendTrack", "put", "(II)Z"⟩) ∈ lw_ok := List.mem_filter.mpr ⟨List.mem_of_getElem? (i := 266) rfl, rfl⟩
set_option maxRecDepth 20000 in
theorem q_267 : (Cond.code ⟨"MusicBoxes$BendTrack", "put", "(II)Z"⟩ prog_2_method_3_code 3 (Option.some Jvm.ClassFile.FieldType.boolean)) ∈ lw_ok := List.mem_filter.mpr ⟨List.mem_of_getElem? (i := 267) rfl, rfl⟩
set_option maxRecDepth 20000 in
theorem q_268 : (Cond.selects "MusicBoxes$LengthTrack" ⟨"MusicBoxes$Track", "put", "(II)Z"⟩ ⟨"MusicBoxes$LengthTrack", "put", "(II)Z"⟩) ∈ lw_ok := List.mem_filter.mpr ⟨List.mem_of_getElem? (i := 268) rfl, rfl⟩
set_option maxRecDepth 20000 in
theorem q_269 : (Cond.instanceMethod ⟨"MusicBoxes$LengthTrack", "put", "(II)Z"⟩) ∈ lw_ok := List.mem_filter.mpr ⟨List.mem_of_getElem? (i := 269) rfl, rfl⟩
set_option maxRecDepth 20000 in
theorem q_270 : (Cond.code ⟨"MusicBoxes$LengthTrack", "put", "(II)Z"⟩ prog_5_method_3_code 3 (Option.some Jvm.ClassFile.FieldType.boolean)) ∈ lw_ok := List.mem_filter.mpr ⟨List.mem_of_getElem? (i := 270) rfl, rfl⟩
set_option maxRecDepth 20000 in
theorem q_271 : (Cond.selects "MusicBoxes$LevelTrack" ⟨"MusicBoxes$Track", "put", "(II)Z"⟩ ⟨"MusicBoxes$LevelTrack", "put", "(II)Z"⟩) ∈ lw_ok := List.mem_filter.mpr ⟨List.mem_of_getElem? (i := 271) rfl, rfl⟩
set_option maxRecDepth 20000 in
theorem q_272 : (Cond.instanceMethod ⟨"MusicBoxes$LevelTrack", "put", "(II)Z"⟩) ∈ lw_ok := List.mem_filter.mpr ⟨List.mem_of_getElem? (i := 272) rfl, rfl⟩
set_option maxRecDepth 20000 in
theorem q_273 : (Cond.code ⟨"MusicBoxes$LevelTrack", "put", "(II)Z"⟩ prog_6_method_4_code 3 (Option.some Jvm.ClassFile.FieldType.boolean)) ∈ lw_ok := List.mem_filter.mpr ⟨List.mem_of_getElem? (i := 273) rfl, rfl⟩
set_option maxRecDepth 20000 in
theorem q_274 : (Cond.constant "MusicBoxes$LevelTrack" 19 (-8000000 : Int32)) ∈ lw_ok := List.mem_filter.mpr ⟨List.mem_of_getElem? (i := 274) rfl, rfl⟩
set_option maxRecDepth 20000 in
theorem q_275 : (Cond.constant "MusicBoxes$LevelTrack" 20 (8000000 : Int32)) ∈ lw_ok := List.mem_filter.mpr ⟨List.mem_of_getElem? (i := 275) rfl, rfl⟩
set_option maxRecDepth 20000 in
theorem q_276 : (Cond.constantFloat "MusicBoxes$LevelTrack" 21 (1090519040 : UInt32)) ∈ lw_ok := List.mem_filter.mpr ⟨List.mem_of_getElem? (i := 276) rfl, rfl⟩
set_option maxRecDepth 20000 in
theorem q_277 : (Cond.selects "MusicBoxes$PinTrack" ⟨"MusicBoxes$Track", "put", "(II)Z"⟩ ⟨"MusicBoxes$PinTrack", "put", "(II)Z"⟩) ∈ lw_ok := List.mem_filter.mpr ⟨List.mem_of_getElem? (i := 277) rfl, rfl⟩
set_option maxRecDepth 20000 in
theorem q_278 : (Cond.instanceMethod ⟨"MusicBoxes$PinTrack", "put", "(II)Z"⟩) ∈ lw_ok := List.mem_filter.mpr ⟨List.mem_of_getElem? (i := 278) rfl, rfl⟩
set_option maxRecDepth 20000 in
theorem q_279 : (Cond.code ⟨"MusicBoxes$PinTrack", "put", "(II)Z"⟩ prog_7_method_3_code 3 (Option.some Jvm.ClassFile.FieldType.boolean)) ∈ lw_ok := List.mem_filter.mpr ⟨List.mem_of_getElem? (i := 279) rfl, rfl⟩
set_option maxRecDepth 20000 in
theorem q_280 : (Cond.selects "MusicBoxes$SignTrack" ⟨"MusicBoxes$Track", "put", "(II)Z"⟩ ⟨"MusicBoxes$SignTrack", "put", "(II)Z"⟩) ∈ lw_ok := List.mem_filter.mpr ⟨List.mem_of_getElem? (i := 280) rfl, rfl⟩
set_option maxRecDepth 20000 in
theorem q_281 : (Cond.instanceMethod ⟨"MusicBoxes$SignTrack", "put", "(II)Z"⟩) ∈ lw_ok := List.mem_filter.mpr ⟨List.mem_of_getElem? (i := 281) rfl, rfl⟩
set_option maxRecDepth 20000 in
theorem q_282 : (Cond.code ⟨"MusicBoxes$SignTrack", "put", "(II)Z"⟩ prog_8_method_3_code 3 (Option.some Jvm.ClassFile.FieldType.boolean)) ∈ lw_ok := List.mem_filter.mpr ⟨List.mem_of_getElem? (i := 282) rfl, rfl⟩
set_option maxRecDepth 20000 in
theorem q_283 : (Cond.methodLink "MusicBoxesLaw" 40 ⟨"MusicBoxes", "turn", "(IIII)I"⟩) ∈ lw_ok := List.mem_filter.mpr ⟨List.mem_of_getElem? (i := 283) rfl, rfl⟩
set_option maxRecDepth 20000 in
theorem q_284 : (Cond.instanceMethod ⟨"MusicBoxes", "turn", "(IIII)I"⟩) ∈ lw_ok := List.mem_filter.mpr ⟨List.mem_of_getElem? (i := 284) rfl, rfl⟩
set_option maxRecDepth 20000 in
theorem q_285 : (Cond.selects "MusicBoxes" ⟨"MusicBoxes", "turn", "(IIII)I"⟩ ⟨"MusicBoxes", "turn", "(IIII)I"⟩) ∈ lw_ok := List.mem_filter.mpr ⟨List.mem_of_getElem? (i := 285) rfl, rfl⟩
set_option maxRecDepth 20000 in
theorem q_286 : (Cond.code ⟨"MusicBoxes", "turn", "(IIII)I"⟩ prog_1_method_8_code 5 (Option.some Jvm.ClassFile.FieldType.int)) ∈ lw_ok := List.mem_filter.mpr ⟨List.mem_of_getElem? (i := 286) rfl, rfl⟩
set_option maxRecDepth 20000 in
theorem q_287 : (Cond.methodLink "MusicBoxes" 68 ⟨"MusicBoxes", "alterIn", "(LMusicBoxes$Track;II)I"⟩) ∈ lw_ok := List.mem_filter.mpr ⟨List.mem_of_getElem? (i := 287) rfl, rfl⟩
set_option maxRecDepth 20000 in
theorem q_288 : (Cond.privateMethod ⟨"MusicBoxes", "alterIn", "(LMusicBoxes$Track;II)I"⟩) ∈ lw_tbl := List.mem_of_getElem? (i := 288) rfl
set_option maxRecDepth 20000 in
theorem q_289 : (Cond.instanceMethod ⟨"MusicBoxes", "alterIn", "(LMusicBoxes$Track;II)I"⟩) ∈ lw_ok := List.mem_filter.mpr ⟨List.mem_of_getElem? (i := 289) rfl, rfl⟩
set_option maxRecDepth 20000 in
theorem q_290 : (Cond.code ⟨"MusicBoxes", "alterIn", "(LMusicBoxes$Track;II)I"⟩ prog_1_method_36_code 4 (Option.some Jvm.ClassFile.FieldType.int)) ∈ lw_ok := List.mem_filter.mpr ⟨List.mem_of_getElem? (i := 290) rfl, rfl⟩
set_option maxRecDepth 20000 in
theorem q_291 : (Cond.methodLink "MusicBoxes" 126 ⟨"MusicBoxes$Track", "alter", "(II)Z"⟩) ∈ lw_ok := List.mem_filter.mpr ⟨List.mem_of_getElem? (i := 291) rfl, rfl⟩
set_option maxRecDepth 20000 in
theorem q_292 : (Cond.declares ⟨"MusicBoxes$Track", "alter", "(II)Z"⟩) ∈ lw_tbl := List.mem_of_getElem? (i := 292) rfl
set_option maxRecDepth 20000 in
theorem q_293 : (Cond.sameMethod "MusicBoxes$Track" "MusicBoxes$Track" "alter" "(II)Z") ∈ lw_ok := List.mem_filter.mpr ⟨List.mem_of_getElem? (i := 293) rfl, rfl⟩
set_option maxRecDepth 20000 in
theorem q_294 : (Cond.selects "MusicBoxes$BendTrack" ⟨"MusicBoxes$Track", "alter", "(II)Z"⟩ ⟨"MusicBoxes$BendTrack", "alter", "(II)Z"⟩) ∈ lw_ok := List.mem_filter.mpr ⟨List.mem_of_getElem? (i := 294) rfl, rfl⟩
set_option maxRecDepth 20000 in
theorem q_295 : (Cond.instanceMethod ⟨"MusicBoxes$BendTrack", "alter", "(II)Z"⟩) ∈ lw_ok := List.mem_filter.mpr ⟨List.mem_of_getElem? (i := 295) rfl, rfl⟩
set_option maxRecDepth 20000 in
theorem q_296 : (Cond.code ⟨"MusicBoxes$BendTrack", "alter", "(II)Z"⟩ prog_2_method_4_code 3 (Option.some Jvm.ClassFile.FieldType.boolean)) ∈ lw_ok := List.mem_filter.mpr ⟨List.mem_of_getElem? (i := 296) rfl, rfl⟩
set_option maxRecDepth 20000 in
theorem q_297 : (Cond.selects "MusicBoxes$LengthTrack" ⟨"MusicBoxes$Track", "alter", "(II)Z"⟩ ⟨"MusicBoxes$LengthTrack", "alter", "(II)Z"⟩) ∈ lw_ok := List.mem_filter.mpr ⟨List.mem_of_getElem? (i := 297) rfl, rfl⟩
set_option maxRecDepth 20000 in
theorem q_298 : (Cond.instanceMethod ⟨"MusicBoxes$LengthTrack", "alter", "(II)Z"⟩) ∈ lw_ok := List.mem_filter.mpr ⟨List.mem_of_getElem? (i := 298) rfl, rfl⟩
set_option maxRecDepth 20000 in
theorem q_299 : (Cond.code ⟨"MusicBoxes$LengthTrack", "alter", "(II)Z"⟩ prog_5_method_4_code 3 (Option.some Jvm.ClassFile.FieldType.boolean)) ∈ lw_ok := List.mem_filter.mpr ⟨List.mem_of_getElem? (i := 299) rfl, rfl⟩
set_option maxRecDepth 20000 in
theorem q_300 : (Cond.selects "MusicBoxes$LevelTrack" ⟨"MusicBoxes$Track", "alter", "(II)Z"⟩ ⟨"MusicBoxes$LevelTrack", "alter", "(II)Z"⟩) ∈ lw_ok := List.mem_filter.mpr ⟨List.mem_of_getElem? (i := 300) rfl, rfl⟩
set_option maxRecDepth 20000 in
theorem q_301 : (Cond.instanceMethod ⟨"MusicBoxes$LevelTrack", "alter", "(II)Z"⟩) ∈ lw_ok := List.mem_filter.mpr ⟨List.mem_of_getElem? (i := 301) rfl, rfl⟩
set_option maxRecDepth 20000 in
theorem q_302 : (Cond.code ⟨"MusicBoxes$LevelTrack", "alter", "(II)Z"⟩ prog_6_method_5_code 4 (Option.some Jvm.ClassFile.FieldType.boolean)) ∈ lw_ok := List.mem_filter.mpr ⟨List.mem_of_getElem? (i := 302) rfl, rfl⟩
set_option maxRecDepth 20000 in
theorem q_303 : (Cond.constantFloat "MusicBoxes$LevelTrack" 22 (1082130432 : UInt32)) ∈ lw_ok := List.mem_filter.mpr ⟨List.mem_of_getElem? (i := 303) rfl, rfl⟩
set_option maxRecDepth 20000 in
theorem q_304 : (Cond.constantFloat "MusicBoxes$LevelTrack" 23 (3379831808 : UInt32)) ∈ lw_ok := List.mem_filter.mpr ⟨List.mem_of_getElem? (i := 304) rfl, rfl⟩
set_option maxRecDepth 20000 in
theorem q_305 : (Cond.constantFloat "MusicBoxes$LevelTrack" 24 (1232348160 : UInt32)) ∈ lw_ok := List.mem_filter.mpr ⟨List.mem_of_getElem? (i := 305) rfl, rfl⟩
set_option maxRecDepth 20000 in
theorem q_306 : (Cond.selects "MusicBoxes$PinTrack" ⟨"MusicBoxes$Track", "alter", "(II)Z"⟩ ⟨"MusicBoxes$PinTrack", "alter", "(II)Z"⟩) ∈ lw_ok := List.mem_filter.mpr ⟨List.mem_of_getElem? (i := 306) rfl, rfl⟩
set_option maxRecDepth 20000 in
theorem q_307 : (Cond.instanceMethod ⟨"MusicBoxes$PinTrack", "alter", "(II)Z"⟩) ∈ lw_ok := List.mem_filter.mpr ⟨List.mem_of_getElem? (i := 307) rfl, rfl⟩
set_option maxRecDepth 20000 in
theorem q_308 : (Cond.code ⟨"MusicBoxes$PinTrack", "alter", "(II)Z"⟩ prog_7_method_4_code 3 (Option.some Jvm.ClassFile.FieldType.boolean)) ∈ lw_ok := List.mem_filter.mpr ⟨List.mem_of_getElem? (i := 308) rfl, rfl⟩
set_option maxRecDepth 20000 in
theorem q_309 : (Cond.selects "MusicBoxes$SignTrack" ⟨"MusicBoxes$Track", "alter", "(II)Z"⟩ ⟨"MusicBoxes$SignTrack", "alter", "(II)Z"⟩) ∈ lw_ok := List.mem_filter.mpr ⟨List.mem_of_getElem? (i := 309) rfl, rfl⟩
set_option maxRecDepth 20000 in
theorem q_310 : (Cond.instanceMethod ⟨"MusicBoxes$SignTrack", "alter", "(II)Z"⟩) ∈ lw_ok := List.mem_filter.mpr ⟨List.mem_of_getElem? (i := 310) rfl, rfl⟩
set_option maxRecDepth 20000 in
theorem q_311 : (Cond.code ⟨"MusicBoxes$SignTrack", "alter", "(II)Z"⟩ prog_8_method_4_code 3 (Option.some Jvm.ClassFile.FieldType.boolean)) ∈ lw_ok := List.mem_filter.mpr ⟨List.mem_of_getElem? (i := 311) rfl, rfl⟩
set_option maxRecDepth 20000 in
theorem q_312 : (Cond.methodLink "MusicBoxesLaw" 44 ⟨"MusicBoxes", "head", "(II)I"⟩) ∈ lw_ok := List.mem_filter.mpr ⟨List.mem_of_getElem? (i := 312) rfl, rfl⟩
set_option maxRecDepth 20000 in
theorem q_313 : (Cond.instanceMethod ⟨"MusicBoxes", "head", "(II)I"⟩) ∈ lw_ok := List.mem_filter.mpr ⟨List.mem_of_getElem? (i := 313) rfl, rfl⟩
set_option maxRecDepth 20000 in
theorem q_314 : (Cond.selects "MusicBoxes" ⟨"MusicBoxes", "head", "(II)I"⟩ ⟨"MusicBoxes", "head", "(II)I"⟩) ∈ lw_ok := List.mem_filter.mpr ⟨List.mem_of_getElem? (i := 314) rfl, rfl⟩
set_option maxRecDepth 20000 in
theorem q_315 : (Cond.code ⟨"MusicBoxes", "head", "(II)I"⟩ prog_1_method_9_code 4 (Option.some Jvm.ClassFile.FieldType.int)) ∈ lw_ok := List.mem_filter.mpr ⟨List.mem_of_getElem? (i := 315) rfl, rfl⟩
set_option maxRecDepth 20000 in
theorem q_316 : (Cond.methodLink "MusicBoxesLaw" 48 ⟨"MusicBoxes", "play", "(II)I"⟩) ∈ lw_ok := List.mem_filter.mpr ⟨List.mem_of_getElem? (i := 316) rfl, rfl⟩
set_option maxRecDepth 20000 in
theorem q_317 : (Cond.instanceMethod ⟨"MusicBoxes", "play", "(II)I"⟩) ∈ lw_ok := List.mem_filter.mpr ⟨List.mem_of_getElem? (i := 317) rfl, rfl⟩
set_option maxRecDepth 20000 in
theorem q_318 : (Cond.selects "MusicBoxes" ⟨"MusicBoxes", "play", "(II)I"⟩ ⟨"MusicBoxes", "play", "(II)I"⟩) ∈ lw_ok := List.mem_filter.mpr ⟨List.mem_of_getElem? (i := 318) rfl, rfl⟩
set_option maxRecDepth 20000 in
theorem q_319 : (Cond.code ⟨"MusicBoxes", "play", "(II)I"⟩ prog_1_method_10_code 3 (Option.some Jvm.ClassFile.FieldType.int)) ∈ lw_ok := List.mem_filter.mpr ⟨List.mem_of_getElem? (i := 319) rfl, rfl⟩
set_option maxRecDepth 20000 in
theorem q_320 : (Cond.methodLink "MusicBoxes" 74 ⟨"MusicBoxes$Drum", "playOn", "(I)I"⟩) ∈ lw_ok := List.mem_filter.mpr ⟨List.mem_of_getElem? (i := 320) rfl, rfl⟩
set_option maxRecDepth 20000 in
theorem q_321 : (Cond.instanceMethod ⟨"MusicBoxes$Drum", "playOn", "(I)I"⟩) ∈ lw_ok := List.mem_filter.mpr ⟨List.mem_of_getElem? (i := 321) rfl, rfl⟩
set_option maxRecDepth 20000 in
theorem q_322 : (Cond.selects "MusicBoxes$Drum" ⟨"MusicBoxes$Drum", "playOn", "(I)I"⟩ ⟨"MusicBoxes$Drum", "playOn", "(I)I"⟩) ∈ lw_ok := List.mem_filter.mpr ⟨List.mem_of_getElem? (i := 322) rfl, rfl⟩
set_option maxRecDepth 20000 in
theorem q_323 : (Cond.code ⟨"MusicBoxes$Drum", "playOn", "(I)I"⟩ prog_4_method_2_code 4 (Option.some Jvm.ClassFile.FieldType.int)) ∈ lw_ok := List.mem_filter.mpr ⟨List.mem_of_getElem? (i := 323) rfl, rfl⟩
set_option maxRecDepth 20000 in
theorem q_324 : (Cond.methodLink "MusicBoxes$Drum" 24 ⟨"MusicBoxes$Drum", "someTrackHas", "(I)Z"⟩) ∈ lw_ok := List.mem_filter.mpr ⟨List.mem_of_getElem? (i := 324) rfl, rfl⟩
set_option maxRecDepth 20000 in
theorem q_325 : (Cond.privateMethod ⟨"MusicBoxes$Drum", "someTrackHas", "(I)Z"⟩) ∈ lw_tbl := List.mem_of_getElem? (i := 325) rfl
set_option maxRecDepth 20000 in
theorem q_326 : (Cond.instanceMethod ⟨"MusicBoxes$Drum", "someTrackHas", "(I)Z"⟩) ∈ lw_ok := List.mem_filter.mpr ⟨List.mem_of_getElem? (i := 326) rfl, rfl⟩
set_option maxRecDepth 20000 in
theorem q_327 : (Cond.code ⟨"MusicBoxes$Drum", "someTrackHas", "(I)Z"⟩ prog_4_method_3_code 4 (Option.some Jvm.ClassFile.FieldType.boolean)) ∈ lw_ok := List.mem_filter.mpr ⟨List.mem_of_getElem? (i := 327) rfl, rfl⟩
set_option maxRecDepth 20000 in
theorem q_328 : (Cond.methodLink "MusicBoxes$Drum" 32 ⟨"MusicBoxes$Track", "hasPlace", "(I)Z"⟩) ∈ lw_ok := List.mem_filter.mpr ⟨List.mem_of_getElem? (i := 328) rfl, rfl⟩
set_option maxRecDepth 20000 in
theorem q_329 : (Cond.methodLink "MusicBoxes$Drum" 28 ⟨"MusicBoxes$Drum", "playPlace", "(I)V"⟩) ∈ lw_ok := List.mem_filter.mpr ⟨List.mem_of_getElem? (i := 329) rfl, rfl⟩
set_option maxRecDepth 20000 in
theorem q_330 : (Cond.privateMethod ⟨"MusicBoxes$Drum", "playPlace", "(I)V"⟩) ∈ lw_tbl := List.mem_of_getElem? (i := 330) rfl
set_option maxRecDepth 20000 in
theorem q_331 : (Cond.instanceMethod ⟨"MusicBoxes$Drum", "playPlace", "(I)V"⟩) ∈ lw_ok := List.mem_filter.mpr ⟨List.mem_of_getElem? (i := 331) rfl, rfl⟩
set_option maxRecDepth 20000 in
theorem q_332 : (Cond.code ⟨"MusicBoxes$Drum", "playPlace", "(I)V"⟩ prog_4_method_4_code 7 (Option.none : Option Jvm.ClassFile.FieldType)) ∈ lw_ok := List.mem_filter.mpr ⟨List.mem_of_getElem? (i := 332) rfl, rfl⟩
set_option maxRecDepth 20000 in
theorem q_333 : (Cond.methodLink "MusicBoxes$Drum" 35 ⟨"MusicBoxes$Drum", "ask", "(III)I"⟩) ∈ lw_ok := List.mem_filter.mpr ⟨List.mem_of_getElem? (i := 333) rfl, rfl⟩
set_option maxRecDepth 20000 in
theorem q_334 : (Cond.privateMethod ⟨"MusicBoxes$Drum", "ask", "(III)I"⟩) ∈ lw_tbl := List.mem_of_getElem? (i := 334) rfl
set_option maxRecDepth 20000 in
theorem q_335 : (Cond.instanceMethod ⟨"MusicBoxes$Drum", "ask", "(III)I"⟩) ∈ lw_ok := List.mem_filter.mpr ⟨List.mem_of_getElem? (i := 335) rfl, rfl⟩
set_option maxRecDepth 20000 in
theorem q_336 : (Cond.code ⟨"MusicBoxes$Drum", "ask", "(III)I"⟩ prog_4_method_5_code 5 (Option.some Jvm.ClassFile.FieldType.int)) ∈ lw_ok := List.mem_filter.mpr ⟨List.mem_of_getElem? (i := 336) rfl, rfl⟩
set_option maxRecDepth 20000 in
theorem q_337 : (Cond.methodLink "MusicBoxes$Drum" 50 ⟨"MusicBoxes$Track", "valueAt", "(I)I"⟩) ∈ lw_ok := List.mem_filter.mpr ⟨List.mem_of_getElem? (i := 337) rfl, rfl⟩
set_option maxRecDepth 20000 in
theorem q_338 : (Cond.methodLink "MusicBoxes$Drum" 39 ⟨"MusicBoxes$Drum", "askLevel", "(I)F"⟩) ∈ lw_ok := List.mem_filter.mpr ⟨List.mem_of_getElem? (i := 338) rfl, rfl⟩
set_option maxRecDepth 20000 in
theorem q_339 : (Cond.privateMethod ⟨"MusicBoxes$Drum", "askLevel", "(I)F"⟩) ∈ lw_tbl := List.mem_of_getElem? (i := 339) rfl
set_option maxRecDepth 20000 in
theorem q_340 : (Cond.instanceMethod ⟨"MusicBoxes$Drum", "askLevel", "(I)F"⟩) ∈ lw_ok := List.mem_filter.mpr ⟨List.mem_of_getElem? (i := 340) rfl, rfl⟩
set_option maxRecDepth 20000 in
theorem q_341 : (Cond.code ⟨"MusicBoxes$Drum", "askLevel", "(I)F"⟩ prog_4_method_6_code 4 (Option.some Jvm.ClassFile.FieldType.float)) ∈ lw_ok := List.mem_filter.mpr ⟨List.mem_of_getElem? (i := 341) rfl, rfl⟩
set_option maxRecDepth 20000 in
theorem q_342 : (Cond.classLink "MusicBoxes$Drum" 57 "MusicBoxes$LevelTrack") ∈ lw_ok := List.mem_filter.mpr ⟨List.mem_of_getElem? (i := 342) rfl, rfl⟩
set_option maxRecDepth 20000 in
theorem q_343 : (Cond.methodLink "MusicBoxes$Drum" 59 ⟨"MusicBoxes$LevelTrack", "hasPlace", "(I)Z"⟩) ∈ lw_ok := List.mem_filter.mpr ⟨List.mem_of_getElem? (i := 343) rfl, rfl⟩
set_option maxRecDepth 20000 in
theorem q_344 : (Cond.sameMethod "MusicBoxes$LevelTrack" "MusicBoxes$Track" "hasPlace" "(I)Z") ∈ lw_ok := List.mem_filter.mpr ⟨List.mem_of_getElem? (i := 344) rfl, rfl⟩
set_option maxRecDepth 20000 in
theorem q_345 : (Cond.declares ⟨"MusicBoxes$Track", "hasPlace", "(I)Z"⟩) ∈ lw_tbl := List.mem_of_getElem? (i := 345) rfl
set_option maxRecDepth 20000 in
theorem q_346 : (Cond.selects "MusicBoxes$LevelTrack" ⟨"MusicBoxes$LevelTrack", "hasPlace", "(I)Z"⟩ ⟨"MusicBoxes$Track", "hasPlace", "(I)Z"⟩) ∈ lw_ok := List.mem_filter.mpr ⟨List.mem_of_getElem? (i := 346) rfl, rfl⟩
set_option maxRecDepth 20000 in
theorem q_347 : (Cond.methodLink "MusicBoxes$Drum" 60 ⟨"MusicBoxes$LevelTrack", "levelAt", "(I)F"⟩) ∈ lw_ok := List.mem_filter.mpr ⟨List.mem_of_getElem? (i := 347) rfl, rfl⟩
set_option maxRecDepth 20000 in
theorem q_348 : (Cond.instanceMethod ⟨"MusicBoxes$LevelTrack", "levelAt", "(I)F"⟩) ∈ lw_ok := List.mem_filter.mpr ⟨List.mem_of_getElem? (i := 348) rfl, rfl⟩
set_option maxRecDepth 20000 in
theorem q_349 : (Cond.selects "MusicBoxes$LevelTrack" ⟨"MusicBoxes$LevelTrack", "levelAt", "(I)F"⟩ ⟨"MusicBoxes$LevelTrack", "levelAt", "(I)F"⟩) ∈ lw_ok := List.mem_filter.mpr ⟨List.mem_of_getElem? (i := 349) rfl, rfl⟩
set_option maxRecDepth 20000 in
theorem q_350 : (Cond.code ⟨"MusicBoxes$LevelTrack", "levelAt", "(I)F"⟩ prog_6_method_2_code 2 (Option.some Jvm.ClassFile.FieldType.float)) ∈ lw_ok := List.mem_filter.mpr ⟨List.mem_of_getElem? (i := 350) rfl, rfl⟩
set_option maxRecDepth 20000 in
theorem q_351 : (Cond.methodLink "MusicBoxes$Drum" 46 ⟨"MusicBoxes$Drum", "sound", "(IIF)V"⟩) ∈ lw_ok := List.mem_filter.mpr ⟨List.mem_of_getElem? (i := 351) rfl, rfl⟩
set_option maxRecDepth 20000 in
theorem q_352 : (Cond.privateMethod ⟨"MusicBoxes$Drum", "sound", "(IIF)V"⟩) ∈ lw_tbl := List.mem_of_getElem? (i := 352) rfl
set_option maxRecDepth 20000 in
theorem q_353 : (Cond.instanceMethod ⟨"MusicBoxes$Drum", "sound", "(IIF)V"⟩) ∈ lw_ok := List.mem_filter.mpr ⟨List.mem_of_getElem? (i := 353) rfl, rfl⟩
set_option maxRecDepth 20000 in
theorem q_354 : (Cond.code ⟨"MusicBoxes$Drum", "sound", "(IIF)V"⟩ prog_4_method_7_code 4 (Option.none : Option Jvm.ClassFile.FieldType)) ∈ lw_ok := List.mem_filter.mpr ⟨List.mem_of_getElem? (i := 354) rfl, rfl⟩
set_option maxRecDepth 20000 in
theorem q_355 : (Cond.methodLink "MusicBoxesLaw" 52 ⟨"MusicBoxes", "heard", "(II)J"⟩) ∈ lw_ok := List.mem_filter.mpr ⟨List.mem_of_getElem? (i := 355) rfl, rfl⟩
set_option maxRecDepth 20000 in
theorem q_356 : (Cond.instanceMethod ⟨"MusicBoxes", "heard", "(II)J"⟩) ∈ lw_ok := List.mem_filter.mpr ⟨List.mem_of_getElem? (i := 356) rfl, rfl⟩
set_option maxRecDepth 20000 in
theorem q_357 : (Cond.selects "MusicBoxes" ⟨"MusicBoxes", "heard", "(II)J"⟩ ⟨"MusicBoxes", "heard", "(II)J"⟩) ∈ lw_ok := List.mem_filter.mpr ⟨List.mem_of_getElem? (i := 357) rfl, rfl⟩
set_option maxRecDepth 20000 in
theorem q_358 : (Cond.code ⟨"MusicBoxes", "heard", "(II)J"⟩ prog_1_method_11_code 3 (Option.some Jvm.ClassFile.FieldType.long)) ∈ lw_ok := List.mem_filter.mpr ⟨List.mem_of_getElem? (i := 358) rfl, rfl⟩
set_option maxRecDepth 20000 in
theorem q_359 : (Cond.methodLink "MusicBoxes" 77 ⟨"MusicBoxes$Drum", "tally", "(I)J"⟩) ∈ lw_ok := List.mem_filter.mpr ⟨List.mem_of_getElem? (i := 359) rfl, rfl⟩
set_option maxRecDepth 20000 in
theorem q_360 : (Cond.instanceMethod ⟨"MusicBoxes$Drum", "tally", "(I)J"⟩) ∈ lw_ok := List.mem_filter.mpr ⟨List.mem_of_getElem? (i := 360) rfl, rfl⟩
set_option maxRecDepth 20000 in
theorem q_361 : (Cond.selects "MusicBoxes$Drum" ⟨"MusicBoxes$Drum", "tally", "(I)J"⟩ ⟨"MusicBoxes$Drum", "tally", "(I)J"⟩) ∈ lw_ok := List.mem_filter.mpr ⟨List.mem_of_getElem? (i := 361) rfl, rfl⟩
set_option maxRecDepth 20000 in
theorem q_362 : (Cond.code ⟨"MusicBoxes$Drum", "tally", "(I)J"⟩ prog_4_method_8_code 2 (Option.some Jvm.ClassFile.FieldType.long)) ∈ lw_ok := List.mem_filter.mpr ⟨List.mem_of_getElem? (i := 362) rfl, rfl⟩
set_option maxRecDepth 20000 in
theorem q_363 : (Cond.methodLink "MusicBoxes$Drum" 74 ⟨"MusicBoxes$LevelTrack", "bitsOf", "(F)I"⟩) ∈ lw_ok := List.mem_filter.mpr ⟨List.mem_of_getElem? (i := 363) rfl, rfl⟩
set_option maxRecDepth 20000 in
theorem q_364 : (Cond.methodLink "MusicBoxesLaw" 57 ⟨"MusicBoxes", "quiet", "(I)I"⟩) ∈ lw_ok := List.mem_filter.mpr ⟨List.mem_of_getElem? (i := 364) rfl, rfl⟩
set_option maxRecDepth 20000 in
theorem q_365 : (Cond.instanceMethod ⟨"MusicBoxes", "quiet", "(I)I"⟩) ∈ lw_ok := List.mem_filter.mpr ⟨List.mem_of_getElem? (i := 365) rfl, rfl⟩
set_option maxRecDepth 20000 in
theorem q_366 : (Cond.selects "MusicBoxes" ⟨"MusicBoxes", "quiet", "(I)I"⟩ ⟨"MusicBoxes", "quiet", "(I)I"⟩) ∈ lw_ok := List.mem_filter.mpr ⟨List.mem_of_getElem? (i := 366) rfl, rfl⟩
set_option maxRecDepth 20000 in
theorem q_367 : (Cond.code ⟨"MusicBoxes", "quiet", "(I)I"⟩ prog_1_method_12_code 3 (Option.some Jvm.ClassFile.FieldType.int)) ∈ lw_ok := List.mem_filter.mpr ⟨List.mem_of_getElem? (i := 367) rfl, rfl⟩
set_option maxRecDepth 20000 in
theorem q_368 : (Cond.methodLink "MusicBoxes" 84 ⟨"MusicBoxes$Drum", "forget", "()V"⟩) ∈ lw_ok := List.mem_filter.mpr ⟨List.mem_of_getElem? (i := 368) rfl, rfl⟩
set_option maxRecDepth 20000 in
theorem q_369 : (Cond.instanceMethod ⟨"MusicBoxes$Drum", "forget", "()V"⟩) ∈ lw_ok := List.mem_filter.mpr ⟨List.mem_of_getElem? (i := 369) rfl, rfl⟩
set_option maxRecDepth 20000 in
theorem q_370 : (Cond.selects "MusicBoxes$Drum" ⟨"MusicBoxes$Drum", "forget", "()V"⟩ ⟨"MusicBoxes$Drum", "forget", "()V"⟩) ∈ lw_ok := List.mem_filter.mpr ⟨List.mem_of_getElem? (i := 370) rfl, rfl⟩
set_option maxRecDepth 20000 in
theorem q_371 : (Cond.code ⟨"MusicBoxes$Drum", "forget", "()V"⟩ prog_4_method_9_code 1 (Option.none : Option Jvm.ClassFile.FieldType)) ∈ lw_ok := List.mem_filter.mpr ⟨List.mem_of_getElem? (i := 371) rfl, rfl⟩
set_option maxRecDepth 20000 in
theorem q_372 : (Cond.methodLink "MusicBoxesLaw" 62 ⟨"MusicBoxes", "comb", "(IIII)I"⟩) ∈ lw_ok := List.mem_filter.mpr ⟨List.mem_of_getElem? (i := 372) rfl, rfl⟩
set_option maxRecDepth 20000 in
theorem q_373 : (Cond.instanceMethod ⟨"MusicBoxes", "comb", "(IIII)I"⟩) ∈ lw_ok := List.mem_filter.mpr ⟨List.mem_of_getElem? (i := 373) rfl, rfl⟩
set_option maxRecDepth 20000 in
theorem q_374 : (Cond.selects "MusicBoxes" ⟨"MusicBoxes", "comb", "(IIII)I"⟩ ⟨"MusicBoxes", "comb", "(IIII)I"⟩) ∈ lw_ok := List.mem_filter.mpr ⟨List.mem_of_getElem? (i := 374) rfl, rfl⟩
set_option maxRecDepth 20000 in
theorem q_375 : (Cond.code ⟨"MusicBoxes", "comb", "(IIII)I"⟩ prog_1_method_13_code 7 (Option.some Jvm.ClassFile.FieldType.int)) ∈ lw_ok := List.mem_filter.mpr ⟨List.mem_of_getElem? (i := 375) rfl, rfl⟩
set_option maxRecDepth 20000 in
theorem q_376 : (Cond.methodLink "MusicBoxes" 87 ⟨"MusicBoxes", "isComb", "(I)Z"⟩) ∈ lw_ok := List.mem_filter.mpr ⟨List.mem_of_getElem? (i := 376) rfl, rfl⟩
set_option maxRecDepth 20000 in
theorem q_377 : (Cond.static ⟨"MusicBoxes", "isComb", "(I)Z"⟩) ∈ lw_ok := List.mem_filter.mpr ⟨List.mem_of_getElem? (i := 377) rfl, rfl⟩
set_option maxRecDepth 20000 in
theorem q_378 : (Cond.code ⟨"MusicBoxes", "isComb", "(I)Z"⟩ prog_1_method_28_code 1 (Option.some Jvm.ClassFile.FieldType.boolean)) ∈ lw_ok := List.mem_filter.mpr ⟨List.mem_of_getElem? (i := 378) rfl, rfl⟩
set_option maxRecDepth 20000 in
theorem q_379 : (Cond.instantiable "MusicBoxes$Comb" 2) ∈ lw_ok := List.mem_filter.mpr ⟨List.mem_of_getElem? (i := 379) rfl, rfl⟩
set_option maxRecDepth 20000 in
theorem q_380 : (Cond.methodLink "MusicBoxes" 90 ⟨"MusicBoxes$Comb", "<init>", "(II)V"⟩) ∈ lw_ok := List.mem_filter.mpr ⟨List.mem_of_getElem? (i := 380) rfl, rfl⟩
set_option maxRecDepth 20000 in
theorem q_381 : (Cond.instanceMethod ⟨"MusicBoxes$Comb", "<init>", "(II)V"⟩) ∈ lw_ok := List.mem_filter.mpr ⟨List.mem_of_getElem? (i := 381) rfl, rfl⟩
set_option maxRecDepth 20000 in
theorem q_382 : (Cond.code ⟨"MusicBoxes$Comb", "<init>", "(II)V"⟩ prog_3_method_1_code 3 (Option.none : Option Jvm.ClassFile.FieldType)) ∈ lw_ok := List.mem_filter.mpr ⟨List.mem_of_getElem? (i := 382) rfl, rfl⟩
set_option maxRecDepth 20000 in
theorem q_383 : (Cond.methodLink "MusicBoxes$Comb" 1 ⟨"java/lang/Object", "<init>", "()V"⟩) ∈ lw_ok := List.mem_filter.mpr ⟨List.mem_of_getElem? (i := 383) rfl, rfl⟩
set_option maxRecDepth 20000 in
theorem q_384 : (Cond.classLink "MusicBoxes$Comb" 13 "MusicBoxes$Track") ∈ lw_ok := List.mem_filter.mpr ⟨List.mem_of_getElem? (i := 384) rfl, rfl⟩
set_option maxRecDepth 20000 in
theorem q_385 : (Cond.fieldLink "MusicBoxes$Comb" 7 "MusicBoxes$Comb" "kind" "I") ∈ lw_ok := List.mem_filter.mpr ⟨List.mem_of_getElem? (i := 385) rfl, rfl⟩
set_option maxRecDepth 20000 in
theorem q_386 : (Cond.fieldLink "MusicBoxes" 107 "MusicBoxes$Comb" "kind" "I") ∈ lw_ok := List.mem_filter.mpr ⟨List.mem_of_getElem? (i := 386) rfl, rfl⟩
set_option maxRecDepth 20000 in
theorem q_387 : (Cond.fieldLink "MusicBoxes$Comb" 15 "MusicBoxes$Comb" "teeth" "[LMusicBoxes$Track;") ∈ lw_ok := List.mem_filter.mpr ⟨List.mem_of_getElem? (i := 387) rfl, rfl⟩
set_option maxRecDepth 20000 in
theorem q_388 : (Cond.fieldLink "MusicBoxes" 93 "MusicBoxes$Comb" "teeth" "[LMusicBoxes$Track;") ∈ lw_ok := List.mem_filter.mpr ⟨List.mem_of_getElem? (i := 388) rfl, rfl⟩
set_option maxRecDepth 20000 in
theorem q_389 : (Cond.laysFinal "MusicBoxes$Comb" "MusicBoxes$Comb" "kind" "I") ∈ lw_ok := List.mem_filter.mpr ⟨List.mem_of_getElem? (i := 389) rfl, rfl⟩
set_option maxRecDepth 20000 in
theorem q_390 : (Cond.soleField "MusicBoxes$Comb" "kind") ∈ lw_ok := List.mem_filter.mpr ⟨List.mem_of_getElem? (i := 390) rfl, rfl⟩
set_option maxRecDepth 20000 in
theorem q_391 : (Cond.laysFinal "MusicBoxes$Comb" "MusicBoxes$Comb" "teeth" "[LMusicBoxes$Track;") ∈ lw_ok := List.mem_filter.mpr ⟨List.mem_of_getElem? (i := 391) rfl, rfl⟩
set_option maxRecDepth 20000 in
theorem q_392 : (Cond.soleField "MusicBoxes$Comb" "teeth") ∈ lw_ok := List.mem_filter.mpr ⟨List.mem_of_getElem? (i := 392) rfl, rfl⟩
set_option maxRecDepth 20000 in
theorem q_393 : (Cond.superclass "MusicBoxes$Comb" "java/lang/Object") ∈ lw_ok := List.mem_filter.mpr ⟨List.mem_of_getElem? (i := 393) rfl, rfl⟩
set_option maxRecDepth 20000 in
theorem q_394 : (Cond.methodLink "MusicBoxesLaw" 66 ⟨"MusicBoxes", "drop", "(I)I"⟩) ∈ lw_ok := List.mem_filter.mpr ⟨List.mem_of_getElem? (i := 394) rfl, rfl⟩
set_option maxRecDepth 20000 in
theorem q_395 : (Cond.instanceMethod ⟨"MusicBoxes", "drop", "(I)I"⟩) ∈ lw_ok := List.mem_filter.mpr ⟨List.mem_of_getElem? (i := 395) rfl, rfl⟩
set_option maxRecDepth 20000 in
theorem q_396 : (Cond.selects "MusicBoxes" ⟨"MusicBoxes", "drop", "(I)I"⟩ ⟨"MusicBoxes", "drop", "(I)I"⟩) ∈ lw_ok := List.mem_filter.mpr ⟨List.mem_of_getElem? (i := 396) rfl, rfl⟩
set_option maxRecDepth 20000 in
theorem q_397 : (Cond.code ⟨"MusicBoxes", "drop", "(I)I"⟩ prog_1_method_14_code 3 (Option.some Jvm.ClassFile.FieldType.int)) ∈ lw_ok := List.mem_filter.mpr ⟨List.mem_of_getElem? (i := 397) rfl, rfl⟩
set_option maxRecDepth 20000 in
theorem q_398 : (Cond.methodLink "MusicBoxes" 96 ⟨"MusicBoxes", "combOf", "(I)LMusicBoxes$Comb;"⟩) ∈ lw_ok := List.mem_filter.mpr ⟨List.mem_of_getElem? (i := 398) rfl, rfl⟩
set_option maxRecDepth 20000 in
theorem q_399 : (Cond.privateMethod ⟨"MusicBoxes", "combOf", "(I)LMusicBoxes$Comb;"⟩) ∈ lw_tbl := List.mem_of_getElem? (i := 399) rfl
set_option maxRecDepth 20000 in
theorem q_400 : (Cond.instanceMethod ⟨"MusicBoxes", "combOf", "(I)LMusicBoxes$Comb;"⟩) ∈ lw_ok := List.mem_filter.mpr ⟨List.mem_of_getElem? (i := 400) rfl, rfl⟩
set_option maxRecDepth 20000 in
theorem q_401 : (Cond.code ⟨"MusicBoxes", "combOf", "(I)LMusicBoxes$Comb;"⟩ prog_1_method_29_code 2 (Option.some (Jvm.ClassFile.FieldType.object "MusicBoxes$Comb"))) ∈ lw_ok := List.mem_filter.mpr ⟨List.mem_of_getElem? (i := 401) rfl, rfl⟩
set_option maxRecDepth 20000 in
theorem q_402 : (Cond.methodLink "MusicBoxesLaw" 70 ⟨"MusicBoxes", "about", "(II)I"⟩) ∈ lw_ok := List.mem_filter.mpr ⟨List.mem_of_getElem? (i := 402) rfl, rfl⟩
set_option maxRecDepth 20000 in
theorem q_403 : (Cond.instanceMethod ⟨"MusicBoxes", "about", "(II)I"⟩) ∈ lw_ok := List.mem_filter.mpr ⟨List.mem_of_getElem? (i := 403) rfl, rfl⟩
set_option maxRecDepth 20000 in
theorem q_404 : (Cond.selects "MusicBoxes" ⟨"MusicBoxes", "about", "(II)I"⟩ ⟨"MusicBoxes", "about", "(II)I"⟩) ∈ lw_ok := List.mem_filter.mpr ⟨List.mem_of_getElem? (i := 404) rfl, rfl⟩
set_option maxRecDepth 20000 in
theorem q_405 : (Cond.code ⟨"MusicBoxes", "about", "(II)I"⟩ prog_1_method_15_code 4 (Option.some Jvm.ClassFile.FieldType.int)) ∈ lw_ok := List.mem_filter.mpr ⟨List.mem_of_getElem? (i := 405) rfl, rfl⟩
set_option maxRecDepth 20000 in
theorem q_406 : (Cond.methodLink "MusicBoxes" 100 ⟨"MusicBoxes$Comb", "tell", "(I)I"⟩) ∈ lw_ok := List.mem_filter.mpr ⟨List.mem_of_getElem? (i := 406) rfl, rfl⟩
set_option maxRecDepth 20000 in
theorem q_407 : (Cond.instanceMethod ⟨"MusicBoxes$Comb", "tell", "(I)I"⟩) ∈ lw_ok := List.mem_filter.mpr ⟨List.mem_of_getElem? (i := 407) rfl, rfl⟩
set_option maxRecDepth 20000 in
theorem q_408 : (Cond.selects "MusicBoxes$Comb" ⟨"MusicBoxes$Comb", "tell", "(I)I"⟩ ⟨"MusicBoxes$Comb", "tell", "(I)I"⟩) ∈ lw_ok := List.mem_filter.mpr ⟨List.mem_of_getElem? (i := 408) rfl, rfl⟩
set_option maxRecDepth 20000 in
theorem q_409 : (Cond.code ⟨"MusicBoxes$Comb", "tell", "(I)I"⟩ prog_3_method_2_code 2 (Option.some Jvm.ClassFile.FieldType.int)) ∈ lw_ok := List.mem_filter.mpr ⟨List.mem_of_getElem? (i := 409) rfl, rfl⟩
set_option maxRecDepth 20000 in
theorem q_410 : (Cond.methodLink "MusicBoxes$Comb" 19 ⟨"MusicBoxes$Comb", "countLacking", "()I"⟩) ∈ lw_ok := List.mem_filter.mpr ⟨List.mem_of_getElem? (i := 410) rfl, rfl⟩
set_option maxRecDepth 20000 in
theorem q_411 : (Cond.privateMethod ⟨"MusicBoxes$Comb", "countLacking", "()I"⟩) ∈ lw_tbl := List.mem_of_getElem? (i := 411) rfl
set_option maxRecDepth 20000 in
theorem q_412 : (Cond.instanceMethod ⟨"MusicBoxes$Comb", "countLacking", "()I"⟩) ∈ lw_ok := List.mem_filter.mpr ⟨List.mem_of_getElem? (i := 412) rfl, rfl⟩
set_option maxRecDepth 20000 in
theorem q_413 : (Cond.code ⟨"MusicBoxes$Comb", "countLacking", "()I"⟩ prog_3_method_3_code 3 (Option.some Jvm.ClassFile.FieldType.int)) ∈ lw_ok := List.mem_filter.mpr ⟨List.mem_of_getElem? (i := 413) rfl, rfl⟩
set_option maxRecDepth 20000 in
theorem q_414 : (Cond.methodLink "MusicBoxes$Comb" 23 ⟨"MusicBoxes$Comb", "countPlaces", "()I"⟩) ∈ lw_ok := List.mem_filter.mpr ⟨List.mem_of_getElem? (i := 414) rfl, rfl⟩
set_option maxRecDepth 20000 in
theorem q_415 : (Cond.privateMethod ⟨"MusicBoxes$Comb", "countPlaces", "()I"⟩) ∈ lw_tbl := List.mem_of_getElem? (i := 415) rfl
set_option maxRecDepth 20000 in
theorem q_416 : (Cond.instanceMethod ⟨"MusicBoxes$Comb", "countPlaces", "()I"⟩) ∈ lw_ok := List.mem_filter.mpr ⟨List.mem_of_getElem? (i := 416) rfl, rfl⟩
set_option maxRecDepth 20000 in
theorem q_417 : (Cond.code ⟨"MusicBoxes$Comb", "countPlaces", "()I"⟩ prog_3_method_4_code 4 (Option.some Jvm.ClassFile.FieldType.int)) ∈ lw_ok := List.mem_filter.mpr ⟨List.mem_of_getElem? (i := 417) rfl, rfl⟩
set_option maxRecDepth 20000 in
theorem q_418 : (Cond.methodLink "MusicBoxesLaw" 74 ⟨"MusicBoxes", "loosen", "(II)I"⟩) ∈ lw_ok := List.mem_filter.mpr ⟨List.mem_of_getElem? (i := 418) rfl, rfl⟩
set_option maxRecDepth 20000 in
theorem q_419 : (Cond.instanceMethod ⟨"MusicBoxes", "loosen", "(II)I"⟩) ∈ lw_ok := List.mem_filter.mpr ⟨List.mem_of_getElem? (i := 419) rfl, rfl⟩
set_option maxRecDepth 20000 in
theorem q_420 : (Cond.selects "MusicBoxes" ⟨"MusicBoxes", "loosen", "(II)I"⟩ ⟨"MusicBoxes", "loosen", "(II)I"⟩) ∈ lw_ok := List.mem_filter.mpr ⟨List.mem_of_getElem? (i := 420) rfl, rfl⟩
set_option maxRecDepth 20000 in
theorem q_421 : (Cond.code ⟨"MusicBoxes", "loosen", "(II)I"⟩ prog_1_method_16_code 5 (Option.some Jvm.ClassFile.FieldType.int)) ∈ lw_ok := List.mem_filter.mpr ⟨List.mem_of_getElem? (i := 421) rfl, rfl⟩
set_option maxRecDepth 20000 in
theorem q_422 : (Cond.methodLink "MusicBoxes" 103 ⟨"MusicBoxes", "combWithTooth", "(II)LMusicBoxes$Comb;"⟩) ∈ lw_ok := List.mem_filter.mpr ⟨List.mem_of_getElem? (i := 422) rfl, rfl⟩
set_option maxRecDepth 20000 in
theorem q_423 : (Cond.privateMethod ⟨"MusicBoxes", "combWithTooth", "(II)LMusicBoxes$Comb;"⟩) ∈ lw_tbl := List.mem_of_getElem? (i := 423) rfl
set_option maxRecDepth 20000 in
theorem q_424 : (Cond.instanceMethod ⟨"MusicBoxes", "combWithTooth", "(II)LMusicBoxes$Comb;"⟩) ∈ lw_ok := List.mem_filter.mpr ⟨List.mem_of_getElem? (i := 424) rfl, rfl⟩
set_option maxRecDepth 20000 in
theorem q_425 : (Cond.code ⟨"MusicBoxes", "combWithTooth", "(II)LMusicBoxes$Comb;"⟩ prog_1_method_30_code 4 (Option.some (Jvm.ClassFile.FieldType.object "MusicBoxes$Comb"))) ∈ lw_ok := List.mem_filter.mpr ⟨List.mem_of_getElem? (i := 425) rfl, rfl⟩
set_option maxRecDepth 20000 in
theorem q_426 : (Cond.methodLink "MusicBoxesLaw" 78 ⟨"MusicBoxes", "hang", "(III)I"⟩) ∈ lw_ok := List.mem_filter.mpr ⟨List.mem_of_getElem? (i := 426) rfl, rfl⟩
set_option maxRecDepth 20000 in
theorem q_427 : (Cond.instanceMethod ⟨"MusicBoxes", "hang", "(III)I"⟩) ∈ lw_ok := List.mem_filter.mpr ⟨List.mem_of_getElem? (i := 427) rfl, rfl⟩
set_option maxRecDepth 20000 in
theorem q_428 : (Cond.selects "MusicBoxes" ⟨"MusicBoxes", "hang", "(III)I"⟩ ⟨"MusicBoxes", "hang", "(III)I"⟩) ∈ lw_ok := List.mem_filter.mpr ⟨List.mem_of_getElem? (i := 428) rfl, rfl⟩
set_option maxRecDepth 20000 in
theorem q_429 : (Cond.code ⟨"MusicBoxes", "hang", "(III)I"⟩ prog_1_method_17_code 6 (Option.some Jvm.ClassFile.FieldType.int)) ∈ lw_ok := List.mem_filter.mpr ⟨List.mem_of_getElem? (i := 429) rfl, rfl⟩
set_option maxRecDepth 20000 in
theorem q_430 : (Cond.methodLink "MusicBoxesLaw" 82 ⟨"MusicBoxes", "fit", "(III)I"⟩) ∈ lw_ok := List.mem_filter.mpr ⟨List.mem_of_getElem? (i := 430) rfl, rfl⟩
set_option maxRecDepth 20000 in
theorem q_431 : (Cond.instanceMethod ⟨"MusicBoxes", "fit", "(III)I"⟩) ∈ lw_ok := List.mem_filter.mpr ⟨List.mem_of_getElem? (i := 431) rfl, rfl⟩
set_option maxRecDepth 20000 in
theorem q_432 : (Cond.selects "MusicBoxes" ⟨"MusicBoxes", "fit", "(III)I"⟩ ⟨"MusicBoxes", "fit", "(III)I"⟩) ∈ lw_ok := List.mem_filter.mpr ⟨List.mem_of_getElem? (i := 432) rfl, rfl⟩
set_option maxRecDepth 20000 in
theorem q_433 : (Cond.code ⟨"MusicBoxes", "fit", "(III)I"⟩ prog_1_method_18_code 6 (Option.some Jvm.ClassFile.FieldType.int)) ∈ lw_ok := List.mem_filter.mpr ⟨List.mem_of_getElem? (i := 433) rfl, rfl⟩
set_option maxRecDepth 20000 in
theorem q_434 : (Cond.methodLink "MusicBoxesLaw" 86 ⟨"MusicBoxes", "cell", "(III)I"⟩) ∈ lw_ok := List.mem_filter.mpr ⟨List.mem_of_getElem? (i := 434) rfl, rfl⟩
set_option maxRecDepth 20000 in
theorem q_435 : (Cond.instanceMethod ⟨"MusicBoxes", "cell", "(III)I"⟩) ∈ lw_ok := List.mem_filter.mpr ⟨List.mem_of_getElem? (i := 435) rfl, rfl⟩
set_option maxRecDepth 20000 in
theorem q_436 : (Cond.selects "MusicBoxes" ⟨"MusicBoxes", "cell", "(III)I"⟩ ⟨"MusicBoxes", "cell", "(III)I"⟩) ∈ lw_ok := List.mem_filter.mpr ⟨List.mem_of_getElem? (i := 436) rfl, rfl⟩
set_option maxRecDepth 20000 in
theorem q_437 : (Cond.code ⟨"MusicBoxes", "cell", "(III)I"⟩ prog_1_method_19_code 4 (Option.some Jvm.ClassFile.FieldType.int)) ∈ lw_ok := List.mem_filter.mpr ⟨List.mem_of_getElem? (i := 437) rfl, rfl⟩
set_option maxRecDepth 20000 in
theorem q_438 : (Cond.methodLink "MusicBoxes" 110 ⟨"MusicBoxes", "trackOfTooth", "(II)LMusicBoxes$Track;"⟩) ∈ lw_ok := List.mem_filter.mpr ⟨List.mem_of_getElem? (i := 438) rfl, rfl⟩
set_option maxRecDepth 20000 in
theorem q_439 : (Cond.privateMethod ⟨"MusicBoxes", "trackOfTooth", "(II)LMusicBoxes$Track;"⟩) ∈ lw_tbl := List.mem_of_getElem? (i := 439) rfl
set_option maxRecDepth 20000 in
theorem q_440 : (Cond.instanceMethod ⟨"MusicBoxes", "trackOfTooth", "(II)LMusicBoxes$Track;"⟩) ∈ lw_ok := List.mem_filter.mpr ⟨List.mem_of_getElem? (i := 440) rfl, rfl⟩
set_option maxRecDepth 20000 in
theorem q_441 : (Cond.code ⟨"MusicBoxes", "trackOfTooth", "(II)LMusicBoxes$Track;"⟩ prog_1_method_32_code 4 (Option.some (Jvm.ClassFile.FieldType.object "MusicBoxes$Track"))) ∈ lw_ok := List.mem_filter.mpr ⟨List.mem_of_getElem? (i := 441) rfl, rfl⟩
set_option maxRecDepth 20000 in
theorem q_442 : (Cond.methodLink "MusicBoxesLaw" 90 ⟨"MusicBoxes", "set", "(IIII)I"⟩) ∈ lw_ok := List.mem_filter.mpr ⟨List.mem_of_getElem? (i := 442) rfl, rfl⟩
set_option maxRecDepth 20000 in
theorem q_443 : (Cond.instanceMethod ⟨"MusicBoxes", "set", "(IIII)I"⟩) ∈ lw_ok := List.mem_filter.mpr ⟨List.mem_of_getElem? (i := 443) rfl, rfl⟩
set_option maxRecDepth 20000 in
theorem q_444 : (Cond.selects "MusicBoxes" ⟨"MusicBoxes", "set", "(IIII)I"⟩ ⟨"MusicBoxes", "set", "(IIII)I"⟩) ∈ lw_ok := List.mem_filter.mpr ⟨List.mem_of_getElem? (i := 444) rfl, rfl⟩
set_option maxRecDepth 20000 in
theorem q_445 : (Cond.code ⟨"MusicBoxes", "set", "(IIII)I"⟩ prog_1_method_20_code 5 (Option.some Jvm.ClassFile.FieldType.int)) ∈ lw_ok := List.mem_filter.mpr ⟨List.mem_of_getElem? (i := 445) rfl, rfl⟩
set_option maxRecDepth 20000 in
theorem q_446 : (Cond.methodLink "MusicBoxesLaw" 94 ⟨"MusicBoxes", "twist", "(IIII)I"⟩) ∈ lw_ok := List.mem_filter.mpr ⟨List.mem_of_getElem? (i := 446) rfl, rfl⟩
set_option maxRecDepth 20000 in
theorem q_447 : (Cond.instanceMethod ⟨"MusicBoxes", "twist", "(IIII)I"⟩) ∈ lw_ok := List.mem_filter.mpr ⟨List.mem_of_getElem? (i := 447) rfl, rfl⟩
set_option maxRecDepth 20000 in
theorem q_448 : (Cond.selects "MusicBoxes" ⟨"MusicBoxes", "twist", "(IIII)I"⟩ ⟨"MusicBoxes", "twist", "(IIII)I"⟩) ∈ lw_ok := List.mem_filter.mpr ⟨List.mem_of_getElem? (i := 448) rfl, rfl⟩
set_option maxRecDepth 20000 in
theorem q_449 : (Cond.code ⟨"MusicBoxes", "twist", "(IIII)I"⟩ prog_1_method_21_code 5 (Option.some Jvm.ClassFile.FieldType.int)) ∈ lw_ok := List.mem_filter.mpr ⟨List.mem_of_getElem? (i := 449) rfl, rfl⟩
set_option maxRecDepth 20000 in
theorem q_450 : (Cond.methodLink "MusicBoxesLaw" 98 ⟨"MusicBoxes", "state", "()I"⟩) ∈ lw_ok := List.mem_filter.mpr ⟨List.mem_of_getElem? (i := 450) rfl, rfl⟩
set_option maxRecDepth 20000 in
theorem q_451 : (Cond.instanceMethod ⟨"MusicBoxes", "state", "()I"⟩) ∈ lw_ok := List.mem_filter.mpr ⟨List.mem_of_getElem? (i := 451) rfl, rfl⟩
set_option maxRecDepth 20000 in
theorem q_452 : (Cond.selects "MusicBoxes" ⟨"MusicBoxes", "state", "()I"⟩ ⟨"MusicBoxes", "state", "()I"⟩) ∈ lw_ok := List.mem_filter.mpr ⟨List.mem_of_getElem? (i := 452) rfl, rfl⟩
set_option maxRecDepth 20000 in
theorem q_453 : (Cond.code ⟨"MusicBoxes", "state", "()I"⟩ prog_1_method_22_code 1 (Option.some Jvm.ClassFile.FieldType.int)) ∈ lw_ok := List.mem_filter.mpr ⟨List.mem_of_getElem? (i := 453) rfl, rfl⟩
set_option maxRecDepth 20000 in
theorem q_454 : (Cond.classLink "MusicBoxesLaw" 10 "MusicBoxesModel") ∈ lw_ok := List.mem_filter.mpr ⟨List.mem_of_getElem? (i := 454) rfl, rfl⟩
set_option maxRecDepth 20000 in
theorem q_455 : (Cond.instantiable "MusicBoxesModel" 15) ∈ lw_ok := List.mem_filter.mpr ⟨List.mem_of_getElem? (i := 455) rfl, rfl⟩
set_option maxRecDepth 20000 in
theorem q_456 : (Cond.methodLink "MusicBoxesLaw" 12 ⟨"MusicBoxesModel", "<init>", "()V"⟩) ∈ lw_ok := List.mem_filter.mpr ⟨List.mem_of_getElem? (i := 456) rfl, rfl⟩
set_option maxRecDepth 20000 in
theorem q_457 : (Cond.instanceMethod ⟨"MusicBoxesModel", "<init>", "()V"⟩) ∈ lw_ok := List.mem_filter.mpr ⟨List.mem_of_getElem? (i := 457) rfl, rfl⟩
set_option maxRecDepth 20000 in
theorem q_458 : (Cond.code ⟨"MusicBoxesModel", "<init>", "()V"⟩ prog_11_method_1_code 2 (Option.none : Option Jvm.ClassFile.FieldType)) ∈ lw_ok := List.mem_filter.mpr ⟨List.mem_of_getElem? (i := 458) rfl, rfl⟩
set_option maxRecDepth 20000 in
theorem q_459 : (Cond.methodLink "MusicBoxesModel" 1 ⟨"java/lang/Object", "<init>", "()V"⟩) ∈ lw_ok := List.mem_filter.mpr ⟨List.mem_of_getElem? (i := 459) rfl, rfl⟩
set_option maxRecDepth 20000 in
theorem q_460 : (Cond.constant "MusicBoxesModel" 7 (60600 : Int32)) ∈ lw_ok := List.mem_filter.mpr ⟨List.mem_of_getElem? (i := 460) rfl, rfl⟩
set_option maxRecDepth 20000 in
theorem q_461 : (Cond.fieldLink "MusicBoxesModel" 8 "MusicBoxesModel" "cell" "[I") ∈ lw_ok := List.mem_filter.mpr ⟨List.mem_of_getElem? (i := 461) rfl, rfl⟩
set_option maxRecDepth 20000 in
theorem q_462 : (Cond.fieldLink "MusicBoxesModel" 14 "MusicBoxesModel" "size" "[I") ∈ lw_ok := List.mem_filter.mpr ⟨List.mem_of_getElem? (i := 462) rfl, rfl⟩
set_option maxRecDepth 20000 in
theorem q_463 : (Cond.fieldLink "MusicBoxesModel" 17 "MusicBoxesModel" "uses" "[I") ∈ lw_ok := List.mem_filter.mpr ⟨List.mem_of_getElem? (i := 463) rfl, rfl⟩
set_option maxRecDepth 20000 in
theorem q_464 : (Cond.fieldLink "MusicBoxesModel" 20 "MusicBoxesModel" "drums" "[I") ∈ lw_ok := List.mem_filter.mpr ⟨List.mem_of_getElem? (i := 464) rfl, rfl⟩
set_option maxRecDepth 20000 in
theorem q_465 : (Cond.fieldLink "MusicBoxesModel" 23 "MusicBoxesModel" "teeth" "[I") ∈ lw_ok := List.mem_filter.mpr ⟨List.mem_of_getElem? (i := 465) rfl, rfl⟩
set_option maxRecDepth 20000 in
theorem q_466 : (Cond.fieldLink "MusicBoxesModel" 26 "MusicBoxesModel" "combKind" "[I") ∈ lw_ok := List.mem_filter.mpr ⟨List.mem_of_getElem? (i := 466) rfl, rfl⟩
set_option maxRecDepth 20000 in
theorem q_467 : (Cond.fieldLink "MusicBoxesModel" 29 "MusicBoxesModel" "combTeeth" "[I") ∈ lw_ok := List.mem_filter.mpr ⟨List.mem_of_getElem? (i := 467) rfl, rfl⟩
set_option maxRecDepth 20000 in
theorem q_468 : (Cond.fieldLink "MusicBoxesModel" 32 "MusicBoxesModel" "heads" "[I") ∈ lw_ok := List.mem_filter.mpr ⟨List.mem_of_getElem? (i := 468) rfl, rfl⟩
set_option maxRecDepth 20000 in
theorem q_469 : (Cond.fieldLink "MusicBoxesModel" 35 "MusicBoxesModel" "notes" "[I") ∈ lw_ok := List.mem_filter.mpr ⟨List.mem_of_getElem? (i := 469) rfl, rfl⟩
set_option maxRecDepth 20000 in
theorem q_470 : (Cond.fieldLink "MusicBoxesModel" 38 "MusicBoxesModel" "played" "[I") ∈ lw_ok := List.mem_filter.mpr ⟨List.mem_of_getElem? (i := 470) rfl, rfl⟩
set_option maxRecDepth 20000 in
theorem q_471 : (Cond.fieldLink "MusicBoxesModel" 41 "MusicBoxesModel" "gaps" "[I") ∈ lw_ok := List.mem_filter.mpr ⟨List.mem_of_getElem? (i := 471) rfl, rfl⟩
set_option maxRecDepth 20000 in
theorem q_472 : (Cond.fieldLink "MusicBoxesModel" 44 "MusicBoxesModel" "weights" "[J") ∈ lw_ok := List.mem_filter.mpr ⟨List.mem_of_getElem? (i := 472) rfl, rfl⟩
set_option maxRecDepth 20000 in
theorem q_473 : (Cond.fieldLink "MusicBoxesModel" 48 "MusicBoxesModel" "highest" "[I") ∈ lw_ok := List.mem_filter.mpr ⟨List.mem_of_getElem? (i := 473) rfl, rfl⟩
set_option maxRecDepth 20000 in
theorem q_474 : (Cond.fieldLink "MusicBoxesModel" 51 "MusicBoxesModel" "loudest" "[I") ∈ lw_ok := List.mem_filter.mpr ⟨List.mem_of_getElem? (i := 474) rfl, rfl⟩
set_option maxRecDepth 20000 in
theorem q_475 : (Cond.fieldLink "MusicBoxesModel" 54 "MusicBoxesModel" "state" "I") ∈ lw_ok := List.mem_filter.mpr ⟨List.mem_of_getElem? (i := 475) rfl, rfl⟩
set_option maxRecDepth 20000 in
theorem q_476 : (Cond.laysFinal "MusicBoxesModel" "MusicBoxesModel" "cell" "[I") ∈ lw_ok := List.mem_filter.mpr ⟨List.mem_of_getElem? (i := 476) rfl, rfl⟩
set_option maxRecDepth 20000 in
theorem q_477 : (Cond.soleField "MusicBoxesModel" "cell") ∈ lw_ok := List.mem_filter.mpr ⟨List.mem_of_getElem? (i := 477) rfl, rfl⟩
set_option maxRecDepth 20000 in
theorem q_478 : (Cond.laysFinal "MusicBoxesModel" "MusicBoxesModel" "size" "[I") ∈ lw_ok := List.mem_filter.mpr ⟨List.mem_of_getElem? (i := 478) rfl, rfl⟩
set_option maxRecDepth 20000 in
theorem q_479 : (Cond.soleField "MusicBoxesModel" "size") ∈ lw_ok := List.mem_filter.mpr ⟨List.mem_of_getElem? (i := 479) rfl, rfl⟩
set_option maxRecDepth 20000 in
theorem q_480 : (Cond.laysFinal "MusicBoxesModel" "MusicBoxesModel" "uses" "[I") ∈ lw_ok := List.mem_filter.mpr ⟨List.mem_of_getElem? (i := 480) rfl, rfl⟩
set_option maxRecDepth 20000 in
theorem q_481 : (Cond.soleField "MusicBoxesModel" "uses") ∈ lw_ok := List.mem_filter.mpr ⟨List.mem_of_getElem? (i := 481) rfl, rfl⟩
set_option maxRecDepth 20000 in
theorem q_482 : (Cond.laysFinal "MusicBoxesModel" "MusicBoxesModel" "drums" "[I") ∈ lw_ok := List.mem_filter.mpr ⟨List.mem_of_getElem? (i := 482) rfl, rfl⟩
set_option maxRecDepth 20000 in
theorem q_483 : (Cond.soleField "MusicBoxesModel" "drums") ∈ lw_ok := List.mem_filter.mpr ⟨List.mem_of_getElem? (i := 483) rfl, rfl⟩
set_option maxRecDepth 20000 in
theorem q_484 : (Cond.laysFinal "MusicBoxesModel" "MusicBoxesModel" "teeth" "[I") ∈ lw_ok := List.mem_filter.mpr ⟨List.mem_of_getElem? (i := 484) rfl, rfl⟩
set_option maxRecDepth 20000 in
theorem q_485 : (Cond.soleField "MusicBoxesModel" "teeth") ∈ lw_ok := List.mem_filter.mpr ⟨List.mem_of_getElem? (i := 485) rfl, rfl⟩
set_option maxRecDepth 20000 in
theorem q_486 : (Cond.laysFinal "MusicBoxesModel" "MusicBoxesModel" "combKind" "[I") ∈ lw_ok := List.mem_filter.mpr ⟨List.mem_of_getElem? (i := 486) rfl, rfl⟩
set_option maxRecDepth 20000 in
theorem q_487 : (Cond.soleField "MusicBoxesModel" "combKind") ∈ lw_ok := List.mem_filter.mpr ⟨List.mem_of_getElem? (i := 487) rfl, rfl⟩
set_option maxRecDepth 20000 in
theorem q_488 : (Cond.laysFinal "MusicBoxesModel" "MusicBoxesModel" "combTeeth" "[I") ∈ lw_ok := List.mem_filter.mpr ⟨List.mem_of_getElem? (i := 488) rfl, rfl⟩
set_option maxRecDepth 20000 in
theorem q_489 : (Cond.soleField "MusicBoxesModel" "combTeeth") ∈ lw_ok := List.mem_filter.mpr ⟨List.mem_of_getElem? (i := 489) rfl, rfl⟩
set_option maxRecDepth 20000 in
theorem q_490 : (Cond.laysFinal "MusicBoxesModel" "MusicBoxesModel" "heads" "[I") ∈ lw_ok := List.mem_filter.mpr ⟨List.mem_of_getElem? (i := 490) rfl, rfl⟩
set_option maxRecDepth 20000 in
theorem q_491 : (Cond.soleField "MusicBoxesModel" "heads") ∈ lw_ok := List.mem_filter.mpr ⟨List.mem_of_getElem? (i := 491) rfl, rfl⟩
set_option maxRecDepth 20000 in
theorem q_492 : (Cond.laysFinal "MusicBoxesModel" "MusicBoxesModel" "notes" "[I") ∈ lw_ok := List.mem_filter.mpr ⟨List.mem_of_getElem? (i := 492) rfl, rfl⟩
set_option maxRecDepth 20000 in
theorem q_493 : (Cond.soleField "MusicBoxesModel" "notes") ∈ lw_ok := List.mem_filter.mpr ⟨List.mem_of_getElem? (i := 493) rfl, rfl⟩
set_option maxRecDepth 20000 in
theorem q_494 : (Cond.laysFinal "MusicBoxesModel" "MusicBoxesModel" "played" "[I") ∈ lw_ok := List.mem_filter.mpr ⟨List.mem_of_getElem? (i := 494) rfl, rfl⟩
set_option maxRecDepth 20000 in
theorem q_495 : (Cond.soleField "MusicBoxesModel" "played") ∈ lw_ok := List.mem_filter.mpr ⟨List.mem_of_getElem? (i := 495) rfl, rfl⟩
set_option maxRecDepth 20000 in
theorem q_496 : (Cond.laysFinal "MusicBoxesModel" "MusicBoxesModel" "gaps" "[I") ∈ lw_ok := List.mem_filter.mpr ⟨List.mem_of_getElem? (i := 496) rfl, rfl⟩
set_option maxRecDepth 20000 in
theorem q_497 : (Cond.soleField "MusicBoxesModel" "gaps") ∈ lw_ok := List.mem_filter.mpr ⟨List.mem_of_getElem? (i := 497) rfl, rfl⟩
set_option maxRecDepth 20000 in
theorem q_498 : (Cond.laysFinal "MusicBoxesModel" "MusicBoxesModel" "weights" "[J") ∈ lw_ok := List.mem_filter.mpr ⟨List.mem_of_getElem? (i := 498) rfl, rfl⟩
set_option maxRecDepth 20000 in
theorem q_499 : (Cond.soleField "MusicBoxesModel" "weights") ∈ lw_ok := List.mem_filter.mpr ⟨List.mem_of_getElem? (i := 499) rfl, rfl⟩
set_option maxRecDepth 20000 in
theorem q_500 : (Cond.laysFinal "MusicBoxesModel" "MusicBoxesModel" "highest" "[I") ∈ lw_ok := List.mem_filter.mpr ⟨List.mem_of_getElem? (i := 500) rfl, rfl⟩
set_option maxRecDepth 20000 in
theorem q_501 : (Cond.soleField "MusicBoxesModel" "highest") ∈ lw_ok := List.mem_filter.mpr ⟨List.mem_of_getElem? (i := 501) rfl, rfl⟩
set_option maxRecDepth 20000 in
theorem q_502 : (Cond.laysFinal "MusicBoxesModel" "MusicBoxesModel" "loudest" "[I") ∈ lw_ok := List.mem_filter.mpr ⟨List.mem_of_getElem? (i := 502) rfl, rfl⟩
set_option maxRecDepth 20000 in
theorem q_503 : (Cond.soleField "MusicBoxesModel" "loudest") ∈ lw_ok := List.mem_filter.mpr ⟨List.mem_of_getElem? (i := 503) rfl, rfl⟩
set_option maxRecDepth 20000 in
theorem q_504 : (Cond.lays "MusicBoxesModel" "MusicBoxesModel" "state" "I") ∈ lw_ok := List.mem_filter.mpr ⟨List.mem_of_getElem? (i := 504) rfl, rfl⟩
set_option maxRecDepth 20000 in
theorem q_505 : (Cond.soleField "MusicBoxesModel" "state") ∈ lw_ok := List.mem_filter.mpr ⟨List.mem_of_getElem? (i := 505) rfl, rfl⟩
set_option maxRecDepth 20000 in
theorem q_506 : (Cond.superclass "MusicBoxesModel" "java/lang/Object") ∈ lw_ok := List.mem_filter.mpr ⟨List.mem_of_getElem? (i := 506) rfl, rfl⟩
set_option maxRecDepth 20000 in
theorem q_507 : (Cond.arrayClass Jvm.ClassFile.FieldType.int) ∈ lw_ok := List.mem_filter.mpr ⟨List.mem_of_getElem? (i := 507) rfl, rfl⟩
set_option maxRecDepth 20000 in
theorem q_508 : (Cond.arrayClass Jvm.ClassFile.FieldType.long) ∈ lw_ok := List.mem_filter.mpr ⟨List.mem_of_getElem? (i := 508) rfl, rfl⟩
set_option maxRecDepth 20000 in
theorem q_509 : (Cond.methodLink "MusicBoxesLaw" 17 ⟨"MusicBoxesModel", "cut", "(III)I"⟩) ∈ lw_ok := List.mem_filter.mpr ⟨List.mem_of_getElem? (i := 509) rfl, rfl⟩
set_option maxRecDepth 20000 in
theorem q_510 : (Cond.instanceMethod ⟨"MusicBoxesModel", "cut", "(III)I"⟩) ∈ lw_ok := List.mem_filter.mpr ⟨List.mem_of_getElem? (i := 510) rfl, rfl⟩
set_option maxRecDepth 20000 in
theorem q_511 : (Cond.selects "MusicBoxesModel" ⟨"MusicBoxesModel", "cut", "(III)I"⟩ ⟨"MusicBoxesModel", "cut", "(III)I"⟩) ∈ lw_ok := List.mem_filter.mpr ⟨List.mem_of_getElem? (i := 511) rfl, rfl⟩
set_option maxRecDepth 20000 in
theorem q_512 : (Cond.code ⟨"MusicBoxesModel", "cut", "(III)I"⟩ prog_11_method_16_code 4 (Option.some Jvm.ClassFile.FieldType.int)) ∈ lw_ok := List.mem_filter.mpr ⟨List.mem_of_getElem? (i := 512) rfl, rfl⟩
set_option maxRecDepth 20000 in
theorem q_513 : (Cond.methodLink "MusicBoxesModel" 90 ⟨"MusicBoxesModel", "isDrum", "(I)Z"⟩) ∈ lw_ok := List.mem_filter.mpr ⟨List.mem_of_getElem? (i := 513) rfl, rfl⟩
set_option maxRecDepth 20000 in
theorem q_514 : (Cond.static ⟨"MusicBoxesModel", "isDrum", "(I)Z"⟩) ∈ lw_ok := List.mem_filter.mpr ⟨List.mem_of_getElem? (i := 514) rfl, rfl⟩
set_option maxRecDepth 20000 in
theorem q_515 : (Cond.code ⟨"MusicBoxesModel", "isDrum", "(I)Z"⟩ prog_11_method_4_code 1 (Option.some Jvm.ClassFile.FieldType.boolean)) ∈ lw_ok := List.mem_filter.mpr ⟨List.mem_of_getElem? (i := 515) rfl, rfl⟩
set_option maxRecDepth 20000 in
theorem q_516 : (Cond.methodLink "MusicBoxesModel" 58 ⟨"MusicBoxesModel", "in", "(III)Z"⟩) ∈ lw_ok := List.mem_filter.mpr ⟨List.mem_of_getElem? (i := 516) rfl, rfl⟩
set_option maxRecDepth 20000 in
theorem q_517 : (Cond.static ⟨"MusicBoxesModel", "in", "(III)Z"⟩) ∈ lw_ok := List.mem_filter.mpr ⟨List.mem_of_getElem? (i := 517) rfl, rfl⟩
set_option maxRecDepth 20000 in
theorem q_518 : (Cond.code ⟨"MusicBoxesModel", "in", "(III)Z"⟩ prog_11_method_3_code 3 (Option.some Jvm.ClassFile.FieldType.boolean)) ∈ lw_ok := List.mem_filter.mpr ⟨List.mem_of_getElem? (i := 518) rfl, rfl⟩
set_option maxRecDepth 20000 in
theorem q_519 : (Cond.methodLink "MusicBoxesModel" 93 ⟨"MusicBoxesModel", "isKind", "(I)Z"⟩) ∈ lw_ok := List.mem_filter.mpr ⟨List.mem_of_getElem? (i := 519) rfl, rfl⟩
set_option maxRecDepth 20000 in
theorem q_520 : (Cond.static ⟨"MusicBoxesModel", "isKind", "(I)Z"⟩) ∈ lw_ok := List.mem_filter.mpr ⟨List.mem_of_getElem? (i := 520) rfl, rfl⟩
set_option maxRecDepth 20000 in
theorem q_521 : (Cond.code ⟨"MusicBoxesModel", "isKind", "(I)Z"⟩ prog_11_method_5_code 1 (Option.some Jvm.ClassFile.FieldType.boolean)) ∈ lw_ok := List.mem_filter.mpr ⟨List.mem_of_getElem? (i := 521) rfl, rfl⟩
set_option maxRecDepth 20000 in
theorem q_522 : (Cond.methodLink "MusicBoxesModel" 96 ⟨"MusicBoxesModel", "told", "(I)I"⟩) ∈ lw_ok := List.mem_filter.mpr ⟨List.mem_of_getElem? (i := 522) rfl, rfl⟩
set_option maxRecDepth 20000 in
theorem q_523 : (Cond.privateMethod ⟨"MusicBoxesModel", "told", "(I)I"⟩) ∈ lw_tbl := List.mem_of_getElem? (i := 523) rfl
set_option maxRecDepth 20000 in
theorem q_524 : (Cond.instanceMethod ⟨"MusicBoxesModel", "told", "(I)I"⟩) ∈ lw_ok := List.mem_filter.mpr ⟨List.mem_of_getElem? (i := 524) rfl, rfl⟩
set_option maxRecDepth 20000 in
theorem q_525 : (Cond.code ⟨"MusicBoxesModel", "told", "(I)I"⟩ prog_11_method_2_code 2 (Option.some Jvm.ClassFile.FieldType.int)) ∈ lw_ok := List.mem_filter.mpr ⟨List.mem_of_getElem? (i := 525) rfl, rfl⟩
set_option maxRecDepth 20000 in
theorem q_526 : (Cond.methodLink "MusicBoxesModel" 100 ⟨"MusicBoxesModel", "newTrack", "(I)I"⟩) ∈ lw_ok := List.mem_filter.mpr ⟨List.mem_of_getElem? (i := 526) rfl, rfl⟩
set_option maxRecDepth 20000 in
theorem q_527 : (Cond.privateMethod ⟨"MusicBoxesModel", "newTrack", "(I)I"⟩) ∈ lw_tbl := List.mem_of_getElem? (i := 527) rfl
set_option maxRecDepth 20000 in
theorem q_528 : (Cond.instanceMethod ⟨"MusicBoxesModel", "newTrack", "(I)I"⟩) ∈ lw_ok := List.mem_filter.mpr ⟨List.mem_of_getElem? (i := 528) rfl, rfl⟩
set_option maxRecDepth 20000 in
theorem q_529 : (Cond.code ⟨"MusicBoxesModel", "newTrack", "(I)I"⟩ prog_11_method_8_code 4 (Option.some Jvm.ClassFile.FieldType.int)) ∈ lw_ok := List.mem_filter.mpr ⟨List.mem_of_getElem? (i := 529) rfl, rfl⟩
set_option maxRecDepth 20000 in
theorem q_530 : (Cond.methodLink "MusicBoxesModel" 103 ⟨"MusicBoxesModel", "drumGets", "(III)V"⟩) ∈ lw_ok := List.mem_filter.mpr ⟨List.mem_of_getElem? (i := 530) rfl, rfl⟩
set_option maxRecDepth 20000 in
theorem q_531 : (Cond.privateMethod ⟨"MusicBoxesModel", "drumGets", "(III)V"⟩) ∈ lw_tbl := List.mem_of_getElem? (i := 531) rfl
set_option maxRecDepth 20000 in
theorem q_532 : (Cond.instanceMethod ⟨"MusicBoxesModel", "drumGets", "(III)V"⟩) ∈ lw_ok := List.mem_filter.mpr ⟨List.mem_of_getElem? (i := 532) rfl, rfl⟩
set_option maxRecDepth 20000 in
theorem q_533 : (Cond.code ⟨"MusicBoxesModel", "drumGets", "(III)V"⟩ prog_11_method_9_code 5 (Option.none : Option Jvm.ClassFile.FieldType)) ∈ lw_ok := List.mem_filter.mpr ⟨List.mem_of_getElem? (i := 533) rfl, rfl⟩
set_option maxRecDepth 20000 in
theorem q_534 : (Cond.methodLink "MusicBoxesLaw" 22 ⟨"MusicBoxesModel", "strip", "(II)I"⟩) ∈ lw_ok := List.mem_filter.mpr ⟨List.mem_of_getElem? (i := 534) rfl, rfl⟩
set_option maxRecDepth 20000 in
theorem q_535 : (Cond.instanceMethod ⟨"MusicBoxesModel", "strip", "(II)I"⟩) ∈ lw_ok := List.mem_filter.mpr ⟨List.mem_of_getElem? (i := 535) rfl, rfl⟩
set_option maxRecDepth 20000 in
theorem q_536 : (Cond.selects "MusicBoxesModel" ⟨"MusicBoxesModel", "strip", "(II)I"⟩ ⟨"MusicBoxesModel", "strip", "(II)I"⟩) ∈ lw_ok := List.mem_filter.mpr ⟨List.mem_of_getElem? (i := 536) rfl, rfl⟩
set_option maxRecDepth 20000 in
theorem q_537 : (Cond.code ⟨"MusicBoxesModel", "strip", "(II)I"⟩ prog_11_method_17_code 4 (Option.some Jvm.ClassFile.FieldType.int)) ∈ lw_ok := List.mem_filter.mpr ⟨List.mem_of_getElem? (i := 537) rfl, rfl⟩
set_option maxRecDepth 20000 in
theorem q_538 : (Cond.methodLink "MusicBoxesLaw" 26 ⟨"MusicBoxesModel", "share", "(III)I"⟩) ∈ lw_ok := List.mem_filter.mpr ⟨List.mem_of_getElem? (i := 538) rfl, rfl⟩
set_option maxRecDepth 20000 in
theorem q_539 : (Cond.instanceMethod ⟨"MusicBoxesModel", "share", "(III)I"⟩) ∈ lw_ok := List.mem_filter.mpr ⟨List.mem_of_getElem? (i := 539) rfl, rfl⟩
set_option maxRecDepth 20000 in
theorem q_540 : (Cond.selects "MusicBoxesModel" ⟨"MusicBoxesModel", "share", "(III)I"⟩ ⟨"MusicBoxesModel", "share", "(III)I"⟩) ∈ lw_ok := List.mem_filter.mpr ⟨List.mem_of_getElem? (i := 540) rfl, rfl⟩
set_option maxRecDepth 20000 in
theorem q_541 : (Cond.code ⟨"MusicBoxesModel", "share", "(III)I"⟩ prog_11_method_18_code 5 (Option.some Jvm.ClassFile.FieldType.int)) ∈ lw_ok := List.mem_filter.mpr ⟨List.mem_of_getElem? (i := 541) rfl, rfl⟩
set_option maxRecDepth 20000 in
theorem q_542 : (Cond.methodLink "MusicBoxesLaw" 30 ⟨"MusicBoxesModel", "places", "(II)I"⟩) ∈ lw_ok := List.mem_filter.mpr ⟨List.mem_of_getElem? (i := 542) rfl, rfl⟩
set_option maxRecDepth 20000 in
theorem q_543 : (Cond.instanceMethod ⟨"MusicBoxesModel", "places", "(II)I"⟩) ∈ lw_ok := List.mem_filter.mpr ⟨List.mem_of_getElem? (i := 543) rfl, rfl⟩
set_option maxRecDepth 20000 in
theorem q_544 : (Cond.selects "MusicBoxesModel" ⟨"MusicBoxesModel", "places", "(II)I"⟩ ⟨"MusicBoxesModel", "places", "(II)I"⟩) ∈ lw_ok := List.mem_filter.mpr ⟨List.mem_of_getElem? (i := 544) rfl, rfl⟩
set_option maxRecDepth 20000 in
theorem q_545 : (Cond.code ⟨"MusicBoxesModel", "places", "(II)I"⟩ prog_11_method_19_code 4 (Option.some Jvm.ClassFile.FieldType.int)) ∈ lw_ok := List.mem_filter.mpr ⟨List.mem_of_getElem? (i := 545) rfl, rfl⟩
set_option maxRecDepth 20000 in
theorem q_546 : (Cond.methodLink "MusicBoxesLaw" 34 ⟨"MusicBoxesModel", "read", "(III)I"⟩) ∈ lw_ok := List.mem_filter.mpr ⟨List.mem_of_getElem? (i := 546) rfl, rfl⟩
set_option maxRecDepth 20000 in
theorem q_547 : (Cond.instanceMethod ⟨"MusicBoxesModel", "read", "(III)I"⟩) ∈ lw_ok := List.mem_filter.mpr ⟨List.mem_of_getElem? (i := 547) rfl, rfl⟩
set_option maxRecDepth 20000 in
theorem q_548 : (Cond.selects "MusicBoxesModel" ⟨"MusicBoxesModel", "read", "(III)I"⟩ ⟨"MusicBoxesModel", "read", "(III)I"⟩) ∈ lw_ok := List.mem_filter.mpr ⟨List.mem_of_getElem? (i := 548) rfl, rfl⟩
set_option maxRecDepth 20000 in
theorem q_549 : (Cond.code ⟨"MusicBoxesModel", "read", "(III)I"⟩ prog_11_method_20_code 4 (Option.some Jvm.ClassFile.FieldType.int)) ∈ lw_ok := List.mem_filter.mpr ⟨List.mem_of_getElem? (i := 549) rfl, rfl⟩
set_option maxRecDepth 20000 in
theorem q_550 : (Cond.methodLink "MusicBoxesModel" 107 ⟨"MusicBoxesModel", "reads", "(II)I"⟩) ∈ lw_ok := List.mem_filter.mpr ⟨List.mem_of_getElem? (i := 550) rfl, rfl⟩
set_option maxRecDepth 20000 in
theorem q_551 : (Cond.privateMethod ⟨"MusicBoxesModel", "reads", "(II)I"⟩) ∈ lw_tbl := List.mem_of_getElem? (i := 551) rfl
set_option maxRecDepth 20000 in
theorem q_552 : (Cond.instanceMethod ⟨"MusicBoxesModel", "reads", "(II)I"⟩) ∈ lw_ok := List.mem_filter.mpr ⟨List.mem_of_getElem? (i := 552) rfl, rfl⟩
set_option maxRecDepth 20000 in
theorem q_553 : (Cond.code ⟨"MusicBoxesModel", "reads", "(II)I"⟩ prog_11_method_15_code 4 (Option.some Jvm.ClassFile.FieldType.int)) ∈ lw_ok := List.mem_filter.mpr ⟨List.mem_of_getElem? (i := 553) rfl, rfl⟩
set_option maxRecDepth 20000 in
theorem q_554 : (Cond.methodLink "MusicBoxesModel" 67 ⟨"MusicBoxesModel", "lacks", "(II)I"⟩) ∈ lw_ok := List.mem_filter.mpr ⟨List.mem_of_getElem? (i := 554) rfl, rfl⟩
set_option maxRecDepth 20000 in
theorem q_555 : (Cond.privateMethod ⟨"MusicBoxesModel", "lacks", "(II)I"⟩) ∈ lw_tbl := List.mem_of_getElem? (i := 555) rfl
set_option maxRecDepth 20000 in
theorem q_556 : (Cond.instanceMethod ⟨"MusicBoxesModel", "lacks", "(II)I"⟩) ∈ lw_ok := List.mem_filter.mpr ⟨List.mem_of_getElem? (i := 556) rfl, rfl⟩
set_option maxRecDepth 20000 in
theorem q_557 : (Cond.code ⟨"MusicBoxesModel", "lacks", "(II)I"⟩ prog_11_method_11_code 3 (Option.some Jvm.ClassFile.FieldType.int)) ∈ lw_ok := List.mem_filter.mpr ⟨List.mem_of_getElem? (i := 557) rfl, rfl⟩
set_option maxRecDepth 20000 in
theorem q_558 : (Cond.methodLink "MusicBoxesLaw" 39 ⟨"MusicBoxesModel", "write", "(IIII)I"⟩) ∈ lw_ok := List.mem_filter.mpr ⟨List.mem_of_getElem? (i := 558) rfl, rfl⟩
set_option maxRecDepth 20000 in
theorem q_559 : (Cond.instanceMethod ⟨"MusicBoxesModel", "write", "(IIII)I"⟩) ∈ lw_ok := List.mem_filter.mpr ⟨List.mem_of_getElem? (i := 559) rfl, rfl⟩
set_option maxRecDepth 20000 in
theorem q_560 : (Cond.selects "MusicBoxesModel" ⟨"MusicBoxesModel", "write", "(IIII)I"⟩ ⟨"MusicBoxesModel", "write", "(IIII)I"⟩) ∈ lw_ok := List.mem_filter.mpr ⟨List.mem_of_getElem? (i := 560) rfl, rfl⟩
set_option maxRecDepth 20000 in
theorem q_561 : (Cond.code ⟨"MusicBoxesModel", "write", "(IIII)I"⟩ prog_11_method_21_code 5 (Option.some Jvm.ClassFile.FieldType.int)) ∈ lw_ok := List.mem_filter.mpr ⟨List.mem_of_getElem? (i := 561) rfl, rfl⟩
set_option maxRecDepth 20000 in
theorem q_562 : (Cond.methodLink "MusicBoxesModel" 110 ⟨"MusicBoxesModel", "writes", "(IIII)I"⟩) ∈ lw_ok := List.mem_filter.mpr ⟨List.mem_of_getElem? (i := 562) rfl, rfl⟩
set_option maxRecDepth 20000 in
theorem q_563 : (Cond.privateMethod ⟨"MusicBoxesModel", "writes", "(IIII)I"⟩) ∈ lw_tbl := List.mem_of_getElem? (i := 563) rfl
set_option maxRecDepth 20000 in
theorem q_564 : (Cond.instanceMethod ⟨"MusicBoxesModel", "writes", "(IIII)I"⟩) ∈ lw_ok := List.mem_filter.mpr ⟨List.mem_of_getElem? (i := 564) rfl, rfl⟩
set_option maxRecDepth 20000 in
theorem q_565 : (Cond.code ⟨"MusicBoxesModel", "writes", "(IIII)I"⟩ prog_11_method_13_code 7 (Option.some Jvm.ClassFile.FieldType.int)) ∈ lw_ok := List.mem_filter.mpr ⟨List.mem_of_getElem? (i := 565) rfl, rfl⟩
set_option maxRecDepth 20000 in
theorem q_566 : (Cond.constant "MusicBoxesModel" 71 (-8000000 : Int32)) ∈ lw_ok := List.mem_filter.mpr ⟨List.mem_of_getElem? (i := 566) rfl, rfl⟩
set_option maxRecDepth 20000 in
theorem q_567 : (Cond.constant "MusicBoxesModel" 72 (8000000 : Int32)) ∈ lw_ok := List.mem_filter.mpr ⟨List.mem_of_getElem? (i := 567) rfl, rfl⟩
set_option maxRecDepth 20000 in
theorem q_568 : (Cond.constantFloat "MusicBoxesModel" 73 (1040187392 : UInt32)) ∈ lw_ok := List.mem_filter.mpr ⟨List.mem_of_getElem? (i := 568) rfl, rfl⟩
set_option maxRecDepth 20000 in
theorem q_569 : (Cond.methodLink "MusicBoxesModel" 74 ⟨"java/lang/Float", "floatToIntBits", "(F)I"⟩) ∈ lw_ok := List.mem_filter.mpr ⟨List.mem_of_getElem? (i := 569) rfl, rfl⟩
set_option maxRecDepth 20000 in
theorem q_570 : (Cond.static ⟨"java/lang/Float", "floatToIntBits", "(F)I"⟩) ∈ lw_ok := List.mem_filter.mpr ⟨List.mem_of_getElem? (i := 570) rfl, rfl⟩
set_option maxRecDepth 20000 in
theorem q_571 : (Cond.code ⟨"java/lang/Float", "floatToIntBits", "(F)I"⟩ prog_12_method_24_code 1 (Option.some Jvm.ClassFile.FieldType.int)) ∈ lw_ok := List.mem_filter.mpr ⟨List.mem_of_getElem? (i := 571) rfl, rfl⟩
set_option maxRecDepth 20000 in
theorem q_572 : (Cond.methodLink "java/lang/Float" 59 ⟨"java/lang/Float", "isNaN", "(F)Z"⟩) ∈ lw_ok := List.mem_filter.mpr ⟨List.mem_of_getElem? (i := 572) rfl, rfl⟩
set_option maxRecDepth 20000 in
theorem q_573 : (Cond.static ⟨"java/lang/Float", "isNaN", "(F)Z"⟩) ∈ lw_ok := List.mem_filter.mpr ⟨List.mem_of_getElem? (i := 573) rfl, rfl⟩
set_option maxRecDepth 20000 in
theorem q_574 : (Cond.code ⟨"java/lang/Float", "isNaN", "(F)Z"⟩ prog_12_method_6_code 1 (Option.some Jvm.ClassFile.FieldType.boolean)) ∈ lw_ok := List.mem_filter.mpr ⟨List.mem_of_getElem? (i := 574) rfl, rfl⟩
set_option maxRecDepth 20000 in
theorem q_575 : (Cond.methodLink "java/lang/Float" 74 ⟨"java/lang/Float", "floatToRawIntBits", "(F)I"⟩) ∈ lw_ok := List.mem_filter.mpr ⟨List.mem_of_getElem? (i := 575) rfl, rfl⟩
set_option maxRecDepth 20000 in
theorem q_576 : (Cond.static ⟨"java/lang/Float", "floatToRawIntBits", "(F)I"⟩) ∈ lw_ok := List.mem_filter.mpr ⟨List.mem_of_getElem? (i := 576) rfl, rfl⟩
set_option maxRecDepth 20000 in
theorem q_577 : (Cond.native ⟨"java/lang/Float", "floatToRawIntBits", "(F)I"⟩) ∈ lw_ok := List.mem_filter.mpr ⟨List.mem_of_getElem? (i := 577) rfl, rfl⟩
set_option maxRecDepth 20000 in
theorem q_578 : (Cond.constant "java/lang/Float" 77 (2143289344 : Int32)) ∈ lw_ok := List.mem_filter.mpr ⟨List.mem_of_getElem? (i := 578) rfl, rfl⟩
set_option maxRecDepth 20000 in
theorem q_579 : (Cond.methodLink "MusicBoxesModel" 80 ⟨"MusicBoxesModel", "packed", "(II)I"⟩) ∈ lw_ok := List.mem_filter.mpr ⟨List.mem_of_getElem? (i := 579) rfl, rfl⟩
set_option maxRecDepth 20000 in
theorem q_580 : (Cond.static ⟨"MusicBoxesModel", "packed", "(II)I"⟩) ∈ lw_ok := List.mem_filter.mpr ⟨List.mem_of_getElem? (i := 580) rfl, rfl⟩
set_option maxRecDepth 20000 in
theorem q_581 : (Cond.code ⟨"MusicBoxesModel", "packed", "(II)I"⟩ prog_11_method_12_code 2 (Option.some Jvm.ClassFile.FieldType.int)) ∈ lw_ok := List.mem_filter.mpr ⟨List.mem_of_getElem? (i := 581) rfl, rfl⟩
set_option maxRecDepth 20000 in
theorem q_582 : (Cond.constant "MusicBoxesModel" 66 (65535 : Int32)) ∈ lw_ok := List.mem_filter.mpr ⟨List.mem_of_getElem? (i := 582) rfl, rfl⟩
set_option maxRecDepth 20000 in
theorem q_583 : (Cond.methodLink "MusicBoxesLaw" 43 ⟨"MusicBoxesModel", "turn", "(IIII)I"⟩) ∈ lw_ok := List.mem_filter.mpr ⟨List.mem_of_getElem? (i := 583) rfl, rfl⟩
set_option maxRecDepth 20000 in
theorem q_584 : (Cond.instanceMethod ⟨"MusicBoxesModel", "turn", "(IIII)I"⟩) ∈ lw_ok := List.mem_filter.mpr ⟨List.mem_of_getElem? (i := 584) rfl, rfl⟩
set_option maxRecDepth 20000 in
theorem q_585 : (Cond.selects "MusicBoxesModel" ⟨"MusicBoxesModel", "turn", "(IIII)I"⟩ ⟨"MusicBoxesModel", "turn", "(IIII)I"⟩) ∈ lw_ok := List.mem_filter.mpr ⟨List.mem_of_getElem? (i := 585) rfl, rfl⟩
set_option maxRecDepth 20000 in
theorem q_586 : (Cond.code ⟨"MusicBoxesModel", "turn", "(IIII)I"⟩ prog_11_method_22_code 5 (Option.some Jvm.ClassFile.FieldType.int)) ∈ lw_ok := List.mem_filter.mpr ⟨List.mem_of_getElem? (i := 586) rfl, rfl⟩
set_option maxRecDepth 20000 in
theorem q_587 : (Cond.methodLink "MusicBoxesModel" 114 ⟨"MusicBoxesModel", "turns", "(IIII)I"⟩) ∈ lw_ok := List.mem_filter.mpr ⟨List.mem_of_getElem? (i := 587) rfl, rfl⟩
set_option maxRecDepth 20000 in
theorem q_588 : (Cond.privateMethod ⟨"MusicBoxesModel", "turns", "(IIII)I"⟩) ∈ lw_tbl := List.mem_of_getElem? (i := 588) rfl
set_option maxRecDepth 20000 in
theorem q_589 : (Cond.instanceMethod ⟨"MusicBoxesModel", "turns", "(IIII)I"⟩) ∈ lw_ok := List.mem_filter.mpr ⟨List.mem_of_getElem? (i := 589) rfl, rfl⟩
set_option maxRecDepth 20000 in
theorem q_590 : (Cond.code ⟨"MusicBoxesModel", "turns", "(IIII)I"⟩ prog_11_method_14_code 9 (Option.some Jvm.ClassFile.FieldType.int)) ∈ lw_ok := List.mem_filter.mpr ⟨List.mem_of_getElem? (i := 590) rfl, rfl⟩
set_option maxRecDepth 20000 in
theorem q_591 : (Cond.methodLink "MusicBoxesModel" 83 ⟨"java/lang/Float", "intBitsToFloat", "(I)F"⟩) ∈ lw_ok := List.mem_filter.mpr ⟨List.mem_of_getElem? (i := 591) rfl, rfl⟩
set_option maxRecDepth 20000 in
theorem q_592 : (Cond.static ⟨"java/lang/Float", "intBitsToFloat", "(I)F"⟩) ∈ lw_ok := List.mem_filter.mpr ⟨List.mem_of_getElem? (i := 592) rfl, rfl⟩
set_option maxRecDepth 20000 in
theorem q_593 : (Cond.native ⟨"java/lang/Float", "intBitsToFloat", "(I)F"⟩) ∈ lw_ok := List.mem_filter.mpr ⟨List.mem_of_getElem? (i := 593) rfl, rfl⟩
set_option maxRecDepth 20000 in
theorem q_594 : (Cond.constantFloat "MusicBoxesModel" 87 (1048576000 : UInt32)) ∈ lw_ok := List.mem_filter.mpr ⟨List.mem_of_getElem? (i := 594) rfl, rfl⟩
set_option maxRecDepth 20000 in
theorem q_595 : (Cond.constantFloat "MusicBoxesModel" 88 (3379831808 : UInt32)) ∈ lw_ok := List.mem_filter.mpr ⟨List.mem_of_getElem? (i := 595) rfl, rfl⟩
set_option maxRecDepth 20000 in
theorem q_596 : (Cond.constantFloat "MusicBoxesModel" 89 (1232348160 : UInt32)) ∈ lw_ok := List.mem_filter.mpr ⟨List.mem_of_getElem? (i := 596) rfl, rfl⟩
set_option maxRecDepth 20000 in
theorem q_597 : (Cond.methodLink "MusicBoxesLaw" 47 ⟨"MusicBoxesModel", "head", "(II)I"⟩) ∈ lw_ok := List.mem_filter.mpr ⟨List.mem_of_getElem? (i := 597) rfl, rfl⟩
set_option maxRecDepth 20000 in
theorem q_598 : (Cond.instanceMethod ⟨"MusicBoxesModel", "head", "(II)I"⟩) ∈ lw_ok := List.mem_filter.mpr ⟨List.mem_of_getElem? (i := 598) rfl, rfl⟩
set_option maxRecDepth 20000 in
theorem q_599 : (Cond.selects "MusicBoxesModel" ⟨"MusicBoxesModel", "head", "(II)I"⟩ ⟨"MusicBoxesModel", "head", "(II)I"⟩) ∈ lw_ok := List.mem_filter.mpr ⟨List.mem_of_getElem? (i := 599) rfl, rfl⟩
set_option maxRecDepth 20000 in
theorem q_600 : (Cond.code ⟨"MusicBoxesModel", "head", "(II)I"⟩ prog_11_method_23_code 4 (Option.some Jvm.ClassFile.FieldType.int)) ∈ lw_ok := List.mem_filter.mpr ⟨List.mem_of_getElem? (i := 600) rfl, rfl⟩
set_option maxRecDepth 20000 in
theorem q_601 : (Cond.methodLink "MusicBoxesLaw" 51 ⟨"MusicBoxesModel", "play", "(II)I"⟩) ∈ lw_ok := List.mem_filter.mpr ⟨List.mem_of_getElem? (i := 601) rfl, rfl⟩
set_option maxRecDepth 20000 in
theorem q_602 : (Cond.instanceMethod ⟨"MusicBoxesModel", "play", "(II)I"⟩) ∈ lw_ok := List.mem_filter.mpr ⟨List.mem_of_getElem? (i := 602) rfl, rfl⟩
set_option maxRecDepth 20000 in
theorem q_603 : (Cond.selects "MusicBoxesModel" ⟨"MusicBoxesModel", "play", "(II)I"⟩ ⟨"MusicBoxesModel", "play", "(II)I"⟩) ∈ lw_ok := List.mem_filter.mpr ⟨List.mem_of_getElem? (i := 603) rfl, rfl⟩
set_option maxRecDepth 20000 in
theorem q_604 : (Cond.code ⟨"MusicBoxesModel", "play", "(II)I"⟩ prog_11_method_27_code 8 (Option.some Jvm.ClassFile.FieldType.int)) ∈ lw_ok := List.mem_filter.mpr ⟨List.mem_of_getElem? (i := 604) rfl, rfl⟩
set_option maxRecDepth 20000 in
theorem q_605 : (Cond.methodLink "MusicBoxesModel" 117 ⟨"MusicBoxesModel", "isThere", "(III)Z"⟩) ∈ lw_ok := List.mem_filter.mpr ⟨List.mem_of_getElem? (i := 605) rfl, rfl⟩
set_option maxRecDepth 20000 in
theorem q_606 : (Cond.privateMethod ⟨"MusicBoxesModel", "isThere", "(III)Z"⟩) ∈ lw_tbl := List.mem_of_getElem? (i := 606) rfl
set_option maxRecDepth 20000 in
theorem q_607 : (Cond.instanceMethod ⟨"MusicBoxesModel", "isThere", "(III)Z"⟩) ∈ lw_ok := List.mem_filter.mpr ⟨List.mem_of_getElem? (i := 607) rfl, rfl⟩
set_option maxRecDepth 20000 in
theorem q_608 : (Cond.code ⟨"MusicBoxesModel", "isThere", "(III)Z"⟩ prog_11_method_24_code 4 (Option.some Jvm.ClassFile.FieldType.boolean)) ∈ lw_ok := List.mem_filter.mpr ⟨List.mem_of_getElem? (i := 608) rfl, rfl⟩
set_option maxRecDepth 20000 in
theorem q_609 : (Cond.methodLink "MusicBoxesModel" 124 ⟨"MusicBoxesModel", "sounds", "(II)Z"⟩) ∈ lw_ok := List.mem_filter.mpr ⟨List.mem_of_getElem? (i := 609) rfl, rfl⟩
set_option maxRecDepth 20000 in
theorem q_610 : (Cond.privateMethod ⟨"MusicBoxesModel", "sounds", "(II)Z"⟩) ∈ lw_tbl := List.mem_of_getElem? (i := 610) rfl
set_option maxRecDepth 20000 in
theorem q_611 : (Cond.instanceMethod ⟨"MusicBoxesModel", "sounds", "(II)Z"⟩) ∈ lw_ok := List.mem_filter.mpr ⟨List.mem_of_getElem? (i := 611) rfl, rfl⟩
set_option maxRecDepth 20000 in
theorem q_612 : (Cond.code ⟨"MusicBoxesModel", "sounds", "(II)Z"⟩ prog_11_method_26_code 8 (Option.some Jvm.ClassFile.FieldType.boolean)) ∈ lw_ok := List.mem_filter.mpr ⟨List.mem_of_getElem? (i := 612) rfl, rfl⟩
set_option maxRecDepth 20000 in
theorem q_613 : (Cond.methodLink "MusicBoxesModel" 120 ⟨"MusicBoxesModel", "at", "(III)I"⟩) ∈ lw_ok := List.mem_filter.mpr ⟨List.mem_of_getElem? (i := 613) rfl, rfl⟩
set_option maxRecDepth 20000 in
theorem q_614 : (Cond.privateMethod ⟨"MusicBoxesModel", "at", "(III)I"⟩) ∈ lw_tbl := List.mem_of_getElem? (i := 614) rfl
set_option maxRecDepth 20000 in
theorem q_615 : (Cond.instanceMethod ⟨"MusicBoxesModel", "at", "(III)I"⟩) ∈ lw_ok := List.mem_filter.mpr ⟨List.mem_of_getElem? (i := 615) rfl, rfl⟩
set_option maxRecDepth 20000 in
theorem q_616 : (Cond.code ⟨"MusicBoxesModel", "at", "(III)I"⟩ prog_11_method_25_code 4 (Option.some Jvm.ClassFile.FieldType.int)) ∈ lw_ok := List.mem_filter.mpr ⟨List.mem_of_getElem? (i := 616) rfl, rfl⟩
set_option maxRecDepth 20000 in
theorem q_617 : (Cond.methodLink "MusicBoxesLaw" 56 ⟨"MusicBoxesModel", "heard", "(II)J"⟩) ∈ lw_ok := List.mem_filter.mpr ⟨List.mem_of_getElem? (i := 617) rfl, rfl⟩
set_option maxRecDepth 20000 in
theorem q_618 : (Cond.instanceMethod ⟨"MusicBoxesModel", "heard", "(II)J"⟩) ∈ lw_ok := List.mem_filter.mpr ⟨List.mem_of_getElem? (i := 618) rfl, rfl⟩
set_option maxRecDepth 20000 in
theorem q_619 : (Cond.selects "MusicBoxesModel" ⟨"MusicBoxesModel", "heard", "(II)J"⟩ ⟨"MusicBoxesModel", "heard", "(II)J"⟩) ∈ lw_ok := List.mem_filter.mpr ⟨List.mem_of_getElem? (i := 619) rfl, rfl⟩
set_option maxRecDepth 20000 in
theorem q_620 : (Cond.code ⟨"MusicBoxesModel", "heard", "(II)J"⟩ prog_11_method_28_code 3 (Option.some Jvm.ClassFile.FieldType.long)) ∈ lw_ok := List.mem_filter.mpr ⟨List.mem_of_getElem? (i := 620) rfl, rfl⟩
set_option maxRecDepth 20000 in
theorem q_621 : (Cond.methodLink "MusicBoxesLaw" 61 ⟨"MusicBoxesModel", "quiet", "(I)I"⟩) ∈ lw_ok := List.mem_filter.mpr ⟨List.mem_of_getElem? (i := 621) rfl, rfl⟩
set_option maxRecDepth 20000 in
theorem q_622 : (Cond.instanceMethod ⟨"MusicBoxesModel", "quiet", "(I)I"⟩) ∈ lw_ok := List.mem_filter.mpr ⟨List.mem_of_getElem? (i := 622) rfl, rfl⟩
set_option maxRecDepth 20000 in
theorem q_623 : (Cond.selects "MusicBoxesModel" ⟨"MusicBoxesModel", "quiet", "(I)I"⟩ ⟨"MusicBoxesModel", "quiet", "(I)I"⟩) ∈ lw_ok := List.mem_filter.mpr ⟨List.mem_of_getElem? (i := 623) rfl, rfl⟩
set_option maxRecDepth 20000 in
theorem q_624 : (Cond.code ⟨"MusicBoxesModel", "quiet", "(I)I"⟩ prog_11_method_29_code 3 (Option.some Jvm.ClassFile.FieldType.int)) ∈ lw_ok := List.mem_filter.mpr ⟨List.mem_of_getElem? (i := 624) rfl, rfl⟩
set_option maxRecDepth 20000 in
theorem q_625 : (Cond.methodLink "MusicBoxesLaw" 65 ⟨"MusicBoxesModel", "comb", "(IIII)I"⟩) ∈ lw_ok := List.mem_filter.mpr ⟨List.mem_of_getElem? (i := 625) rfl, rfl⟩
set_option maxRecDepth 20000 in
theorem q_626 : (Cond.instanceMethod ⟨"MusicBoxesModel", "comb", "(IIII)I"⟩) ∈ lw_ok := List.mem_filter.mpr ⟨List.mem_of_getElem? (i := 626) rfl, rfl⟩
set_option maxRecDepth 20000 in
theorem q_627 : (Cond.selects "MusicBoxesModel" ⟨"MusicBoxesModel", "comb", "(IIII)I"⟩ ⟨"MusicBoxesModel", "comb", "(IIII)I"⟩) ∈ lw_ok := List.mem_filter.mpr ⟨List.mem_of_getElem? (i := 627) rfl, rfl⟩
set_option maxRecDepth 20000 in
theorem q_628 : (Cond.code ⟨"MusicBoxesModel", "comb", "(IIII)I"⟩ prog_11_method_31_code 7 (Option.some Jvm.ClassFile.FieldType.int)) ∈ lw_ok := List.mem_filter.mpr ⟨List.mem_of_getElem? (i := 628) rfl, rfl⟩
set_option maxRecDepth 20000 in
theorem q_629 : (Cond.methodLink "MusicBoxesModel" 131 ⟨"MusicBoxesModel", "empties", "(I)I"⟩) ∈ lw_ok := List.mem_filter.mpr ⟨List.mem_of_getElem? (i := 629) rfl, rfl⟩
set_option maxRecDepth 20000 in
theorem q_630 : (Cond.privateMethod ⟨"MusicBoxesModel", "empties", "(I)I"⟩) ∈ lw_tbl := List.mem_of_getElem? (i := 630) rfl
set_option maxRecDepth 20000 in
theorem q_631 : (Cond.instanceMethod ⟨"MusicBoxesModel", "empties", "(I)I"⟩) ∈ lw_ok := List.mem_filter.mpr ⟨List.mem_of_getElem? (i := 631) rfl, rfl⟩
set_option maxRecDepth 20000 in
theorem q_632 : (Cond.code ⟨"MusicBoxesModel", "empties", "(I)I"⟩ prog_11_method_30_code 4 (Option.some Jvm.ClassFile.FieldType.int)) ∈ lw_ok := List.mem_filter.mpr ⟨List.mem_of_getElem? (i := 632) rfl, rfl⟩
set_option maxRecDepth 20000 in
theorem q_633 : (Cond.methodLink "MusicBoxesModel" 128 ⟨"MusicBoxesModel", "toothGets", "(III)V"⟩) ∈ lw_ok := List.mem_filter.mpr ⟨List.mem_of_getElem? (i := 633) rfl, rfl⟩
set_option maxRecDepth 20000 in
theorem q_634 : (Cond.privateMethod ⟨"MusicBoxesModel", "toothGets", "(III)V"⟩) ∈ lw_tbl := List.mem_of_getElem? (i := 634) rfl
set_option maxRecDepth 20000 in
theorem q_635 : (Cond.instanceMethod ⟨"MusicBoxesModel", "toothGets", "(III)V"⟩) ∈ lw_ok := List.mem_filter.mpr ⟨List.mem_of_getElem? (i := 635) rfl, rfl⟩
set_option maxRecDepth 20000 in
theorem q_636 : (Cond.code ⟨"MusicBoxesModel", "toothGets", "(III)V"⟩ prog_11_method_10_code 5 (Option.none : Option Jvm.ClassFile.FieldType)) ∈ lw_ok := List.mem_filter.mpr ⟨List.mem_of_getElem? (i := 636) rfl, rfl⟩
set_option maxRecDepth 20000 in
theorem q_637 : (Cond.methodLink "MusicBoxesLaw" 69 ⟨"MusicBoxesModel", "drop", "(I)I"⟩) ∈ lw_ok := List.mem_filter.mpr ⟨List.mem_of_getElem? (i := 637) rfl, rfl⟩
set_option maxRecDepth 20000 in
theorem q_638 : (Cond.instanceMethod ⟨"MusicBoxesModel", "drop", "(I)I"⟩) ∈ lw_ok := List.mem_filter.mpr ⟨List.mem_of_getElem? (i := 638) rfl, rfl⟩
set_option maxRecDepth 20000 in
theorem q_639 : (Cond.selects "MusicBoxesModel" ⟨"MusicBoxesModel", "drop", "(I)I"⟩ ⟨"MusicBoxesModel", "drop", "(I)I"⟩) ∈ lw_ok := List.mem_filter.mpr ⟨List.mem_of_getElem? (i := 639) rfl, rfl⟩
set_option maxRecDepth 20000 in
theorem q_640 : (Cond.code ⟨"MusicBoxesModel", "drop", "(I)I"⟩ prog_11_method_32_code 2 (Option.some Jvm.ClassFile.FieldType.int)) ∈ lw_ok := List.mem_filter.mpr ⟨List.mem_of_getElem? (i := 640) rfl, rfl⟩
set_option maxRecDepth 20000 in
theorem q_641 : (Cond.methodLink "MusicBoxesModel" 62 ⟨"MusicBoxesModel", "isComb", "(I)Z"⟩) ∈ lw_ok := List.mem_filter.mpr ⟨List.mem_of_getElem? (i := 641) rfl, rfl⟩
set_option maxRecDepth 20000 in
theorem q_642 : (Cond.privateMethod ⟨"MusicBoxesModel", "isComb", "(I)Z"⟩) ∈ lw_tbl := List.mem_of_getElem? (i := 642) rfl
set_option maxRecDepth 20000 in
theorem q_643 : (Cond.instanceMethod ⟨"MusicBoxesModel", "isComb", "(I)Z"⟩) ∈ lw_ok := List.mem_filter.mpr ⟨List.mem_of_getElem? (i := 643) rfl, rfl⟩
set_option maxRecDepth 20000 in
theorem q_644 : (Cond.code ⟨"MusicBoxesModel", "isComb", "(I)Z"⟩ prog_11_method_6_code 2 (Option.some Jvm.ClassFile.FieldType.boolean)) ∈ lw_ok := List.mem_filter.mpr ⟨List.mem_of_getElem? (i := 644) rfl, rfl⟩
set_option maxRecDepth 20000 in
theorem q_645 : (Cond.methodLink "MusicBoxesLaw" 73 ⟨"MusicBoxesModel", "about", "(II)I"⟩) ∈ lw_ok := List.mem_filter.mpr ⟨List.mem_of_getElem? (i := 645) rfl, rfl⟩
set_option maxRecDepth 20000 in
theorem q_646 : (Cond.instanceMethod ⟨"MusicBoxesModel", "about", "(II)I"⟩) ∈ lw_ok := List.mem_filter.mpr ⟨List.mem_of_getElem? (i := 646) rfl, rfl⟩
set_option maxRecDepth 20000 in
theorem q_647 : (Cond.selects "MusicBoxesModel" ⟨"MusicBoxesModel", "about", "(II)I"⟩ ⟨"MusicBoxesModel", "about", "(II)I"⟩) ∈ lw_ok := List.mem_filter.mpr ⟨List.mem_of_getElem? (i := 647) rfl, rfl⟩
set_option maxRecDepth 20000 in
theorem q_648 : (Cond.code ⟨"MusicBoxesModel", "about", "(II)I"⟩ prog_11_method_33_code 7 (Option.some Jvm.ClassFile.FieldType.int)) ∈ lw_ok := List.mem_filter.mpr ⟨List.mem_of_getElem? (i := 648) rfl, rfl⟩
set_option maxRecDepth 20000 in
theorem q_649 : (Cond.methodLink "MusicBoxesLaw" 77 ⟨"MusicBoxesModel", "loosen", "(II)I"⟩) ∈ lw_ok := List.mem_filter.mpr ⟨List.mem_of_getElem? (i := 649) rfl, rfl⟩
set_option maxRecDepth 20000 in
theorem q_650 : (Cond.instanceMethod ⟨"MusicBoxesModel", "loosen", "(II)I"⟩) ∈ lw_ok := List.mem_filter.mpr ⟨List.mem_of_getElem? (i := 650) rfl, rfl⟩
set_option maxRecDepth 20000 in
theorem q_651 : (Cond.selects "MusicBoxesModel" ⟨"MusicBoxesModel", "loosen", "(II)I"⟩ ⟨"MusicBoxesModel", "loosen", "(II)I"⟩) ∈ lw_ok := List.mem_filter.mpr ⟨List.mem_of_getElem? (i := 651) rfl, rfl⟩
set_option maxRecDepth 20000 in
theorem q_652 : (Cond.code ⟨"MusicBoxesModel", "loosen", "(II)I"⟩ prog_11_method_34_code 4 (Option.some Jvm.ClassFile.FieldType.int)) ∈ lw_ok := List.mem_filter.mpr ⟨List.mem_of_getElem? (i := 652) rfl, rfl⟩
set_option maxRecDepth 20000 in
theorem q_653 : (Cond.methodLink "MusicBoxesModel" 134 ⟨"MusicBoxesModel", "isTooth", "(II)Z"⟩) ∈ lw_ok := List.mem_filter.mpr ⟨List.mem_of_getElem? (i := 653) rfl, rfl⟩
set_option maxRecDepth 20000 in
theorem q_654 : (Cond.privateMethod ⟨"MusicBoxesModel", "isTooth", "(II)Z"⟩) ∈ lw_tbl := List.mem_of_getElem? (i := 654) rfl
set_option maxRecDepth 20000 in
theorem q_655 : (Cond.instanceMethod ⟨"MusicBoxesModel", "isTooth", "(II)Z"⟩) ∈ lw_ok := List.mem_filter.mpr ⟨List.mem_of_getElem? (i := 655) rfl, rfl⟩
set_option maxRecDepth 20000 in
theorem q_656 : (Cond.code ⟨"MusicBoxesModel", "isTooth", "(II)Z"⟩ prog_11_method_7_code 3 (Option.some Jvm.ClassFile.FieldType.boolean)) ∈ lw_ok := List.mem_filter.mpr ⟨List.mem_of_getElem? (i := 656) rfl, rfl⟩
set_option maxRecDepth 20000 in
theorem q_657 : (Cond.methodLink "MusicBoxesLaw" 81 ⟨"MusicBoxesModel", "hang", "(III)I"⟩) ∈ lw_ok := List.mem_filter.mpr ⟨List.mem_of_getElem? (i := 657) rfl, rfl⟩
set_option maxRecDepth 20000 in
theorem q_658 : (Cond.instanceMethod ⟨"MusicBoxesModel", "hang", "(III)I"⟩) ∈ lw_ok := List.mem_filter.mpr ⟨List.mem_of_getElem? (i := 658) rfl, rfl⟩
set_option maxRecDepth 20000 in
theorem q_659 : (Cond.selects "MusicBoxesModel" ⟨"MusicBoxesModel", "hang", "(III)I"⟩ ⟨"MusicBoxesModel", "hang", "(III)I"⟩) ∈ lw_ok := List.mem_filter.mpr ⟨List.mem_of_getElem? (i := 659) rfl, rfl⟩
set_option maxRecDepth 20000 in
theorem q_660 : (Cond.code ⟨"MusicBoxesModel", "hang", "(III)I"⟩ prog_11_method_35_code 5 (Option.some Jvm.ClassFile.FieldType.int)) ∈ lw_ok := List.mem_filter.mpr ⟨List.mem_of_getElem? (i := 660) rfl, rfl⟩
set_option maxRecDepth 20000 in
theorem q_661 : (Cond.methodLink "MusicBoxesLaw" 85 ⟨"MusicBoxesModel", "fit", "(III)I"⟩) ∈ lw_ok := List.mem_filter.mpr ⟨List.mem_of_getElem? (i := 661) rfl, rfl⟩
set_option maxRecDepth 20000 in
theorem q_662 : (Cond.instanceMethod ⟨"MusicBoxesModel", "fit", "(III)I"⟩) ∈ lw_ok := List.mem_filter.mpr ⟨List.mem_of_getElem? (i := 662) rfl, rfl⟩
set_option maxRecDepth 20000 in
theorem q_663 : (Cond.selects "MusicBoxesModel" ⟨"MusicBoxesModel", "fit", "(III)I"⟩ ⟨"MusicBoxesModel", "fit", "(III)I"⟩) ∈ lw_ok := List.mem_filter.mpr ⟨List.mem_of_getElem? (i := 663) rfl, rfl⟩
set_option maxRecDepth 20000 in
theorem q_664 : (Cond.code ⟨"MusicBoxesModel", "fit", "(III)I"⟩ prog_11_method_36_code 5 (Option.some Jvm.ClassFile.FieldType.int)) ∈ lw_ok := List.mem_filter.mpr ⟨List.mem_of_getElem? (i := 664) rfl, rfl⟩
set_option maxRecDepth 20000 in
theorem q_665 : (Cond.methodLink "MusicBoxesLaw" 89 ⟨"MusicBoxesModel", "cell", "(III)I"⟩) ∈ lw_ok := List.mem_filter.mpr ⟨List.mem_of_getElem? (i := 665) rfl, rfl⟩
set_option maxRecDepth 20000 in
theorem q_666 : (Cond.instanceMethod ⟨"MusicBoxesModel", "cell", "(III)I"⟩) ∈ lw_ok := List.mem_filter.mpr ⟨List.mem_of_getElem? (i := 666) rfl, rfl⟩
set_option maxRecDepth 20000 in
theorem q_667 : (Cond.selects "MusicBoxesModel" ⟨"MusicBoxesModel", "cell", "(III)I"⟩ ⟨"MusicBoxesModel", "cell", "(III)I"⟩) ∈ lw_ok := List.mem_filter.mpr ⟨List.mem_of_getElem? (i := 667) rfl, rfl⟩
set_option maxRecDepth 20000 in
theorem q_668 : (Cond.code ⟨"MusicBoxesModel", "cell", "(III)I"⟩ prog_11_method_37_code 4 (Option.some Jvm.ClassFile.FieldType.int)) ∈ lw_ok := List.mem_filter.mpr ⟨List.mem_of_getElem? (i := 668) rfl, rfl⟩
set_option maxRecDepth 20000 in
theorem q_669 : (Cond.methodLink "MusicBoxesLaw" 93 ⟨"MusicBoxesModel", "set", "(IIII)I"⟩) ∈ lw_ok := List.mem_filter.mpr ⟨List.mem_of_getElem? (i := 669) rfl, rfl⟩
set_option maxRecDepth 20000 in
theorem q_670 : (Cond.instanceMethod ⟨"MusicBoxesModel", "set", "(IIII)I"⟩) ∈ lw_ok := List.mem_filter.mpr ⟨List.mem_of_getElem? (i := 670) rfl, rfl⟩
set_option maxRecDepth 20000 in
theorem q_671 : (Cond.selects "MusicBoxesModel" ⟨"MusicBoxesModel", "set", "(IIII)I"⟩ ⟨"MusicBoxesModel", "set", "(IIII)I"⟩) ∈ lw_ok := List.mem_filter.mpr ⟨List.mem_of_getElem? (i := 671) rfl, rfl⟩
set_option maxRecDepth 20000 in
theorem q_672 : (Cond.code ⟨"MusicBoxesModel", "set", "(IIII)I"⟩ prog_11_method_38_code 5 (Option.some Jvm.ClassFile.FieldType.int)) ∈ lw_ok := List.mem_filter.mpr ⟨List.mem_of_getElem? (i := 672) rfl, rfl⟩
set_option maxRecDepth 20000 in
theorem q_673 : (Cond.methodLink "MusicBoxesLaw" 97 ⟨"MusicBoxesModel", "twist", "(IIII)I"⟩) ∈ lw_ok := List.mem_filter.mpr ⟨List.mem_of_getElem? (i := 673) rfl, rfl⟩
set_option maxRecDepth 20000 in
theorem q_674 : (Cond.instanceMethod ⟨"MusicBoxesModel", "twist", "(IIII)I"⟩) ∈ lw_ok := List.mem_filter.mpr ⟨List.mem_of_getElem? (i := 674) rfl, rfl⟩
set_option maxRecDepth 20000 in
theorem q_675 : (Cond.selects "MusicBoxesModel" ⟨"MusicBoxesModel", "twist", "(IIII)I"⟩ ⟨"MusicBoxesModel", "twist", "(IIII)I"⟩) ∈ lw_ok := List.mem_filter.mpr ⟨List.mem_of_getElem? (i := 675) rfl, rfl⟩
set_option maxRecDepth 20000 in
theorem q_676 : (Cond.code ⟨"MusicBoxesModel", "twist", "(IIII)I"⟩ prog_11_method_39_code 5 (Option.some Jvm.ClassFile.FieldType.int)) ∈ lw_ok := List.mem_filter.mpr ⟨List.mem_of_getElem? (i := 676) rfl, rfl⟩
set_option maxRecDepth 20000 in
theorem q_677 : (Cond.methodLink "MusicBoxesLaw" 102 ⟨"MusicBoxesModel", "state", "()I"⟩) ∈ lw_ok := List.mem_filter.mpr ⟨List.mem_of_getElem? (i := 677) rfl, rfl⟩
set_option maxRecDepth 20000 in
theorem q_678 : (Cond.instanceMethod ⟨"MusicBoxesModel", "state", "()I"⟩) ∈ lw_ok := List.mem_filter.mpr ⟨List.mem_of_getElem? (i := 678) rfl, rfl⟩
set_option maxRecDepth 20000 in
theorem q_679 : (Cond.selects "MusicBoxesModel" ⟨"MusicBoxesModel", "state", "()I"⟩ ⟨"MusicBoxesModel", "state", "()I"⟩) ∈ lw_ok := List.mem_filter.mpr ⟨List.mem_of_getElem? (i := 679) rfl, rfl⟩
set_option maxRecDepth 20000 in
theorem q_680 : (Cond.code ⟨"MusicBoxesModel", "state", "()I"⟩ prog_11_method_40_code 1 (Option.some Jvm.ClassFile.FieldType.int)) ∈ lw_ok := List.mem_filter.mpr ⟨List.mem_of_getElem? (i := 680) rfl, rfl⟩
set_option maxRecDepth 20000 in
theorem q_681 : (Cond.castable "MusicBoxes$PinTrack" "MusicBoxes$Track") ∈ lw_tbl := List.mem_of_getElem? (i := 681) rfl
set_option maxRecDepth 20000 in
theorem q_682 : (Cond.castable "MusicBoxes$SignTrack" "MusicBoxes$Track") ∈ lw_tbl := List.mem_of_getElem? (i := 682) rfl
set_option maxRecDepth 20000 in
theorem q_683 : (Cond.castable "MusicBoxes$LengthTrack" "MusicBoxes$Track") ∈ lw_tbl := List.mem_of_getElem? (i := 683) rfl
set_option maxRecDepth 20000 in
theorem q_684 : (Cond.castable "MusicBoxes$LevelTrack" "MusicBoxes$Track") ∈ lw_tbl := List.mem_of_getElem? (i := 684) rfl
set_option maxRecDepth 20000 in
theorem q_685 : (Cond.castable "MusicBoxes$BendTrack" "MusicBoxes$Track") ∈ lw_tbl := List.mem_of_getElem? (i := 685) rfl
theorem lw_good : ∀ w ∈ lw_ok, ((w.onTables && w.keeps) = true ∨ ∃ ty, w = .arrayClass ty) := fun w h => good_of_word (List.mem_filter.mp h).2
theorem lw_in : ∀ w ∈ lw_ok, w ∈ lw_tbl := fun w h => (List.mem_filter.mp h).1
