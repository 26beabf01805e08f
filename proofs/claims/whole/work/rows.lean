section
-- ===== PART A: goes FIRST, ahead of the names: the tables' words, and 'selects' of the private methods out of them =====
/-- a private method of a class that the tables say can be made, by its rows of tables_1 -/
def lw_okq (q : MethodName × Nat) : Prop := (q.1.cls ≠ "java/lang/invoke/MethodHandle" ∧ q.1.cls ≠ "java/lang/invoke/VarHandle") ∧ Cond.instantiable q.1.cls q.2 ∈ tables_1 ∧ Cond.privateMethod q.1 ∈ tables_1 ∧ Cond.instanceMethod q.1 ∈ tables_1
theorem lw_p0 : lw_okq (⟨"MusicBoxes", "refuse", "(I)I"⟩, 3) := ⟨⟨by decide +kernel, by decide +kernel⟩, List.mem_of_getElem? (i := 13) (by decide +kernel), List.mem_of_getElem? (i := 80) (by decide +kernel), List.mem_of_getElem? (i := 81) (by decide +kernel)⟩
theorem lw_p1 : lw_okq (⟨"MusicBoxes", "grant", "(I)I"⟩, 3) := ⟨⟨by decide +kernel, by decide +kernel⟩, List.mem_of_getElem? (i := 13) (by decide +kernel), List.mem_of_getElem? (i := 157) (by decide +kernel), List.mem_of_getElem? (i := 158) (by decide +kernel)⟩
theorem lw_p2 : lw_okq (⟨"MusicBoxes", "trackOfDrum", "(II)LMusicBoxes$Track;"⟩, 3) := ⟨⟨by decide +kernel, by decide +kernel⟩, List.mem_of_getElem? (i := 13) (by decide +kernel), List.mem_of_getElem? (i := 165) (by decide +kernel), List.mem_of_getElem? (i := 166) (by decide +kernel)⟩
theorem lw_p3 : lw_okq (⟨"MusicBoxes", "wanted", "(LMusicBoxes$Track;)LMusicBoxes$Track;"⟩, 3) := ⟨⟨by decide +kernel, by decide +kernel⟩, List.mem_of_getElem? (i := 13) (by decide +kernel), List.mem_of_getElem? (i := 169) (by decide +kernel), List.mem_of_getElem? (i := 170) (by decide +kernel)⟩
theorem lw_p4 : lw_okq (⟨"MusicBoxes", "valueIn", "(LMusicBoxes$Track;I)I"⟩, 3) := ⟨⟨by decide +kernel, by decide +kernel⟩, List.mem_of_getElem? (i := 13) (by decide +kernel), List.mem_of_getElem? (i := 185) (by decide +kernel), List.mem_of_getElem? (i := 186) (by decide +kernel)⟩
theorem lw_p5 : lw_okq (⟨"MusicBoxes", "putInto", "(LMusicBoxes$Track;II)I"⟩, 3) := ⟨⟨by decide +kernel, by decide +kernel⟩, List.mem_of_getElem? (i := 13) (by decide +kernel), List.mem_of_getElem? (i := 228) (by decide +kernel), List.mem_of_getElem? (i := 229) (by decide +kernel)⟩
theorem lw_p6 : lw_okq (⟨"MusicBoxes", "alterIn", "(LMusicBoxes$Track;II)I"⟩, 3) := ⟨⟨by decide +kernel, by decide +kernel⟩, List.mem_of_getElem? (i := 13) (by decide +kernel), List.mem_of_getElem? (i := 257) (by decide +kernel), List.mem_of_getElem? (i := 258) (by decide +kernel)⟩
theorem lw_p7 : lw_okq (⟨"MusicBoxes$Drum", "someTrackHas", "(I)Z"⟩, 8) := ⟨⟨by decide +kernel, by decide +kernel⟩, List.mem_of_getElem? (i := 22) (by decide +kernel), List.mem_of_getElem? (i := 294) (by decide +kernel), List.mem_of_getElem? (i := 295) (by decide +kernel)⟩
theorem lw_p8 : lw_okq (⟨"MusicBoxes$Drum", "playPlace", "(I)V"⟩, 8) := ⟨⟨by decide +kernel, by decide +kernel⟩, List.mem_of_getElem? (i := 22) (by decide +kernel), List.mem_of_getElem? (i := 299) (by decide +kernel), List.mem_of_getElem? (i := 300) (by decide +kernel)⟩
theorem lw_p9 : lw_okq (⟨"MusicBoxes$Drum", "ask", "(III)I"⟩, 8) := ⟨⟨by decide +kernel, by decide +kernel⟩, List.mem_of_getElem? (i := 22) (by decide +kernel), List.mem_of_getElem? (i := 303) (by decide +kernel), List.mem_of_getElem? (i := 304) (by decide +kernel)⟩
theorem lw_p10 : lw_okq (⟨"MusicBoxes$Drum", "askLevel", "(I)F"⟩, 8) := ⟨⟨by decide +kernel, by decide +kernel⟩, List.mem_of_getElem? (i := 22) (by decide +kernel), List.mem_of_getElem? (i := 308) (by decide +kernel), List.mem_of_getElem? (i := 309) (by decide +kernel)⟩
theorem lw_p11 : lw_okq (⟨"MusicBoxes$Drum", "sound", "(IIF)V"⟩, 8) := ⟨⟨by decide +kernel, by decide +kernel⟩, List.mem_of_getElem? (i := 22) (by decide +kernel), List.mem_of_getElem? (i := 321) (by decide +kernel), List.mem_of_getElem? (i := 322) (by decide +kernel)⟩
theorem lw_p12 : lw_okq (⟨"MusicBoxes", "combOf", "(I)LMusicBoxes$Comb;"⟩, 3) := ⟨⟨by decide +kernel, by decide +kernel⟩, List.mem_of_getElem? (i := 13) (by decide +kernel), List.mem_of_getElem? (i := 368) (by decide +kernel), List.mem_of_getElem? (i := 369) (by decide +kernel)⟩
theorem lw_p13 : lw_okq (⟨"MusicBoxes$Comb", "countLacking", "()I"⟩, 2) := ⟨⟨by decide +kernel, by decide +kernel⟩, List.mem_of_getElem? (i := 348) (by decide +kernel), List.mem_of_getElem? (i := 380) (by decide +kernel), List.mem_of_getElem? (i := 381) (by decide +kernel)⟩
theorem lw_p14 : lw_okq (⟨"MusicBoxes$Comb", "countPlaces", "()I"⟩, 2) := ⟨⟨by decide +kernel, by decide +kernel⟩, List.mem_of_getElem? (i := 348) (by decide +kernel), List.mem_of_getElem? (i := 384) (by decide +kernel), List.mem_of_getElem? (i := 385) (by decide +kernel)⟩
theorem lw_p15 : lw_okq (⟨"MusicBoxes", "combWithTooth", "(II)LMusicBoxes$Comb;"⟩, 3) := ⟨⟨by decide +kernel, by decide +kernel⟩, List.mem_of_getElem? (i := 13) (by decide +kernel), List.mem_of_getElem? (i := 392) (by decide +kernel), List.mem_of_getElem? (i := 393) (by decide +kernel)⟩
def lw_privs_1 : List (MethodName × Nat) := [(⟨"MusicBoxes", "refuse", "(I)I"⟩, 3), (⟨"MusicBoxes", "grant", "(I)I"⟩, 3), (⟨"MusicBoxes", "trackOfDrum", "(II)LMusicBoxes$Track;"⟩, 3), (⟨"MusicBoxes", "wanted", "(LMusicBoxes$Track;)LMusicBoxes$Track;"⟩, 3), (⟨"MusicBoxes", "valueIn", "(LMusicBoxes$Track;I)I"⟩, 3), (⟨"MusicBoxes", "putInto", "(LMusicBoxes$Track;II)I"⟩, 3), (⟨"MusicBoxes", "alterIn", "(LMusicBoxes$Track;II)I"⟩, 3), (⟨"MusicBoxes$Drum", "someTrackHas", "(I)Z"⟩, 8), (⟨"MusicBoxes$Drum", "playPlace", "(I)V"⟩, 8), (⟨"MusicBoxes$Drum", "ask", "(III)I"⟩, 8), (⟨"MusicBoxes$Drum", "askLevel", "(I)F"⟩, 8), (⟨"MusicBoxes$Drum", "sound", "(IIF)V"⟩, 8), (⟨"MusicBoxes", "combOf", "(I)LMusicBoxes$Comb;"⟩, 3), (⟨"MusicBoxes$Comb", "countLacking", "()I"⟩, 2), (⟨"MusicBoxes$Comb", "countPlaces", "()I"⟩, 2), (⟨"MusicBoxes", "combWithTooth", "(II)LMusicBoxes$Comb;"⟩, 3)]
theorem lw_r1 : ∀ q ∈ lw_privs_1, lw_okq q := List.forall_mem_cons.mpr ⟨lw_p0, List.forall_mem_cons.mpr ⟨lw_p1, List.forall_mem_cons.mpr ⟨lw_p2, List.forall_mem_cons.mpr ⟨lw_p3, List.forall_mem_cons.mpr ⟨lw_p4, List.forall_mem_cons.mpr ⟨lw_p5, List.forall_mem_cons.mpr ⟨lw_p6, List.forall_mem_cons.mpr ⟨lw_p7, List.forall_mem_cons.mpr ⟨lw_p8, List.forall_mem_cons.mpr ⟨lw_p9, List.forall_mem_cons.mpr ⟨lw_p10, List.forall_mem_cons.mpr ⟨lw_p11, List.forall_mem_cons.mpr ⟨lw_p12, List.forall_mem_cons.mpr ⟨lw_p13, List.forall_mem_cons.mpr ⟨lw_p14, List.forall_mem_cons.mpr ⟨lw_p15, fun _ h => absurd h List.not_mem_nil⟩⟩⟩⟩⟩⟩⟩⟩⟩⟩⟩⟩⟩⟩⟩⟩
theorem lw_p16 : lw_okq (⟨"MusicBoxes", "trackOfTooth", "(II)LMusicBoxes$Track;"⟩, 3) := ⟨⟨by decide +kernel, by decide +kernel⟩, List.mem_of_getElem? (i := 13) (by decide +kernel), List.mem_of_getElem? (i := 408) (by decide +kernel), List.mem_of_getElem? (i := 409) (by decide +kernel)⟩
theorem lw_p17 : lw_okq (⟨"MusicBoxesModel", "told", "(I)I"⟩, 15) := ⟨⟨by decide +kernel, by decide +kernel⟩, List.mem_of_getElem? (i := 424) (by decide +kernel), List.mem_of_getElem? (i := 492) (by decide +kernel), List.mem_of_getElem? (i := 493) (by decide +kernel)⟩
theorem lw_p18 : lw_okq (⟨"MusicBoxesModel", "newTrack", "(I)I"⟩, 15) := ⟨⟨by decide +kernel, by decide +kernel⟩, List.mem_of_getElem? (i := 424) (by decide +kernel), List.mem_of_getElem? (i := 496) (by decide +kernel), List.mem_of_getElem? (i := 497) (by decide +kernel)⟩
theorem lw_p19 : lw_okq (⟨"MusicBoxesModel", "drumGets", "(III)V"⟩, 15) := ⟨⟨by decide +kernel, by decide +kernel⟩, List.mem_of_getElem? (i := 424) (by decide +kernel), List.mem_of_getElem? (i := 500) (by decide +kernel), List.mem_of_getElem? (i := 501) (by decide +kernel)⟩
theorem lw_p20 : lw_okq (⟨"MusicBoxesModel", "reads", "(II)I"⟩, 15) := ⟨⟨by decide +kernel, by decide +kernel⟩, List.mem_of_getElem? (i := 424) (by decide +kernel), List.mem_of_getElem? (i := 520) (by decide +kernel), List.mem_of_getElem? (i := 521) (by decide +kernel)⟩
theorem lw_p21 : lw_okq (⟨"MusicBoxesModel", "lacks", "(II)I"⟩, 15) := ⟨⟨by decide +kernel, by decide +kernel⟩, List.mem_of_getElem? (i := 424) (by decide +kernel), List.mem_of_getElem? (i := 524) (by decide +kernel), List.mem_of_getElem? (i := 525) (by decide +kernel)⟩
theorem lw_p22 : lw_okq (⟨"MusicBoxesModel", "writes", "(IIII)I"⟩, 15) := ⟨⟨by decide +kernel, by decide +kernel⟩, List.mem_of_getElem? (i := 424) (by decide +kernel), List.mem_of_getElem? (i := 532) (by decide +kernel), List.mem_of_getElem? (i := 533) (by decide +kernel)⟩
theorem lw_p23 : lw_okq (⟨"MusicBoxesModel", "turns", "(IIII)I"⟩, 15) := ⟨⟨by decide +kernel, by decide +kernel⟩, List.mem_of_getElem? (i := 424) (by decide +kernel), List.mem_of_getElem? (i := 557) (by decide +kernel), List.mem_of_getElem? (i := 558) (by decide +kernel)⟩
theorem lw_p24 : lw_okq (⟨"MusicBoxesModel", "isThere", "(III)Z"⟩, 15) := ⟨⟨by decide +kernel, by decide +kernel⟩, List.mem_of_getElem? (i := 424) (by decide +kernel), List.mem_of_getElem? (i := 575) (by decide +kernel), List.mem_of_getElem? (i := 576) (by decide +kernel)⟩
theorem lw_p25 : lw_okq (⟨"MusicBoxesModel", "sounds", "(II)Z"⟩, 15) := ⟨⟨by decide +kernel, by decide +kernel⟩, List.mem_of_getElem? (i := 424) (by decide +kernel), List.mem_of_getElem? (i := 579) (by decide +kernel), List.mem_of_getElem? (i := 580) (by decide +kernel)⟩
theorem lw_p26 : lw_okq (⟨"MusicBoxesModel", "at", "(III)I"⟩, 15) := ⟨⟨by decide +kernel, by decide +kernel⟩, List.mem_of_getElem? (i := 424) (by decide +kernel), List.mem_of_getElem? (i := 583) (by decide +kernel), List.mem_of_getElem? (i := 584) (by decide +kernel)⟩
theorem lw_p27 : lw_okq (⟨"MusicBoxesModel", "empties", "(I)I"⟩, 15) := ⟨⟨by decide +kernel, by decide +kernel⟩, List.mem_of_getElem? (i := 424) (by decide +kernel), List.mem_of_getElem? (i := 599) (by decide +kernel), List.mem_of_getElem? (i := 600) (by decide +kernel)⟩
theorem lw_p28 : lw_okq (⟨"MusicBoxesModel", "toothGets", "(III)V"⟩, 15) := ⟨⟨by decide +kernel, by decide +kernel⟩, List.mem_of_getElem? (i := 424) (by decide +kernel), List.mem_of_getElem? (i := 603) (by decide +kernel), List.mem_of_getElem? (i := 604) (by decide +kernel)⟩
theorem lw_p29 : lw_okq (⟨"MusicBoxesModel", "isComb", "(I)Z"⟩, 15) := ⟨⟨by decide +kernel, by decide +kernel⟩, List.mem_of_getElem? (i := 424) (by decide +kernel), List.mem_of_getElem? (i := 611) (by decide +kernel), List.mem_of_getElem? (i := 612) (by decide +kernel)⟩
theorem lw_p30 : lw_okq (⟨"MusicBoxesModel", "isTooth", "(II)Z"⟩, 15) := ⟨⟨by decide +kernel, by decide +kernel⟩, List.mem_of_getElem? (i := 424) (by decide +kernel), List.mem_of_getElem? (i := 623) (by decide +kernel), List.mem_of_getElem? (i := 624) (by decide +kernel)⟩
def lw_privs_2 : List (MethodName × Nat) := [(⟨"MusicBoxes", "trackOfTooth", "(II)LMusicBoxes$Track;"⟩, 3), (⟨"MusicBoxesModel", "told", "(I)I"⟩, 15), (⟨"MusicBoxesModel", "newTrack", "(I)I"⟩, 15), (⟨"MusicBoxesModel", "drumGets", "(III)V"⟩, 15), (⟨"MusicBoxesModel", "reads", "(II)I"⟩, 15), (⟨"MusicBoxesModel", "lacks", "(II)I"⟩, 15), (⟨"MusicBoxesModel", "writes", "(IIII)I"⟩, 15), (⟨"MusicBoxesModel", "turns", "(IIII)I"⟩, 15), (⟨"MusicBoxesModel", "isThere", "(III)Z"⟩, 15), (⟨"MusicBoxesModel", "sounds", "(II)Z"⟩, 15), (⟨"MusicBoxesModel", "at", "(III)I"⟩, 15), (⟨"MusicBoxesModel", "empties", "(I)I"⟩, 15), (⟨"MusicBoxesModel", "toothGets", "(III)V"⟩, 15), (⟨"MusicBoxesModel", "isComb", "(I)Z"⟩, 15), (⟨"MusicBoxesModel", "isTooth", "(II)Z"⟩, 15)]
theorem lw_r2 : ∀ q ∈ lw_privs_2, lw_okq q := List.forall_mem_cons.mpr ⟨lw_p16, List.forall_mem_cons.mpr ⟨lw_p17, List.forall_mem_cons.mpr ⟨lw_p18, List.forall_mem_cons.mpr ⟨lw_p19, List.forall_mem_cons.mpr ⟨lw_p20, List.forall_mem_cons.mpr ⟨lw_p21, List.forall_mem_cons.mpr ⟨lw_p22, List.forall_mem_cons.mpr ⟨lw_p23, List.forall_mem_cons.mpr ⟨lw_p24, List.forall_mem_cons.mpr ⟨lw_p25, List.forall_mem_cons.mpr ⟨lw_p26, List.forall_mem_cons.mpr ⟨lw_p27, List.forall_mem_cons.mpr ⟨lw_p28, List.forall_mem_cons.mpr ⟨lw_p29, List.forall_mem_cons.mpr ⟨lw_p30, fun _ h => absurd h List.not_mem_nil⟩⟩⟩⟩⟩⟩⟩⟩⟩⟩⟩⟩⟩⟩⟩
def lw_privs : List (MethodName × Nat) := lw_privs_1 ++ (lw_privs_2)
def lw_tbl : List Cond := k2_sels lw_privs ++ tables_1
theorem lw_privs_ok : ∀ q ∈ lw_privs, lw_okq q := by
  show ∀ q ∈ lw_privs_1 ++ (lw_privs_2), lw_okq q
  exact List.forall_mem_append.mpr ⟨lw_r1, lw_r2⟩
/-- the streams that the claim lets the run draw from -/
abbrev lw_cs : List Choice := [Jvm.Choice.named "NaN.bits", Jvm.Choice.named "NaN.copy"]
theorem lw_bits : nanBits ∈ lw_cs := by first | decide | exact List.mem_cons_self | simp [lw_cs, nanBits]
end
section
def RX0 : String := "MusicBoxes$BendTrack"
def TX0 : u_T := fun k => match k with
  | 0 => ("MusicBoxes$Track", "extent", "I", true)
  | _ => ("MusicBoxes$BendTrack", "cells", "[B", true)
def tyX0 : Nat → FieldType := fun k => match k with
  | 0 => .int
  | _ => .array .byte
abbrev wsX00 : List Cond := u_ws RX0 TX0 2
theorem nmX0 : ∀ a, a < 2 → ∀ b, b < 2 → a ≠ b → (TX0 a).2.1 ≠ (TX0 b).2.1 := by decide +kernel
theorem tyX0_ok : ∀ k, k < 2 → parseFieldDescriptor (TX0 k).2.2.1 = some (tyX0 k) := by decide +kernel
abbrev cX0_init : ByteArray := prog_2_method_1_code
def yX0_init : MethodName := ⟨RX0, "<init>", "(I)V"⟩
abbrev cX0_valueAt : ByteArray := prog_2_method_2_code
def yX0_valueAt : MethodName := ⟨RX0, "valueAt", "(I)I"⟩
abbrev cX0_put : ByteArray := prog_2_method_3_code
def yX0_put : MethodName := ⟨RX0, "put", "(II)Z"⟩
abbrev cX0_alter : ByteArray := prog_2_method_4_code
def yX0_alter : MethodName := ⟨RX0, "alter", "(II)Z"⟩
def RX1 : String := "MusicBoxes$Comb"
def TX1 : u_T := fun k => match k with
  | 0 => ("MusicBoxes$Comb", "kind", "I", true)
  | _ => ("MusicBoxes$Comb", "teeth", "[LMusicBoxes$Track;", true)
def tyX1 : Nat → FieldType := fun k => match k with
  | 0 => .int
  | _ => .array (.object "MusicBoxes$Track")
abbrev wsX10 : List Cond := u_ws RX1 TX1 2
theorem nmX1 : ∀ a, a < 2 → ∀ b, b < 2 → a ≠ b → (TX1 a).2.1 ≠ (TX1 b).2.1 := by decide +kernel
theorem tyX1_ok : ∀ k, k < 2 → parseFieldDescriptor (TX1 k).2.2.1 = some (tyX1 k) := by decide +kernel
abbrev cX1_init : ByteArray := prog_3_method_1_code
def yX1_init : MethodName := ⟨RX1, "<init>", "(II)V"⟩
abbrev cX1_tell : ByteArray := prog_3_method_2_code
def yX1_tell : MethodName := ⟨RX1, "tell", "(I)I"⟩
abbrev cX1_countLacking : ByteArray := prog_3_method_3_code
def yX1_countLacking : MethodName := ⟨RX1, "countLacking", "()I"⟩
abbrev cX1_countPlaces : ByteArray := prog_3_method_4_code
def yX1_countPlaces : MethodName := ⟨RX1, "countPlaces", "()I"⟩
def RX2 : String := "MusicBoxes$Drum"
def TX2 : u_T := fun k => match k with
  | 0 => ("MusicBoxes$Drum", "tracks", "[LMusicBoxes$Track;", true)
  | 1 => ("MusicBoxes$Drum", "headAt", "I", false)
  | 2 => ("MusicBoxes$Drum", "notes", "I", false)
  | 3 => ("MusicBoxes$Drum", "placesPlayed", "I", false)
  | 4 => ("MusicBoxes$Drum", "gaps", "I", false)
  | 5 => ("MusicBoxes$Drum", "weights", "J", false)
  | 6 => ("MusicBoxes$Drum", "highestPitch", "I", false)
  | _ => ("MusicBoxes$Drum", "greatestLevel", "F", false)
def tyX2 : Nat → FieldType := fun k => match k with
  | 0 => .array (.object "MusicBoxes$Track")
  | 1 => .int
  | 2 => .int
  | 3 => .int
  | 4 => .int
  | 5 => .long
  | 6 => .int
  | _ => .float
abbrev wsX20 : List Cond := u_ws RX2 TX2 8
theorem nmX2 : ∀ a, a < 8 → ∀ b, b < 8 → a ≠ b → (TX2 a).2.1 ≠ (TX2 b).2.1 := by decide +kernel
theorem tyX2_ok : ∀ k, k < 8 → parseFieldDescriptor (TX2 k).2.2.1 = some (tyX2 k) := by decide +kernel
abbrev cX2_init : ByteArray := prog_4_method_1_code
def yX2_init : MethodName := ⟨RX2, "<init>", "()V"⟩
abbrev cX2_playOn : ByteArray := prog_4_method_2_code
def yX2_playOn : MethodName := ⟨RX2, "playOn", "(I)I"⟩
abbrev cX2_someTrackHas : ByteArray := prog_4_method_3_code
def yX2_someTrackHas : MethodName := ⟨RX2, "someTrackHas", "(I)Z"⟩
abbrev cX2_playPlace : ByteArray := prog_4_method_4_code
def yX2_playPlace : MethodName := ⟨RX2, "playPlace", "(I)V"⟩
abbrev cX2_ask : ByteArray := prog_4_method_5_code
def yX2_ask : MethodName := ⟨RX2, "ask", "(III)I"⟩
abbrev cX2_askLevel : ByteArray := prog_4_method_6_code
def yX2_askLevel : MethodName := ⟨RX2, "askLevel", "(I)F"⟩
abbrev cX2_sound : ByteArray := prog_4_method_7_code
def yX2_sound : MethodName := ⟨RX2, "sound", "(IIF)V"⟩
abbrev cX2_tally : ByteArray := prog_4_method_8_code
def yX2_tally : MethodName := ⟨RX2, "tally", "(I)J"⟩
abbrev cX2_forget : ByteArray := prog_4_method_9_code
def yX2_forget : MethodName := ⟨RX2, "forget", "()V"⟩
def RX3 : String := "MusicBoxes$LengthTrack"
def TX3 : u_T := fun k => match k with
  | 0 => ("MusicBoxes$Track", "extent", "I", true)
  | _ => ("MusicBoxes$LengthTrack", "cells", "[S", true)
def tyX3 : Nat → FieldType := fun k => match k with
  | 0 => .int
  | _ => .array .short
abbrev wsX30 : List Cond := u_ws RX3 TX3 2
theorem nmX3 : ∀ a, a < 2 → ∀ b, b < 2 → a ≠ b → (TX3 a).2.1 ≠ (TX3 b).2.1 := by decide +kernel
theorem tyX3_ok : ∀ k, k < 2 → parseFieldDescriptor (TX3 k).2.2.1 = some (tyX3 k) := by decide +kernel
abbrev cX3_init : ByteArray := prog_5_method_1_code
def yX3_init : MethodName := ⟨RX3, "<init>", "(I)V"⟩
abbrev cX3_valueAt : ByteArray := prog_5_method_2_code
def yX3_valueAt : MethodName := ⟨RX3, "valueAt", "(I)I"⟩
abbrev cX3_put : ByteArray := prog_5_method_3_code
def yX3_put : MethodName := ⟨RX3, "put", "(II)Z"⟩
abbrev cX3_alter : ByteArray := prog_5_method_4_code
def yX3_alter : MethodName := ⟨RX3, "alter", "(II)Z"⟩
def RX4 : String := "MusicBoxes$LevelTrack"
def TX4 : u_T := fun k => match k with
  | 0 => ("MusicBoxes$Track", "extent", "I", true)
  | _ => ("MusicBoxes$LevelTrack", "cells", "[F", true)
def tyX4 : Nat → FieldType := fun k => match k with
  | 0 => .int
  | _ => .array .float
abbrev wsX40 : List Cond := u_ws RX4 TX4 2
theorem nmX4 : ∀ a, a < 2 → ∀ b, b < 2 → a ≠ b → (TX4 a).2.1 ≠ (TX4 b).2.1 := by decide +kernel
theorem tyX4_ok : ∀ k, k < 2 → parseFieldDescriptor (TX4 k).2.2.1 = some (tyX4 k) := by decide +kernel
abbrev cX4_init : ByteArray := prog_6_method_1_code
def yX4_init : MethodName := ⟨RX4, "<init>", "(I)V"⟩
abbrev cX4_levelAt : ByteArray := prog_6_method_2_code
def yX4_levelAt : MethodName := ⟨RX4, "levelAt", "(I)F"⟩
abbrev cX4_valueAt : ByteArray := prog_6_method_3_code
def yX4_valueAt : MethodName := ⟨RX4, "valueAt", "(I)I"⟩
abbrev cX4_put : ByteArray := prog_6_method_4_code
def yX4_put : MethodName := ⟨RX4, "put", "(II)Z"⟩
abbrev cX4_alter : ByteArray := prog_6_method_5_code
def yX4_alter : MethodName := ⟨RX4, "alter", "(II)Z"⟩
abbrev cX4_bitsOf : ByteArray := prog_6_method_6_code
def yX4_bitsOf : MethodName := ⟨RX4, "bitsOf", "(F)I"⟩
abbrev cX4_isNegative : ByteArray := prog_6_method_7_code
def yX4_isNegative : MethodName := ⟨RX4, "isNegative", "(F)Z"⟩
def RX5 : String := "MusicBoxes$PinTrack"
def TX5 : u_T := fun k => match k with
  | 0 => ("MusicBoxes$Track", "extent", "I", true)
  | _ => ("MusicBoxes$PinTrack", "cells", "[Z", true)
def tyX5 : Nat → FieldType := fun k => match k with
  | 0 => .int
  | _ => .array .boolean
abbrev wsX50 : List Cond := u_ws RX5 TX5 2
theorem nmX5 : ∀ a, a < 2 → ∀ b, b < 2 → a ≠ b → (TX5 a).2.1 ≠ (TX5 b).2.1 := by decide +kernel
theorem tyX5_ok : ∀ k, k < 2 → parseFieldDescriptor (TX5 k).2.2.1 = some (tyX5 k) := by decide +kernel
abbrev cX5_init : ByteArray := prog_7_method_1_code
def yX5_init : MethodName := ⟨RX5, "<init>", "(I)V"⟩
abbrev cX5_valueAt : ByteArray := prog_7_method_2_code
def yX5_valueAt : MethodName := ⟨RX5, "valueAt", "(I)I"⟩
abbrev cX5_put : ByteArray := prog_7_method_3_code
def yX5_put : MethodName := ⟨RX5, "put", "(II)Z"⟩
abbrev cX5_alter : ByteArray := prog_7_method_4_code
def yX5_alter : MethodName := ⟨RX5, "alter", "(II)Z"⟩
def RX6 : String := "MusicBoxes$SignTrack"
def TX6 : u_T := fun k => match k with
  | 0 => ("MusicBoxes$Track", "extent", "I", true)
  | _ => ("MusicBoxes$SignTrack", "cells", "[C", true)
def tyX6 : Nat → FieldType := fun k => match k with
  | 0 => .int
  | _ => .array .char
abbrev wsX60 : List Cond := u_ws RX6 TX6 2
theorem nmX6 : ∀ a, a < 2 → ∀ b, b < 2 → a ≠ b → (TX6 a).2.1 ≠ (TX6 b).2.1 := by decide +kernel
theorem tyX6_ok : ∀ k, k < 2 → parseFieldDescriptor (TX6 k).2.2.1 = some (tyX6 k) := by decide +kernel
abbrev cX6_init : ByteArray := prog_8_method_1_code
def yX6_init : MethodName := ⟨RX6, "<init>", "(I)V"⟩
abbrev cX6_valueAt : ByteArray := prog_8_method_2_code
def yX6_valueAt : MethodName := ⟨RX6, "valueAt", "(I)I"⟩
abbrev cX6_put : ByteArray := prog_8_method_3_code
def yX6_put : MethodName := ⟨RX6, "put", "(II)Z"⟩
abbrev cX6_alter : ByteArray := prog_8_method_4_code
def yX6_alter : MethodName := ⟨RX6, "alter", "(II)Z"⟩
def RX7 : String := "MusicBoxes$Track"
def TX7 : u_T := fun k => match k with
  | _ => ("", "", "", false)
def tyX7 : Nat → FieldType := fun k => match k with
  | _ => .int
abbrev wsX70 : List Cond := u_ws RX7 TX7 0
theorem nmX7 : ∀ a, a < 0 → ∀ b, b < 0 → a ≠ b → (TX7 a).2.1 ≠ (TX7 b).2.1 := by decide +kernel
theorem tyX7_ok : ∀ k, k < 0 → parseFieldDescriptor (TX7 k).2.2.1 = some (tyX7 k) := by decide +kernel
abbrev cX7_init : ByteArray := prog_9_method_1_code
def yX7_init : MethodName := ⟨RX7, "<init>", "(I)V"⟩
abbrev cX7_hasPlace : ByteArray := prog_9_method_2_code
def yX7_hasPlace : MethodName := ⟨RX7, "hasPlace", "(I)Z"⟩
def RX8 : String := "MusicBoxes"
def TX8 : u_T := fun k => match k with
  | 0 => ("MusicBoxes", "drums", "[LMusicBoxes$Drum;", true)
  | 1 => ("MusicBoxes", "combs", "[LMusicBoxes$Comb;", true)
  | _ => ("MusicBoxes", "refusal", "I", false)
def tyX8 : Nat → FieldType := fun k => match k with
  | 0 => .array (.object "MusicBoxes$Drum")
  | 1 => .array (.object "MusicBoxes$Comb")
  | _ => .int
abbrev wsX80 : List Cond := u_ws RX8 TX8 3
theorem nmX8 : ∀ a, a < 3 → ∀ b, b < 3 → a ≠ b → (TX8 a).2.1 ≠ (TX8 b).2.1 := by decide +kernel
theorem tyX8_ok : ∀ k, k < 3 → parseFieldDescriptor (TX8 k).2.2.1 = some (tyX8 k) := by decide +kernel
abbrev cX8_init : ByteArray := prog_1_method_1_code
def yX8_init : MethodName := ⟨RX8, "<init>", "()V"⟩
abbrev cX8_cut : ByteArray := prog_1_method_2_code
def yX8_cut : MethodName := ⟨RX8, "cut", "(III)I"⟩
abbrev cX8_strip : ByteArray := prog_1_method_3_code
def yX8_strip : MethodName := ⟨RX8, "strip", "(II)I"⟩
abbrev cX8_share : ByteArray := prog_1_method_4_code
def yX8_share : MethodName := ⟨RX8, "share", "(III)I"⟩
abbrev cX8_places : ByteArray := prog_1_method_5_code
def yX8_places : MethodName := ⟨RX8, "places", "(II)I"⟩
abbrev cX8_read : ByteArray := prog_1_method_6_code
def yX8_read : MethodName := ⟨RX8, "read", "(III)I"⟩
abbrev cX8_write : ByteArray := prog_1_method_7_code
def yX8_write : MethodName := ⟨RX8, "write", "(IIII)I"⟩
abbrev cX8_turn : ByteArray := prog_1_method_8_code
def yX8_turn : MethodName := ⟨RX8, "turn", "(IIII)I"⟩
abbrev cX8_head : ByteArray := prog_1_method_9_code
def yX8_head : MethodName := ⟨RX8, "head", "(II)I"⟩
abbrev cX8_play : ByteArray := prog_1_method_10_code
def yX8_play : MethodName := ⟨RX8, "play", "(II)I"⟩
abbrev cX8_heard : ByteArray := prog_1_method_11_code
def yX8_heard : MethodName := ⟨RX8, "heard", "(II)J"⟩
abbrev cX8_quiet : ByteArray := prog_1_method_12_code
def yX8_quiet : MethodName := ⟨RX8, "quiet", "(I)I"⟩
abbrev cX8_comb : ByteArray := prog_1_method_13_code
def yX8_comb : MethodName := ⟨RX8, "comb", "(IIII)I"⟩
abbrev cX8_drop : ByteArray := prog_1_method_14_code
def yX8_drop : MethodName := ⟨RX8, "drop", "(I)I"⟩
abbrev cX8_about : ByteArray := prog_1_method_15_code
def yX8_about : MethodName := ⟨RX8, "about", "(II)I"⟩
abbrev cX8_loosen : ByteArray := prog_1_method_16_code
def yX8_loosen : MethodName := ⟨RX8, "loosen", "(II)I"⟩
abbrev cX8_hang : ByteArray := prog_1_method_17_code
def yX8_hang : MethodName := ⟨RX8, "hang", "(III)I"⟩
abbrev cX8_fit : ByteArray := prog_1_method_18_code
def yX8_fit : MethodName := ⟨RX8, "fit", "(III)I"⟩
abbrev cX8_cell : ByteArray := prog_1_method_19_code
def yX8_cell : MethodName := ⟨RX8, "cell", "(III)I"⟩
abbrev cX8_set : ByteArray := prog_1_method_20_code
def yX8_set : MethodName := ⟨RX8, "set", "(IIII)I"⟩
abbrev cX8_twist : ByteArray := prog_1_method_21_code
def yX8_twist : MethodName := ⟨RX8, "twist", "(IIII)I"⟩
abbrev cX8_state : ByteArray := prog_1_method_22_code
def yX8_state : MethodName := ⟨RX8, "state", "()I"⟩
abbrev cX8_refuse : ByteArray := prog_1_method_23_code
def yX8_refuse : MethodName := ⟨RX8, "refuse", "(I)I"⟩
abbrev cX8_grant : ByteArray := prog_1_method_24_code
def yX8_grant : MethodName := ⟨RX8, "grant", "(I)I"⟩
abbrev cX8_isUpTo : ByteArray := prog_1_method_25_code
def yX8_isUpTo : MethodName := ⟨RX8, "isUpTo", "(II)Z"⟩
abbrev cX8_isDrum : ByteArray := prog_1_method_26_code
def yX8_isDrum : MethodName := ⟨RX8, "isDrum", "(I)Z"⟩
abbrev cX8_isKind : ByteArray := prog_1_method_27_code
def yX8_isKind : MethodName := ⟨RX8, "isKind", "(I)Z"⟩
abbrev cX8_isComb : ByteArray := prog_1_method_28_code
def yX8_isComb : MethodName := ⟨RX8, "isComb", "(I)Z"⟩
abbrev cX8_combOf : ByteArray := prog_1_method_29_code
def yX8_combOf : MethodName := ⟨RX8, "combOf", "(I)LMusicBoxes$Comb;"⟩
abbrev cX8_combWithTooth : ByteArray := prog_1_method_30_code
def yX8_combWithTooth : MethodName := ⟨RX8, "combWithTooth", "(II)LMusicBoxes$Comb;"⟩
abbrev cX8_trackOfDrum : ByteArray := prog_1_method_31_code
def yX8_trackOfDrum : MethodName := ⟨RX8, "trackOfDrum", "(II)LMusicBoxes$Track;"⟩
abbrev cX8_trackOfTooth : ByteArray := prog_1_method_32_code
def yX8_trackOfTooth : MethodName := ⟨RX8, "trackOfTooth", "(II)LMusicBoxes$Track;"⟩
abbrev cX8_wanted : ByteArray := prog_1_method_33_code
def yX8_wanted : MethodName := ⟨RX8, "wanted", "(LMusicBoxes$Track;)LMusicBoxes$Track;"⟩
abbrev cX8_valueIn : ByteArray := prog_1_method_34_code
def yX8_valueIn : MethodName := ⟨RX8, "valueIn", "(LMusicBoxes$Track;I)I"⟩
abbrev cX8_putInto : ByteArray := prog_1_method_35_code
def yX8_putInto : MethodName := ⟨RX8, "putInto", "(LMusicBoxes$Track;II)I"⟩
abbrev cX8_alterIn : ByteArray := prog_1_method_36_code
def yX8_alterIn : MethodName := ⟨RX8, "alterIn", "(LMusicBoxes$Track;II)I"⟩
abbrev cX8_newTrack : ByteArray := prog_1_method_37_code
def yX8_newTrack : MethodName := ⟨RX8, "newTrack", "(II)LMusicBoxes$Track;"⟩
def RX9 : String := "MusicBoxesModel"
def TX9 : u_T := fun k => match k with
  | 0 => ("MusicBoxesModel", "cell", "[I", true)
  | 1 => ("MusicBoxesModel", "size", "[I", true)
  | 2 => ("MusicBoxesModel", "uses", "[I", true)
  | 3 => ("MusicBoxesModel", "drums", "[I", true)
  | 4 => ("MusicBoxesModel", "teeth", "[I", true)
  | 5 => ("MusicBoxesModel", "combKind", "[I", true)
  | 6 => ("MusicBoxesModel", "combTeeth", "[I", true)
  | 7 => ("MusicBoxesModel", "heads", "[I", true)
  | 8 => ("MusicBoxesModel", "notes", "[I", true)
  | 9 => ("MusicBoxesModel", "played", "[I", true)
  | 10 => ("MusicBoxesModel", "gaps", "[I", true)
  | 11 => ("MusicBoxesModel", "weights", "[J", true)
  | 12 => ("MusicBoxesModel", "highest", "[I", true)
  | 13 => ("MusicBoxesModel", "loudest", "[I", true)
  | _ => ("MusicBoxesModel", "state", "I", false)
def tyX9 : Nat → FieldType := fun k => match k with
  | 0 => .array .int
  | 1 => .array .int
  | 2 => .array .int
  | 3 => .array .int
  | 4 => .array .int
  | 5 => .array .int
  | 6 => .array .int
  | 7 => .array .int
  | 8 => .array .int
  | 9 => .array .int
  | 10 => .array .int
  | 11 => .array .long
  | 12 => .array .int
  | 13 => .array .int
  | _ => .int
abbrev wsX90 : List Cond := u_ws RX9 TX9 15
theorem nmX9 : ∀ a, a < 15 → ∀ b, b < 15 → a ≠ b → (TX9 a).2.1 ≠ (TX9 b).2.1 := by decide +kernel
theorem tyX9_ok : ∀ k, k < 15 → parseFieldDescriptor (TX9 k).2.2.1 = some (tyX9 k) := by decide +kernel
abbrev cX9_init : ByteArray := prog_11_method_1_code
def yX9_init : MethodName := ⟨RX9, "<init>", "()V"⟩
abbrev cX9_told : ByteArray := prog_11_method_2_code
def yX9_told : MethodName := ⟨RX9, "told", "(I)I"⟩
abbrev cX9_in : ByteArray := prog_11_method_3_code
def yX9_in : MethodName := ⟨RX9, "in", "(III)Z"⟩
abbrev cX9_isDrum : ByteArray := prog_11_method_4_code
def yX9_isDrum : MethodName := ⟨RX9, "isDrum", "(I)Z"⟩
abbrev cX9_isKind : ByteArray := prog_11_method_5_code
def yX9_isKind : MethodName := ⟨RX9, "isKind", "(I)Z"⟩
abbrev cX9_isComb : ByteArray := prog_11_method_6_code
def yX9_isComb : MethodName := ⟨RX9, "isComb", "(I)Z"⟩
abbrev cX9_isTooth : ByteArray := prog_11_method_7_code
def yX9_isTooth : MethodName := ⟨RX9, "isTooth", "(II)Z"⟩
abbrev cX9_newTrack : ByteArray := prog_11_method_8_code
def yX9_newTrack : MethodName := ⟨RX9, "newTrack", "(I)I"⟩
abbrev cX9_drumGets : ByteArray := prog_11_method_9_code
def yX9_drumGets : MethodName := ⟨RX9, "drumGets", "(III)V"⟩
abbrev cX9_toothGets : ByteArray := prog_11_method_10_code
def yX9_toothGets : MethodName := ⟨RX9, "toothGets", "(III)V"⟩
abbrev cX9_lacks : ByteArray := prog_11_method_11_code
def yX9_lacks : MethodName := ⟨RX9, "lacks", "(II)I"⟩
abbrev cX9_packed : ByteArray := prog_11_method_12_code
def yX9_packed : MethodName := ⟨RX9, "packed", "(II)I"⟩
abbrev cX9_writes : ByteArray := prog_11_method_13_code
def yX9_writes : MethodName := ⟨RX9, "writes", "(IIII)I"⟩
abbrev cX9_turns : ByteArray := prog_11_method_14_code
def yX9_turns : MethodName := ⟨RX9, "turns", "(IIII)I"⟩
abbrev cX9_reads : ByteArray := prog_11_method_15_code
def yX9_reads : MethodName := ⟨RX9, "reads", "(II)I"⟩
abbrev cX9_cut : ByteArray := prog_11_method_16_code
def yX9_cut : MethodName := ⟨RX9, "cut", "(III)I"⟩
abbrev cX9_strip : ByteArray := prog_11_method_17_code
def yX9_strip : MethodName := ⟨RX9, "strip", "(II)I"⟩
abbrev cX9_share : ByteArray := prog_11_method_18_code
def yX9_share : MethodName := ⟨RX9, "share", "(III)I"⟩
abbrev cX9_places : ByteArray := prog_11_method_19_code
def yX9_places : MethodName := ⟨RX9, "places", "(II)I"⟩
abbrev cX9_read : ByteArray := prog_11_method_20_code
def yX9_read : MethodName := ⟨RX9, "read", "(III)I"⟩
abbrev cX9_write : ByteArray := prog_11_method_21_code
def yX9_write : MethodName := ⟨RX9, "write", "(IIII)I"⟩
abbrev cX9_turn : ByteArray := prog_11_method_22_code
def yX9_turn : MethodName := ⟨RX9, "turn", "(IIII)I"⟩
abbrev cX9_head : ByteArray := prog_11_method_23_code
def yX9_head : MethodName := ⟨RX9, "head", "(II)I"⟩
abbrev cX9_isThere : ByteArray := prog_11_method_24_code
def yX9_isThere : MethodName := ⟨RX9, "isThere", "(III)Z"⟩
abbrev cX9_at : ByteArray := prog_11_method_25_code
def yX9_at : MethodName := ⟨RX9, "at", "(III)I"⟩
abbrev cX9_sounds : ByteArray := prog_11_method_26_code
def yX9_sounds : MethodName := ⟨RX9, "sounds", "(II)Z"⟩
abbrev cX9_play : ByteArray := prog_11_method_27_code
def yX9_play : MethodName := ⟨RX9, "play", "(II)I"⟩
abbrev cX9_heard : ByteArray := prog_11_method_28_code
def yX9_heard : MethodName := ⟨RX9, "heard", "(II)J"⟩
abbrev cX9_quiet : ByteArray := prog_11_method_29_code
def yX9_quiet : MethodName := ⟨RX9, "quiet", "(I)I"⟩
abbrev cX9_empties : ByteArray := prog_11_method_30_code
def yX9_empties : MethodName := ⟨RX9, "empties", "(I)I"⟩
abbrev cX9_comb : ByteArray := prog_11_method_31_code
def yX9_comb : MethodName := ⟨RX9, "comb", "(IIII)I"⟩
abbrev cX9_drop : ByteArray := prog_11_method_32_code
def yX9_drop : MethodName := ⟨RX9, "drop", "(I)I"⟩
abbrev cX9_about : ByteArray := prog_11_method_33_code
def yX9_about : MethodName := ⟨RX9, "about", "(II)I"⟩
abbrev cX9_loosen : ByteArray := prog_11_method_34_code
def yX9_loosen : MethodName := ⟨RX9, "loosen", "(II)I"⟩
abbrev cX9_hang : ByteArray := prog_11_method_35_code
def yX9_hang : MethodName := ⟨RX9, "hang", "(III)I"⟩
abbrev cX9_fit : ByteArray := prog_11_method_36_code
def yX9_fit : MethodName := ⟨RX9, "fit", "(III)I"⟩
abbrev cX9_cell : ByteArray := prog_11_method_37_code
def yX9_cell : MethodName := ⟨RX9, "cell", "(III)I"⟩
abbrev cX9_set : ByteArray := prog_11_method_38_code
def yX9_set : MethodName := ⟨RX9, "set", "(IIII)I"⟩
abbrev cX9_twist : ByteArray := prog_11_method_39_code
def yX9_twist : MethodName := ⟨RX9, "twist", "(IIII)I"⟩
abbrev cX9_state : ByteArray := prog_11_method_40_code
def yX9_state : MethodName := ⟨RX9, "state", "()I"⟩
def RJxf58ca : String := "java/lang/Float"
def TJxf58ca : u_T := fun k => match k with
  | _ => ("", "", "", false)
def tyJxf58ca : Nat → FieldType := fun k => match k with
  | _ => .int
abbrev wsJxf58ca0 : List Cond := u_ws RJxf58ca TJxf58ca 0
theorem nmJxf58ca : ∀ a, a < 0 → ∀ b, b < 0 → a ≠ b → (TJxf58ca a).2.1 ≠ (TJxf58ca b).2.1 := by decide +kernel
theorem tyJxf58ca_ok : ∀ k, k < 0 → parseFieldDescriptor (TJxf58ca k).2.2.1 = some (tyJxf58ca k) := by decide +kernel
abbrev cJxf58ca_isNaN_12338 : ByteArray := prog_12_method_6_code
def yJxf58ca_isNaN_12338 : MethodName := ⟨RJxf58ca, "isNaN", "(F)Z"⟩
abbrev cJxf58ca_floatToIntBits_5c35a : ByteArray := prog_12_method_24_code
def yJxf58ca_floatToIntBits_5c35a : MethodName := ⟨RJxf58ca, "floatToIntBits", "(F)I"⟩
def RL : String := "MusicBoxesLaw"
abbrev cL_law : ByteArray := code
def yL_law : MethodName := ⟨RL, "law", "([I)Z"⟩
abbrev vwCl : List vw_C := [(RX0, TX0, 2), (RX1, TX1, 2), (RX2, TX2, 8), (RX3, TX3, 2), (RX4, TX4, 2), (RX5, TX5, 2), (RX6, TX6, 2), (RX8, TX8, 3), (RX9, TX9, 15)]
end
section
/-! every word of the tables, by its place; lw_ok: those that every callee may be handed -/
def lw_ok : List Cond := lw_tbl.filter goodWord
theorem q_0 : (Cond.selects "MusicBoxes" ⟨"MusicBoxes", "refuse", "(I)I"⟩ ⟨"MusicBoxes", "refuse", "(I)I"⟩) ∈ lw_ok := List.mem_filter.mpr ⟨List.mem_of_getElem? (i := 0) rfl, rfl⟩
theorem q_1 : (Cond.selects "MusicBoxes" ⟨"MusicBoxes", "grant", "(I)I"⟩ ⟨"MusicBoxes", "grant", "(I)I"⟩) ∈ lw_ok := List.mem_filter.mpr ⟨List.mem_of_getElem? (i := 1) rfl, rfl⟩
theorem q_2 : (Cond.selects "MusicBoxes" ⟨"MusicBoxes", "trackOfDrum", "(II)LMusicBoxes$Track;"⟩ ⟨"MusicBoxes", "trackOfDrum", "(II)LMusicBoxes$Track;"⟩) ∈ lw_ok := List.mem_filter.mpr ⟨List.mem_of_getElem? (i := 2) rfl, rfl⟩
theorem q_3 : (Cond.selects "MusicBoxes" ⟨"MusicBoxes", "wanted", "(LMusicBoxes$Track;)LMusicBoxes$Track;"⟩ ⟨"MusicBoxes", "wanted", "(LMusicBoxes$Track;)LMusicBoxes$Track;"⟩) ∈ lw_ok := List.mem_filter.mpr ⟨List.mem_of_getElem? (i := 3) rfl, rfl⟩
theorem q_4 : (Cond.selects "MusicBoxes" ⟨"MusicBoxes", "valueIn", "(LMusicBoxes$Track;I)I"⟩ ⟨"MusicBoxes", "valueIn", "(LMusicBoxes$Track;I)I"⟩) ∈ lw_ok := List.mem_filter.mpr ⟨List.mem_of_getElem? (i := 4) rfl, rfl⟩
theorem q_5 : (Cond.selects "MusicBoxes" ⟨"MusicBoxes", "putInto", "(LMusicBoxes$Track;II)I"⟩ ⟨"MusicBoxes", "putInto", "(LMusicBoxes$Track;II)I"⟩) ∈ lw_ok := List.mem_filter.mpr ⟨List.mem_of_getElem? (i := 5) rfl, rfl⟩
theorem q_6 : (Cond.selects "MusicBoxes" ⟨"MusicBoxes", "alterIn", "(LMusicBoxes$Track;II)I"⟩ ⟨"MusicBoxes", "alterIn", "(LMusicBoxes$Track;II)I"⟩) ∈ lw_ok := List.mem_filter.mpr ⟨List.mem_of_getElem? (i := 6) rfl, rfl⟩
theorem q_7 : (Cond.selects "MusicBoxes$Drum" ⟨"MusicBoxes$Drum", "someTrackHas", "(I)Z"⟩ ⟨"MusicBoxes$Drum", "someTrackHas", "(I)Z"⟩) ∈ lw_ok := List.mem_filter.mpr ⟨List.mem_of_getElem? (i := 7) rfl, rfl⟩
theorem q_8 : (Cond.selects "MusicBoxes$Drum" ⟨"MusicBoxes$Drum", "playPlace", "(I)V"⟩ ⟨"MusicBoxes$Drum", "playPlace", "(I)V"⟩) ∈ lw_ok := List.mem_filter.mpr ⟨List.mem_of_getElem? (i := 8) rfl, rfl⟩
theorem q_9 : (Cond.selects "MusicBoxes$Drum" ⟨"MusicBoxes$Drum", "ask", "(III)I"⟩ ⟨"MusicBoxes$Drum", "ask", "(III)I"⟩) ∈ lw_ok := List.mem_filter.mpr ⟨List.mem_of_getElem? (i := 9) rfl, rfl⟩
theorem q_10 : (Cond.selects "MusicBoxes$Drum" ⟨"MusicBoxes$Drum", "askLevel", "(I)F"⟩ ⟨"MusicBoxes$Drum", "askLevel", "(I)F"⟩) ∈ lw_ok := List.mem_filter.mpr ⟨List.mem_of_getElem? (i := 10) rfl, rfl⟩
theorem q_11 : (Cond.selects "MusicBoxes$Drum" ⟨"MusicBoxes$Drum", "sound", "(IIF)V"⟩ ⟨"MusicBoxes$Drum", "sound", "(IIF)V"⟩) ∈ lw_ok := List.mem_filter.mpr ⟨List.mem_of_getElem? (i := 11) rfl, rfl⟩
theorem q_12 : (Cond.selects "MusicBoxes" ⟨"MusicBoxes", "combOf", "(I)LMusicBoxes$Comb;"⟩ ⟨"MusicBoxes", "combOf", "(I)LMusicBoxes$Comb;"⟩) ∈ lw_ok := List.mem_filter.mpr ⟨List.mem_of_getElem? (i := 12) rfl, rfl⟩
theorem q_13 : (Cond.selects "MusicBoxes$Comb" ⟨"MusicBoxes$Comb", "countLacking", "()I"⟩ ⟨"MusicBoxes$Comb", "countLacking", "()I"⟩) ∈ lw_ok := List.mem_filter.mpr ⟨List.mem_of_getElem? (i := 13) rfl, rfl⟩
theorem q_14 : (Cond.selects "MusicBoxes$Comb" ⟨"MusicBoxes$Comb", "countPlaces", "()I"⟩ ⟨"MusicBoxes$Comb", "countPlaces", "()I"⟩) ∈ lw_ok := List.mem_filter.mpr ⟨List.mem_of_getElem? (i := 14) rfl, rfl⟩
theorem q_15 : (Cond.selects "MusicBoxes" ⟨"MusicBoxes", "combWithTooth", "(II)LMusicBoxes$Comb;"⟩ ⟨"MusicBoxes", "combWithTooth", "(II)LMusicBoxes$Comb;"⟩) ∈ lw_ok := List.mem_filter.mpr ⟨List.mem_of_getElem? (i := 15) rfl, rfl⟩
theorem q_16 : (Cond.selects "MusicBoxes" ⟨"MusicBoxes", "trackOfTooth", "(II)LMusicBoxes$Track;"⟩ ⟨"MusicBoxes", "trackOfTooth", "(II)LMusicBoxes$Track;"⟩) ∈ lw_ok := List.mem_filter.mpr ⟨List.mem_of_getElem? (i := 16) rfl, rfl⟩
theorem q_17 : (Cond.selects "MusicBoxesModel" ⟨"MusicBoxesModel", "told", "(I)I"⟩ ⟨"MusicBoxesModel", "told", "(I)I"⟩) ∈ lw_ok := List.mem_filter.mpr ⟨List.mem_of_getElem? (i := 17) rfl, rfl⟩
theorem q_18 : (Cond.selects "MusicBoxesModel" ⟨"MusicBoxesModel", "newTrack", "(I)I"⟩ ⟨"MusicBoxesModel", "newTrack", "(I)I"⟩) ∈ lw_ok := List.mem_filter.mpr ⟨List.mem_of_getElem? (i := 18) rfl, rfl⟩
theorem q_19 : (Cond.selects "MusicBoxesModel" ⟨"MusicBoxesModel", "drumGets", "(III)V"⟩ ⟨"MusicBoxesModel", "drumGets", "(III)V"⟩) ∈ lw_ok := List.mem_filter.mpr ⟨List.mem_of_getElem? (i := 19) rfl, rfl⟩
theorem q_20 : (Cond.selects "MusicBoxesModel" ⟨"MusicBoxesModel", "reads", "(II)I"⟩ ⟨"MusicBoxesModel", "reads", "(II)I"⟩) ∈ lw_ok := List.mem_filter.mpr ⟨List.mem_of_getElem? (i := 20) rfl, rfl⟩
theorem q_21 : (Cond.selects "MusicBoxesModel" ⟨"MusicBoxesModel", "lacks", "(II)I"⟩ ⟨"MusicBoxesModel", "lacks", "(II)I"⟩) ∈ lw_ok := List.mem_filter.mpr ⟨List.mem_of_getElem? (i := 21) rfl, rfl⟩
theorem q_22 : (Cond.selects "MusicBoxesModel" ⟨"MusicBoxesModel", "writes", "(IIII)I"⟩ ⟨"MusicBoxesModel", "writes", "(IIII)I"⟩) ∈ lw_ok := List.mem_filter.mpr ⟨List.mem_of_getElem? (i := 22) rfl, rfl⟩
theorem q_23 : (Cond.selects "MusicBoxesModel" ⟨"MusicBoxesModel", "turns", "(IIII)I"⟩ ⟨"MusicBoxesModel", "turns", "(IIII)I"⟩) ∈ lw_ok := List.mem_filter.mpr ⟨List.mem_of_getElem? (i := 23) rfl, rfl⟩
theorem q_24 : (Cond.selects "MusicBoxesModel" ⟨"MusicBoxesModel", "isThere", "(III)Z"⟩ ⟨"MusicBoxesModel", "isThere", "(III)Z"⟩) ∈ lw_ok := List.mem_filter.mpr ⟨List.mem_of_getElem? (i := 24) rfl, rfl⟩
theorem q_25 : (Cond.selects "MusicBoxesModel" ⟨"MusicBoxesModel", "sounds", "(II)Z"⟩ ⟨"MusicBoxesModel", "sounds", "(II)Z"⟩) ∈ lw_ok := List.mem_filter.mpr ⟨List.mem_of_getElem? (i := 25) rfl, rfl⟩
theorem q_26 : (Cond.selects "MusicBoxesModel" ⟨"MusicBoxesModel", "at", "(III)I"⟩ ⟨"MusicBoxesModel", "at", "(III)I"⟩) ∈ lw_ok := List.mem_filter.mpr ⟨List.mem_of_getElem? (i := 26) rfl, rfl⟩
theorem q_27 : (Cond.selects "MusicBoxesModel" ⟨"MusicBoxesModel", "empties", "(I)I"⟩ ⟨"MusicBoxesModel", "empties", "(I)I"⟩) ∈ lw_ok := List.mem_filter.mpr ⟨List.mem_of_getElem? (i := 27) rfl, rfl⟩
theorem q_28 : (Cond.selects "MusicBoxesModel" ⟨"MusicBoxesModel", "toothGets", "(III)V"⟩ ⟨"MusicBoxesModel", "toothGets", "(III)V"⟩) ∈ lw_ok := List.mem_filter.mpr ⟨List.mem_of_getElem? (i := 28) rfl, rfl⟩
theorem q_29 : (Cond.selects "MusicBoxesModel" ⟨"MusicBoxesModel", "isComb", "(I)Z"⟩ ⟨"MusicBoxesModel", "isComb", "(I)Z"⟩) ∈ lw_ok := List.mem_filter.mpr ⟨List.mem_of_getElem? (i := 29) rfl, rfl⟩
theorem q_30 : (Cond.selects "MusicBoxesModel" ⟨"MusicBoxesModel", "isTooth", "(II)Z"⟩ ⟨"MusicBoxesModel", "isTooth", "(II)Z"⟩) ∈ lw_ok := List.mem_filter.mpr ⟨List.mem_of_getElem? (i := 30) rfl, rfl⟩
theorem q_31 : (Cond.initialized "MusicBoxesLaw") ∈ lw_ok := List.mem_filter.mpr ⟨List.mem_of_getElem? (i := 31) rfl, rfl⟩
theorem q_32 : (Cond.initialized "MusicBoxes") ∈ lw_ok := List.mem_filter.mpr ⟨List.mem_of_getElem? (i := 32) rfl, rfl⟩
theorem q_33 : (Cond.initialized "MusicBoxes$Drum") ∈ lw_ok := List.mem_filter.mpr ⟨List.mem_of_getElem? (i := 33) rfl, rfl⟩
theorem q_34 : (Cond.initialized "MusicBoxesModel") ∈ lw_ok := List.mem_filter.mpr ⟨List.mem_of_getElem? (i := 34) rfl, rfl⟩
theorem q_35 : (Cond.initialized "MusicBoxes$Track") ∈ lw_ok := List.mem_filter.mpr ⟨List.mem_of_getElem? (i := 35) rfl, rfl⟩
theorem q_36 : (Cond.initialized "MusicBoxes$PinTrack") ∈ lw_ok := List.mem_filter.mpr ⟨List.mem_of_getElem? (i := 36) rfl, rfl⟩
theorem q_37 : (Cond.initialized "MusicBoxes$SignTrack") ∈ lw_ok := List.mem_filter.mpr ⟨List.mem_of_getElem? (i := 37) rfl, rfl⟩
theorem q_38 : (Cond.initialized "MusicBoxes$LengthTrack") ∈ lw_ok := List.mem_filter.mpr ⟨List.mem_of_getElem? (i := 38) rfl, rfl⟩
theorem q_39 : (Cond.initialized "MusicBoxes$LevelTrack") ∈ lw_ok := List.mem_filter.mpr ⟨List.mem_of_getElem? (i := 39) rfl, rfl⟩
theorem q_40 : (Cond.initialized "MusicBoxes$BendTrack") ∈ lw_ok := List.mem_filter.mpr ⟨List.mem_of_getElem? (i := 40) rfl, rfl⟩
theorem q_41 : (Cond.initialized "java/lang/Float") ∈ lw_ok := List.mem_filter.mpr ⟨List.mem_of_getElem? (i := 41) rfl, rfl⟩
theorem q_42 : (Cond.initialized "MusicBoxes$Comb") ∈ lw_ok := List.mem_filter.mpr ⟨List.mem_of_getElem? (i := 42) rfl, rfl⟩
theorem q_43 : (Cond.classLink "MusicBoxesLaw" 7 "MusicBoxes") ∈ lw_ok := List.mem_filter.mpr ⟨List.mem_of_getElem? (i := 43) rfl, rfl⟩
theorem q_44 : (Cond.instantiable "MusicBoxes" 3) ∈ lw_ok := List.mem_filter.mpr ⟨List.mem_of_getElem? (i := 44) rfl, rfl⟩
theorem q_45 : (Cond.methodLink "MusicBoxesLaw" 9 ⟨"MusicBoxes", "<init>", "()V"⟩) ∈ lw_ok := List.mem_filter.mpr ⟨List.mem_of_getElem? (i := 45) rfl, rfl⟩
theorem q_46 : (Cond.instanceMethod ⟨"MusicBoxes", "<init>", "()V"⟩) ∈ lw_ok := List.mem_filter.mpr ⟨List.mem_of_getElem? (i := 46) rfl, rfl⟩
theorem q_47 : (Cond.code ⟨"MusicBoxes", "<init>", "()V"⟩ prog_1_method_1_code 2 (Option.none : Option Jvm.ClassFile.FieldType)) ∈ lw_ok := List.mem_filter.mpr ⟨List.mem_of_getElem? (i := 47) rfl, rfl⟩
theorem q_48 : (Cond.methodLink "MusicBoxes" 1 ⟨"java/lang/Object", "<init>", "()V"⟩) ∈ lw_ok := List.mem_filter.mpr ⟨List.mem_of_getElem? (i := 48) rfl, rfl⟩
theorem q_49 : (Cond.instanceMethod ⟨"java/lang/Object", "<init>", "()V"⟩) ∈ lw_ok := List.mem_filter.mpr ⟨List.mem_of_getElem? (i := 49) rfl, rfl⟩
theorem q_50 : (Cond.code ⟨"java/lang/Object", "<init>", "()V"⟩ object_method_1_code 1 (Option.none : Option Jvm.ClassFile.FieldType)) ∈ lw_ok := List.mem_filter.mpr ⟨List.mem_of_getElem? (i := 50) rfl, rfl⟩
theorem q_51 : (Cond.classLink "MusicBoxes" 9 "MusicBoxes$Drum") ∈ lw_ok := List.mem_filter.mpr ⟨List.mem_of_getElem? (i := 51) rfl, rfl⟩
theorem q_52 : (Cond.arrayOver (Jvm.ClassFile.FieldType.object "MusicBoxes$Drum")) ∈ lw_tbl := List.mem_of_getElem? (i := 52) rfl
theorem q_53 : (Cond.instantiable "MusicBoxes$Drum" 8) ∈ lw_ok := List.mem_filter.mpr ⟨List.mem_of_getElem? (i := 53) rfl, rfl⟩
theorem q_54 : (Cond.methodLink "MusicBoxes" 15 ⟨"MusicBoxes$Drum", "<init>", "()V"⟩) ∈ lw_ok := List.mem_filter.mpr ⟨List.mem_of_getElem? (i := 54) rfl, rfl⟩
theorem q_55 : (Cond.instanceMethod ⟨"MusicBoxes$Drum", "<init>", "()V"⟩) ∈ lw_ok := List.mem_filter.mpr ⟨List.mem_of_getElem? (i := 55) rfl, rfl⟩
theorem q_56 : (Cond.code ⟨"MusicBoxes$Drum", "<init>", "()V"⟩ prog_4_method_1_code 1 (Option.none : Option Jvm.ClassFile.FieldType)) ∈ lw_ok := List.mem_filter.mpr ⟨List.mem_of_getElem? (i := 56) rfl, rfl⟩
theorem q_57 : (Cond.methodLink "MusicBoxes$Drum" 3 ⟨"java/lang/Object", "<init>", "()V"⟩) ∈ lw_ok := List.mem_filter.mpr ⟨List.mem_of_getElem? (i := 57) rfl, rfl⟩
theorem q_58 : (Cond.classLink "MusicBoxes$Drum" 9 "MusicBoxes$Track") ∈ lw_ok := List.mem_filter.mpr ⟨List.mem_of_getElem? (i := 58) rfl, rfl⟩
theorem q_59 : (Cond.arrayOver (Jvm.ClassFile.FieldType.object "MusicBoxes$Track")) ∈ lw_tbl := List.mem_of_getElem? (i := 59) rfl
theorem q_60 : (Cond.fieldLink "MusicBoxes$Drum" 11 "MusicBoxes$Drum" "tracks" "[LMusicBoxes$Track;") ∈ lw_ok := List.mem_filter.mpr ⟨List.mem_of_getElem? (i := 60) rfl, rfl⟩
theorem q_61 : (Cond.fieldLink "MusicBoxes" 41 "MusicBoxes$Drum" "tracks" "[LMusicBoxes$Track;") ∈ lw_ok := List.mem_filter.mpr ⟨List.mem_of_getElem? (i := 61) rfl, rfl⟩
theorem q_62 : (Cond.fieldLink "MusicBoxes$Drum" 21 "MusicBoxes$Drum" "headAt" "I") ∈ lw_ok := List.mem_filter.mpr ⟨List.mem_of_getElem? (i := 62) rfl, rfl⟩
theorem q_63 : (Cond.fieldLink "MusicBoxes" 71 "MusicBoxes$Drum" "headAt" "I") ∈ lw_ok := List.mem_filter.mpr ⟨List.mem_of_getElem? (i := 63) rfl, rfl⟩
theorem q_64 : (Cond.fieldLink "MusicBoxes$Drum" 17 "MusicBoxes$Drum" "notes" "I") ∈ lw_ok := List.mem_filter.mpr ⟨List.mem_of_getElem? (i := 64) rfl, rfl⟩
theorem q_65 : (Cond.fieldLink "MusicBoxes" 81 "MusicBoxes$Drum" "notes" "I") ∈ lw_ok := List.mem_filter.mpr ⟨List.mem_of_getElem? (i := 65) rfl, rfl⟩
theorem q_66 : (Cond.fieldLink "MusicBoxes$Drum" 43 "MusicBoxes$Drum" "placesPlayed" "I") ∈ lw_ok := List.mem_filter.mpr ⟨List.mem_of_getElem? (i := 66) rfl, rfl⟩
theorem q_67 : (Cond.fieldLink "MusicBoxes$Drum" 54 "MusicBoxes$Drum" "gaps" "I") ∈ lw_ok := List.mem_filter.mpr ⟨List.mem_of_getElem? (i := 67) rfl, rfl⟩
theorem q_68 : (Cond.fieldLink "MusicBoxes$Drum" 70 "MusicBoxes$Drum" "weights" "J") ∈ lw_ok := List.mem_filter.mpr ⟨List.mem_of_getElem? (i := 68) rfl, rfl⟩
theorem q_69 : (Cond.fieldLink "MusicBoxes$Drum" 63 "MusicBoxes$Drum" "highestPitch" "I") ∈ lw_ok := List.mem_filter.mpr ⟨List.mem_of_getElem? (i := 69) rfl, rfl⟩
theorem q_70 : (Cond.fieldLink "MusicBoxes$Drum" 66 "MusicBoxes$Drum" "greatestLevel" "F") ∈ lw_ok := List.mem_filter.mpr ⟨List.mem_of_getElem? (i := 70) rfl, rfl⟩
theorem q_71 : (Cond.laysFinal "MusicBoxes$Drum" "MusicBoxes$Drum" "tracks" "[LMusicBoxes$Track;") ∈ lw_ok := List.mem_filter.mpr ⟨List.mem_of_getElem? (i := 71) rfl, rfl⟩
theorem q_72 : (Cond.soleField "MusicBoxes$Drum" "tracks") ∈ lw_ok := List.mem_filter.mpr ⟨List.mem_of_getElem? (i := 72) rfl, rfl⟩
theorem q_73 : (Cond.lays "MusicBoxes$Drum" "MusicBoxes$Drum" "headAt" "I") ∈ lw_ok := List.mem_filter.mpr ⟨List.mem_of_getElem? (i := 73) rfl, rfl⟩
theorem q_74 : (Cond.soleField "MusicBoxes$Drum" "headAt") ∈ lw_ok := List.mem_filter.mpr ⟨List.mem_of_getElem? (i := 74) rfl, rfl⟩
theorem q_75 : (Cond.lays "MusicBoxes$Drum" "MusicBoxes$Drum" "notes" "I") ∈ lw_ok := List.mem_filter.mpr ⟨List.mem_of_getElem? (i := 75) rfl, rfl⟩
theorem q_76 : (Cond.soleField "MusicBoxes$Drum" "notes") ∈ lw_ok := List.mem_filter.mpr ⟨List.mem_of_getElem? (i := 76) rfl, rfl⟩
theorem q_77 : (Cond.lays "MusicBoxes$Drum" "MusicBoxes$Drum" "placesPlayed" "I") ∈ lw_ok := List.mem_filter.mpr ⟨List.mem_of_getElem? (i := 77) rfl, rfl⟩
theorem q_78 : (Cond.soleField "MusicBoxes$Drum" "placesPlayed") ∈ lw_ok := List.mem_filter.mpr ⟨List.mem_of_getElem? (i := 78) rfl, rfl⟩
theorem q_79 : (Cond.lays "MusicBoxes$Drum" "MusicBoxes$Drum" "gaps" "I") ∈ lw_ok := List.mem_filter.mpr ⟨List.mem_of_getElem? (i := 79) rfl, rfl⟩
theorem q_80 : (Cond.soleField "MusicBoxes$Drum" "gaps") ∈ lw_ok := List.mem_filter.mpr ⟨List.mem_of_getElem? (i := 80) rfl, rfl⟩
theorem q_81 : (Cond.lays "MusicBoxes$Drum" "MusicBoxes$Drum" "weights" "J") ∈ lw_ok := List.mem_filter.mpr ⟨List.mem_of_getElem? (i := 81) rfl, rfl⟩
theorem q_82 : (Cond.soleField "MusicBoxes$Drum" "weights") ∈ lw_ok := List.mem_filter.mpr ⟨List.mem_of_getElem? (i := 82) rfl, rfl⟩
theorem q_83 : (Cond.lays "MusicBoxes$Drum" "MusicBoxes$Drum" "highestPitch" "I") ∈ lw_ok := List.mem_filter.mpr ⟨List.mem_of_getElem? (i := 83) rfl, rfl⟩
theorem q_84 : (Cond.soleField "MusicBoxes$Drum" "highestPitch") ∈ lw_ok := List.mem_filter.mpr ⟨List.mem_of_getElem? (i := 84) rfl, rfl⟩
theorem q_85 : (Cond.lays "MusicBoxes$Drum" "MusicBoxes$Drum" "greatestLevel" "F") ∈ lw_ok := List.mem_filter.mpr ⟨List.mem_of_getElem? (i := 85) rfl, rfl⟩
theorem q_86 : (Cond.soleField "MusicBoxes$Drum" "greatestLevel") ∈ lw_ok := List.mem_filter.mpr ⟨List.mem_of_getElem? (i := 86) rfl, rfl⟩
theorem q_87 : (Cond.superclass "MusicBoxes$Drum" "java/lang/Object") ∈ lw_ok := List.mem_filter.mpr ⟨List.mem_of_getElem? (i := 87) rfl, rfl⟩
theorem q_88 : (Cond.classLink "MusicBoxes" 16 "MusicBoxes$Comb") ∈ lw_ok := List.mem_filter.mpr ⟨List.mem_of_getElem? (i := 88) rfl, rfl⟩
theorem q_89 : (Cond.arrayOver (Jvm.ClassFile.FieldType.object "MusicBoxes$Comb")) ∈ lw_tbl := List.mem_of_getElem? (i := 89) rfl
theorem q_90 : (Cond.fieldLink "MusicBoxes" 11 "MusicBoxes" "drums" "[LMusicBoxes$Drum;") ∈ lw_ok := List.mem_filter.mpr ⟨List.mem_of_getElem? (i := 90) rfl, rfl⟩
theorem q_91 : (Cond.fieldLink "MusicBoxes" 18 "MusicBoxes" "combs" "[LMusicBoxes$Comb;") ∈ lw_ok := List.mem_filter.mpr ⟨List.mem_of_getElem? (i := 91) rfl, rfl⟩
theorem q_92 : (Cond.fieldLink "MusicBoxes" 22 "MusicBoxes" "refusal" "I") ∈ lw_ok := List.mem_filter.mpr ⟨List.mem_of_getElem? (i := 92) rfl, rfl⟩
theorem q_93 : (Cond.laysFinal "MusicBoxes" "MusicBoxes" "drums" "[LMusicBoxes$Drum;") ∈ lw_ok := List.mem_filter.mpr ⟨List.mem_of_getElem? (i := 93) rfl, rfl⟩
theorem q_94 : (Cond.soleField "MusicBoxes" "drums") ∈ lw_ok := List.mem_filter.mpr ⟨List.mem_of_getElem? (i := 94) rfl, rfl⟩
theorem q_95 : (Cond.laysFinal "MusicBoxes" "MusicBoxes" "combs" "[LMusicBoxes$Comb;") ∈ lw_ok := List.mem_filter.mpr ⟨List.mem_of_getElem? (i := 95) rfl, rfl⟩
theorem q_96 : (Cond.soleField "MusicBoxes" "combs") ∈ lw_ok := List.mem_filter.mpr ⟨List.mem_of_getElem? (i := 96) rfl, rfl⟩
theorem q_97 : (Cond.lays "MusicBoxes" "MusicBoxes" "refusal" "I") ∈ lw_ok := List.mem_filter.mpr ⟨List.mem_of_getElem? (i := 97) rfl, rfl⟩
theorem q_98 : (Cond.soleField "MusicBoxes" "refusal") ∈ lw_ok := List.mem_filter.mpr ⟨List.mem_of_getElem? (i := 98) rfl, rfl⟩
theorem q_99 : (Cond.superclass "MusicBoxes" "java/lang/Object") ∈ lw_ok := List.mem_filter.mpr ⟨List.mem_of_getElem? (i := 99) rfl, rfl⟩
theorem q_100 : (Cond.methodLink "MusicBoxesLaw" 13 ⟨"MusicBoxes", "cut", "(III)I"⟩) ∈ lw_ok := List.mem_filter.mpr ⟨List.mem_of_getElem? (i := 100) rfl, rfl⟩
theorem q_101 : (Cond.instanceMethod ⟨"MusicBoxes", "cut", "(III)I"⟩) ∈ lw_ok := List.mem_filter.mpr ⟨List.mem_of_getElem? (i := 101) rfl, rfl⟩
theorem q_102 : (Cond.selects "MusicBoxes" ⟨"MusicBoxes", "cut", "(III)I"⟩ ⟨"MusicBoxes", "cut", "(III)I"⟩) ∈ lw_ok := List.mem_filter.mpr ⟨List.mem_of_getElem? (i := 102) rfl, rfl⟩
theorem q_103 : (Cond.code ⟨"MusicBoxes", "cut", "(III)I"⟩ prog_1_method_2_code 4 (Option.some Jvm.ClassFile.FieldType.int)) ∈ lw_ok := List.mem_filter.mpr ⟨List.mem_of_getElem? (i := 103) rfl, rfl⟩
theorem q_104 : (Cond.methodLink "MusicBoxes" 26 ⟨"MusicBoxes", "isDrum", "(I)Z"⟩) ∈ lw_ok := List.mem_filter.mpr ⟨List.mem_of_getElem? (i := 104) rfl, rfl⟩
theorem q_105 : (Cond.static ⟨"MusicBoxes", "isDrum", "(I)Z"⟩) ∈ lw_ok := List.mem_filter.mpr ⟨List.mem_of_getElem? (i := 105) rfl, rfl⟩
theorem q_106 : (Cond.code ⟨"MusicBoxes", "isDrum", "(I)Z"⟩ prog_1_method_26_code 1 (Option.some Jvm.ClassFile.FieldType.boolean)) ∈ lw_ok := List.mem_filter.mpr ⟨List.mem_of_getElem? (i := 106) rfl, rfl⟩
theorem q_107 : (Cond.methodLink "MusicBoxes" 30 ⟨"MusicBoxes", "isKind", "(I)Z"⟩) ∈ lw_ok := List.mem_filter.mpr ⟨List.mem_of_getElem? (i := 107) rfl, rfl⟩
theorem q_108 : (Cond.static ⟨"MusicBoxes", "isKind", "(I)Z"⟩) ∈ lw_ok := List.mem_filter.mpr ⟨List.mem_of_getElem? (i := 108) rfl, rfl⟩
theorem q_109 : (Cond.code ⟨"MusicBoxes", "isKind", "(I)Z"⟩ prog_1_method_27_code 1 (Option.some Jvm.ClassFile.FieldType.boolean)) ∈ lw_ok := List.mem_filter.mpr ⟨List.mem_of_getElem? (i := 109) rfl, rfl⟩
theorem q_110 : (Cond.methodLink "MusicBoxes" 33 ⟨"MusicBoxes", "refuse", "(I)I"⟩) ∈ lw_ok := List.mem_filter.mpr ⟨List.mem_of_getElem? (i := 110) rfl, rfl⟩
theorem q_111 : (Cond.privateMethod ⟨"MusicBoxes", "refuse", "(I)I"⟩) ∈ lw_tbl := List.mem_of_getElem? (i := 111) rfl
theorem q_112 : (Cond.instanceMethod ⟨"MusicBoxes", "refuse", "(I)I"⟩) ∈ lw_ok := List.mem_filter.mpr ⟨List.mem_of_getElem? (i := 112) rfl, rfl⟩
theorem q_113 : (Cond.code ⟨"MusicBoxes", "refuse", "(I)I"⟩ prog_1_method_23_code 2 (Option.some Jvm.ClassFile.FieldType.int)) ∈ lw_ok := List.mem_filter.mpr ⟨List.mem_of_getElem? (i := 113) rfl, rfl⟩
theorem q_114 : (Cond.methodLink "MusicBoxes" 37 ⟨"MusicBoxes", "isUpTo", "(II)Z"⟩) ∈ lw_ok := List.mem_filter.mpr ⟨List.mem_of_getElem? (i := 114) rfl, rfl⟩
theorem q_115 : (Cond.static ⟨"MusicBoxes", "isUpTo", "(II)Z"⟩) ∈ lw_ok := List.mem_filter.mpr ⟨List.mem_of_getElem? (i := 115) rfl, rfl⟩
theorem q_116 : (Cond.code ⟨"MusicBoxes", "isUpTo", "(II)Z"⟩ prog_1_method_25_code 2 (Option.some Jvm.ClassFile.FieldType.boolean)) ∈ lw_ok := List.mem_filter.mpr ⟨List.mem_of_getElem? (i := 116) rfl, rfl⟩
theorem q_117 : (Cond.methodLink "MusicBoxes" 45 ⟨"MusicBoxes", "newTrack", "(II)LMusicBoxes$Track;"⟩) ∈ lw_ok := List.mem_filter.mpr ⟨List.mem_of_getElem? (i := 117) rfl, rfl⟩
theorem q_118 : (Cond.static ⟨"MusicBoxes", "newTrack", "(II)LMusicBoxes$Track;"⟩) ∈ lw_ok := List.mem_filter.mpr ⟨List.mem_of_getElem? (i := 118) rfl, rfl⟩
theorem q_119 : (Cond.code ⟨"MusicBoxes", "newTrack", "(II)LMusicBoxes$Track;"⟩ prog_1_method_37_code 2 (Option.some (Jvm.ClassFile.FieldType.object "MusicBoxes$Track"))) ∈ lw_ok := List.mem_filter.mpr ⟨List.mem_of_getElem? (i := 119) rfl, rfl⟩
theorem q_120 : (Cond.classLink "MusicBoxes" 129 "MusicBoxes$PinTrack") ∈ lw_ok := List.mem_filter.mpr ⟨List.mem_of_getElem? (i := 120) rfl, rfl⟩
theorem q_121 : (Cond.instantiable "MusicBoxes$PinTrack" 2) ∈ lw_ok := List.mem_filter.mpr ⟨List.mem_of_getElem? (i := 121) rfl, rfl⟩
theorem q_122 : (Cond.methodLink "MusicBoxes" 131 ⟨"MusicBoxes$PinTrack", "<init>", "(I)V"⟩) ∈ lw_ok := List.mem_filter.mpr ⟨List.mem_of_getElem? (i := 122) rfl, rfl⟩
theorem q_123 : (Cond.instanceMethod ⟨"MusicBoxes$PinTrack", "<init>", "(I)V"⟩) ∈ lw_ok := List.mem_filter.mpr ⟨List.mem_of_getElem? (i := 123) rfl, rfl⟩
theorem q_124 : (Cond.code ⟨"MusicBoxes$PinTrack", "<init>", "(I)V"⟩ prog_7_method_1_code 2 (Option.none : Option Jvm.ClassFile.FieldType)) ∈ lw_ok := List.mem_filter.mpr ⟨List.mem_of_getElem? (i := 124) rfl, rfl⟩
theorem q_125 : (Cond.methodLink "MusicBoxes$PinTrack" 1 ⟨"MusicBoxes$Track", "<init>", "(I)V"⟩) ∈ lw_ok := List.mem_filter.mpr ⟨List.mem_of_getElem? (i := 125) rfl, rfl⟩
theorem q_126 : (Cond.instanceMethod ⟨"MusicBoxes$Track", "<init>", "(I)V"⟩) ∈ lw_ok := List.mem_filter.mpr ⟨List.mem_of_getElem? (i := 126) rfl, rfl⟩
theorem q_127 : (Cond.code ⟨"MusicBoxes$Track", "<init>", "(I)V"⟩ prog_9_method_1_code 2 (Option.none : Option Jvm.ClassFile.FieldType)) ∈ lw_ok := List.mem_filter.mpr ⟨List.mem_of_getElem? (i := 127) rfl, rfl⟩
theorem q_128 : (Cond.methodLink "MusicBoxes$Track" 1 ⟨"java/lang/Object", "<init>", "()V"⟩) ∈ lw_ok := List.mem_filter.mpr ⟨List.mem_of_getElem? (i := 128) rfl, rfl⟩
theorem q_129 : (Cond.fieldLink "MusicBoxes$PinTrack" 7 "MusicBoxes$PinTrack" "cells" "[Z") ∈ lw_ok := List.mem_filter.mpr ⟨List.mem_of_getElem? (i := 129) rfl, rfl⟩
theorem q_130 : (Cond.fieldLink "MusicBoxes$Track" 7 "MusicBoxes$Track" "extent" "I") ∈ lw_ok := List.mem_filter.mpr ⟨List.mem_of_getElem? (i := 130) rfl, rfl⟩
theorem q_131 : (Cond.fieldLink "MusicBoxes" 55 "MusicBoxes$Track" "extent" "I") ∈ lw_ok := List.mem_filter.mpr ⟨List.mem_of_getElem? (i := 131) rfl, rfl⟩
theorem q_132 : (Cond.fieldLink "MusicBoxes$Comb" 26 "MusicBoxes$Track" "extent" "I") ∈ lw_ok := List.mem_filter.mpr ⟨List.mem_of_getElem? (i := 132) rfl, rfl⟩
theorem q_133 : (Cond.laysFinal "MusicBoxes$PinTrack" "MusicBoxes$PinTrack" "cells" "[Z") ∈ lw_ok := List.mem_filter.mpr ⟨List.mem_of_getElem? (i := 133) rfl, rfl⟩
theorem q_134 : (Cond.soleField "MusicBoxes$PinTrack" "cells") ∈ lw_ok := List.mem_filter.mpr ⟨List.mem_of_getElem? (i := 134) rfl, rfl⟩
theorem q_135 : (Cond.laysFinal "MusicBoxes$PinTrack" "MusicBoxes$Track" "extent" "I") ∈ lw_ok := List.mem_filter.mpr ⟨List.mem_of_getElem? (i := 135) rfl, rfl⟩
theorem q_136 : (Cond.soleField "MusicBoxes$Track" "extent") ∈ lw_ok := List.mem_filter.mpr ⟨List.mem_of_getElem? (i := 136) rfl, rfl⟩
theorem q_137 : (Cond.superclass "MusicBoxes$PinTrack" "MusicBoxes$Track") ∈ lw_ok := List.mem_filter.mpr ⟨List.mem_of_getElem? (i := 137) rfl, rfl⟩
theorem q_138 : (Cond.arrayClass Jvm.ClassFile.FieldType.boolean) ∈ lw_ok := List.mem_filter.mpr ⟨List.mem_of_getElem? (i := 138) rfl, rfl⟩
theorem q_139 : (Cond.classLink "MusicBoxes" 134 "MusicBoxes$SignTrack") ∈ lw_ok := List.mem_filter.mpr ⟨List.mem_of_getElem? (i := 139) rfl, rfl⟩
theorem q_140 : (Cond.instantiable "MusicBoxes$SignTrack" 2) ∈ lw_ok := List.mem_filter.mpr ⟨List.mem_of_getElem? (i := 140) rfl, rfl⟩
theorem q_141 : (Cond.methodLink "MusicBoxes" 136 ⟨"MusicBoxes$SignTrack", "<init>", "(I)V"⟩) ∈ lw_ok := List.mem_filter.mpr ⟨List.mem_of_getElem? (i := 141) rfl, rfl⟩
theorem q_142 : (Cond.instanceMethod ⟨"MusicBoxes$SignTrack", "<init>", "(I)V"⟩) ∈ lw_ok := List.mem_filter.mpr ⟨List.mem_of_getElem? (i := 142) rfl, rfl⟩
theorem q_143 : (Cond.code ⟨"MusicBoxes$SignTrack", "<init>", "(I)V"⟩ prog_8_method_1_code 2 (Option.none : Option Jvm.ClassFile.FieldType)) ∈ lw_ok := List.mem_filter.mpr ⟨List.mem_of_getElem? (i := 143) rfl, rfl⟩
theorem q_144 : (Cond.methodLink "MusicBoxes$SignTrack" 1 ⟨"MusicBoxes$Track", "<init>", "(I)V"⟩) ∈ lw_ok := List.mem_filter.mpr ⟨List.mem_of_getElem? (i := 144) rfl, rfl⟩
theorem q_145 : (Cond.fieldLink "MusicBoxes$SignTrack" 7 "MusicBoxes$SignTrack" "cells" "[C") ∈ lw_ok := List.mem_filter.mpr ⟨List.mem_of_getElem? (i := 145) rfl, rfl⟩
theorem q_146 : (Cond.laysFinal "MusicBoxes$SignTrack" "MusicBoxes$SignTrack" "cells" "[C") ∈ lw_ok := List.mem_filter.mpr ⟨List.mem_of_getElem? (i := 146) rfl, rfl⟩
theorem q_147 : (Cond.soleField "MusicBoxes$SignTrack" "cells") ∈ lw_ok := List.mem_filter.mpr ⟨List.mem_of_getElem? (i := 147) rfl, rfl⟩
theorem q_148 : (Cond.laysFinal "MusicBoxes$SignTrack" "MusicBoxes$Track" "extent" "I") ∈ lw_ok := List.mem_filter.mpr ⟨List.mem_of_getElem? (i := 148) rfl, rfl⟩
theorem q_149 : (Cond.superclass "MusicBoxes$SignTrack" "MusicBoxes$Track") ∈ lw_ok := List.mem_filter.mpr ⟨List.mem_of_getElem? (i := 149) rfl, rfl⟩
theorem q_150 : (Cond.arrayClass Jvm.ClassFile.FieldType.char) ∈ lw_ok := List.mem_filter.mpr ⟨List.mem_of_getElem? (i := 150) rfl, rfl⟩
theorem q_151 : (Cond.classLink "MusicBoxes" 137 "MusicBoxes$LengthTrack") ∈ lw_ok := List.mem_filter.mpr ⟨List.mem_of_getElem? (i := 151) rfl, rfl⟩
theorem q_152 : (Cond.instantiable "MusicBoxes$LengthTrack" 2) ∈ lw_ok := List.mem_filter.mpr ⟨List.mem_of_getElem? (i := 152) rfl, rfl⟩
theorem q_153 : (Cond.methodLink "MusicBoxes" 139 ⟨"MusicBoxes$LengthTrack", "<init>", "(I)V"⟩) ∈ lw_ok := List.mem_filter.mpr ⟨List.mem_of_getElem? (i := 153) rfl, rfl⟩
theorem q_154 : (Cond.instanceMethod ⟨"MusicBoxes$LengthTrack", "<init>", "(I)V"⟩) ∈ lw_ok := List.mem_filter.mpr ⟨List.mem_of_getElem? (i := 154) rfl, rfl⟩
theorem q_155 : (Cond.code ⟨"MusicBoxes$LengthTrack", "<init>", "(I)V"⟩ prog_5_method_1_code 2 (Option.none : Option Jvm.ClassFile.FieldType)) ∈ lw_ok := List.mem_filter.mpr ⟨List.mem_of_getElem? (i := 155) rfl, rfl⟩
theorem q_156 : (Cond.methodLink "MusicBoxes$LengthTrack" 1 ⟨"MusicBoxes$Track", "<init>", "(I)V"⟩) ∈ lw_ok := List.mem_filter.mpr ⟨List.mem_of_getElem? (i := 156) rfl, rfl⟩
theorem q_157 : (Cond.fieldLink "MusicBoxes$LengthTrack" 7 "MusicBoxes$LengthTrack" "cells" "[S") ∈ lw_ok := List.mem_filter.mpr ⟨List.mem_of_getElem? (i := 157) rfl, rfl⟩
theorem q_158 : (Cond.laysFinal "MusicBoxes$LengthTrack" "MusicBoxes$LengthTrack" "cells" "[S") ∈ lw_ok := List.mem_filter.mpr ⟨List.mem_of_getElem? (i := 158) rfl, rfl⟩
theorem q_159 : (Cond.soleField "MusicBoxes$LengthTrack" "cells") ∈ lw_ok := List.mem_filter.mpr ⟨List.mem_of_getElem? (i := 159) rfl, rfl⟩
theorem q_160 : (Cond.laysFinal "MusicBoxes$LengthTrack" "MusicBoxes$Track" "extent" "I") ∈ lw_ok := List.mem_filter.mpr ⟨List.mem_of_getElem? (i := 160) rfl, rfl⟩
theorem q_161 : (Cond.superclass "MusicBoxes$LengthTrack" "MusicBoxes$Track") ∈ lw_ok := List.mem_filter.mpr ⟨List.mem_of_getElem? (i := 161) rfl, rfl⟩
theorem q_162 : (Cond.arrayClass Jvm.ClassFile.FieldType.short) ∈ lw_ok := List.mem_filter.mpr ⟨List.mem_of_getElem? (i := 162) rfl, rfl⟩
theorem q_163 : (Cond.classLink "MusicBoxes" 140 "MusicBoxes$LevelTrack") ∈ lw_ok := List.mem_filter.mpr ⟨List.mem_of_getElem? (i := 163) rfl, rfl⟩
theorem q_164 : (Cond.instantiable "MusicBoxes$LevelTrack" 2) ∈ lw_ok := List.mem_filter.mpr ⟨List.mem_of_getElem? (i := 164) rfl, rfl⟩
theorem q_165 : (Cond.methodLink "MusicBoxes" 142 ⟨"MusicBoxes$LevelTrack", "<init>", "(I)V"⟩) ∈ lw_ok := List.mem_filter.mpr ⟨List.mem_of_getElem? (i := 165) rfl, rfl⟩
theorem q_166 : (Cond.instanceMethod ⟨"MusicBoxes$LevelTrack", "<init>", "(I)V"⟩) ∈ lw_ok := List.mem_filter.mpr ⟨List.mem_of_getElem? (i := 166) rfl, rfl⟩
theorem q_167 : (Cond.code ⟨"MusicBoxes$LevelTrack", "<init>", "(I)V"⟩ prog_6_method_1_code 2 (Option.none : Option Jvm.ClassFile.FieldType)) ∈ lw_ok := List.mem_filter.mpr ⟨List.mem_of_getElem? (i := 167) rfl, rfl⟩
theorem q_168 : (Cond.methodLink "MusicBoxes$LevelTrack" 3 ⟨"MusicBoxes$Track", "<init>", "(I)V"⟩) ∈ lw_ok := List.mem_filter.mpr ⟨List.mem_of_getElem? (i := 168) rfl, rfl⟩
theorem q_169 : (Cond.fieldLink "MusicBoxes$LevelTrack" 9 "MusicBoxes$LevelTrack" "cells" "[F") ∈ lw_ok := List.mem_filter.mpr ⟨List.mem_of_getElem? (i := 169) rfl, rfl⟩
theorem q_170 : (Cond.laysFinal "MusicBoxes$LevelTrack" "MusicBoxes$LevelTrack" "cells" "[F") ∈ lw_ok := List.mem_filter.mpr ⟨List.mem_of_getElem? (i := 170) rfl, rfl⟩
theorem q_171 : (Cond.soleField "MusicBoxes$LevelTrack" "cells") ∈ lw_ok := List.mem_filter.mpr ⟨List.mem_of_getElem? (i := 171) rfl, rfl⟩
theorem q_172 : (Cond.laysFinal "MusicBoxes$LevelTrack" "MusicBoxes$Track" "extent" "I") ∈ lw_ok := List.mem_filter.mpr ⟨List.mem_of_getElem? (i := 172) rfl, rfl⟩
theorem q_173 : (Cond.superclass "MusicBoxes$LevelTrack" "MusicBoxes$Track") ∈ lw_ok := List.mem_filter.mpr ⟨List.mem_of_getElem? (i := 173) rfl, rfl⟩
theorem q_174 : (Cond.arrayClass Jvm.ClassFile.FieldType.float) ∈ lw_ok := List.mem_filter.mpr ⟨List.mem_of_getElem? (i := 174) rfl, rfl⟩
theorem q_175 : (Cond.classLink "MusicBoxes" 143 "MusicBoxes$BendTrack") ∈ lw_ok := List.mem_filter.mpr ⟨List.mem_of_getElem? (i := 175) rfl, rfl⟩
theorem q_176 : (Cond.instantiable "MusicBoxes$BendTrack" 2) ∈ lw_ok := List.mem_filter.mpr ⟨List.mem_of_getElem? (i := 176) rfl, rfl⟩
theorem q_177 : (Cond.methodLink "MusicBoxes" 145 ⟨"MusicBoxes$BendTrack", "<init>", "(I)V"⟩) ∈ lw_ok := List.mem_filter.mpr ⟨List.mem_of_getElem? (i := 177) rfl, rfl⟩
theorem q_178 : (Cond.instanceMethod ⟨"MusicBoxes$BendTrack", "<init>", "(I)V"⟩) ∈ lw_ok := List.mem_filter.mpr ⟨List.mem_of_getElem? (i := 178) rfl, rfl⟩
theorem q_179 : (Cond.code ⟨"MusicBoxes$BendTrack", "<init>", "(I)V"⟩ prog_2_method_1_code 2 (Option.none : Option Jvm.ClassFile.FieldType)) ∈ lw_ok := List.mem_filter.mpr ⟨List.mem_of_getElem? (i := 179) rfl, rfl⟩
theorem q_180 : (Cond.methodLink "MusicBoxes$BendTrack" 1 ⟨"MusicBoxes$Track", "<init>", "(I)V"⟩) ∈ lw_ok := List.mem_filter.mpr ⟨List.mem_of_getElem? (i := 180) rfl, rfl⟩
theorem q_181 : (Cond.fieldLink "MusicBoxes$BendTrack" 7 "MusicBoxes$BendTrack" "cells" "[B") ∈ lw_ok := List.mem_filter.mpr ⟨List.mem_of_getElem? (i := 181) rfl, rfl⟩
theorem q_182 : (Cond.laysFinal "MusicBoxes$BendTrack" "MusicBoxes$BendTrack" "cells" "[B") ∈ lw_ok := List.mem_filter.mpr ⟨List.mem_of_getElem? (i := 182) rfl, rfl⟩
theorem q_183 : (Cond.soleField "MusicBoxes$BendTrack" "cells") ∈ lw_ok := List.mem_filter.mpr ⟨List.mem_of_getElem? (i := 183) rfl, rfl⟩
theorem q_184 : (Cond.laysFinal "MusicBoxes$BendTrack" "MusicBoxes$Track" "extent" "I") ∈ lw_ok := List.mem_filter.mpr ⟨List.mem_of_getElem? (i := 184) rfl, rfl⟩
theorem q_185 : (Cond.superclass "MusicBoxes$BendTrack" "MusicBoxes$Track") ∈ lw_ok := List.mem_filter.mpr ⟨List.mem_of_getElem? (i := 185) rfl, rfl⟩
theorem q_186 : (Cond.arrayClass Jvm.ClassFile.FieldType.byte) ∈ lw_ok := List.mem_filter.mpr ⟨List.mem_of_getElem? (i := 186) rfl, rfl⟩
theorem q_187 : (Cond.methodLink "MusicBoxes" 49 ⟨"MusicBoxes", "grant", "(I)I"⟩) ∈ lw_ok := List.mem_filter.mpr ⟨List.mem_of_getElem? (i := 187) rfl, rfl⟩
theorem q_188 : (Cond.privateMethod ⟨"MusicBoxes", "grant", "(I)I"⟩) ∈ lw_tbl := List.mem_of_getElem? (i := 188) rfl
theorem q_189 : (Cond.instanceMethod ⟨"MusicBoxes", "grant", "(I)I"⟩) ∈ lw_ok := List.mem_filter.mpr ⟨List.mem_of_getElem? (i := 189) rfl, rfl⟩
theorem q_190 : (Cond.code ⟨"MusicBoxes", "grant", "(I)I"⟩ prog_1_method_24_code 2 (Option.some Jvm.ClassFile.FieldType.int)) ∈ lw_ok := List.mem_filter.mpr ⟨List.mem_of_getElem? (i := 190) rfl, rfl⟩
theorem q_191 : (Cond.methodLink "MusicBoxesLaw" 18 ⟨"MusicBoxes", "strip", "(II)I"⟩) ∈ lw_ok := List.mem_filter.mpr ⟨List.mem_of_getElem? (i := 191) rfl, rfl⟩
theorem q_192 : (Cond.instanceMethod ⟨"MusicBoxes", "strip", "(II)I"⟩) ∈ lw_ok := List.mem_filter.mpr ⟨List.mem_of_getElem? (i := 192) rfl, rfl⟩
theorem q_193 : (Cond.selects "MusicBoxes" ⟨"MusicBoxes", "strip", "(II)I"⟩ ⟨"MusicBoxes", "strip", "(II)I"⟩) ∈ lw_ok := List.mem_filter.mpr ⟨List.mem_of_getElem? (i := 193) rfl, rfl⟩
theorem q_194 : (Cond.code ⟨"MusicBoxes", "strip", "(II)I"⟩ prog_1_method_3_code 4 (Option.some Jvm.ClassFile.FieldType.int)) ∈ lw_ok := List.mem_filter.mpr ⟨List.mem_of_getElem? (i := 194) rfl, rfl⟩
theorem q_195 : (Cond.methodLink "MusicBoxes" 52 ⟨"MusicBoxes", "trackOfDrum", "(II)LMusicBoxes$Track;"⟩) ∈ lw_ok := List.mem_filter.mpr ⟨List.mem_of_getElem? (i := 195) rfl, rfl⟩
theorem q_196 : (Cond.privateMethod ⟨"MusicBoxes", "trackOfDrum", "(II)LMusicBoxes$Track;"⟩) ∈ lw_tbl := List.mem_of_getElem? (i := 196) rfl
theorem q_197 : (Cond.instanceMethod ⟨"MusicBoxes", "trackOfDrum", "(II)LMusicBoxes$Track;"⟩) ∈ lw_ok := List.mem_filter.mpr ⟨List.mem_of_getElem? (i := 197) rfl, rfl⟩
theorem q_198 : (Cond.code ⟨"MusicBoxes", "trackOfDrum", "(II)LMusicBoxes$Track;"⟩ prog_1_method_31_code 3 (Option.some (Jvm.ClassFile.FieldType.object "MusicBoxes$Track"))) ∈ lw_ok := List.mem_filter.mpr ⟨List.mem_of_getElem? (i := 198) rfl, rfl⟩
theorem q_199 : (Cond.methodLink "MusicBoxes" 113 ⟨"MusicBoxes", "wanted", "(LMusicBoxes$Track;)LMusicBoxes$Track;"⟩) ∈ lw_ok := List.mem_filter.mpr ⟨List.mem_of_getElem? (i := 199) rfl, rfl⟩
theorem q_200 : (Cond.privateMethod ⟨"MusicBoxes", "wanted", "(LMusicBoxes$Track;)LMusicBoxes$Track;"⟩) ∈ lw_tbl := List.mem_of_getElem? (i := 200) rfl
theorem q_201 : (Cond.instanceMethod ⟨"MusicBoxes", "wanted", "(LMusicBoxes$Track;)LMusicBoxes$Track;"⟩) ∈ lw_ok := List.mem_filter.mpr ⟨List.mem_of_getElem? (i := 201) rfl, rfl⟩
theorem q_202 : (Cond.code ⟨"MusicBoxes", "wanted", "(LMusicBoxes$Track;)LMusicBoxes$Track;"⟩ prog_1_method_33_code 2 (Option.some (Jvm.ClassFile.FieldType.object "MusicBoxes$Track"))) ∈ lw_ok := List.mem_filter.mpr ⟨List.mem_of_getElem? (i := 202) rfl, rfl⟩
theorem q_203 : (Cond.methodLink "MusicBoxesLaw" 23 ⟨"MusicBoxes", "share", "(III)I"⟩) ∈ lw_ok := List.mem_filter.mpr ⟨List.mem_of_getElem? (i := 203) rfl, rfl⟩
theorem q_204 : (Cond.instanceMethod ⟨"MusicBoxes", "share", "(III)I"⟩) ∈ lw_ok := List.mem_filter.mpr ⟨List.mem_of_getElem? (i := 204) rfl, rfl⟩
theorem q_205 : (Cond.selects "MusicBoxes" ⟨"MusicBoxes", "share", "(III)I"⟩ ⟨"MusicBoxes", "share", "(III)I"⟩) ∈ lw_ok := List.mem_filter.mpr ⟨List.mem_of_getElem? (i := 205) rfl, rfl⟩
theorem q_206 : (Cond.code ⟨"MusicBoxes", "share", "(III)I"⟩ prog_1_method_4_code 5 (Option.some Jvm.ClassFile.FieldType.int)) ∈ lw_ok := List.mem_filter.mpr ⟨List.mem_of_getElem? (i := 206) rfl, rfl⟩
theorem q_207 : (Cond.methodLink "MusicBoxesLaw" 27 ⟨"MusicBoxes", "places", "(II)I"⟩) ∈ lw_ok := List.mem_filter.mpr ⟨List.mem_of_getElem? (i := 207) rfl, rfl⟩
theorem q_208 : (Cond.instanceMethod ⟨"MusicBoxes", "places", "(II)I"⟩) ∈ lw_ok := List.mem_filter.mpr ⟨List.mem_of_getElem? (i := 208) rfl, rfl⟩
theorem q_209 : (Cond.selects "MusicBoxes" ⟨"MusicBoxes", "places", "(II)I"⟩ ⟨"MusicBoxes", "places", "(II)I"⟩) ∈ lw_ok := List.mem_filter.mpr ⟨List.mem_of_getElem? (i := 209) rfl, rfl⟩
theorem q_210 : (Cond.code ⟨"MusicBoxes", "places", "(II)I"⟩ prog_1_method_5_code 4 (Option.some Jvm.ClassFile.FieldType.int)) ∈ lw_ok := List.mem_filter.mpr ⟨List.mem_of_getElem? (i := 210) rfl, rfl⟩
theorem q_211 : (Cond.methodLink "MusicBoxesLaw" 31 ⟨"MusicBoxes", "read", "(III)I"⟩) ∈ lw_ok := List.mem_filter.mpr ⟨List.mem_of_getElem? (i := 211) rfl, rfl⟩
theorem q_212 : (Cond.instanceMethod ⟨"MusicBoxes", "read", "(III)I"⟩) ∈ lw_ok := List.mem_filter.mpr ⟨List.mem_of_getElem? (i := 212) rfl, rfl⟩
theorem q_213 : (Cond.selects "MusicBoxes" ⟨"MusicBoxes", "read", "(III)I"⟩ ⟨"MusicBoxes", "read", "(III)I"⟩) ∈ lw_ok := List.mem_filter.mpr ⟨List.mem_of_getElem? (i := 213) rfl, rfl⟩
theorem q_214 : (Cond.code ⟨"MusicBoxes", "read", "(III)I"⟩ prog_1_method_6_code 4 (Option.some Jvm.ClassFile.FieldType.int)) ∈ lw_ok := List.mem_filter.mpr ⟨List.mem_of_getElem? (i := 214) rfl, rfl⟩
theorem q_215 : (Cond.methodLink "MusicBoxes" 60 ⟨"MusicBoxes", "valueIn", "(LMusicBoxes$Track;I)I"⟩) ∈ lw_ok := List.mem_filter.mpr ⟨List.mem_of_getElem? (i := 215) rfl, rfl⟩
theorem q_216 : (Cond.privateMethod ⟨"MusicBoxes", "valueIn", "(LMusicBoxes$Track;I)I"⟩) ∈ lw_tbl := List.mem_of_getElem? (i := 216) rfl
theorem q_217 : (Cond.instanceMethod ⟨"MusicBoxes", "valueIn", "(LMusicBoxes$Track;I)I"⟩) ∈ lw_ok := List.mem_filter.mpr ⟨List.mem_of_getElem? (i := 217) rfl, rfl⟩
theorem q_218 : (Cond.code ⟨"MusicBoxes", "valueIn", "(LMusicBoxes$Track;I)I"⟩ prog_1_method_34_code 3 (Option.some Jvm.ClassFile.FieldType.int)) ∈ lw_ok := List.mem_filter.mpr ⟨List.mem_of_getElem? (i := 218) rfl, rfl⟩
theorem q_219 : (Cond.methodLink "MusicBoxes" 117 ⟨"MusicBoxes$Track", "hasPlace", "(I)Z"⟩) ∈ lw_ok := List.mem_filter.mpr ⟨List.mem_of_getElem? (i := 219) rfl, rfl⟩
theorem q_220 : (Cond.instanceMethod ⟨"MusicBoxes$Track", "hasPlace", "(I)Z"⟩) ∈ lw_ok := List.mem_filter.mpr ⟨List.mem_of_getElem? (i := 220) rfl, rfl⟩
theorem q_221 : (Cond.sameMethod "MusicBoxes$Track" "MusicBoxes$Track" "hasPlace" "(I)Z") ∈ lw_ok := List.mem_filter.mpr ⟨List.mem_of_getElem? (i := 221) rfl, rfl⟩
theorem q_222 : (Cond.selects "MusicBoxes$BendTrack" ⟨"MusicBoxes$Track", "hasPlace", "(I)Z"⟩ ⟨"MusicBoxes$Track", "hasPlace", "(I)Z"⟩) ∈ lw_ok := List.mem_filter.mpr ⟨List.mem_of_getElem? (i := 222) rfl, rfl⟩
theorem q_223 : (Cond.selects "MusicBoxes$LengthTrack" ⟨"MusicBoxes$Track", "hasPlace", "(I)Z"⟩ ⟨"MusicBoxes$Track", "hasPlace", "(I)Z"⟩) ∈ lw_ok := List.mem_filter.mpr ⟨List.mem_of_getElem? (i := 223) rfl, rfl⟩
theorem q_224 : (Cond.selects "MusicBoxes$LevelTrack" ⟨"MusicBoxes$Track", "hasPlace", "(I)Z"⟩ ⟨"MusicBoxes$Track", "hasPlace", "(I)Z"⟩) ∈ lw_ok := List.mem_filter.mpr ⟨List.mem_of_getElem? (i := 224) rfl, rfl⟩
theorem q_225 : (Cond.selects "MusicBoxes$PinTrack" ⟨"MusicBoxes$Track", "hasPlace", "(I)Z"⟩ ⟨"MusicBoxes$Track", "hasPlace", "(I)Z"⟩) ∈ lw_ok := List.mem_filter.mpr ⟨List.mem_of_getElem? (i := 225) rfl, rfl⟩
theorem q_226 : (Cond.selects "MusicBoxes$SignTrack" ⟨"MusicBoxes$Track", "hasPlace", "(I)Z"⟩ ⟨"MusicBoxes$Track", "hasPlace", "(I)Z"⟩) ∈ lw_ok := List.mem_filter.mpr ⟨List.mem_of_getElem? (i := 226) rfl, rfl⟩
theorem q_227 : (Cond.code ⟨"MusicBoxes$Track", "hasPlace", "(I)Z"⟩ prog_9_method_2_code 2 (Option.some Jvm.ClassFile.FieldType.boolean)) ∈ lw_ok := List.mem_filter.mpr ⟨List.mem_of_getElem? (i := 227) rfl, rfl⟩
theorem q_228 : (Cond.methodLink "MusicBoxes" 120 ⟨"MusicBoxes$Track", "valueAt", "(I)I"⟩) ∈ lw_ok := List.mem_filter.mpr ⟨List.mem_of_getElem? (i := 228) rfl, rfl⟩
theorem q_229 : (Cond.declares ⟨"MusicBoxes$Track", "valueAt", "(I)I"⟩) ∈ lw_tbl := List.mem_of_getElem? (i := 229) rfl
theorem q_230 : (Cond.sameMethod "MusicBoxes$Track" "MusicBoxes$Track" "valueAt" "(I)I") ∈ lw_ok := List.mem_filter.mpr ⟨List.mem_of_getElem? (i := 230) rfl, rfl⟩
theorem q_231 : (Cond.selects "MusicBoxes$BendTrack" ⟨"MusicBoxes$Track", "valueAt", "(I)I"⟩ ⟨"MusicBoxes$BendTrack", "valueAt", "(I)I"⟩) ∈ lw_ok := List.mem_filter.mpr ⟨List.mem_of_getElem? (i := 231) rfl, rfl⟩
theorem q_232 : (Cond.instanceMethod ⟨"MusicBoxes$BendTrack", "valueAt", "(I)I"⟩) ∈ lw_ok := List.mem_filter.mpr ⟨List.mem_of_getElem? (i := 232) rfl, rfl⟩
theorem q_233 : (Cond.code ⟨"MusicBoxes$BendTrack", "valueAt", "(I)I"⟩ prog_2_method_2_code 2 (Option.some Jvm.ClassFile.FieldType.int)) ∈ lw_ok := List.mem_filter.mpr ⟨List.mem_of_getElem? (i := 233) rfl, rfl⟩
theorem q_234 : (Cond.selects "MusicBoxes$LengthTrack" ⟨"MusicBoxes$Track", "valueAt", "(I)I"⟩ ⟨"MusicBoxes$LengthTrack", "valueAt", "(I)I"⟩) ∈ lw_ok := List.mem_filter.mpr ⟨List.mem_of_getElem? (i := 234) rfl, rfl⟩
theorem q_235 : (Cond.instanceMethod ⟨"MusicBoxes$LengthTrack", "valueAt", "(I)I"⟩) ∈ lw_ok := List.mem_filter.mpr ⟨List.mem_of_getElem? (i := 235) rfl, rfl⟩
theorem q_236 : (Cond.code ⟨"MusicBoxes$LengthTrack", "valueAt", "(I)I"⟩ prog_5_method_2_code 2 (Option.some Jvm.ClassFile.FieldType.int)) ∈ lw_ok := List.mem_filter.mpr ⟨List.mem_of_getElem? (i := 236) rfl, rfl⟩
theorem q_237 : (Cond.selects "MusicBoxes$LevelTrack" ⟨"MusicBoxes$Track", "valueAt", "(I)I"⟩ ⟨"MusicBoxes$LevelTrack", "valueAt", "(I)I"⟩) ∈ lw_ok := List.mem_filter.mpr ⟨List.mem_of_getElem? (i := 237) rfl, rfl⟩
theorem q_238 : (Cond.instanceMethod ⟨"MusicBoxes$LevelTrack", "valueAt", "(I)I"⟩) ∈ lw_ok := List.mem_filter.mpr ⟨List.mem_of_getElem? (i := 238) rfl, rfl⟩
theorem q_239 : (Cond.code ⟨"MusicBoxes$LevelTrack", "valueAt", "(I)I"⟩ prog_6_method_3_code 2 (Option.some Jvm.ClassFile.FieldType.int)) ∈ lw_ok := List.mem_filter.mpr ⟨List.mem_of_getElem? (i := 239) rfl, rfl⟩
theorem q_240 : (Cond.methodLink "MusicBoxes$LevelTrack" 15 ⟨"MusicBoxes$LevelTrack", "bitsOf", "(F)I"⟩) ∈ lw_ok := List.mem_filter.mpr ⟨List.mem_of_getElem? (i := 240) rfl, rfl⟩
theorem q_241 : (Cond.static ⟨"MusicBoxes$LevelTrack", "bitsOf", "(F)I"⟩) ∈ lw_ok := List.mem_filter.mpr ⟨List.mem_of_getElem? (i := 241) rfl, rfl⟩
theorem q_242 : (Cond.code ⟨"MusicBoxes$LevelTrack", "bitsOf", "(F)I"⟩ prog_6_method_6_code 4 (Option.some Jvm.ClassFile.FieldType.int)) ∈ lw_ok := List.mem_filter.mpr ⟨List.mem_of_getElem? (i := 242) rfl, rfl⟩
theorem q_243 : (Cond.methodLink "MusicBoxes$LevelTrack" 25 ⟨"MusicBoxes$LevelTrack", "isNegative", "(F)Z"⟩) ∈ lw_ok := List.mem_filter.mpr ⟨List.mem_of_getElem? (i := 243) rfl, rfl⟩
theorem q_244 : (Cond.static ⟨"MusicBoxes$LevelTrack", "isNegative", "(F)Z"⟩) ∈ lw_ok := List.mem_filter.mpr ⟨List.mem_of_getElem? (i := 244) rfl, rfl⟩
theorem q_245 : (Cond.code ⟨"MusicBoxes$LevelTrack", "isNegative", "(F)Z"⟩ prog_6_method_7_code 1 (Option.some Jvm.ClassFile.FieldType.boolean)) ∈ lw_ok := List.mem_filter.mpr ⟨List.mem_of_getElem? (i := 245) rfl, rfl⟩
theorem q_246 : (Cond.constant "MusicBoxes$LevelTrack" 29 (-2147483648 : Int32)) ∈ lw_ok := List.mem_filter.mpr ⟨List.mem_of_getElem? (i := 246) rfl, rfl⟩
theorem q_247 : (Cond.constantFloat "MusicBoxes$LevelTrack" 30 (1258291200 : UInt32)) ∈ lw_ok := List.mem_filter.mpr ⟨List.mem_of_getElem? (i := 247) rfl, rfl⟩
theorem q_248 : (Cond.selects "MusicBoxes$PinTrack" ⟨"MusicBoxes$Track", "valueAt", "(I)I"⟩ ⟨"MusicBoxes$PinTrack", "valueAt", "(I)I"⟩) ∈ lw_ok := List.mem_filter.mpr ⟨List.mem_of_getElem? (i := 248) rfl, rfl⟩
theorem q_249 : (Cond.instanceMethod ⟨"MusicBoxes$PinTrack", "valueAt", "(I)I"⟩) ∈ lw_ok := List.mem_filter.mpr ⟨List.mem_of_getElem? (i := 249) rfl, rfl⟩
theorem q_250 : (Cond.code ⟨"MusicBoxes$PinTrack", "valueAt", "(I)I"⟩ prog_7_method_2_code 2 (Option.some Jvm.ClassFile.FieldType.int)) ∈ lw_ok := List.mem_filter.mpr ⟨List.mem_of_getElem? (i := 250) rfl, rfl⟩
set_option maxRecDepth 20000 in
theorem q_251 : (Cond.selects "MusicBoxes$SignTrack" ⟨"MusicBoxes$Track", "valueAt", "(I)I"⟩ ⟨"MusicBoxes$SignTrack", "valueAt", "(I)I"⟩) ∈ lw_ok := List.mem_filter.mpr ⟨List.mem_of_getElem? (i := 251) rfl, rfl⟩
set_option maxRecDepth 20000 in
theorem q_252 : (Cond.instanceMethod ⟨"MusicBoxes$SignTrack", "valueAt", "(I)I"⟩) ∈ lw_ok := List.mem_filter.mpr ⟨List.mem_of_getElem? (i := 252) rfl, rfl⟩
set_option maxRecDepth 20000 in
theorem q_253 : (Cond.code ⟨"MusicBoxes$SignTrack", "valueAt", "(I)I"⟩ prog_8_method_2_code 2 (Option.some Jvm.ClassFile.FieldType.int)) ∈ lw_ok := List.mem_filter.mpr ⟨List.mem_of_getElem? (i := 253) rfl, rfl⟩
set_option maxRecDepth 20000 in
theorem q_254 : (Cond.methodLink "MusicBoxesLaw" 35 ⟨"MusicBoxes", "write", "(IIII)I"⟩) ∈ lw_ok := List.mem_filter.mpr ⟨List.mem_of_getElem? (i := 254) rfl, rfl⟩
set_option maxRecDepth 20000 in
theorem q_255 : (Cond.instanceMethod ⟨"MusicBoxes", "write", "(IIII)I"⟩) ∈ lw_ok := List.mem_filter.mpr ⟨List.mem_of_getElem? (i := 255) rfl, rfl⟩
set_option maxRecDepth 20000 in
theorem q_256 : (Cond.selects "MusicBoxes" ⟨"MusicBoxes", "write", "(IIII)I"⟩ ⟨"MusicBoxes", "write", "(IIII)I"⟩) ∈ lw_ok := List.mem_filter.mpr ⟨List.mem_of_getElem? (i := 256) rfl, rfl⟩
set_option maxRecDepth 20000 in
theorem q_257 : (Cond.code ⟨"MusicBoxes", "write", "(IIII)I"⟩ prog_1_method_7_code 5 (Option.some Jvm.ClassFile.FieldType.int)) ∈ lw_ok := List.mem_filter.mpr ⟨List.mem_of_getElem? (i := 257) rfl, rfl⟩
set_option maxRecDepth 20000 in
theorem q_258 : (Cond.methodLink "MusicBoxes" 64 ⟨"MusicBoxes", "putInto", "(LMusicBoxes$Track;II)I"⟩) ∈ lw_ok := List.mem_filter.mpr ⟨List.mem_of_getElem? (i := 258) rfl, rfl⟩
set_option maxRecDepth 20000 in
theorem q_259 : (Cond.privateMethod ⟨"MusicBoxes", "putInto", "(LMusicBoxes$Track;II)I"⟩) ∈ lw_tbl := List.mem_of_getElem? (i := 259) rfl
set_option maxRecDepth 20000 in
theorem q_260 : (Cond.instanceMethod ⟨"MusicBoxes", "putInto", "(LMusicBoxes$Track;II)I"⟩) ∈ lw_ok := List.mem_filter.mpr ⟨List.mem_of_getElem? (i := 260) rfl, rfl⟩
set_option maxRecDepth 20000 in
theorem q_261 : (Cond.code ⟨"MusicBoxes", "putInto", "(LMusicBoxes$Track;II)I"⟩ prog_1_method_35_code 4 (Option.some Jvm.ClassFile.FieldType.int)) ∈ lw_ok := List.mem_filter.mpr ⟨List.mem_of_getElem? (i := 261) rfl, rfl⟩
set_option maxRecDepth 20000 in
theorem q_262 : (Cond.methodLink "MusicBoxes" 123 ⟨"MusicBoxes$Track", "put", "(II)Z"⟩) ∈ lw_ok := List.mem_filter.mpr ⟨List.mem_of_getElem? (i := 262) rfl, rfl⟩
set_option maxRecDepth 20000 in
theorem q_263 : (Cond.declares ⟨"MusicBoxes$Track", "put", "(II)Z"⟩) ∈ lw_tbl := List.mem_of_getElem? (i := 263) rfl
set_option maxRecDepth 20000 in
theorem q_264 : (Cond.sameMethod "MusicBoxes$Track" "MusicBoxes$Track" "put" "(II)Z") ∈ lw_ok := List.mem_filter.mpr ⟨List.mem_of_getElem? (i := 264) rfl, rfl⟩
set_option maxRecDepth 20000 in
theorem q_265 : (Cond.selects "MusicBoxes$BendTrack" ⟨"MusicBoxes$Track", "put", "(II)Z"⟩ ⟨"MusicBoxes$BendTrack", "put", "(II)Z"⟩) ∈ lw_ok := List.mem_filter.mpr ⟨List.mem_of_getElem? (i := 265) rfl, rfl⟩
set_option maxRecDepth 20000 in
theorem q_266 : (Cond.instanceMethod ⟨"MusicBoxes$BendTrack", "put", "(II)Z"⟩) ∈ lw_ok := List.mem_filter.mpr ⟨List.mem_of_getElem? (i := 266) rfl, rfl⟩
set_option maxRecDepth 20000 in
theorem q_267 : (Cond.code ⟨"MusicBoxes$BendTrack", "put", "(II)Z"⟩ prog_2_method_3_code 3 (Option.some Jvm.ClassFile.FieldType.boolean)) ∈ lw_ok := List.mem_filter.mpr ⟨List.mem_of_getElem? (i := 267) rfl, rfl⟩
set_option maxRecDepth 20000 in
theorem q_268 : (Cond.selects "MusicBoxes$LengthTrack" ⟨"MusicBoxes$Track", "put", "(II)Z"⟩ ⟨"MusicBoxes$LengthTrack", "put", "(II)Z"⟩) ∈ lw_ok := List.mem_filter.mpr ⟨List.mem_of_getElem? (i := 268) rfl, rfl⟩
set_option maxRecDepth 20000 in
theorem q_269 : (Cond.instanceMethod ⟨"MusicBoxes$LengthTrack", "put", "(II)Z"⟩) ∈ lw_ok := List.mem_filter.mpr ⟨List.mem_of_getElem? (i := 269) rfl, rfl⟩
set_option maxRecDepth 20000 in
theorem q_270 : (Cond.code ⟨"MusicBoxes$LengthTrack", "put", "(II)Z"⟩ prog_5_method_3_code 3 (Option.some Jvm.ClassFile.FieldType.boolean)) ∈ lw_ok := List.mem_filter.mpr ⟨List.mem_of_getElem? (i := 270) rfl, rfl⟩
set_option maxRecDepth 20000 in
theorem q_271 : (Cond.selects "MusicBoxes$LevelTrack" ⟨"MusicBoxes$Track", "put", "(II)Z"⟩ ⟨"MusicBoxes$LevelTrack", "put", "(II)Z"⟩) ∈ lw_ok := List.mem_filter.mpr ⟨List.mem_of_getElem? (i := 271) rfl, rfl⟩
set_option maxRecDepth 20000 in
theorem q_272 : (Cond.instanceMethod ⟨"MusicBoxes$LevelTrack", "put", "(II)Z"⟩) ∈ lw_ok := List.mem_filter.mpr ⟨List.mem_of_getElem? (i := 272) rfl, rfl⟩
set_option maxRecDepth 20000 in
theorem q_273 : (Cond.code ⟨"MusicBoxes$LevelTrack", "put", "(II)Z"⟩ prog_6_method_4_code 3 (Option.some Jvm.ClassFile.FieldType.boolean)) ∈ lw_ok := List.mem_filter.mpr ⟨List.mem_of_getElem? (i := 273) rfl, rfl⟩
set_option maxRecDepth 20000 in
theorem q_274 : (Cond.constant "MusicBoxes$LevelTrack" 19 (-8000000 : Int32)) ∈ lw_ok := List.mem_filter.mpr ⟨List.mem_of_getElem? (i := 274) rfl, rfl⟩
set_option maxRecDepth 20000 in
theorem q_275 : (Cond.constant "MusicBoxes$LevelTrack" 20 (8000000 : Int32)) ∈ lw_ok := List.mem_filter.mpr ⟨List.mem_of_getElem? (i := 275) rfl, rfl⟩
set_option maxRecDepth 20000 in
theorem q_276 : (Cond.constantFloat "MusicBoxes$LevelTrack" 21 (1090519040 : UInt32)) ∈ lw_ok := List.mem_filter.mpr ⟨List.mem_of_getElem? (i := 276) rfl, rfl⟩
set_option maxRecDepth 20000 in
theorem q_277 : (Cond.selects "MusicBoxes$PinTrack" ⟨"MusicBoxes$Track", "put", "(II)Z"⟩ ⟨"MusicBoxes$PinTrack", "put", "(II)Z"⟩) ∈ lw_ok := List.mem_filter.mpr ⟨List.mem_of_getElem? (i := 277) rfl, rfl⟩
set_option maxRecDepth 20000 in
theorem q_278 : (Cond.instanceMethod ⟨"MusicBoxes$PinTrack", "put", "(II)Z"⟩) ∈ lw_ok := List.mem_filter.mpr ⟨List.mem_of_getElem? (i := 278) rfl, rfl⟩
set_option maxRecDepth 20000 in
theorem q_279 : (Cond.code ⟨"MusicBoxes$PinTrack", "put", "(II)Z"⟩ prog_7_method_3_code 3 (Option.some Jvm.ClassFile.FieldType.boolean)) ∈ lw_ok := List.mem_filter.mpr ⟨List.mem_of_getElem? (i := 279) rfl, rfl⟩
set_option maxRecDepth 20000 in
theorem q_280 : (Cond.selects "MusicBoxes$SignTrack" ⟨"MusicBoxes$Track", "put", "(II)Z"⟩ ⟨"MusicBoxes$SignTrack", "put", "(II)Z"⟩) ∈ lw_ok := List.mem_filter.mpr ⟨List.mem_of_getElem? (i := 280) rfl, rfl⟩
set_option maxRecDepth 20000 in
theorem q_281 : (Cond.instanceMethod ⟨"MusicBoxes$SignTrack", "put", "(II)Z"⟩) ∈ lw_ok := List.mem_filter.mpr ⟨List.mem_of_getElem? (i := 281) rfl, rfl⟩
set_option maxRecDepth 20000 in
theorem q_282 : (Cond.code ⟨"MusicBoxes$SignTrack", "put", "(II)Z"⟩ prog_8_method_3_code 3 (Option.some Jvm.ClassFile.FieldType.boolean)) ∈ lw_ok := List.mem_filter.mpr ⟨List.mem_of_getElem? (i := 282) rfl, rfl⟩
set_option maxRecDepth 20000 in
theorem q_283 : (Cond.methodLink "MusicBoxesLaw" 40 ⟨"MusicBoxes", "turn", "(IIII)I"⟩) ∈ lw_ok := List.mem_filter.mpr ⟨List.mem_of_getElem? (i := 283) rfl, rfl⟩
set_option maxRecDepth 20000 in
theorem q_284 : (Cond.instanceMethod ⟨"MusicBoxes", "turn", "(IIII)I"⟩) ∈ lw_ok := List.mem_filter.mpr ⟨List.mem_of_getElem? (i := 284) rfl, rfl⟩
set_option maxRecDepth 20000 in
theorem q_285 : (Cond.selects "MusicBoxes" ⟨"MusicBoxes", "turn", "(IIII)I"⟩ ⟨"MusicBoxes", "turn", "(IIII)I"⟩) ∈ lw_ok := List.mem_filter.mpr ⟨List.mem_of_getElem? (i := 285) rfl, rfl⟩
set_option maxRecDepth 20000 in
theorem q_286 : (Cond.code ⟨"MusicBoxes", "turn", "(IIII)I"⟩ prog_1_method_8_code 5 (Option.some Jvm.ClassFile.FieldType.int)) ∈ lw_ok := List.mem_filter.mpr ⟨List.mem_of_getElem? (i := 286) rfl, rfl⟩
set_option maxRecDepth 20000 in
theorem q_287 : (Cond.methodLink "MusicBoxes" 68 ⟨"MusicBoxes", "alterIn", "(LMusicBoxes$Track;II)I"⟩) ∈ lw_ok := List.mem_filter.mpr ⟨List.mem_of_getElem? (i := 287) rfl, rfl⟩
set_option maxRecDepth 20000 in
theorem q_288 : (Cond.privateMethod ⟨"MusicBoxes", "alterIn", "(LMusicBoxes$Track;II)I"⟩) ∈ lw_tbl := List.mem_of_getElem? (i := 288) rfl
set_option maxRecDepth 20000 in
theorem q_289 : (Cond.instanceMethod ⟨"MusicBoxes", "alterIn", "(LMusicBoxes$Track;II)I"⟩) ∈ lw_ok := List.mem_filter.mpr ⟨List.mem_of_getElem? (i := 289) rfl, rfl⟩
set_option maxRecDepth 20000 in
theorem q_290 : (Cond.code ⟨"MusicBoxes", "alterIn", "(LMusicBoxes$Track;II)I"⟩ prog_1_method_36_code 4 (Option.some Jvm.ClassFile.FieldType.int)) ∈ lw_ok := List.mem_filter.mpr ⟨List.mem_of_getElem? (i := 290) rfl, rfl⟩
set_option maxRecDepth 20000 in
theorem q_291 : (Cond.methodLink "MusicBoxes" 126 ⟨"MusicBoxes$Track", "alter", "(II)Z"⟩) ∈ lw_ok := List.mem_filter.mpr ⟨List.mem_of_getElem? (i := 291) rfl, rfl⟩
set_option maxRecDepth 20000 in
theorem q_292 : (Cond.declares ⟨"MusicBoxes$Track", "alter", "(II)Z"⟩) ∈ lw_tbl := List.mem_of_getElem? (i := 292) rfl
set_option maxRecDepth 20000 in
theorem q_293 : (Cond.sameMethod "MusicBoxes$Track" "MusicBoxes$Track" "alter" "(II)Z") ∈ lw_ok := List.mem_filter.mpr ⟨List.mem_of_getElem? (i := 293) rfl, rfl⟩
set_option maxRecDepth 20000 in
theorem q_294 : (Cond.selects "MusicBoxes$BendTrack" ⟨"MusicBoxes$Track", "alter", "(II)Z"⟩ ⟨"MusicBoxes$BendTrack", "alter", "(II)Z"⟩) ∈ lw_ok := List.mem_filter.mpr ⟨List.mem_of_getElem? (i := 294) rfl, rfl⟩
set_option maxRecDepth 20000 in
theorem q_295 : (Cond.instanceMethod ⟨"MusicBoxes$BendTrack", "alter", "(II)Z"⟩) ∈ lw_ok := List.mem_filter.mpr ⟨List.mem_of_getElem? (i := 295) rfl, rfl⟩
set_option maxRecDepth 20000 in
theorem q_296 : (Cond.code ⟨"MusicBoxes$BendTrack", "alter", "(II)Z"⟩ prog_2_method_4_code 3 (Option.some Jvm.ClassFile.FieldType.boolean)) ∈ lw_ok := List.mem_filter.mpr ⟨List.mem_of_getElem? (i := 296) rfl, rfl⟩
set_option maxRecDepth 20000 in
theorem q_297 : (Cond.selects "MusicBoxes$LengthTrack" ⟨"MusicBoxes$Track", "alter", "(II)Z"⟩ ⟨"MusicBoxes$LengthTrack", "alter", "(II)Z"⟩) ∈ lw_ok := List.mem_filter.mpr ⟨List.mem_of_getElem? (i := 297) rfl, rfl⟩
set_option maxRecDepth 20000 in
theorem q_298 : (Cond.instanceMethod ⟨"MusicBoxes$LengthTrack", "alter", "(II)Z"⟩) ∈ lw_ok := List.mem_filter.mpr ⟨List.mem_of_getElem? (i := 298) rfl, rfl⟩
set_option maxRecDepth 20000 in
theorem q_299 : (Cond.code ⟨"MusicBoxes$LengthTrack", "alter", "(II)Z"⟩ prog_5_method_4_code 3 (Option.some Jvm.ClassFile.FieldType.boolean)) ∈ lw_ok := List.mem_filter.mpr ⟨List.mem_of_getElem? (i := 299) rfl, rfl⟩
set_option maxRecDepth 20000 in
theorem q_300 : (Cond.selects "MusicBoxes$LevelTrack" ⟨"MusicBoxes$Track", "alter", "(II)Z"⟩ ⟨"MusicBoxes$LevelTrack", "alter", "(II)Z"⟩) ∈ lw_ok := List.mem_filter.mpr ⟨List.mem_of_getElem? (i := 300) rfl, rfl⟩
set_option maxRecDepth 20000 in
theorem q_301 : (Cond.instanceMethod ⟨"MusicBoxes$LevelTrack", "alter", "(II)Z"⟩) ∈ lw_ok := List.mem_filter.mpr ⟨List.mem_of_getElem? (i := 301) rfl, rfl⟩
set_option maxRecDepth 20000 in
theorem q_302 : (Cond.code ⟨"MusicBoxes$LevelTrack", "alter", "(II)Z"⟩ prog_6_method_5_code 4 (Option.some Jvm.ClassFile.FieldType.boolean)) ∈ lw_ok := List.mem_filter.mpr ⟨List.mem_of_getElem? (i := 302) rfl, rfl⟩
set_option maxRecDepth 20000 in
theorem q_303 : (Cond.constantFloat "MusicBoxes$LevelTrack" 22 (1082130432 : UInt32)) ∈ lw_ok := List.mem_filter.mpr ⟨List.mem_of_getElem? (i := 303) rfl, rfl⟩
set_option maxRecDepth 20000 in
theorem q_304 : (Cond.constantFloat "MusicBoxes$LevelTrack" 23 (3379831808 : UInt32)) ∈ lw_ok := List.mem_filter.mpr ⟨List.mem_of_getElem? (i := 304) rfl, rfl⟩
set_option maxRecDepth 20000 in
theorem q_305 : (Cond.constantFloat "MusicBoxes$LevelTrack" 24 (1232348160 : UInt32)) ∈ lw_ok := List.mem_filter.mpr ⟨List.mem_of_getElem? (i := 305) rfl, rfl⟩
set_option maxRecDepth 20000 in
theorem q_306 : (Cond.selects "MusicBoxes$PinTrack" ⟨"MusicBoxes$Track", "alter", "(II)Z"⟩ ⟨"MusicBoxes$PinTrack", "alter", "(II)Z"⟩) ∈ lw_ok := List.mem_filter.mpr ⟨List.mem_of_getElem? (i := 306) rfl, rfl⟩
set_option maxRecDepth 20000 in
theorem q_307 : (Cond.instanceMethod ⟨"MusicBoxes$PinTrack", "alter", "(II)Z"⟩) ∈ lw_ok := List.mem_filter.mpr ⟨List.mem_of_getElem? (i := 307) rfl, rfl⟩
set_option maxRecDepth 20000 in
theorem q_308 : (Cond.code ⟨"MusicBoxes$PinTrack", "alter", "(II)Z"⟩ prog_7_method_4_code 3 (Option.some Jvm.ClassFile.FieldType.boolean)) ∈ lw_ok := List.mem_filter.mpr ⟨List.mem_of_getElem? (i := 308) rfl, rfl⟩
set_option maxRecDepth 20000 in
theorem q_309 : (Cond.selects "MusicBoxes$SignTrack" ⟨"MusicBoxes$Track", "alter", "(II)Z"⟩ ⟨"MusicBoxes$SignTrack", "alter", "(II)Z"⟩) ∈ lw_ok := List.mem_filter.mpr ⟨List.mem_of_getElem? (i := 309) rfl, rfl⟩
set_option maxRecDepth 20000 in
theorem q_310 : (Cond.instanceMethod ⟨"MusicBoxes$SignTrack", "alter", "(II)Z"⟩) ∈ lw_ok := List.mem_filter.mpr ⟨List.mem_of_getElem? (i := 310) rfl, rfl⟩
set_option maxRecDepth 20000 in
theorem q_311 : (Cond.code ⟨"MusicBoxes$SignTrack", "alter", "(II)Z"⟩ prog_8_method_4_code 3 (Option.some Jvm.ClassFile.FieldType.boolean)) ∈ lw_ok := List.mem_filter.mpr ⟨List.mem_of_getElem? (i := 311) rfl, rfl⟩
set_option maxRecDepth 20000 in
theorem q_312 : (Cond.methodLink "MusicBoxesLaw" 44 ⟨"MusicBoxes", "head", "(II)I"⟩) ∈ lw_ok := List.mem_filter.mpr ⟨List.mem_of_getElem? (i := 312) rfl, rfl⟩
set_option maxRecDepth 20000 in
theorem q_313 : (Cond.instanceMethod ⟨"MusicBoxes", "head", "(II)I"⟩) ∈ lw_ok := List.mem_filter.mpr ⟨List.mem_of_getElem? (i := 313) rfl, rfl⟩
set_option maxRecDepth 20000 in
theorem q_314 : (Cond.selects "MusicBoxes" ⟨"MusicBoxes", "head", "(II)I"⟩ ⟨"MusicBoxes", "head", "(II)I"⟩) ∈ lw_ok := List.mem_filter.mpr ⟨List.mem_of_getElem? (i := 314) rfl, rfl⟩
set_option maxRecDepth 20000 in
theorem q_315 : (Cond.code ⟨"MusicBoxes", "head", "(II)I"⟩ prog_1_method_9_code 4 (Option.some Jvm.ClassFile.FieldType.int)) ∈ lw_ok := List.mem_filter.mpr ⟨List.mem_of_getElem? (i := 315) rfl, rfl⟩
set_option maxRecDepth 20000 in
theorem q_316 : (Cond.methodLink "MusicBoxesLaw" 48 ⟨"MusicBoxes", "play", "(II)I"⟩) ∈ lw_ok := List.mem_filter.mpr ⟨List.mem_of_getElem? (i := 316) rfl, rfl⟩
set_option maxRecDepth 20000 in
theorem q_317 : (Cond.instanceMethod ⟨"MusicBoxes", "play", "(II)I"⟩) ∈ lw_ok := List.mem_filter.mpr ⟨List.mem_of_getElem? (i := 317) rfl, rfl⟩
set_option maxRecDepth 20000 in
theorem q_318 : (Cond.selects "MusicBoxes" ⟨"MusicBoxes", "play", "(II)I"⟩ ⟨"MusicBoxes", "play", "(II)I"⟩) ∈ lw_ok := List.mem_filter.mpr ⟨List.mem_of_getElem? (i := 318) rfl, rfl⟩
set_option maxRecDepth 20000 in
theorem q_319 : (Cond.code ⟨"MusicBoxes", "play", "(II)I"⟩ prog_1_method_10_code 3 (Option.some Jvm.ClassFile.FieldType.int)) ∈ lw_ok := List.mem_filter.mpr ⟨List.mem_of_getElem? (i := 319) rfl, rfl⟩
set_option maxRecDepth 20000 in
theorem q_320 : (Cond.methodLink "MusicBoxes" 74 ⟨"MusicBoxes$Drum", "playOn", "(I)I"⟩) ∈ lw_ok := List.mem_filter.mpr ⟨List.mem_of_getElem? (i := 320) rfl, rfl⟩
set_option maxRecDepth 20000 in
theorem q_321 : (Cond.instanceMethod ⟨"MusicBoxes$Drum", "playOn", "(I)I"⟩) ∈ lw_ok := List.mem_filter.mpr ⟨List.mem_of_getElem? (i := 321) rfl, rfl⟩
set_option maxRecDepth 20000 in
theorem q_322 : (Cond.selects "MusicBoxes$Drum" ⟨"MusicBoxes$Drum", "playOn", "(I)I"⟩ ⟨"MusicBoxes$Drum", "playOn", "(I)I"⟩) ∈ lw_ok := List.mem_filter.mpr ⟨List.mem_of_getElem? (i := 322) rfl, rfl⟩
set_option maxRecDepth 20000 in
theorem q_323 : (Cond.code ⟨"MusicBoxes$Drum", "playOn", "(I)I"⟩ prog_4_method_2_code 4 (Option.some Jvm.ClassFile.FieldType.int)) ∈ lw_ok := List.mem_filter.mpr ⟨List.mem_of_getElem? (i := 323) rfl, rfl⟩
set_option maxRecDepth 20000 in
theorem q_324 : (Cond.methodLink "MusicBoxes$Drum" 24 ⟨"MusicBoxes$Drum", "someTrackHas", "(I)Z"⟩) ∈ lw_ok := List.mem_filter.mpr ⟨List.mem_of_getElem? (i := 324) rfl, rfl⟩
set_option maxRecDepth 20000 in
theorem q_325 : (Cond.privateMethod ⟨"MusicBoxes$Drum", "someTrackHas", "(I)Z"⟩) ∈ lw_tbl := List.mem_of_getElem? (i := 325) rfl
set_option maxRecDepth 20000 in
theorem q_326 : (Cond.instanceMethod ⟨"MusicBoxes$Drum", "someTrackHas", "(I)Z"⟩) ∈ lw_ok := List.mem_filter.mpr ⟨List.mem_of_getElem? (i := 326) rfl, rfl⟩
set_option maxRecDepth 20000 in
theorem q_327 : (Cond.code ⟨"MusicBoxes$Drum", "someTrackHas", "(I)Z"⟩ prog_4_method_3_code 4 (Option.some Jvm.ClassFile.FieldType.boolean)) ∈ lw_ok := List.mem_filter.mpr ⟨List.mem_of_getElem? (i := 327) rfl, rfl⟩
set_option maxRecDepth 20000 in
theorem q_328 : (Cond.methodLink "MusicBoxes$Drum" 32 ⟨"MusicBoxes$Track", "hasPlace", "(I)Z"⟩) ∈ lw_ok := List.mem_filter.mpr ⟨List.mem_of_getElem? (i := 328) rfl, rfl⟩
set_option maxRecDepth 20000 in
theorem q_329 : (Cond.methodLink "MusicBoxes$Drum" 28 ⟨"MusicBoxes$Drum", "playPlace", "(I)V"⟩) ∈ lw_ok := List.mem_filter.mpr ⟨List.mem_of_getElem? (i := 329) rfl, rfl⟩
set_option maxRecDepth 20000 in
theorem q_330 : (Cond.privateMethod ⟨"MusicBoxes$Drum", "playPlace", "(I)V"⟩) ∈ lw_tbl := List.mem_of_getElem? (i := 330) rfl
set_option maxRecDepth 20000 in
theorem q_331 : (Cond.instanceMethod ⟨"MusicBoxes$Drum", "playPlace", "(I)V"⟩) ∈ lw_ok := List.mem_filter.mpr ⟨List.mem_of_getElem? (i := 331) rfl, rfl⟩
set_option maxRecDepth 20000 in
theorem q_332 : (Cond.code ⟨"MusicBoxes$Drum", "playPlace", "(I)V"⟩ prog_4_method_4_code 7 (Option.none : Option Jvm.ClassFile.FieldType)) ∈ lw_ok := List.mem_filter.mpr ⟨List.mem_of_getElem? (i := 332) rfl, rfl⟩
set_option maxRecDepth 20000 in
theorem q_333 : (Cond.methodLink "MusicBoxes$Drum" 35 ⟨"MusicBoxes$Drum", "ask", "(III)I"⟩) ∈ lw_ok := List.mem_filter.mpr ⟨List.mem_of_getElem? (i := 333) rfl, rfl⟩
set_option maxRecDepth 20000 in
theorem q_334 : (Cond.privateMethod ⟨"MusicBoxes$Drum", "ask", "(III)I"⟩) ∈ lw_tbl := List.mem_of_getElem? (i := 334) rfl
set_option maxRecDepth 20000 in
theorem q_335 : (Cond.instanceMethod ⟨"MusicBoxes$Drum", "ask", "(III)I"⟩) ∈ lw_ok := List.mem_filter.mpr ⟨List.mem_of_getElem? (i := 335) rfl, rfl⟩
set_option maxRecDepth 20000 in
theorem q_336 : (Cond.code ⟨"MusicBoxes$Drum", "ask", "(III)I"⟩ prog_4_method_5_code 5 (Option.some Jvm.ClassFile.FieldType.int)) ∈ lw_ok := List.mem_filter.mpr ⟨List.mem_of_getElem? (i := 336) rfl, rfl⟩
set_option maxRecDepth 20000 in
theorem q_337 : (Cond.methodLink "MusicBoxes$Drum" 50 ⟨"MusicBoxes$Track", "valueAt", "(I)I"⟩) ∈ lw_ok := List.mem_filter.mpr ⟨List.mem_of_getElem? (i := 337) rfl, rfl⟩
set_option maxRecDepth 20000 in
theorem q_338 : (Cond.methodLink "MusicBoxes$Drum" 39 ⟨"MusicBoxes$Drum", "askLevel", "(I)F"⟩) ∈ lw_ok := List.mem_filter.mpr ⟨List.mem_of_getElem? (i := 338) rfl, rfl⟩
set_option maxRecDepth 20000 in
theorem q_339 : (Cond.privateMethod ⟨"MusicBoxes$Drum", "askLevel", "(I)F"⟩) ∈ lw_tbl := List.mem_of_getElem? (i := 339) rfl
set_option maxRecDepth 20000 in
theorem q_340 : (Cond.instanceMethod ⟨"MusicBoxes$Drum", "askLevel", "(I)F"⟩) ∈ lw_ok := List.mem_filter.mpr ⟨List.mem_of_getElem? (i := 340) rfl, rfl⟩
set_option maxRecDepth 20000 in
theorem q_341 : (Cond.code ⟨"MusicBoxes$Drum", "askLevel", "(I)F"⟩ prog_4_method_6_code 4 (Option.some Jvm.ClassFile.FieldType.float)) ∈ lw_ok := List.mem_filter.mpr ⟨List.mem_of_getElem? (i := 341) rfl, rfl⟩
set_option maxRecDepth 20000 in
theorem q_342 : (Cond.classLink "MusicBoxes$Drum" 57 "MusicBoxes$LevelTrack") ∈ lw_ok := List.mem_filter.mpr ⟨List.mem_of_getElem? (i := 342) rfl, rfl⟩
set_option maxRecDepth 20000 in
theorem q_343 : (Cond.methodLink "MusicBoxes$Drum" 59 ⟨"MusicBoxes$LevelTrack", "hasPlace", "(I)Z"⟩) ∈ lw_ok := List.mem_filter.mpr ⟨List.mem_of_getElem? (i := 343) rfl, rfl⟩
set_option maxRecDepth 20000 in
theorem q_344 : (Cond.sameMethod "MusicBoxes$LevelTrack" "MusicBoxes$Track" "hasPlace" "(I)Z") ∈ lw_ok := List.mem_filter.mpr ⟨List.mem_of_getElem? (i := 344) rfl, rfl⟩
set_option maxRecDepth 20000 in
theorem q_345 : (Cond.declares ⟨"MusicBoxes$Track", "hasPlace", "(I)Z"⟩) ∈ lw_tbl := List.mem_of_getElem? (i := 345) rfl
set_option maxRecDepth 20000 in
theorem q_346 : (Cond.selects "MusicBoxes$LevelTrack" ⟨"MusicBoxes$LevelTrack", "hasPlace", "(I)Z"⟩ ⟨"MusicBoxes$Track", "hasPlace", "(I)Z"⟩) ∈ lw_ok := List.mem_filter.mpr ⟨List.mem_of_getElem? (i := 346) rfl, rfl⟩
set_option maxRecDepth 20000 in
theorem q_347 : (Cond.methodLink "MusicBoxes$Drum" 60 ⟨"MusicBoxes$LevelTrack", "levelAt", "(I)F"⟩) ∈ lw_ok := List.mem_filter.mpr ⟨List.mem_of_getElem? (i := 347) rfl, rfl⟩
set_option maxRecDepth 20000 in
theorem q_348 : (Cond.instanceMethod ⟨"MusicBoxes$LevelTrack", "levelAt", "(I)F"⟩) ∈ lw_ok := List.mem_filter.mpr ⟨List.mem_of_getElem? (i := 348) rfl, rfl⟩
set_option maxRecDepth 20000 in
theorem q_349 : (Cond.selects "MusicBoxes$LevelTrack" ⟨"MusicBoxes$LevelTrack", "levelAt", "(I)F"⟩ ⟨"MusicBoxes$LevelTrack", "levelAt", "(I)F"⟩) ∈ lw_ok := List.mem_filter.mpr ⟨List.mem_of_getElem? (i := 349) rfl, rfl⟩
set_option maxRecDepth 20000 in
theorem q_350 : (Cond.code ⟨"MusicBoxes$LevelTrack", "levelAt", "(I)F"⟩ prog_6_method_2_code 2 (Option.some Jvm.ClassFile.FieldType.float)) ∈ lw_ok := List.mem_filter.mpr ⟨List.mem_of_getElem? (i := 350) rfl, rfl⟩
set_option maxRecDepth 20000 in
theorem q_351 : (Cond.methodLink "MusicBoxes$Drum" 46 ⟨"MusicBoxes$Drum", "sound", "(IIF)V"⟩) ∈ lw_ok := List.mem_filter.mpr ⟨List.mem_of_getElem? (i := 351) rfl, rfl⟩
set_option maxRecDepth 20000 in
theorem q_352 : (Cond.privateMethod ⟨"MusicBoxes$Drum", "sound", "(IIF)V"⟩) ∈ lw_tbl := List.mem_of_getElem? (i := 352) rfl
set_option maxRecDepth 20000 in
theorem q_353 : (Cond.instanceMethod ⟨"MusicBoxes$Drum", "sound", "(IIF)V"⟩) ∈ lw_ok := List.mem_filter.mpr ⟨List.mem_of_getElem? (i := 353) rfl, rfl⟩
set_option maxRecDepth 20000 in
theorem q_354 : (Cond.code ⟨"MusicBoxes$Drum", "sound", "(IIF)V"⟩ prog_4_method_7_code 4 (Option.none : Option Jvm.ClassFile.FieldType)) ∈ lw_ok := List.mem_filter.mpr ⟨List.mem_of_getElem? (i := 354) rfl, rfl⟩
set_option maxRecDepth 20000 in
theorem q_355 : (Cond.methodLink "MusicBoxesLaw" 52 ⟨"MusicBoxes", "heard", "(II)J"⟩) ∈ lw_ok := List.mem_filter.mpr ⟨List.mem_of_getElem? (i := 355) rfl, rfl⟩
set_option maxRecDepth 20000 in
theorem q_356 : (Cond.instanceMethod ⟨"MusicBoxes", "heard", "(II)J"⟩) ∈ lw_ok := List.mem_filter.mpr ⟨List.mem_of_getElem? (i := 356) rfl, rfl⟩
set_option maxRecDepth 20000 in
theorem q_357 : (Cond.selects "MusicBoxes" ⟨"MusicBoxes", "heard", "(II)J"⟩ ⟨"MusicBoxes", "heard", "(II)J"⟩) ∈ lw_ok := List.mem_filter.mpr ⟨List.mem_of_getElem? (i := 357) rfl, rfl⟩
set_option maxRecDepth 20000 in
theorem q_358 : (Cond.code ⟨"MusicBoxes", "heard", "(II)J"⟩ prog_1_method_11_code 3 (Option.some Jvm.ClassFile.FieldType.long)) ∈ lw_ok := List.mem_filter.mpr ⟨List.mem_of_getElem? (i := 358) rfl, rfl⟩
set_option maxRecDepth 20000 in
theorem q_359 : (Cond.methodLink "MusicBoxes" 77 ⟨"MusicBoxes$Drum", "tally", "(I)J"⟩) ∈ lw_ok := List.mem_filter.mpr ⟨List.mem_of_getElem? (i := 359) rfl, rfl⟩
set_option maxRecDepth 20000 in
theorem q_360 : (Cond.instanceMethod ⟨"MusicBoxes$Drum", "tally", "(I)J"⟩) ∈ lw_ok := List.mem_filter.mpr ⟨List.mem_of_getElem? (i := 360) rfl, rfl⟩
set_option maxRecDepth 20000 in
theorem q_361 : (Cond.selects "MusicBoxes$Drum" ⟨"MusicBoxes$Drum", "tally", "(I)J"⟩ ⟨"MusicBoxes$Drum", "tally", "(I)J"⟩) ∈ lw_ok := List.mem_filter.mpr ⟨List.mem_of_getElem? (i := 361) rfl, rfl⟩
set_option maxRecDepth 20000 in
theorem q_362 : (Cond.code ⟨"MusicBoxes$Drum", "tally", "(I)J"⟩ prog_4_method_8_code 2 (Option.some Jvm.ClassFile.FieldType.long)) ∈ lw_ok := List.mem_filter.mpr ⟨List.mem_of_getElem? (i := 362) rfl, rfl⟩
set_option maxRecDepth 20000 in
theorem q_363 : (Cond.methodLink "MusicBoxes$Drum" 74 ⟨"MusicBoxes$LevelTrack", "bitsOf", "(F)I"⟩) ∈ lw_ok := List.mem_filter.mpr ⟨List.mem_of_getElem? (i := 363) rfl, rfl⟩
set_option maxRecDepth 20000 in
theorem q_364 : (Cond.methodLink "MusicBoxesLaw" 57 ⟨"MusicBoxes", "quiet", "(I)I"⟩) ∈ lw_ok := List.mem_filter.mpr ⟨List.mem_of_getElem? (i := 364) rfl, rfl⟩
set_option maxRecDepth 20000 in
theorem q_365 : (Cond.instanceMethod ⟨"MusicBoxes", "quiet", "(I)I"⟩) ∈ lw_ok := List.mem_filter.mpr ⟨List.mem_of_getElem? (i := 365) rfl, rfl⟩
set_option maxRecDepth 20000 in
theorem q_366 : (Cond.selects "MusicBoxes" ⟨"MusicBoxes", "quiet", "(I)I"⟩ ⟨"MusicBoxes", "quiet", "(I)I"⟩) ∈ lw_ok := List.mem_filter.mpr ⟨List.mem_of_getElem? (i := 366) rfl, rfl⟩
set_option maxRecDepth 20000 in
theorem q_367 : (Cond.code ⟨"MusicBoxes", "quiet", "(I)I"⟩ prog_1_method_12_code 3 (Option.some Jvm.ClassFile.FieldType.int)) ∈ lw_ok := List.mem_filter.mpr ⟨List.mem_of_getElem? (i := 367) rfl, rfl⟩
set_option maxRecDepth 20000 in
theorem q_368 : (Cond.methodLink "MusicBoxes" 84 ⟨"MusicBoxes$Drum", "forget", "()V"⟩) ∈ lw_ok := List.mem_filter.mpr ⟨List.mem_of_getElem? (i := 368) rfl, rfl⟩
set_option maxRecDepth 20000 in
theorem q_369 : (Cond.instanceMethod ⟨"MusicBoxes$Drum", "forget", "()V"⟩) ∈ lw_ok := List.mem_filter.mpr ⟨List.mem_of_getElem? (i := 369) rfl, rfl⟩
set_option maxRecDepth 20000 in
theorem q_370 : (Cond.selects "MusicBoxes$Drum" ⟨"MusicBoxes$Drum", "forget", "()V"⟩ ⟨"MusicBoxes$Drum", "forget", "()V"⟩) ∈ lw_ok := List.mem_filter.mpr ⟨List.mem_of_getElem? (i := 370) rfl, rfl⟩
set_option maxRecDepth 20000 in
theorem q_371 : (Cond.code ⟨"MusicBoxes$Drum", "forget", "()V"⟩ prog_4_method_9_code 1 (Option.none : Option Jvm.ClassFile.FieldType)) ∈ lw_ok := List.mem_filter.mpr ⟨List.mem_of_getElem? (i := 371) rfl, rfl⟩
set_option maxRecDepth 20000 in
theorem q_372 : (Cond.methodLink "MusicBoxesLaw" 62 ⟨"MusicBoxes", "comb", "(IIII)I"⟩) ∈ lw_ok := List.mem_filter.mpr ⟨List.mem_of_getElem? (i := 372) rfl, rfl⟩
set_option maxRecDepth 20000 in
theorem q_373 : (Cond.instanceMethod ⟨"MusicBoxes", "comb", "(IIII)I"⟩) ∈ lw_ok := List.mem_filter.mpr ⟨List.mem_of_getElem? (i := 373) rfl, rfl⟩
set_option maxRecDepth 20000 in
theorem q_374 : (Cond.selects "MusicBoxes" ⟨"MusicBoxes", "comb", "(IIII)I"⟩ ⟨"MusicBoxes", "comb", "(IIII)I"⟩) ∈ lw_ok := List.mem_filter.mpr ⟨List.mem_of_getElem? (i := 374) rfl, rfl⟩
set_option maxRecDepth 20000 in
theorem q_375 : (Cond.code ⟨"MusicBoxes", "comb", "(IIII)I"⟩ prog_1_method_13_code 7 (Option.some Jvm.ClassFile.FieldType.int)) ∈ lw_ok := List.mem_filter.mpr ⟨List.mem_of_getElem? (i := 375) rfl, rfl⟩
set_option maxRecDepth 20000 in
theorem q_376 : (Cond.methodLink "MusicBoxes" 87 ⟨"MusicBoxes", "isComb", "(I)Z"⟩) ∈ lw_ok := List.mem_filter.mpr ⟨List.mem_of_getElem? (i := 376) rfl, rfl⟩
set_option maxRecDepth 20000 in
theorem q_377 : (Cond.static ⟨"MusicBoxes", "isComb", "(I)Z"⟩) ∈ lw_ok := List.mem_filter.mpr ⟨List.mem_of_getElem? (i := 377) rfl, rfl⟩
set_option maxRecDepth 20000 in
theorem q_378 : (Cond.code ⟨"MusicBoxes", "isComb", "(I)Z"⟩ prog_1_method_28_code 1 (Option.some Jvm.ClassFile.FieldType.boolean)) ∈ lw_ok := List.mem_filter.mpr ⟨List.mem_of_getElem? (i := 378) rfl, rfl⟩
set_option maxRecDepth 20000 in
theorem q_379 : (Cond.instantiable "MusicBoxes$Comb" 2) ∈ lw_ok := List.mem_filter.mpr ⟨List.mem_of_getElem? (i := 379) rfl, rfl⟩
set_option maxRecDepth 20000 in
theorem q_380 : (Cond.methodLink "MusicBoxes" 90 ⟨"MusicBoxes$Comb", "<init>", "(II)V"⟩) ∈ lw_ok := List.mem_filter.mpr ⟨List.mem_of_getElem? (i := 380) rfl, rfl⟩
set_option maxRecDepth 20000 in
theorem q_381 : (Cond.instanceMethod ⟨"MusicBoxes$Comb", "<init>", "(II)V"⟩) ∈ lw_ok := List.mem_filter.mpr ⟨List.mem_of_getElem? (i := 381) rfl, rfl⟩
set_option maxRecDepth 20000 in
theorem q_382 : (Cond.code ⟨"MusicBoxes$Comb", "<init>", "(II)V"⟩ prog_3_method_1_code 3 (Option.none : Option Jvm.ClassFile.FieldType)) ∈ lw_ok := List.mem_filter.mpr ⟨List.mem_of_getElem? (i := 382) rfl, rfl⟩
set_option maxRecDepth 20000 in
theorem q_383 : (Cond.methodLink "MusicBoxes$Comb" 1 ⟨"java/lang/Object", "<init>", "()V"⟩) ∈ lw_ok := List.mem_filter.mpr ⟨List.mem_of_getElem? (i := 383) rfl, rfl⟩
set_option maxRecDepth 20000 in
theorem q_384 : (Cond.classLink "MusicBoxes$Comb" 13 "MusicBoxes$Track") ∈ lw_ok := List.mem_filter.mpr ⟨List.mem_of_getElem? (i := 384) rfl, rfl⟩
set_option maxRecDepth 20000 in
theorem q_385 : (Cond.fieldLink "MusicBoxes$Comb" 7 "MusicBoxes$Comb" "kind" "I") ∈ lw_ok := List.mem_filter.mpr ⟨List.mem_of_getElem? (i := 385) rfl, rfl⟩
set_option maxRecDepth 20000 in
theorem q_386 : (Cond.fieldLink "MusicBoxes" 107 "MusicBoxes$Comb" "kind" "I") ∈ lw_ok := List.mem_filter.mpr ⟨List.mem_of_getElem? (i := 386) rfl, rfl⟩
set_option maxRecDepth 20000 in
theorem q_387 : (Cond.fieldLink "MusicBoxes$Comb" 15 "MusicBoxes$Comb" "teeth" "[LMusicBoxes$Track;") ∈ lw_ok := List.mem_filter.mpr ⟨List.mem_of_getElem? (i := 387) rfl, rfl⟩
set_option maxRecDepth 20000 in
theorem q_388 : (Cond.fieldLink "MusicBoxes" 93 "MusicBoxes$Comb" "teeth" "[LMusicBoxes$Track;") ∈ lw_ok := List.mem_filter.mpr ⟨List.mem_of_getElem? (i := 388) rfl, rfl⟩
set_option maxRecDepth 20000 in
theorem q_389 : (Cond.laysFinal "MusicBoxes$Comb" "MusicBoxes$Comb" "kind" "I") ∈ lw_ok := List.mem_filter.mpr ⟨List.mem_of_getElem? (i := 389) rfl, rfl⟩
set_option maxRecDepth 20000 in
theorem q_390 : (Cond.soleField "MusicBoxes$Comb" "kind") ∈ lw_ok := List.mem_filter.mpr ⟨List.mem_of_getElem? (i := 390) rfl, rfl⟩
set_option maxRecDepth 20000 in
theorem q_391 : (Cond.laysFinal "MusicBoxes$Comb" "MusicBoxes$Comb" "teeth" "[LMusicBoxes$Track;") ∈ lw_ok := List.mem_filter.mpr ⟨List.mem_of_getElem? (i := 391) rfl, rfl⟩
set_option maxRecDepth 20000 in
theorem q_392 : (Cond.soleField "MusicBoxes$Comb" "teeth") ∈ lw_ok := List.mem_filter.mpr ⟨List.mem_of_getElem? (i := 392) rfl, rfl⟩
set_option maxRecDepth 20000 in
theorem q_393 : (Cond.superclass "MusicBoxes$Comb" "java/lang/Object") ∈ lw_ok := List.mem_filter.mpr ⟨List.mem_of_getElem? (i := 393) rfl, rfl⟩
set_option maxRecDepth 20000 in
theorem q_394 : (Cond.methodLink "MusicBoxesLaw" 66 ⟨"MusicBoxes", "drop", "(I)I"⟩) ∈ lw_ok := List.mem_filter.mpr ⟨List.mem_of_getElem? (i := 394) rfl, rfl⟩
set_option maxRecDepth 20000 in
theorem q_395 : (Cond.instanceMethod ⟨"MusicBoxes", "drop", "(I)I"⟩) ∈ lw_ok := List.mem_filter.mpr ⟨List.mem_of_getElem? (i := 395) rfl, rfl⟩
set_option maxRecDepth 20000 in
theorem q_396 : (Cond.selects "MusicBoxes" ⟨"MusicBoxes", "drop", "(I)I"⟩ ⟨"MusicBoxes", "drop", "(I)I"⟩) ∈ lw_ok := List.mem_filter.mpr ⟨List.mem_of_getElem? (i := 396) rfl, rfl⟩
set_option maxRecDepth 20000 in
theorem q_397 : (Cond.code ⟨"MusicBoxes", "drop", "(I)I"⟩ prog_1_method_14_code 3 (Option.some Jvm.ClassFile.FieldType.int)) ∈ lw_ok := List.mem_filter.mpr ⟨List.mem_of_getElem? (i := 397) rfl, rfl⟩
set_option maxRecDepth 20000 in
theorem q_398 : (Cond.methodLink "MusicBoxes" 96 ⟨"MusicBoxes", "combOf", "(I)LMusicBoxes$Comb;"⟩) ∈ lw_ok := List.mem_filter.mpr ⟨List.mem_of_getElem? (i := 398) rfl, rfl⟩
set_option maxRecDepth 20000 in
theorem q_399 : (Cond.privateMethod ⟨"MusicBoxes", "combOf", "(I)LMusicBoxes$Comb;"⟩) ∈ lw_tbl := List.mem_of_getElem? (i := 399) rfl
set_option maxRecDepth 20000 in
theorem q_400 : (Cond.instanceMethod ⟨"MusicBoxes", "combOf", "(I)LMusicBoxes$Comb;"⟩) ∈ lw_ok := List.mem_filter.mpr ⟨List.mem_of_getElem? (i := 400) rfl, rfl⟩
set_option maxRecDepth 20000 in
theorem q_401 : (Cond.code ⟨"MusicBoxes", "combOf", "(I)LMusicBoxes$Comb;"⟩ prog_1_method_29_code 2 (Option.some (Jvm.ClassFile.FieldType.object "MusicBoxes$Comb"))) ∈ lw_ok := List.mem_filter.mpr ⟨List.mem_of_getElem? (i := 401) rfl, rfl⟩
set_option maxRecDepth 20000 in
theorem q_402 : (Cond.methodLink "MusicBoxesLaw" 70 ⟨"MusicBoxes", "about", "(II)I"⟩) ∈ lw_ok := List.mem_filter.mpr ⟨List.mem_of_getElem? (i := 402) rfl, rfl⟩
set_option maxRecDepth 20000 in
theorem q_403 : (Cond.instanceMethod ⟨"MusicBoxes", "about", "(II)I"⟩) ∈ lw_ok := List.mem_filter.mpr ⟨List.mem_of_getElem? (i := 403) rfl, rfl⟩
set_option maxRecDepth 20000 in
theorem q_404 : (Cond.selects "MusicBoxes" ⟨"MusicBoxes", "about", "(II)I"⟩ ⟨"MusicBoxes", "about", "(II)I"⟩) ∈ lw_ok := List.mem_filter.mpr ⟨List.mem_of_getElem? (i := 404) rfl, rfl⟩
set_option maxRecDepth 20000 in
theorem q_405 : (Cond.code ⟨"MusicBoxes", "about", "(II)I"⟩ prog_1_method_15_code 4 (Option.some Jvm.ClassFile.FieldType.int)) ∈ lw_ok := List.mem_filter.mpr ⟨List.mem_of_getElem? (i := 405) rfl, rfl⟩
set_option maxRecDepth 20000 in
theorem q_406 : (Cond.methodLink "MusicBoxes" 100 ⟨"MusicBoxes$Comb", "tell", "(I)I"⟩) ∈ lw_ok := List.mem_filter.mpr ⟨List.mem_of_getElem? (i := 406) rfl, rfl⟩
set_option maxRecDepth 20000 in
theorem q_407 : (Cond.instanceMethod ⟨"MusicBoxes$Comb", "tell", "(I)I"⟩) ∈ lw_ok := List.mem_filter.mpr ⟨List.mem_of_getElem? (i := 407) rfl, rfl⟩
set_option maxRecDepth 20000 in
theorem q_408 : (Cond.selects "MusicBoxes$Comb" ⟨"MusicBoxes$Comb", "tell", "(I)I"⟩ ⟨"MusicBoxes$Comb", "tell", "(I)I"⟩) ∈ lw_ok := List.mem_filter.mpr ⟨List.mem_of_getElem? (i := 408) rfl, rfl⟩
set_option maxRecDepth 20000 in
theorem q_409 : (Cond.code ⟨"MusicBoxes$Comb", "tell", "(I)I"⟩ prog_3_method_2_code 2 (Option.some Jvm.ClassFile.FieldType.int)) ∈ lw_ok := List.mem_filter.mpr ⟨List.mem_of_getElem? (i := 409) rfl, rfl⟩
set_option maxRecDepth 20000 in
theorem q_410 : (Cond.methodLink "MusicBoxes$Comb" 19 ⟨"MusicBoxes$Comb", "countLacking", "()I"⟩) ∈ lw_ok := List.mem_filter.mpr ⟨List.mem_of_getElem? (i := 410) rfl, rfl⟩
set_option maxRecDepth 20000 in
theorem q_411 : (Cond.privateMethod ⟨"MusicBoxes$Comb", "countLacking", "()I"⟩) ∈ lw_tbl := List.mem_of_getElem? (i := 411) rfl
set_option maxRecDepth 20000 in
theorem q_412 : (Cond.instanceMethod ⟨"MusicBoxes$Comb", "countLacking", "()I"⟩) ∈ lw_ok := List.mem_filter.mpr ⟨List.mem_of_getElem? (i := 412) rfl, rfl⟩
set_option maxRecDepth 20000 in
theorem q_413 : (Cond.code ⟨"MusicBoxes$Comb", "countLacking", "()I"⟩ prog_3_method_3_code 3 (Option.some Jvm.ClassFile.FieldType.int)) ∈ lw_ok := List.mem_filter.mpr ⟨List.mem_of_getElem? (i := 413) rfl, rfl⟩
set_option maxRecDepth 20000 in
theorem q_414 : (Cond.methodLink "MusicBoxes$Comb" 23 ⟨"MusicBoxes$Comb", "countPlaces", "()I"⟩) ∈ lw_ok := List.mem_filter.mpr ⟨List.mem_of_getElem? (i := 414) rfl, rfl⟩
set_option maxRecDepth 20000 in
theorem q_415 : (Cond.privateMethod ⟨"MusicBoxes$Comb", "countPlaces", "()I"⟩) ∈ lw_tbl := List.mem_of_getElem? (i := 415) rfl
set_option maxRecDepth 20000 in
theorem q_416 : (Cond.instanceMethod ⟨"MusicBoxes$Comb", "countPlaces", "()I"⟩) ∈ lw_ok := List.mem_filter.mpr ⟨List.mem_of_getElem? (i := 416) rfl, rfl⟩
set_option maxRecDepth 20000 in
theorem q_417 : (Cond.code ⟨"MusicBoxes$Comb", "countPlaces", "()I"⟩ prog_3_method_4_code 4 (Option.some Jvm.ClassFile.FieldType.int)) ∈ lw_ok := List.mem_filter.mpr ⟨List.mem_of_getElem? (i := 417) rfl, rfl⟩
set_option maxRecDepth 20000 in
theorem q_418 : (Cond.methodLink "MusicBoxesLaw" 74 ⟨"MusicBoxes", "loosen", "(II)I"⟩) ∈ lw_ok := List.mem_filter.mpr ⟨List.mem_of_getElem? (i := 418) rfl, rfl⟩
set_option maxRecDepth 20000 in
theorem q_419 : (Cond.instanceMethod ⟨"MusicBoxes", "loosen", "(II)I"⟩) ∈ lw_ok := List.mem_filter.mpr ⟨List.mem_of_getElem? (i := 419) rfl, rfl⟩
set_option maxRecDepth 20000 in
theorem q_420 : (Cond.selects "MusicBoxes" ⟨"MusicBoxes", "loosen", "(II)I"⟩ ⟨"MusicBoxes", "loosen", "(II)I"⟩) ∈ lw_ok := List.mem_filter.mpr ⟨List.mem_of_getElem? (i := 420) rfl, rfl⟩
set_option maxRecDepth 20000 in
theorem q_421 : (Cond.code ⟨"MusicBoxes", "loosen", "(II)I"⟩ prog_1_method_16_code 5 (Option.some Jvm.ClassFile.FieldType.int)) ∈ lw_ok := List.mem_filter.mpr ⟨List.mem_of_getElem? (i := 421) rfl, rfl⟩
set_option maxRecDepth 20000 in
theorem q_422 : (Cond.methodLink "MusicBoxes" 103 ⟨"MusicBoxes", "combWithTooth", "(II)LMusicBoxes$Comb;"⟩) ∈ lw_ok := List.mem_filter.mpr ⟨List.mem_of_getElem? (i := 422) rfl, rfl⟩
set_option maxRecDepth 20000 in
theorem q_423 : (Cond.privateMethod ⟨"MusicBoxes", "combWithTooth", "(II)LMusicBoxes$Comb;"⟩) ∈ lw_tbl := List.mem_of_getElem? (i := 423) rfl
set_option maxRecDepth 20000 in
theorem q_424 : (Cond.instanceMethod ⟨"MusicBoxes", "combWithTooth", "(II)LMusicBoxes$Comb;"⟩) ∈ lw_ok := List.mem_filter.mpr ⟨List.mem_of_getElem? (i := 424) rfl, rfl⟩
set_option maxRecDepth 20000 in
theorem q_425 : (Cond.code ⟨"MusicBoxes", "combWithTooth", "(II)LMusicBoxes$Comb;"⟩ prog_1_method_30_code 4 (Option.some (Jvm.ClassFile.FieldType.object "MusicBoxes$Comb"))) ∈ lw_ok := List.mem_filter.mpr ⟨List.mem_of_getElem? (i := 425) rfl, rfl⟩
set_option maxRecDepth 20000 in
theorem q_426 : (Cond.methodLink "MusicBoxesLaw" 78 ⟨"MusicBoxes", "hang", "(III)I"⟩) ∈ lw_ok := List.mem_filter.mpr ⟨List.mem_of_getElem? (i := 426) rfl, rfl⟩
set_option maxRecDepth 20000 in
theorem q_427 : (Cond.instanceMethod ⟨"MusicBoxes", "hang", "(III)I"⟩) ∈ lw_ok := List.mem_filter.mpr ⟨List.mem_of_getElem? (i := 427) rfl, rfl⟩
set_option maxRecDepth 20000 in
theorem q_428 : (Cond.selects "MusicBoxes" ⟨"MusicBoxes", "hang", "(III)I"⟩ ⟨"MusicBoxes", "hang", "(III)I"⟩) ∈ lw_ok := List.mem_filter.mpr ⟨List.mem_of_getElem? (i := 428) rfl, rfl⟩
set_option maxRecDepth 20000 in
theorem q_429 : (Cond.code ⟨"MusicBoxes", "hang", "(III)I"⟩ prog_1_method_17_code 6 (Option.some Jvm.ClassFile.FieldType.int)) ∈ lw_ok := List.mem_filter.mpr ⟨List.mem_of_getElem? (i := 429) rfl, rfl⟩
set_option maxRecDepth 20000 in
theorem q_430 : (Cond.methodLink "MusicBoxesLaw" 82 ⟨"MusicBoxes", "fit", "(III)I"⟩) ∈ lw_ok := List.mem_filter.mpr ⟨List.mem_of_getElem? (i := 430) rfl, rfl⟩
set_option maxRecDepth 20000 in
theorem q_431 : (Cond.instanceMethod ⟨"MusicBoxes", "fit", "(III)I"⟩) ∈ lw_ok := List.mem_filter.mpr ⟨List.mem_of_getElem? (i := 431) rfl, rfl⟩
set_option maxRecDepth 20000 in
theorem q_432 : (Cond.selects "MusicBoxes" ⟨"MusicBoxes", "fit", "(III)I"⟩ ⟨"MusicBoxes", "fit", "(III)I"⟩) ∈ lw_ok := List.mem_filter.mpr ⟨List.mem_of_getElem? (i := 432) rfl, rfl⟩
set_option maxRecDepth 20000 in
theorem q_433 : (Cond.code ⟨"MusicBoxes", "fit", "(III)I"⟩ prog_1_method_18_code 6 (Option.some Jvm.ClassFile.FieldType.int)) ∈ lw_ok := List.mem_filter.mpr ⟨List.mem_of_getElem? (i := 433) rfl, rfl⟩
set_option maxRecDepth 20000 in
theorem q_434 : (Cond.methodLink "MusicBoxesLaw" 86 ⟨"MusicBoxes", "cell", "(III)I"⟩) ∈ lw_ok := List.mem_filter.mpr ⟨List.mem_of_getElem? (i := 434) rfl, rfl⟩
set_option maxRecDepth 20000 in
theorem q_435 : (Cond.instanceMethod ⟨"MusicBoxes", "cell", "(III)I"⟩) ∈ lw_ok := List.mem_filter.mpr ⟨List.mem_of_getElem? (i := 435) rfl, rfl⟩
set_option maxRecDepth 20000 in
theorem q_436 : (Cond.selects "MusicBoxes" ⟨"MusicBoxes", "cell", "(III)I"⟩ ⟨"MusicBoxes", "cell", "(III)I"⟩) ∈ lw_ok := List.mem_filter.mpr ⟨List.mem_of_getElem? (i := 436) rfl, rfl⟩
set_option maxRecDepth 20000 in
theorem q_437 : (Cond.code ⟨"MusicBoxes", "cell", "(III)I"⟩ prog_1_method_19_code 4 (Option.some Jvm.ClassFile.FieldType.int)) ∈ lw_ok := List.mem_filter.mpr ⟨List.mem_of_getElem? (i := 437) rfl, rfl⟩
set_option maxRecDepth 20000 in
theorem q_438 : (Cond.methodLink "MusicBoxes" 110 ⟨"MusicBoxes", "trackOfTooth", "(II)LMusicBoxes$Track;"⟩) ∈ lw_ok := List.mem_filter.mpr ⟨List.mem_of_getElem? (i := 438) rfl, rfl⟩
set_option maxRecDepth 20000 in
theorem q_439 : (Cond.privateMethod ⟨"MusicBoxes", "trackOfTooth", "(II)LMusicBoxes$Track;"⟩) ∈ lw_tbl := List.mem_of_getElem? (i := 439) rfl
set_option maxRecDepth 20000 in
theorem q_440 : (Cond.instanceMethod ⟨"MusicBoxes", "trackOfTooth", "(II)LMusicBoxes$Track;"⟩) ∈ lw_ok := List.mem_filter.mpr ⟨List.mem_of_getElem? (i := 440) rfl, rfl⟩
set_option maxRecDepth 20000 in
theorem q_441 : (Cond.code ⟨"MusicBoxes", "trackOfTooth", "(II)LMusicBoxes$Track;"⟩ prog_1_method_32_code 4 (Option.some (Jvm.ClassFile.FieldType.object "MusicBoxes$Track"))) ∈ lw_ok := List.mem_filter.mpr ⟨List.mem_of_getElem? (i := 441) rfl, rfl⟩
set_option maxRecDepth 20000 in
theorem q_442 : (Cond.methodLink "MusicBoxesLaw" 90 ⟨"MusicBoxes", "set", "(IIII)I"⟩) ∈ lw_ok := List.mem_filter.mpr ⟨List.mem_of_getElem? (i := 442) rfl, rfl⟩
set_option maxRecDepth 20000 in
theorem q_443 : (Cond.instanceMethod ⟨"MusicBoxes", "set", "(IIII)I"⟩) ∈ lw_ok := List.mem_filter.mpr ⟨List.mem_of_getElem? (i := 443) rfl, rfl⟩
set_option maxRecDepth 20000 in
theorem q_444 : (Cond.selects "MusicBoxes" ⟨"MusicBoxes", "set", "(IIII)I"⟩ ⟨"MusicBoxes", "set", "(IIII)I"⟩) ∈ lw_ok := List.mem_filter.mpr ⟨List.mem_of_getElem? (i := 444) rfl, rfl⟩
set_option maxRecDepth 20000 in
theorem q_445 : (Cond.code ⟨"MusicBoxes", "set", "(IIII)I"⟩ prog_1_method_20_code 5 (Option.some Jvm.ClassFile.FieldType.int)) ∈ lw_ok := List.mem_filter.mpr ⟨List.mem_of_getElem? (i := 445) rfl, rfl⟩
set_option maxRecDepth 20000 in
theorem q_446 : (Cond.methodLink "MusicBoxesLaw" 94 ⟨"MusicBoxes", "twist", "(IIII)I"⟩) ∈ lw_ok := List.mem_filter.mpr ⟨List.mem_of_getElem? (i := 446) rfl, rfl⟩
set_option maxRecDepth 20000 in
theorem q_447 : (Cond.instanceMethod ⟨"MusicBoxes", "twist", "(IIII)I"⟩) ∈ lw_ok := List.mem_filter.mpr ⟨List.mem_of_getElem? (i := 447) rfl, rfl⟩
set_option maxRecDepth 20000 in
theorem q_448 : (Cond.selects "MusicBoxes" ⟨"MusicBoxes", "twist", "(IIII)I"⟩ ⟨"MusicBoxes", "twist", "(IIII)I"⟩) ∈ lw_ok := List.mem_filter.mpr ⟨List.mem_of_getElem? (i := 448) rfl, rfl⟩
set_option maxRecDepth 20000 in
theorem q_449 : (Cond.code ⟨"MusicBoxes", "twist", "(IIII)I"⟩ prog_1_method_21_code 5 (Option.some Jvm.ClassFile.FieldType.int)) ∈ lw_ok := List.mem_filter.mpr ⟨List.mem_of_getElem? (i := 449) rfl, rfl⟩
set_option maxRecDepth 20000 in
theorem q_450 : (Cond.methodLink "MusicBoxesLaw" 98 ⟨"MusicBoxes", "state", "()I"⟩) ∈ lw_ok := List.mem_filter.mpr ⟨List.mem_of_getElem? (i := 450) rfl, rfl⟩
set_option maxRecDepth 20000 in
theorem q_451 : (Cond.instanceMethod ⟨"MusicBoxes", "state", "()I"⟩) ∈ lw_ok := List.mem_filter.mpr ⟨List.mem_of_getElem? (i := 451) rfl, rfl⟩
set_option maxRecDepth 20000 in
theorem q_452 : (Cond.selects "MusicBoxes" ⟨"MusicBoxes", "state", "()I"⟩ ⟨"MusicBoxes", "state", "()I"⟩) ∈ lw_ok := List.mem_filter.mpr ⟨List.mem_of_getElem? (i := 452) rfl, rfl⟩
set_option maxRecDepth 20000 in
theorem q_453 : (Cond.code ⟨"MusicBoxes", "state", "()I"⟩ prog_1_method_22_code 1 (Option.some Jvm.ClassFile.FieldType.int)) ∈ lw_ok := List.mem_filter.mpr ⟨List.mem_of_getElem? (i := 453) rfl, rfl⟩
set_option maxRecDepth 20000 in
theorem q_454 : (Cond.classLink "MusicBoxesLaw" 10 "MusicBoxesModel") ∈ lw_ok := List.mem_filter.mpr ⟨List.mem_of_getElem? (i := 454) rfl, rfl⟩
set_option maxRecDepth 20000 in
theorem q_455 : (Cond.instantiable "MusicBoxesModel" 15) ∈ lw_ok := List.mem_filter.mpr ⟨List.mem_of_getElem? (i := 455) rfl, rfl⟩
set_option maxRecDepth 20000 in
theorem q_456 : (Cond.methodLink "MusicBoxesLaw" 12 ⟨"MusicBoxesModel", "<init>", "()V"⟩) ∈ lw_ok := List.mem_filter.mpr ⟨List.mem_of_getElem? (i := 456) rfl, rfl⟩
set_option maxRecDepth 20000 in
theorem q_457 : (Cond.instanceMethod ⟨"MusicBoxesModel", "<init>", "()V"⟩) ∈ lw_ok := List.mem_filter.mpr ⟨List.mem_of_getElem? (i := 457) rfl, rfl⟩
set_option maxRecDepth 20000 in
theorem q_458 : (Cond.code ⟨"MusicBoxesModel", "<init>", "()V"⟩ prog_11_method_1_code 2 (Option.none : Option Jvm.ClassFile.FieldType)) ∈ lw_ok := List.mem_filter.mpr ⟨List.mem_of_getElem? (i := 458) rfl, rfl⟩
set_option maxRecDepth 20000 in
theorem q_459 : (Cond.methodLink "MusicBoxesModel" 1 ⟨"java/lang/Object", "<init>", "()V"⟩) ∈ lw_ok := List.mem_filter.mpr ⟨List.mem_of_getElem? (i := 459) rfl, rfl⟩
set_option maxRecDepth 20000 in
theorem q_460 : (Cond.constant "MusicBoxesModel" 7 (60600 : Int32)) ∈ lw_ok := List.mem_filter.mpr ⟨List.mem_of_getElem? (i := 460) rfl, rfl⟩
set_option maxRecDepth 20000 in
theorem q_461 : (Cond.fieldLink "MusicBoxesModel" 8 "MusicBoxesModel" "cell" "[I") ∈ lw_ok := List.mem_filter.mpr ⟨List.mem_of_getElem? (i := 461) rfl, rfl⟩
set_option maxRecDepth 20000 in
theorem q_462 : (Cond.fieldLink "MusicBoxesModel" 14 "MusicBoxesModel" "size" "[I") ∈ lw_ok := List.mem_filter.mpr ⟨List.mem_of_getElem? (i := 462) rfl, rfl⟩
set_option maxRecDepth 20000 in
theorem q_463 : (Cond.fieldLink "MusicBoxesModel" 17 "MusicBoxesModel" "uses" "[I") ∈ lw_ok := List.mem_filter.mpr ⟨List.mem_of_getElem? (i := 463) rfl, rfl⟩
set_option maxRecDepth 20000 in
theorem q_464 : (Cond.fieldLink "MusicBoxesModel" 20 "MusicBoxesModel" "drums" "[I") ∈ lw_ok := List.mem_filter.mpr ⟨List.mem_of_getElem? (i := 464) rfl, rfl⟩
set_option maxRecDepth 20000 in
theorem q_465 : (Cond.fieldLink "MusicBoxesModel" 23 "MusicBoxesModel" "teeth" "[I") ∈ lw_ok := List.mem_filter.mpr ⟨List.mem_of_getElem? (i := 465) rfl, rfl⟩
set_option maxRecDepth 20000 in
theorem q_466 : (Cond.fieldLink "MusicBoxesModel" 26 "MusicBoxesModel" "combKind" "[I") ∈ lw_ok := List.mem_filter.mpr ⟨List.mem_of_getElem? (i := 466) rfl, rfl⟩
set_option maxRecDepth 20000 in
theorem q_467 : (Cond.fieldLink "MusicBoxesModel" 29 "MusicBoxesModel" "combTeeth" "[I") ∈ lw_ok := List.mem_filter.mpr ⟨List.mem_of_getElem? (i := 467) rfl, rfl⟩
set_option maxRecDepth 20000 in
theorem q_468 : (Cond.fieldLink "MusicBoxesModel" 32 "MusicBoxesModel" "heads" "[I") ∈ lw_ok := List.mem_filter.mpr ⟨List.mem_of_getElem? (i := 468) rfl, rfl⟩
set_option maxRecDepth 20000 in
theorem q_469 : (Cond.fieldLink "MusicBoxesModel" 35 "MusicBoxesModel" "notes" "[I") ∈ lw_ok := List.mem_filter.mpr ⟨List.mem_of_getElem? (i := 469) rfl, rfl⟩
set_option maxRecDepth 20000 in
theorem q_470 : (Cond.fieldLink "MusicBoxesModel" 38 "MusicBoxesModel" "played" "[I") ∈ lw_ok := List.mem_filter.mpr ⟨List.mem_of_getElem? (i := 470) rfl, rfl⟩
set_option maxRecDepth 20000 in
theorem q_471 : (Cond.fieldLink "MusicBoxesModel" 41 "MusicBoxesModel" "gaps" "[I") ∈ lw_ok := List.mem_filter.mpr ⟨List.mem_of_getElem? (i := 471) rfl, rfl⟩
set_option maxRecDepth 20000 in
theorem q_472 : (Cond.fieldLink "MusicBoxesModel" 44 "MusicBoxesModel" "weights" "[J") ∈ lw_ok := List.mem_filter.mpr ⟨List.mem_of_getElem? (i := 472) rfl, rfl⟩
set_option maxRecDepth 20000 in
theorem q_473 : (Cond.fieldLink "MusicBoxesModel" 48 "MusicBoxesModel" "highest" "[I") ∈ lw_ok := List.mem_filter.mpr ⟨List.mem_of_getElem? (i := 473) rfl, rfl⟩
set_option maxRecDepth 20000 in
theorem q_474 : (Cond.fieldLink "MusicBoxesModel" 51 "MusicBoxesModel" "loudest" "[I") ∈ lw_ok := List.mem_filter.mpr ⟨List.mem_of_getElem? (i := 474) rfl, rfl⟩
set_option maxRecDepth 20000 in
theorem q_475 : (Cond.fieldLink "MusicBoxesModel" 54 "MusicBoxesModel" "state" "I") ∈ lw_ok := List.mem_filter.mpr ⟨List.mem_of_getElem? (i := 475) rfl, rfl⟩
set_option maxRecDepth 20000 in
theorem q_476 : (Cond.laysFinal "MusicBoxesModel" "MusicBoxesModel" "cell" "[I") ∈ lw_ok := List.mem_filter.mpr ⟨List.mem_of_getElem? (i := 476) rfl, rfl⟩
set_option maxRecDepth 20000 in
theorem q_477 : (Cond.soleField "MusicBoxesModel" "cell") ∈ lw_ok := List.mem_filter.mpr ⟨List.mem_of_getElem? (i := 477) rfl, rfl⟩
set_option maxRecDepth 20000 in
theorem q_478 : (Cond.laysFinal "MusicBoxesModel" "MusicBoxesModel" "size" "[I") ∈ lw_ok := List.mem_filter.mpr ⟨List.mem_of_getElem? (i := 478) rfl, rfl⟩
set_option maxRecDepth 20000 in
theorem q_479 : (Cond.soleField "MusicBoxesModel" "size") ∈ lw_ok := List.mem_filter.mpr ⟨List.mem_of_getElem? (i := 479) rfl, rfl⟩
set_option maxRecDepth 20000 in
theorem q_480 : (Cond.laysFinal "MusicBoxesModel" "MusicBoxesModel" "uses" "[I") ∈ lw_ok := List.mem_filter.mpr ⟨List.mem_of_getElem? (i := 480) rfl, rfl⟩
set_option maxRecDepth 20000 in
theorem q_481 : (Cond.soleField "MusicBoxesModel" "uses") ∈ lw_ok := List.mem_filter.mpr ⟨List.mem_of_getElem? (i := 481) rfl, rfl⟩
set_option maxRecDepth 20000 in
theorem q_482 : (Cond.laysFinal "MusicBoxesModel" "MusicBoxesModel" "drums" "[I") ∈ lw_ok := List.mem_filter.mpr ⟨List.mem_of_getElem? (i := 482) rfl, rfl⟩
set_option maxRecDepth 20000 in
theorem q_483 : (Cond.soleField "MusicBoxesModel" "drums") ∈ lw_ok := List.mem_filter.mpr ⟨List.mem_of_getElem? (i := 483) rfl, rfl⟩
set_option maxRecDepth 20000 in
theorem q_484 : (Cond.laysFinal "MusicBoxesModel" "MusicBoxesModel" "teeth" "[I") ∈ lw_ok := List.mem_filter.mpr ⟨List.mem_of_getElem? (i := 484) rfl, rfl⟩
set_option maxRecDepth 20000 in
theorem q_485 : (Cond.soleField "MusicBoxesModel" "teeth") ∈ lw_ok := List.mem_filter.mpr ⟨List.mem_of_getElem? (i := 485) rfl, rfl⟩
set_option maxRecDepth 20000 in
theorem q_486 : (Cond.laysFinal "MusicBoxesModel" "MusicBoxesModel" "combKind" "[I") ∈ lw_ok := List.mem_filter.mpr ⟨List.mem_of_getElem? (i := 486) rfl, rfl⟩
set_option maxRecDepth 20000 in
theorem q_487 : (Cond.soleField "MusicBoxesModel" "combKind") ∈ lw_ok := List.mem_filter.mpr ⟨List.mem_of_getElem? (i := 487) rfl, rfl⟩
set_option maxRecDepth 20000 in
theorem q_488 : (Cond.laysFinal "MusicBoxesModel" "MusicBoxesModel" "combTeeth" "[I") ∈ lw_ok := List.mem_filter.mpr ⟨List.mem_of_getElem? (i := 488) rfl, rfl⟩
set_option maxRecDepth 20000 in
theorem q_489 : (Cond.soleField "MusicBoxesModel" "combTeeth") ∈ lw_ok := List.mem_filter.mpr ⟨List.mem_of_getElem? (i := 489) rfl, rfl⟩
set_option maxRecDepth 20000 in
theorem q_490 : (Cond.laysFinal "MusicBoxesModel" "MusicBoxesModel" "heads" "[I") ∈ lw_ok := List.mem_filter.mpr ⟨List.mem_of_getElem? (i := 490) rfl, rfl⟩
set_option maxRecDepth 20000 in
theorem q_491 : (Cond.soleField "MusicBoxesModel" "heads") ∈ lw_ok := List.mem_filter.mpr ⟨List.mem_of_getElem? (i := 491) rfl, rfl⟩
set_option maxRecDepth 20000 in
theorem q_492 : (Cond.laysFinal "MusicBoxesModel" "MusicBoxesModel" "notes" "[I") ∈ lw_ok := List.mem_filter.mpr ⟨List.mem_of_getElem? (i := 492) rfl, rfl⟩
set_option maxRecDepth 20000 in
theorem q_493 : (Cond.soleField "MusicBoxesModel" "notes") ∈ lw_ok := List.mem_filter.mpr ⟨List.mem_of_getElem? (i := 493) rfl, rfl⟩
set_option maxRecDepth 20000 in
theorem q_494 : (Cond.laysFinal "MusicBoxesModel" "MusicBoxesModel" "played" "[I") ∈ lw_ok := List.mem_filter.mpr ⟨List.mem_of_getElem? (i := 494) rfl, rfl⟩
set_option maxRecDepth 20000 in
theorem q_495 : (Cond.soleField "MusicBoxesModel" "played") ∈ lw_ok := List.mem_filter.mpr ⟨List.mem_of_getElem? (i := 495) rfl, rfl⟩
set_option maxRecDepth 20000 in
theorem q_496 : (Cond.laysFinal "MusicBoxesModel" "MusicBoxesModel" "gaps" "[I") ∈ lw_ok := List.mem_filter.mpr ⟨List.mem_of_getElem? (i := 496) rfl, rfl⟩
set_option maxRecDepth 20000 in
theorem q_497 : (Cond.soleField "MusicBoxesModel" "gaps") ∈ lw_ok := List.mem_filter.mpr ⟨List.mem_of_getElem? (i := 497) rfl, rfl⟩
set_option maxRecDepth 20000 in
theorem q_498 : (Cond.laysFinal "MusicBoxesModel" "MusicBoxesModel" "weights" "[J") ∈ lw_ok := List.mem_filter.mpr ⟨List.mem_of_getElem? (i := 498) rfl, rfl⟩
set_option maxRecDepth 20000 in
theorem q_499 : (Cond.soleField "MusicBoxesModel" "weights") ∈ lw_ok := List.mem_filter.mpr ⟨List.mem_of_getElem? (i := 499) rfl, rfl⟩
set_option maxRecDepth 20000 in
theorem q_500 : (Cond.laysFinal "MusicBoxesModel" "MusicBoxesModel" "highest" "[I") ∈ lw_ok := List.mem_filter.mpr ⟨List.mem_of_getElem? (i := 500) rfl, rfl⟩
set_option maxRecDepth 20000 in
theorem q_501 : (Cond.soleField "MusicBoxesModel" "highest") ∈ lw_ok := List.mem_filter.mpr ⟨List.mem_of_getElem? (i := 501) rfl, rfl⟩
set_option maxRecDepth 20000 in
theorem q_502 : (Cond.laysFinal "MusicBoxesModel" "MusicBoxesModel" "loudest" "[I") ∈ lw_ok := List.mem_filter.mpr ⟨List.mem_of_getElem? (i := 502) rfl, rfl⟩
set_option maxRecDepth 20000 in
theorem q_503 : (Cond.soleField "MusicBoxesModel" "loudest") ∈ lw_ok := List.mem_filter.mpr ⟨List.mem_of_getElem? (i := 503) rfl, rfl⟩
set_option maxRecDepth 20000 in
theorem q_504 : (Cond.lays "MusicBoxesModel" "MusicBoxesModel" "state" "I") ∈ lw_ok := List.mem_filter.mpr ⟨List.mem_of_getElem? (i := 504) rfl, rfl⟩
set_option maxRecDepth 20000 in
theorem q_505 : (Cond.soleField "MusicBoxesModel" "state") ∈ lw_ok := List.mem_filter.mpr ⟨List.mem_of_getElem? (i := 505) rfl, rfl⟩
set_option maxRecDepth 20000 in
theorem q_506 : (Cond.superclass "MusicBoxesModel" "java/lang/Object") ∈ lw_ok := List.mem_filter.mpr ⟨List.mem_of_getElem? (i := 506) rfl, rfl⟩
set_option maxRecDepth 20000 in
theorem q_507 : (Cond.arrayClass Jvm.ClassFile.FieldType.int) ∈ lw_ok := List.mem_filter.mpr ⟨List.mem_of_getElem? (i := 507) rfl, rfl⟩
set_option maxRecDepth 20000 in
theorem q_508 : (Cond.arrayClass Jvm.ClassFile.FieldType.long) ∈ lw_ok := List.mem_filter.mpr ⟨List.mem_of_getElem? (i := 508) rfl, rfl⟩
set_option maxRecDepth 20000 in
theorem q_509 : (Cond.methodLink "MusicBoxesLaw" 17 ⟨"MusicBoxesModel", "cut", "(III)I"⟩) ∈ lw_ok := List.mem_filter.mpr ⟨List.mem_of_getElem? (i := 509) rfl, rfl⟩
set_option maxRecDepth 20000 in
theorem q_510 : (Cond.instanceMethod ⟨"MusicBoxesModel", "cut", "(III)I"⟩) ∈ lw_ok := List.mem_filter.mpr ⟨List.mem_of_getElem? (i := 510) rfl, rfl⟩
set_option maxRecDepth 20000 in
theorem q_511 : (Cond.selects "MusicBoxesModel" ⟨"MusicBoxesModel", "cut", "(III)I"⟩ ⟨"MusicBoxesModel", "cut", "(III)I"⟩) ∈ lw_ok := List.mem_filter.mpr ⟨List.mem_of_getElem? (i := 511) rfl, rfl⟩
set_option maxRecDepth 20000 in
theorem q_512 : (Cond.code ⟨"MusicBoxesModel", "cut", "(III)I"⟩ prog_11_method_16_code 4 (Option.some Jvm.ClassFile.FieldType.int)) ∈ lw_ok := List.mem_filter.mpr ⟨List.mem_of_getElem? (i := 512) rfl, rfl⟩
set_option maxRecDepth 20000 in
theorem q_513 : (Cond.methodLink "MusicBoxesModel" 90 ⟨"MusicBoxesModel", "isDrum", "(I)Z"⟩) ∈ lw_ok := List.mem_filter.mpr ⟨List.mem_of_getElem? (i := 513) rfl, rfl⟩
set_option maxRecDepth 20000 in
theorem q_514 : (Cond.static ⟨"MusicBoxesModel", "isDrum", "(I)Z"⟩) ∈ lw_ok := List.mem_filter.mpr ⟨List.mem_of_getElem? (i := 514) rfl, rfl⟩
set_option maxRecDepth 20000 in
theorem q_515 : (Cond.code ⟨"MusicBoxesModel", "isDrum", "(I)Z"⟩ prog_11_method_4_code 1 (Option.some Jvm.ClassFile.FieldType.boolean)) ∈ lw_ok := List.mem_filter.mpr ⟨List.mem_of_getElem? (i := 515) rfl, rfl⟩
set_option maxRecDepth 20000 in
theorem q_516 : (Cond.methodLink "MusicBoxesModel" 58 ⟨"MusicBoxesModel", "in", "(III)Z"⟩) ∈ lw_ok := List.mem_filter.mpr ⟨List.mem_of_getElem? (i := 516) rfl, rfl⟩
set_option maxRecDepth 20000 in
theorem q_517 : (Cond.static ⟨"MusicBoxesModel", "in", "(III)Z"⟩) ∈ lw_ok := List.mem_filter.mpr ⟨List.mem_of_getElem? (i := 517) rfl, rfl⟩
set_option maxRecDepth 20000 in
theorem q_518 : (Cond.code ⟨"MusicBoxesModel", "in", "(III)Z"⟩ prog_11_method_3_code 3 (Option.some Jvm.ClassFile.FieldType.boolean)) ∈ lw_ok := List.mem_filter.mpr ⟨List.mem_of_getElem? (i := 518) rfl, rfl⟩
set_option maxRecDepth 20000 in
theorem q_519 : (Cond.methodLink "MusicBoxesModel" 93 ⟨"MusicBoxesModel", "isKind", "(I)Z"⟩) ∈ lw_ok := List.mem_filter.mpr ⟨List.mem_of_getElem? (i := 519) rfl, rfl⟩
set_option maxRecDepth 20000 in
theorem q_520 : (Cond.static ⟨"MusicBoxesModel", "isKind", "(I)Z"⟩) ∈ lw_ok := List.mem_filter.mpr ⟨List.mem_of_getElem? (i := 520) rfl, rfl⟩
set_option maxRecDepth 20000 in
theorem q_521 : (Cond.code ⟨"MusicBoxesModel", "isKind", "(I)Z"⟩ prog_11_method_5_code 1 (Option.some Jvm.ClassFile.FieldType.boolean)) ∈ lw_ok := List.mem_filter.mpr ⟨List.mem_of_getElem? (i := 521) rfl, rfl⟩
set_option maxRecDepth 20000 in
theorem q_522 : (Cond.methodLink "MusicBoxesModel" 96 ⟨"MusicBoxesModel", "told", "(I)I"⟩) ∈ lw_ok := List.mem_filter.mpr ⟨List.mem_of_getElem? (i := 522) rfl, rfl⟩
set_option maxRecDepth 20000 in
theorem q_523 : (Cond.privateMethod ⟨"MusicBoxesModel", "told", "(I)I"⟩) ∈ lw_tbl := List.mem_of_getElem? (i := 523) rfl
set_option maxRecDepth 20000 in
theorem q_524 : (Cond.instanceMethod ⟨"MusicBoxesModel", "told", "(I)I"⟩) ∈ lw_ok := List.mem_filter.mpr ⟨List.mem_of_getElem? (i := 524) rfl, rfl⟩
set_option maxRecDepth 20000 in
theorem q_525 : (Cond.code ⟨"MusicBoxesModel", "told", "(I)I"⟩ prog_11_method_2_code 2 (Option.some Jvm.ClassFile.FieldType.int)) ∈ lw_ok := List.mem_filter.mpr ⟨List.mem_of_getElem? (i := 525) rfl, rfl⟩
set_option maxRecDepth 20000 in
theorem q_526 : (Cond.methodLink "MusicBoxesModel" 100 ⟨"MusicBoxesModel", "newTrack", "(I)I"⟩) ∈ lw_ok := List.mem_filter.mpr ⟨List.mem_of_getElem? (i := 526) rfl, rfl⟩
set_option maxRecDepth 20000 in
theorem q_527 : (Cond.privateMethod ⟨"MusicBoxesModel", "newTrack", "(I)I"⟩) ∈ lw_tbl := List.mem_of_getElem? (i := 527) rfl
set_option maxRecDepth 20000 in
theorem q_528 : (Cond.instanceMethod ⟨"MusicBoxesModel", "newTrack", "(I)I"⟩) ∈ lw_ok := List.mem_filter.mpr ⟨List.mem_of_getElem? (i := 528) rfl, rfl⟩
set_option maxRecDepth 20000 in
theorem q_529 : (Cond.code ⟨"MusicBoxesModel", "newTrack", "(I)I"⟩ prog_11_method_8_code 4 (Option.some Jvm.ClassFile.FieldType.int)) ∈ lw_ok := List.mem_filter.mpr ⟨List.mem_of_getElem? (i := 529) rfl, rfl⟩
set_option maxRecDepth 20000 in
theorem q_530 : (Cond.methodLink "MusicBoxesModel" 103 ⟨"MusicBoxesModel", "drumGets", "(III)V"⟩) ∈ lw_ok := List.mem_filter.mpr ⟨List.mem_of_getElem? (i := 530) rfl, rfl⟩
set_option maxRecDepth 20000 in
theorem q_531 : (Cond.privateMethod ⟨"MusicBoxesModel", "drumGets", "(III)V"⟩) ∈ lw_tbl := List.mem_of_getElem? (i := 531) rfl
set_option maxRecDepth 20000 in
theorem q_532 : (Cond.instanceMethod ⟨"MusicBoxesModel", "drumGets", "(III)V"⟩) ∈ lw_ok := List.mem_filter.mpr ⟨List.mem_of_getElem? (i := 532) rfl, rfl⟩
set_option maxRecDepth 20000 in
theorem q_533 : (Cond.code ⟨"MusicBoxesModel", "drumGets", "(III)V"⟩ prog_11_method_9_code 5 (Option.none : Option Jvm.ClassFile.FieldType)) ∈ lw_ok := List.mem_filter.mpr ⟨List.mem_of_getElem? (i := 533) rfl, rfl⟩
set_option maxRecDepth 20000 in
theorem q_534 : (Cond.methodLink "MusicBoxesLaw" 22 ⟨"MusicBoxesModel", "strip", "(II)I"⟩) ∈ lw_ok := List.mem_filter.mpr ⟨List.mem_of_getElem? (i := 534) rfl, rfl⟩
set_option maxRecDepth 20000 in
theorem q_535 : (Cond.instanceMethod ⟨"MusicBoxesModel", "strip", "(II)I"⟩) ∈ lw_ok := List.mem_filter.mpr ⟨List.mem_of_getElem? (i := 535) rfl, rfl⟩
set_option maxRecDepth 20000 in
theorem q_536 : (Cond.selects "MusicBoxesModel" ⟨"MusicBoxesModel", "strip", "(II)I"⟩ ⟨"MusicBoxesModel", "strip", "(II)I"⟩) ∈ lw_ok := List.mem_filter.mpr ⟨List.mem_of_getElem? (i := 536) rfl, rfl⟩
set_option maxRecDepth 20000 in
theorem q_537 : (Cond.code ⟨"MusicBoxesModel", "strip", "(II)I"⟩ prog_11_method_17_code 4 (Option.some Jvm.ClassFile.FieldType.int)) ∈ lw_ok := List.mem_filter.mpr ⟨List.mem_of_getElem? (i := 537) rfl, rfl⟩
set_option maxRecDepth 20000 in
theorem q_538 : (Cond.methodLink "MusicBoxesLaw" 26 ⟨"MusicBoxesModel", "share", "(III)I"⟩) ∈ lw_ok := List.mem_filter.mpr ⟨List.mem_of_getElem? (i := 538) rfl, rfl⟩
set_option maxRecDepth 20000 in
theorem q_539 : (Cond.instanceMethod ⟨"MusicBoxesModel", "share", "(III)I"⟩) ∈ lw_ok := List.mem_filter.mpr ⟨List.mem_of_getElem? (i := 539) rfl, rfl⟩
set_option maxRecDepth 20000 in
theorem q_540 : (Cond.selects "MusicBoxesModel" ⟨"MusicBoxesModel", "share", "(III)I"⟩ ⟨"MusicBoxesModel", "share", "(III)I"⟩) ∈ lw_ok := List.mem_filter.mpr ⟨List.mem_of_getElem? (i := 540) rfl, rfl⟩
set_option maxRecDepth 20000 in
theorem q_541 : (Cond.code ⟨"MusicBoxesModel", "share", "(III)I"⟩ prog_11_method_18_code 5 (Option.some Jvm.ClassFile.FieldType.int)) ∈ lw_ok := List.mem_filter.mpr ⟨List.mem_of_getElem? (i := 541) rfl, rfl⟩
set_option maxRecDepth 20000 in
theorem q_542 : (Cond.methodLink "MusicBoxesLaw" 30 ⟨"MusicBoxesModel", "places", "(II)I"⟩) ∈ lw_ok := List.mem_filter.mpr ⟨List.mem_of_getElem? (i := 542) rfl, rfl⟩
set_option maxRecDepth 20000 in
theorem q_543 : (Cond.instanceMethod ⟨"MusicBoxesModel", "places", "(II)I"⟩) ∈ lw_ok := List.mem_filter.mpr ⟨List.mem_of_getElem? (i := 543) rfl, rfl⟩
set_option maxRecDepth 20000 in
theorem q_544 : (Cond.selects "MusicBoxesModel" ⟨"MusicBoxesModel", "places", "(II)I"⟩ ⟨"MusicBoxesModel", "places", "(II)I"⟩) ∈ lw_ok := List.mem_filter.mpr ⟨List.mem_of_getElem? (i := 544) rfl, rfl⟩
set_option maxRecDepth 20000 in
theorem q_545 : (Cond.code ⟨"MusicBoxesModel", "places", "(II)I"⟩ prog_11_method_19_code 4 (Option.some Jvm.ClassFile.FieldType.int)) ∈ lw_ok := List.mem_filter.mpr ⟨List.mem_of_getElem? (i := 545) rfl, rfl⟩
set_option maxRecDepth 20000 in
theorem q_546 : (Cond.methodLink "MusicBoxesLaw" 34 ⟨"MusicBoxesModel", "read", "(III)I"⟩) ∈ lw_ok := List.mem_filter.mpr ⟨List.mem_of_getElem? (i := 546) rfl, rfl⟩
set_option maxRecDepth 20000 in
theorem q_547 : (Cond.instanceMethod ⟨"MusicBoxesModel", "read", "(III)I"⟩) ∈ lw_ok := List.mem_filter.mpr ⟨List.mem_of_getElem? (i := 547) rfl, rfl⟩
set_option maxRecDepth 20000 in
theorem q_548 : (Cond.selects "MusicBoxesModel" ⟨"MusicBoxesModel", "read", "(III)I"⟩ ⟨"MusicBoxesModel", "read", "(III)I"⟩) ∈ lw_ok := List.mem_filter.mpr ⟨List.mem_of_getElem? (i := 548) rfl, rfl⟩
set_option maxRecDepth 20000 in
theorem q_549 : (Cond.code ⟨"MusicBoxesModel", "read", "(III)I"⟩ prog_11_method_20_code 4 (Option.some Jvm.ClassFile.FieldType.int)) ∈ lw_ok := List.mem_filter.mpr ⟨List.mem_of_getElem? (i := 549) rfl, rfl⟩
set_option maxRecDepth 20000 in
theorem q_550 : (Cond.methodLink "MusicBoxesModel" 107 ⟨"MusicBoxesModel", "reads", "(II)I"⟩) ∈ lw_ok := List.mem_filter.mpr ⟨List.mem_of_getElem? (i := 550) rfl, rfl⟩
set_option maxRecDepth 20000 in
theorem q_551 : (Cond.privateMethod ⟨"MusicBoxesModel", "reads", "(II)I"⟩) ∈ lw_tbl := List.mem_of_getElem? (i := 551) rfl
set_option maxRecDepth 20000 in
theorem q_552 : (Cond.instanceMethod ⟨"MusicBoxesModel", "reads", "(II)I"⟩) ∈ lw_ok := List.mem_filter.mpr ⟨List.mem_of_getElem? (i := 552) rfl, rfl⟩
set_option maxRecDepth 20000 in
theorem q_553 : (Cond.code ⟨"MusicBoxesModel", "reads", "(II)I"⟩ prog_11_method_15_code 4 (Option.some Jvm.ClassFile.FieldType.int)) ∈ lw_ok := List.mem_filter.mpr ⟨List.mem_of_getElem? (i := 553) rfl, rfl⟩
set_option maxRecDepth 20000 in
theorem q_554 : (Cond.methodLink "MusicBoxesModel" 67 ⟨"MusicBoxesModel", "lacks", "(II)I"⟩) ∈ lw_ok := List.mem_filter.mpr ⟨List.mem_of_getElem? (i := 554) rfl, rfl⟩
set_option maxRecDepth 20000 in
theorem q_555 : (Cond.privateMethod ⟨"MusicBoxesModel", "lacks", "(II)I"⟩) ∈ lw_tbl := List.mem_of_getElem? (i := 555) rfl
set_option maxRecDepth 20000 in
theorem q_556 : (Cond.instanceMethod ⟨"MusicBoxesModel", "lacks", "(II)I"⟩) ∈ lw_ok := List.mem_filter.mpr ⟨List.mem_of_getElem? (i := 556) rfl, rfl⟩
set_option maxRecDepth 20000 in
theorem q_557 : (Cond.code ⟨"MusicBoxesModel", "lacks", "(II)I"⟩ prog_11_method_11_code 3 (Option.some Jvm.ClassFile.FieldType.int)) ∈ lw_ok := List.mem_filter.mpr ⟨List.mem_of_getElem? (i := 557) rfl, rfl⟩
set_option maxRecDepth 20000 in
theorem q_558 : (Cond.methodLink "MusicBoxesLaw" 39 ⟨"MusicBoxesModel", "write", "(IIII)I"⟩) ∈ lw_ok := List.mem_filter.mpr ⟨List.mem_of_getElem? (i := 558) rfl, rfl⟩
set_option maxRecDepth 20000 in
theorem q_559 : (Cond.instanceMethod ⟨"MusicBoxesModel", "write", "(IIII)I"⟩) ∈ lw_ok := List.mem_filter.mpr ⟨List.mem_of_getElem? (i := 559) rfl, rfl⟩
set_option maxRecDepth 20000 in
theorem q_560 : (Cond.selects "MusicBoxesModel" ⟨"MusicBoxesModel", "write", "(IIII)I"⟩ ⟨"MusicBoxesModel", "write", "(IIII)I"⟩) ∈ lw_ok := List.mem_filter.mpr ⟨List.mem_of_getElem? (i := 560) rfl, rfl⟩
set_option maxRecDepth 20000 in
theorem q_561 : (Cond.code ⟨"MusicBoxesModel", "write", "(IIII)I"⟩ prog_11_method_21_code 5 (Option.some Jvm.ClassFile.FieldType.int)) ∈ lw_ok := List.mem_filter.mpr ⟨List.mem_of_getElem? (i := 561) rfl, rfl⟩
set_option maxRecDepth 20000 in
theorem q_562 : (Cond.methodLink "MusicBoxesModel" 110 ⟨"MusicBoxesModel", "writes", "(IIII)I"⟩) ∈ lw_ok := List.mem_filter.mpr ⟨List.mem_of_getElem? (i := 562) rfl, rfl⟩
set_option maxRecDepth 20000 in
theorem q_563 : (Cond.privateMethod ⟨"MusicBoxesModel", "writes", "(IIII)I"⟩) ∈ lw_tbl := List.mem_of_getElem? (i := 563) rfl
set_option maxRecDepth 20000 in
theorem q_564 : (Cond.instanceMethod ⟨"MusicBoxesModel", "writes", "(IIII)I"⟩) ∈ lw_ok := List.mem_filter.mpr ⟨List.mem_of_getElem? (i := 564) rfl, rfl⟩
set_option maxRecDepth 20000 in
theorem q_565 : (Cond.code ⟨"MusicBoxesModel", "writes", "(IIII)I"⟩ prog_11_method_13_code 7 (Option.some Jvm.ClassFile.FieldType.int)) ∈ lw_ok := List.mem_filter.mpr ⟨List.mem_of_getElem? (i := 565) rfl, rfl⟩
set_option maxRecDepth 20000 in
theorem q_566 : (Cond.constant "MusicBoxesModel" 71 (-8000000 : Int32)) ∈ lw_ok := List.mem_filter.mpr ⟨List.mem_of_getElem? (i := 566) rfl, rfl⟩
set_option maxRecDepth 20000 in
theorem q_567 : (Cond.constant "MusicBoxesModel" 72 (8000000 : Int32)) ∈ lw_ok := List.mem_filter.mpr ⟨List.mem_of_getElem? (i := 567) rfl, rfl⟩
set_option maxRecDepth 20000 in
theorem q_568 : (Cond.constantFloat "MusicBoxesModel" 73 (1040187392 : UInt32)) ∈ lw_ok := List.mem_filter.mpr ⟨List.mem_of_getElem? (i := 568) rfl, rfl⟩
set_option maxRecDepth 20000 in
theorem q_569 : (Cond.methodLink "MusicBoxesModel" 74 ⟨"java/lang/Float", "floatToIntBits", "(F)I"⟩) ∈ lw_ok := List.mem_filter.mpr ⟨List.mem_of_getElem? (i := 569) rfl, rfl⟩
set_option maxRecDepth 20000 in
theorem q_570 : (Cond.static ⟨"java/lang/Float", "floatToIntBits", "(F)I"⟩) ∈ lw_ok := List.mem_filter.mpr ⟨List.mem_of_getElem? (i := 570) rfl, rfl⟩
set_option maxRecDepth 20000 in
theorem q_571 : (Cond.code ⟨"java/lang/Float", "floatToIntBits", "(F)I"⟩ prog_12_method_24_code 1 (Option.some Jvm.ClassFile.FieldType.int)) ∈ lw_ok := List.mem_filter.mpr ⟨List.mem_of_getElem? (i := 571) rfl, rfl⟩
set_option maxRecDepth 20000 in
theorem q_572 : (Cond.methodLink "java/lang/Float" 59 ⟨"java/lang/Float", "isNaN", "(F)Z"⟩) ∈ lw_ok := List.mem_filter.mpr ⟨List.mem_of_getElem? (i := 572) rfl, rfl⟩
set_option maxRecDepth 20000 in
theorem q_573 : (Cond.static ⟨"java/lang/Float", "isNaN", "(F)Z"⟩) ∈ lw_ok := List.mem_filter.mpr ⟨List.mem_of_getElem? (i := 573) rfl, rfl⟩
set_option maxRecDepth 20000 in
theorem q_574 : (Cond.code ⟨"java/lang/Float", "isNaN", "(F)Z"⟩ prog_12_method_6_code 1 (Option.some Jvm.ClassFile.FieldType.boolean)) ∈ lw_ok := List.mem_filter.mpr ⟨List.mem_of_getElem? (i := 574) rfl, rfl⟩
set_option maxRecDepth 20000 in
theorem q_575 : (Cond.methodLink "java/lang/Float" 74 ⟨"java/lang/Float", "floatToRawIntBits", "(F)I"⟩) ∈ lw_ok := List.mem_filter.mpr ⟨List.mem_of_getElem? (i := 575) rfl, rfl⟩
set_option maxRecDepth 20000 in
theorem q_576 : (Cond.static ⟨"java/lang/Float", "floatToRawIntBits", "(F)I"⟩) ∈ lw_ok := List.mem_filter.mpr ⟨List.mem_of_getElem? (i := 576) rfl, rfl⟩
set_option maxRecDepth 20000 in
theorem q_577 : (Cond.native ⟨"java/lang/Float", "floatToRawIntBits", "(F)I"⟩) ∈ lw_ok := List.mem_filter.mpr ⟨List.mem_of_getElem? (i := 577) rfl, rfl⟩
set_option maxRecDepth 20000 in
theorem q_578 : (Cond.constant "java/lang/Float" 77 (2143289344 : Int32)) ∈ lw_ok := List.mem_filter.mpr ⟨List.mem_of_getElem? (i := 578) rfl, rfl⟩
set_option maxRecDepth 20000 in
theorem q_579 : (Cond.methodLink "MusicBoxesModel" 80 ⟨"MusicBoxesModel", "packed", "(II)I"⟩) ∈ lw_ok := List.mem_filter.mpr ⟨List.mem_of_getElem? (i := 579) rfl, rfl⟩
set_option maxRecDepth 20000 in
theorem q_580 : (Cond.static ⟨"MusicBoxesModel", "packed", "(II)I"⟩) ∈ lw_ok := List.mem_filter.mpr ⟨List.mem_of_getElem? (i := 580) rfl, rfl⟩
set_option maxRecDepth 20000 in
theorem q_581 : (Cond.code ⟨"MusicBoxesModel", "packed", "(II)I"⟩ prog_11_method_12_code 2 (Option.some Jvm.ClassFile.FieldType.int)) ∈ lw_ok := List.mem_filter.mpr ⟨List.mem_of_getElem? (i := 581) rfl, rfl⟩
set_option maxRecDepth 20000 in
theorem q_582 : (Cond.constant "MusicBoxesModel" 66 (65535 : Int32)) ∈ lw_ok := List.mem_filter.mpr ⟨List.mem_of_getElem? (i := 582) rfl, rfl⟩
set_option maxRecDepth 20000 in
theorem q_583 : (Cond.methodLink "MusicBoxesLaw" 43 ⟨"MusicBoxesModel", "turn", "(IIII)I"⟩) ∈ lw_ok := List.mem_filter.mpr ⟨List.mem_of_getElem? (i := 583) rfl, rfl⟩
set_option maxRecDepth 20000 in
theorem q_584 : (Cond.instanceMethod ⟨"MusicBoxesModel", "turn", "(IIII)I"⟩) ∈ lw_ok := List.mem_filter.mpr ⟨List.mem_of_getElem? (i := 584) rfl, rfl⟩
set_option maxRecDepth 20000 in
theorem q_585 : (Cond.selects "MusicBoxesModel" ⟨"MusicBoxesModel", "turn", "(IIII)I"⟩ ⟨"MusicBoxesModel", "turn", "(IIII)I"⟩) ∈ lw_ok := List.mem_filter.mpr ⟨List.mem_of_getElem? (i := 585) rfl, rfl⟩
set_option maxRecDepth 20000 in
theorem q_586 : (Cond.code ⟨"MusicBoxesModel", "turn", "(IIII)I"⟩ prog_11_method_22_code 5 (Option.some Jvm.ClassFile.FieldType.int)) ∈ lw_ok := List.mem_filter.mpr ⟨List.mem_of_getElem? (i := 586) rfl, rfl⟩
set_option maxRecDepth 20000 in
theorem q_587 : (Cond.methodLink "MusicBoxesModel" 114 ⟨"MusicBoxesModel", "turns", "(IIII)I"⟩) ∈ lw_ok := List.mem_filter.mpr ⟨List.mem_of_getElem? (i := 587) rfl, rfl⟩
set_option maxRecDepth 20000 in
theorem q_588 : (Cond.privateMethod ⟨"MusicBoxesModel", "turns", "(IIII)I"⟩) ∈ lw_tbl := List.mem_of_getElem? (i := 588) rfl
set_option maxRecDepth 20000 in
theorem q_589 : (Cond.instanceMethod ⟨"MusicBoxesModel", "turns", "(IIII)I"⟩) ∈ lw_ok := List.mem_filter.mpr ⟨List.mem_of_getElem? (i := 589) rfl, rfl⟩
set_option maxRecDepth 20000 in
theorem q_590 : (Cond.code ⟨"MusicBoxesModel", "turns", "(IIII)I"⟩ prog_11_method_14_code 9 (Option.some Jvm.ClassFile.FieldType.int)) ∈ lw_ok := List.mem_filter.mpr ⟨List.mem_of_getElem? (i := 590) rfl, rfl⟩
set_option maxRecDepth 20000 in
theorem q_591 : (Cond.methodLink "MusicBoxesModel" 83 ⟨"java/lang/Float", "intBitsToFloat", "(I)F"⟩) ∈ lw_ok := List.mem_filter.mpr ⟨List.mem_of_getElem? (i := 591) rfl, rfl⟩
set_option maxRecDepth 20000 in
theorem q_592 : (Cond.static ⟨"java/lang/Float", "intBitsToFloat", "(I)F"⟩) ∈ lw_ok := List.mem_filter.mpr ⟨List.mem_of_getElem? (i := 592) rfl, rfl⟩
set_option maxRecDepth 20000 in
theorem q_593 : (Cond.native ⟨"java/lang/Float", "intBitsToFloat", "(I)F"⟩) ∈ lw_ok := List.mem_filter.mpr ⟨List.mem_of_getElem? (i := 593) rfl, rfl⟩
set_option maxRecDepth 20000 in
theorem q_594 : (Cond.constantFloat "MusicBoxesModel" 87 (1048576000 : UInt32)) ∈ lw_ok := List.mem_filter.mpr ⟨List.mem_of_getElem? (i := 594) rfl, rfl⟩
set_option maxRecDepth 20000 in
theorem q_595 : (Cond.constantFloat "MusicBoxesModel" 88 (3379831808 : UInt32)) ∈ lw_ok := List.mem_filter.mpr ⟨List.mem_of_getElem? (i := 595) rfl, rfl⟩
set_option maxRecDepth 20000 in
theorem q_596 : (Cond.constantFloat "MusicBoxesModel" 89 (1232348160 : UInt32)) ∈ lw_ok := List.mem_filter.mpr ⟨List.mem_of_getElem? (i := 596) rfl, rfl⟩
set_option maxRecDepth 20000 in
theorem q_597 : (Cond.methodLink "MusicBoxesLaw" 47 ⟨"MusicBoxesModel", "head", "(II)I"⟩) ∈ lw_ok := List.mem_filter.mpr ⟨List.mem_of_getElem? (i := 597) rfl, rfl⟩
set_option maxRecDepth 20000 in
theorem q_598 : (Cond.instanceMethod ⟨"MusicBoxesModel", "head", "(II)I"⟩) ∈ lw_ok := List.mem_filter.mpr ⟨List.mem_of_getElem? (i := 598) rfl, rfl⟩
set_option maxRecDepth 20000 in
theorem q_599 : (Cond.selects "MusicBoxesModel" ⟨"MusicBoxesModel", "head", "(II)I"⟩ ⟨"MusicBoxesModel", "head", "(II)I"⟩) ∈ lw_ok := List.mem_filter.mpr ⟨List.mem_of_getElem? (i := 599) rfl, rfl⟩
set_option maxRecDepth 20000 in
theorem q_600 : (Cond.code ⟨"MusicBoxesModel", "head", "(II)I"⟩ prog_11_method_23_code 4 (Option.some Jvm.ClassFile.FieldType.int)) ∈ lw_ok := List.mem_filter.mpr ⟨List.mem_of_getElem? (i := 600) rfl, rfl⟩
set_option maxRecDepth 20000 in
theorem q_601 : (Cond.methodLink "MusicBoxesLaw" 51 ⟨"MusicBoxesModel", "play", "(II)I"⟩) ∈ lw_ok := List.mem_filter.mpr ⟨List.mem_of_getElem? (i := 601) rfl, rfl⟩
set_option maxRecDepth 20000 in
theorem q_602 : (Cond.instanceMethod ⟨"MusicBoxesModel", "play", "(II)I"⟩) ∈ lw_ok := List.mem_filter.mpr ⟨List.mem_of_getElem? (i := 602) rfl, rfl⟩
set_option maxRecDepth 20000 in
theorem q_603 : (Cond.selects "MusicBoxesModel" ⟨"MusicBoxesModel", "play", "(II)I"⟩ ⟨"MusicBoxesModel", "play", "(II)I"⟩) ∈ lw_ok := List.mem_filter.mpr ⟨List.mem_of_getElem? (i := 603) rfl, rfl⟩
set_option maxRecDepth 20000 in
theorem q_604 : (Cond.code ⟨"MusicBoxesModel", "play", "(II)I"⟩ prog_11_method_27_code 8 (Option.some Jvm.ClassFile.FieldType.int)) ∈ lw_ok := List.mem_filter.mpr ⟨List.mem_of_getElem? (i := 604) rfl, rfl⟩
set_option maxRecDepth 20000 in
theorem q_605 : (Cond.methodLink "MusicBoxesModel" 117 ⟨"MusicBoxesModel", "isThere", "(III)Z"⟩) ∈ lw_ok := List.mem_filter.mpr ⟨List.mem_of_getElem? (i := 605) rfl, rfl⟩
set_option maxRecDepth 20000 in
theorem q_606 : (Cond.privateMethod ⟨"MusicBoxesModel", "isThere", "(III)Z"⟩) ∈ lw_tbl := List.mem_of_getElem? (i := 606) rfl
set_option maxRecDepth 20000 in
theorem q_607 : (Cond.instanceMethod ⟨"MusicBoxesModel", "isThere", "(III)Z"⟩) ∈ lw_ok := List.mem_filter.mpr ⟨List.mem_of_getElem? (i := 607) rfl, rfl⟩
set_option maxRecDepth 20000 in
theorem q_608 : (Cond.code ⟨"MusicBoxesModel", "isThere", "(III)Z"⟩ prog_11_method_24_code 4 (Option.some Jvm.ClassFile.FieldType.boolean)) ∈ lw_ok := List.mem_filter.mpr ⟨List.mem_of_getElem? (i := 608) rfl, rfl⟩
set_option maxRecDepth 20000 in
theorem q_609 : (Cond.methodLink "MusicBoxesModel" 124 ⟨"MusicBoxesModel", "sounds", "(II)Z"⟩) ∈ lw_ok := List.mem_filter.mpr ⟨List.mem_of_getElem? (i := 609) rfl, rfl⟩
set_option maxRecDepth 20000 in
theorem q_610 : (Cond.privateMethod ⟨"MusicBoxesModel", "sounds", "(II)Z"⟩) ∈ lw_tbl := List.mem_of_getElem? (i := 610) rfl
set_option maxRecDepth 20000 in
theorem q_611 : (Cond.instanceMethod ⟨"MusicBoxesModel", "sounds", "(II)Z"⟩) ∈ lw_ok := List.mem_filter.mpr ⟨List.mem_of_getElem? (i := 611) rfl, rfl⟩
set_option maxRecDepth 20000 in
theorem q_612 : (Cond.code ⟨"MusicBoxesModel", "sounds", "(II)Z"⟩ prog_11_method_26_code 8 (Option.some Jvm.ClassFile.FieldType.boolean)) ∈ lw_ok := List.mem_filter.mpr ⟨List.mem_of_getElem? (i := 612) rfl, rfl⟩
set_option maxRecDepth 20000 in
theorem q_613 : (Cond.methodLink "MusicBoxesModel" 120 ⟨"MusicBoxesModel", "at", "(III)I"⟩) ∈ lw_ok := List.mem_filter.mpr ⟨List.mem_of_getElem? (i := 613) rfl, rfl⟩
set_option maxRecDepth 20000 in
theorem q_614 : (Cond.privateMethod ⟨"MusicBoxesModel", "at", "(III)I"⟩) ∈ lw_tbl := List.mem_of_getElem? (i := 614) rfl
set_option maxRecDepth 20000 in
theorem q_615 : (Cond.instanceMethod ⟨"MusicBoxesModel", "at", "(III)I"⟩) ∈ lw_ok := List.mem_filter.mpr ⟨List.mem_of_getElem? (i := 615) rfl, rfl⟩
set_option maxRecDepth 20000 in
theorem q_616 : (Cond.code ⟨"MusicBoxesModel", "at", "(III)I"⟩ prog_11_method_25_code 4 (Option.some Jvm.ClassFile.FieldType.int)) ∈ lw_ok := List.mem_filter.mpr ⟨List.mem_of_getElem? (i := 616) rfl, rfl⟩
set_option maxRecDepth 20000 in
theorem q_617 : (Cond.methodLink "MusicBoxesLaw" 56 ⟨"MusicBoxesModel", "heard", "(II)J"⟩) ∈ lw_ok := List.mem_filter.mpr ⟨List.mem_of_getElem? (i := 617) rfl, rfl⟩
set_option maxRecDepth 20000 in
theorem q_618 : (Cond.instanceMethod ⟨"MusicBoxesModel", "heard", "(II)J"⟩) ∈ lw_ok := List.mem_filter.mpr ⟨List.mem_of_getElem? (i := 618) rfl, rfl⟩
set_option maxRecDepth 20000 in
theorem q_619 : (Cond.selects "MusicBoxesModel" ⟨"MusicBoxesModel", "heard", "(II)J"⟩ ⟨"MusicBoxesModel", "heard", "(II)J"⟩) ∈ lw_ok := List.mem_filter.mpr ⟨List.mem_of_getElem? (i := 619) rfl, rfl⟩
set_option maxRecDepth 20000 in
theorem q_620 : (Cond.code ⟨"MusicBoxesModel", "heard", "(II)J"⟩ prog_11_method_28_code 3 (Option.some Jvm.ClassFile.FieldType.long)) ∈ lw_ok := List.mem_filter.mpr ⟨List.mem_of_getElem? (i := 620) rfl, rfl⟩
set_option maxRecDepth 20000 in
theorem q_621 : (Cond.methodLink "MusicBoxesLaw" 61 ⟨"MusicBoxesModel", "quiet", "(I)I"⟩) ∈ lw_ok := List.mem_filter.mpr ⟨List.mem_of_getElem? (i := 621) rfl, rfl⟩
set_option maxRecDepth 20000 in
theorem q_622 : (Cond.instanceMethod ⟨"MusicBoxesModel", "quiet", "(I)I"⟩) ∈ lw_ok := List.mem_filter.mpr ⟨List.mem_of_getElem? (i := 622) rfl, rfl⟩
set_option maxRecDepth 20000 in
theorem q_623 : (Cond.selects "MusicBoxesModel" ⟨"MusicBoxesModel", "quiet", "(I)I"⟩ ⟨"MusicBoxesModel", "quiet", "(I)I"⟩) ∈ lw_ok := List.mem_filter.mpr ⟨List.mem_of_getElem? (i := 623) rfl, rfl⟩
set_option maxRecDepth 20000 in
theorem q_624 : (Cond.code ⟨"MusicBoxesModel", "quiet", "(I)I"⟩ prog_11_method_29_code 3 (Option.some Jvm.ClassFile.FieldType.int)) ∈ lw_ok := List.mem_filter.mpr ⟨List.mem_of_getElem? (i := 624) rfl, rfl⟩
set_option maxRecDepth 20000 in
theorem q_625 : (Cond.methodLink "MusicBoxesLaw" 65 ⟨"MusicBoxesModel", "comb", "(IIII)I"⟩) ∈ lw_ok := List.mem_filter.mpr ⟨List.mem_of_getElem? (i := 625) rfl, rfl⟩
set_option maxRecDepth 20000 in
theorem q_626 : (Cond.instanceMethod ⟨"MusicBoxesModel", "comb", "(IIII)I"⟩) ∈ lw_ok := List.mem_filter.mpr ⟨List.mem_of_getElem? (i := 626) rfl, rfl⟩
set_option maxRecDepth 20000 in
theorem q_627 : (Cond.selects "MusicBoxesModel" ⟨"MusicBoxesModel", "comb", "(IIII)I"⟩ ⟨"MusicBoxesModel", "comb", "(IIII)I"⟩) ∈ lw_ok := List.mem_filter.mpr ⟨List.mem_of_getElem? (i := 627) rfl, rfl⟩
set_option maxRecDepth 20000 in
theorem q_628 : (Cond.code ⟨"MusicBoxesModel", "comb", "(IIII)I"⟩ prog_11_method_31_code 7 (Option.some Jvm.ClassFile.FieldType.int)) ∈ lw_ok := List.mem_filter.mpr ⟨List.mem_of_getElem? (i := 628) rfl, rfl⟩
set_option maxRecDepth 20000 in
theorem q_629 : (Cond.methodLink "MusicBoxesModel" 131 ⟨"MusicBoxesModel", "empties", "(I)I"⟩) ∈ lw_ok := List.mem_filter.mpr ⟨List.mem_of_getElem? (i := 629) rfl, rfl⟩
set_option maxRecDepth 20000 in
theorem q_630 : (Cond.privateMethod ⟨"MusicBoxesModel", "empties", "(I)I"⟩) ∈ lw_tbl := List.mem_of_getElem? (i := 630) rfl
set_option maxRecDepth 20000 in
theorem q_631 : (Cond.instanceMethod ⟨"MusicBoxesModel", "empties", "(I)I"⟩) ∈ lw_ok := List.mem_filter.mpr ⟨List.mem_of_getElem? (i := 631) rfl, rfl⟩
set_option maxRecDepth 20000 in
theorem q_632 : (Cond.code ⟨"MusicBoxesModel", "empties", "(I)I"⟩ prog_11_method_30_code 4 (Option.some Jvm.ClassFile.FieldType.int)) ∈ lw_ok := List.mem_filter.mpr ⟨List.mem_of_getElem? (i := 632) rfl, rfl⟩
set_option maxRecDepth 20000 in
theorem q_633 : (Cond.methodLink "MusicBoxesModel" 128 ⟨"MusicBoxesModel", "toothGets", "(III)V"⟩) ∈ lw_ok := List.mem_filter.mpr ⟨List.mem_of_getElem? (i := 633) rfl, rfl⟩
set_option maxRecDepth 20000 in
theorem q_634 : (Cond.privateMethod ⟨"MusicBoxesModel", "toothGets", "(III)V"⟩) ∈ lw_tbl := List.mem_of_getElem? (i := 634) rfl
set_option maxRecDepth 20000 in
theorem q_635 : (Cond.instanceMethod ⟨"MusicBoxesModel", "toothGets", "(III)V"⟩) ∈ lw_ok := List.mem_filter.mpr ⟨List.mem_of_getElem? (i := 635) rfl, rfl⟩
set_option maxRecDepth 20000 in
theorem q_636 : (Cond.code ⟨"MusicBoxesModel", "toothGets", "(III)V"⟩ prog_11_method_10_code 5 (Option.none : Option Jvm.ClassFile.FieldType)) ∈ lw_ok := List.mem_filter.mpr ⟨List.mem_of_getElem? (i := 636) rfl, rfl⟩
set_option maxRecDepth 20000 in
theorem q_637 : (Cond.methodLink "MusicBoxesLaw" 69 ⟨"MusicBoxesModel", "drop", "(I)I"⟩) ∈ lw_ok := List.mem_filter.mpr ⟨List.mem_of_getElem? (i := 637) rfl, rfl⟩
set_option maxRecDepth 20000 in
theorem q_638 : (Cond.instanceMethod ⟨"MusicBoxesModel", "drop", "(I)I"⟩) ∈ lw_ok := List.mem_filter.mpr ⟨List.mem_of_getElem? (i := 638) rfl, rfl⟩
set_option maxRecDepth 20000 in
theorem q_639 : (Cond.selects "MusicBoxesModel" ⟨"MusicBoxesModel", "drop", "(I)I"⟩ ⟨"MusicBoxesModel", "drop", "(I)I"⟩) ∈ lw_ok := List.mem_filter.mpr ⟨List.mem_of_getElem? (i := 639) rfl, rfl⟩
set_option maxRecDepth 20000 in
theorem q_640 : (Cond.code ⟨"MusicBoxesModel", "drop", "(I)I"⟩ prog_11_method_32_code 2 (Option.some Jvm.ClassFile.FieldType.int)) ∈ lw_ok := List.mem_filter.mpr ⟨List.mem_of_getElem? (i := 640) rfl, rfl⟩
set_option maxRecDepth 20000 in
theorem q_641 : (Cond.methodLink "MusicBoxesModel" 62 ⟨"MusicBoxesModel", "isComb", "(I)Z"⟩) ∈ lw_ok := List.mem_filter.mpr ⟨List.mem_of_getElem? (i := 641) rfl, rfl⟩
set_option maxRecDepth 20000 in
theorem q_642 : (Cond.privateMethod ⟨"MusicBoxesModel", "isComb", "(I)Z"⟩) ∈ lw_tbl := List.mem_of_getElem? (i := 642) rfl
set_option maxRecDepth 20000 in
theorem q_643 : (Cond.instanceMethod ⟨"MusicBoxesModel", "isComb", "(I)Z"⟩) ∈ lw_ok := List.mem_filter.mpr ⟨List.mem_of_getElem? (i := 643) rfl, rfl⟩
set_option maxRecDepth 20000 in
theorem q_644 : (Cond.code ⟨"MusicBoxesModel", "isComb", "(I)Z"⟩ prog_11_method_6_code 2 (Option.some Jvm.ClassFile.FieldType.boolean)) ∈ lw_ok := List.mem_filter.mpr ⟨List.mem_of_getElem? (i := 644) rfl, rfl⟩
set_option maxRecDepth 20000 in
theorem q_645 : (Cond.methodLink "MusicBoxesLaw" 73 ⟨"MusicBoxesModel", "about", "(II)I"⟩) ∈ lw_ok := List.mem_filter.mpr ⟨List.mem_of_getElem? (i := 645) rfl, rfl⟩
set_option maxRecDepth 20000 in
theorem q_646 : (Cond.instanceMethod ⟨"MusicBoxesModel", "about", "(II)I"⟩) ∈ lw_ok := List.mem_filter.mpr ⟨List.mem_of_getElem? (i := 646) rfl, rfl⟩
set_option maxRecDepth 20000 in
theorem q_647 : (Cond.selects "MusicBoxesModel" ⟨"MusicBoxesModel", "about", "(II)I"⟩ ⟨"MusicBoxesModel", "about", "(II)I"⟩) ∈ lw_ok := List.mem_filter.mpr ⟨List.mem_of_getElem? (i := 647) rfl, rfl⟩
set_option maxRecDepth 20000 in
theorem q_648 : (Cond.code ⟨"MusicBoxesModel", "about", "(II)I"⟩ prog_11_method_33_code 7 (Option.some Jvm.ClassFile.FieldType.int)) ∈ lw_ok := List.mem_filter.mpr ⟨List.mem_of_getElem? (i := 648) rfl, rfl⟩
set_option maxRecDepth 20000 in
theorem q_649 : (Cond.methodLink "MusicBoxesLaw" 77 ⟨"MusicBoxesModel", "loosen", "(II)I"⟩) ∈ lw_ok := List.mem_filter.mpr ⟨List.mem_of_getElem? (i := 649) rfl, rfl⟩
set_option maxRecDepth 20000 in
theorem q_650 : (Cond.instanceMethod ⟨"MusicBoxesModel", "loosen", "(II)I"⟩) ∈ lw_ok := List.mem_filter.mpr ⟨List.mem_of_getElem? (i := 650) rfl, rfl⟩
set_option maxRecDepth 20000 in
theorem q_651 : (Cond.selects "MusicBoxesModel" ⟨"MusicBoxesModel", "loosen", "(II)I"⟩ ⟨"MusicBoxesModel", "loosen", "(II)I"⟩) ∈ lw_ok := List.mem_filter.mpr ⟨List.mem_of_getElem? (i := 651) rfl, rfl⟩
set_option maxRecDepth 20000 in
theorem q_652 : (Cond.code ⟨"MusicBoxesModel", "loosen", "(II)I"⟩ prog_11_method_34_code 4 (Option.some Jvm.ClassFile.FieldType.int)) ∈ lw_ok := List.mem_filter.mpr ⟨List.mem_of_getElem? (i := 652) rfl, rfl⟩
set_option maxRecDepth 20000 in
theorem q_653 : (Cond.methodLink "MusicBoxesModel" 134 ⟨"MusicBoxesModel", "isTooth", "(II)Z"⟩) ∈ lw_ok := List.mem_filter.mpr ⟨List.mem_of_getElem? (i := 653) rfl, rfl⟩
set_option maxRecDepth 20000 in
theorem q_654 : (Cond.privateMethod ⟨"MusicBoxesModel", "isTooth", "(II)Z"⟩) ∈ lw_tbl := List.mem_of_getElem? (i := 654) rfl
set_option maxRecDepth 20000 in
theorem q_655 : (Cond.instanceMethod ⟨"MusicBoxesModel", "isTooth", "(II)Z"⟩) ∈ lw_ok := List.mem_filter.mpr ⟨List.mem_of_getElem? (i := 655) rfl, rfl⟩
set_option maxRecDepth 20000 in
theorem q_656 : (Cond.code ⟨"MusicBoxesModel", "isTooth", "(II)Z"⟩ prog_11_method_7_code 3 (Option.some Jvm.ClassFile.FieldType.boolean)) ∈ lw_ok := List.mem_filter.mpr ⟨List.mem_of_getElem? (i := 656) rfl, rfl⟩
set_option maxRecDepth 20000 in
theorem q_657 : (Cond.methodLink "MusicBoxesLaw" 81 ⟨"MusicBoxesModel", "hang", "(III)I"⟩) ∈ lw_ok := List.mem_filter.mpr ⟨List.mem_of_getElem? (i := 657) rfl, rfl⟩
set_option maxRecDepth 20000 in
theorem q_658 : (Cond.instanceMethod ⟨"MusicBoxesModel", "hang", "(III)I"⟩) ∈ lw_ok := List.mem_filter.mpr ⟨List.mem_of_getElem? (i := 658) rfl, rfl⟩
set_option maxRecDepth 20000 in
theorem q_659 : (Cond.selects "MusicBoxesModel" ⟨"MusicBoxesModel", "hang", "(III)I"⟩ ⟨"MusicBoxesModel", "hang", "(III)I"⟩) ∈ lw_ok := List.mem_filter.mpr ⟨List.mem_of_getElem? (i := 659) rfl, rfl⟩
set_option maxRecDepth 20000 in
theorem q_660 : (Cond.code ⟨"MusicBoxesModel", "hang", "(III)I"⟩ prog_11_method_35_code 5 (Option.some Jvm.ClassFile.FieldType.int)) ∈ lw_ok := List.mem_filter.mpr ⟨List.mem_of_getElem? (i := 660) rfl, rfl⟩
set_option maxRecDepth 20000 in
theorem q_661 : (Cond.methodLink "MusicBoxesLaw" 85 ⟨"MusicBoxesModel", "fit", "(III)I"⟩) ∈ lw_ok := List.mem_filter.mpr ⟨List.mem_of_getElem? (i := 661) rfl, rfl⟩
set_option maxRecDepth 20000 in
theorem q_662 : (Cond.instanceMethod ⟨"MusicBoxesModel", "fit", "(III)I"⟩) ∈ lw_ok := List.mem_filter.mpr ⟨List.mem_of_getElem? (i := 662) rfl, rfl⟩
set_option maxRecDepth 20000 in
theorem q_663 : (Cond.selects "MusicBoxesModel" ⟨"MusicBoxesModel", "fit", "(III)I"⟩ ⟨"MusicBoxesModel", "fit", "(III)I"⟩) ∈ lw_ok := List.mem_filter.mpr ⟨List.mem_of_getElem? (i := 663) rfl, rfl⟩
set_option maxRecDepth 20000 in
theorem q_664 : (Cond.code ⟨"MusicBoxesModel", "fit", "(III)I"⟩ prog_11_method_36_code 5 (Option.some Jvm.ClassFile.FieldType.int)) ∈ lw_ok := List.mem_filter.mpr ⟨List.mem_of_getElem? (i := 664) rfl, rfl⟩
set_option maxRecDepth 20000 in
theorem q_665 : (Cond.methodLink "MusicBoxesLaw" 89 ⟨"MusicBoxesModel", "cell", "(III)I"⟩) ∈ lw_ok := List.mem_filter.mpr ⟨List.mem_of_getElem? (i := 665) rfl, rfl⟩
set_option maxRecDepth 20000 in
theorem q_666 : (Cond.instanceMethod ⟨"MusicBoxesModel", "cell", "(III)I"⟩) ∈ lw_ok := List.mem_filter.mpr ⟨List.mem_of_getElem? (i := 666) rfl, rfl⟩
set_option maxRecDepth 20000 in
theorem q_667 : (Cond.selects "MusicBoxesModel" ⟨"MusicBoxesModel", "cell", "(III)I"⟩ ⟨"MusicBoxesModel", "cell", "(III)I"⟩) ∈ lw_ok := List.mem_filter.mpr ⟨List.mem_of_getElem? (i := 667) rfl, rfl⟩
set_option maxRecDepth 20000 in
theorem q_668 : (Cond.code ⟨"MusicBoxesModel", "cell", "(III)I"⟩ prog_11_method_37_code 4 (Option.some Jvm.ClassFile.FieldType.int)) ∈ lw_ok := List.mem_filter.mpr ⟨List.mem_of_getElem? (i := 668) rfl, rfl⟩
set_option maxRecDepth 20000 in
theorem q_669 : (Cond.methodLink "MusicBoxesLaw" 93 ⟨"MusicBoxesModel", "set", "(IIII)I"⟩) ∈ lw_ok := List.mem_filter.mpr ⟨List.mem_of_getElem? (i := 669) rfl, rfl⟩
set_option maxRecDepth 20000 in
theorem q_670 : (Cond.instanceMethod ⟨"MusicBoxesModel", "set", "(IIII)I"⟩) ∈ lw_ok := List.mem_filter.mpr ⟨List.mem_of_getElem? (i := 670) rfl, rfl⟩
set_option maxRecDepth 20000 in
theorem q_671 : (Cond.selects "MusicBoxesModel" ⟨"MusicBoxesModel", "set", "(IIII)I"⟩ ⟨"MusicBoxesModel", "set", "(IIII)I"⟩) ∈ lw_ok := List.mem_filter.mpr ⟨List.mem_of_getElem? (i := 671) rfl, rfl⟩
set_option maxRecDepth 20000 in
theorem q_672 : (Cond.code ⟨"MusicBoxesModel", "set", "(IIII)I"⟩ prog_11_method_38_code 5 (Option.some Jvm.ClassFile.FieldType.int)) ∈ lw_ok := List.mem_filter.mpr ⟨List.mem_of_getElem? (i := 672) rfl, rfl⟩
set_option maxRecDepth 20000 in
theorem q_673 : (Cond.methodLink "MusicBoxesLaw" 97 ⟨"MusicBoxesModel", "twist", "(IIII)I"⟩) ∈ lw_ok := List.mem_filter.mpr ⟨List.mem_of_getElem? (i := 673) rfl, rfl⟩
set_option maxRecDepth 20000 in
theorem q_674 : (Cond.instanceMethod ⟨"MusicBoxesModel", "twist", "(IIII)I"⟩) ∈ lw_ok := List.mem_filter.mpr ⟨List.mem_of_getElem? (i := 674) rfl, rfl⟩
set_option maxRecDepth 20000 in
theorem q_675 : (Cond.selects "MusicBoxesModel" ⟨"MusicBoxesModel", "twist", "(IIII)I"⟩ ⟨"MusicBoxesModel", "twist", "(IIII)I"⟩) ∈ lw_ok := List.mem_filter.mpr ⟨List.mem_of_getElem? (i := 675) rfl, rfl⟩
set_option maxRecDepth 20000 in
theorem q_676 : (Cond.code ⟨"MusicBoxesModel", "twist", "(IIII)I"⟩ prog_11_method_39_code 5 (Option.some Jvm.ClassFile.FieldType.int)) ∈ lw_ok := List.mem_filter.mpr ⟨List.mem_of_getElem? (i := 676) rfl, rfl⟩
set_option maxRecDepth 20000 in
theorem q_677 : (Cond.methodLink "MusicBoxesLaw" 102 ⟨"MusicBoxesModel", "state", "()I"⟩) ∈ lw_ok := List.mem_filter.mpr ⟨List.mem_of_getElem? (i := 677) rfl, rfl⟩
set_option maxRecDepth 20000 in
theorem q_678 : (Cond.instanceMethod ⟨"MusicBoxesModel", "state", "()I"⟩) ∈ lw_ok := List.mem_filter.mpr ⟨List.mem_of_getElem? (i := 678) rfl, rfl⟩
set_option maxRecDepth 20000 in
theorem q_679 : (Cond.selects "MusicBoxesModel" ⟨"MusicBoxesModel", "state", "()I"⟩ ⟨"MusicBoxesModel", "state", "()I"⟩) ∈ lw_ok := List.mem_filter.mpr ⟨List.mem_of_getElem? (i := 679) rfl, rfl⟩
set_option maxRecDepth 20000 in
theorem q_680 : (Cond.code ⟨"MusicBoxesModel", "state", "()I"⟩ prog_11_method_40_code 1 (Option.some Jvm.ClassFile.FieldType.int)) ∈ lw_ok := List.mem_filter.mpr ⟨List.mem_of_getElem? (i := 680) rfl, rfl⟩
set_option maxRecDepth 20000 in
theorem q_681 : (Cond.castable "MusicBoxes$PinTrack" "MusicBoxes$Track") ∈ lw_tbl := List.mem_of_getElem? (i := 681) rfl
set_option maxRecDepth 20000 in
theorem q_682 : (Cond.castable "MusicBoxes$SignTrack" "MusicBoxes$Track") ∈ lw_tbl := List.mem_of_getElem? (i := 682) rfl
set_option maxRecDepth 20000 in
theorem q_683 : (Cond.castable "MusicBoxes$LengthTrack" "MusicBoxes$Track") ∈ lw_tbl := List.mem_of_getElem? (i := 683) rfl
set_option maxRecDepth 20000 in
theorem q_684 : (Cond.castable "MusicBoxes$LevelTrack" "MusicBoxes$Track") ∈ lw_tbl := List.mem_of_getElem? (i := 684) rfl
set_option maxRecDepth 20000 in
theorem q_685 : (Cond.castable "MusicBoxes$BendTrack" "MusicBoxes$Track") ∈ lw_tbl := List.mem_of_getElem? (i := 685) rfl
theorem lw_good : ∀ w ∈ lw_ok, ((w.onTables && w.keeps) = true ∨ ∃ ty, w = .arrayClass ty) := fun w h => good_of_word (List.mem_filter.mp h).2
theorem lw_in : ∀ w ∈ lw_ok, w ∈ lw_tbl := fun w h => (List.mem_filter.mp h).1
end
section
theorem dX0_init_0 : decode cX0_init 0 = .ok (.aload_n 0, 1) := by decide +kernel
theorem dX0_init_1 : decode cX0_init 1 = .ok (.iload_n 1, 1) := by decide +kernel
theorem dX0_init_2 : decode cX0_init 2 = .ok (.invokespecial 1, 3) := by decide +kernel
theorem dX0_init_5 : decode cX0_init 5 = .ok (.aload_n 0, 1) := by decide +kernel
theorem dX0_init_6 : decode cX0_init 6 = .ok (.iload_n 1, 1) := by decide +kernel
theorem dX0_init_7 : decode cX0_init 7 = .ok (.newarray .byte, 2) := by decide +kernel
theorem dX0_init_9 : decode cX0_init 9 = .ok (.putfield 7, 3) := by decide +kernel
theorem dX0_init_12 : decode cX0_init 12 = .ok (.return_, 1) := by decide +kernel
theorem dX0_valueAt_0 : decode cX0_valueAt 0 = .ok (.aload_n 0, 1) := by decide +kernel
theorem dX0_valueAt_1 : decode cX0_valueAt 1 = .ok (.getfield 7, 3) := by decide +kernel
theorem dX0_valueAt_4 : decode cX0_valueAt 4 = .ok (.iload_n 1, 1) := by decide +kernel
theorem dX0_valueAt_5 : decode cX0_valueAt 5 = .ok (.baload, 1) := by decide +kernel
theorem dX0_valueAt_6 : decode cX0_valueAt 6 = .ok (.ireturn, 1) := by decide +kernel
theorem dX0_put_0 : decode cX0_put 0 = .ok (.aload_n 0, 1) := by decide +kernel
theorem dX0_put_1 : decode cX0_put 1 = .ok (.getfield 7, 3) := by decide +kernel
theorem dX0_put_4 : decode cX0_put 4 = .ok (.iload_n 1, 1) := by decide +kernel
theorem dX0_put_5 : decode cX0_put 5 = .ok (.iload_n 2, 1) := by decide +kernel
theorem dX0_put_6 : decode cX0_put 6 = .ok (.i2b, 1) := by decide +kernel
theorem dX0_put_7 : decode cX0_put 7 = .ok (.bastore, 1) := by decide +kernel
theorem dX0_put_8 : decode cX0_put 8 = .ok (.iconst 1, 1) := by decide +kernel
theorem dX0_put_9 : decode cX0_put 9 = .ok (.ireturn, 1) := by decide +kernel
theorem dX0_alter_0 : decode cX0_alter 0 = .ok (.aload_n 0, 1) := by decide +kernel
theorem dX0_alter_1 : decode cX0_alter 1 = .ok (.getfield 7, 3) := by decide +kernel
theorem dX0_alter_4 : decode cX0_alter 4 = .ok (.iload_n 1, 1) := by decide +kernel
theorem dX0_alter_5 : decode cX0_alter 5 = .ok (.aload_n 0, 1) := by decide +kernel
theorem dX0_alter_6 : decode cX0_alter 6 = .ok (.getfield 7, 3) := by decide +kernel
theorem dX0_alter_9 : decode cX0_alter 9 = .ok (.iload_n 1, 1) := by decide +kernel
theorem dX0_alter_10 : decode cX0_alter 10 = .ok (.baload, 1) := by decide +kernel
theorem dX0_alter_11 : decode cX0_alter 11 = .ok (.iload_n 2, 1) := by decide +kernel
theorem dX0_alter_12 : decode cX0_alter 12 = .ok (.isub, 1) := by decide +kernel
theorem dX0_alter_13 : decode cX0_alter 13 = .ok (.i2b, 1) := by decide +kernel
theorem dX0_alter_14 : decode cX0_alter 14 = .ok (.bastore, 1) := by decide +kernel
theorem dX0_alter_15 : decode cX0_alter 15 = .ok (.iconst 1, 1) := by decide +kernel
theorem dX0_alter_16 : decode cX0_alter 16 = .ok (.ireturn, 1) := by decide +kernel
theorem dX1_init_0 : decode cX1_init 0 = .ok (.aload_n 0, 1) := by decide +kernel
theorem dX1_init_1 : decode cX1_init 1 = .ok (.invokespecial 1, 3) := by decide +kernel
theorem dX1_init_4 : decode cX1_init 4 = .ok (.aload_n 0, 1) := by decide +kernel
theorem dX1_init_5 : decode cX1_init 5 = .ok (.iload_n 1, 1) := by decide +kernel
theorem dX1_init_6 : decode cX1_init 6 = .ok (.putfield 7, 3) := by decide +kernel
theorem dX1_init_9 : decode cX1_init 9 = .ok (.aload_n 0, 1) := by decide +kernel
theorem dX1_init_10 : decode cX1_init 10 = .ok (.iload_n 2, 1) := by decide +kernel
theorem dX1_init_11 : decode cX1_init 11 = .ok (.anewarray 13, 3) := by decide +kernel
theorem dX1_init_14 : decode cX1_init 14 = .ok (.putfield 15, 3) := by decide +kernel
theorem dX1_init_17 : decode cX1_init 17 = .ok (.return_, 1) := by decide +kernel
theorem dX1_tell_0 : decode cX1_tell 0 = .ok (.iload_n 1, 1) := by decide +kernel
theorem dX1_tell_1 : decode cX1_tell 1 = .ok (.tableswitch 43 0 2 #[27, 32, 38], 27) := by decide +kernel
theorem dX1_tell_28 : decode cX1_tell 28 = .ok (.aload_n 0, 1) := by decide +kernel
theorem dX1_tell_29 : decode cX1_tell 29 = .ok (.getfield 7, 3) := by decide +kernel
theorem dX1_tell_32 : decode cX1_tell 32 = .ok (.ireturn, 1) := by decide +kernel
theorem dX1_tell_33 : decode cX1_tell 33 = .ok (.aload_n 0, 1) := by decide +kernel
theorem dX1_tell_34 : decode cX1_tell 34 = .ok (.getfield 15, 3) := by decide +kernel
theorem dX1_tell_37 : decode cX1_tell 37 = .ok (.arraylength, 1) := by decide +kernel
theorem dX1_tell_38 : decode cX1_tell 38 = .ok (.ireturn, 1) := by decide +kernel
theorem dX1_tell_39 : decode cX1_tell 39 = .ok (.aload_n 0, 1) := by decide +kernel
theorem dX1_tell_40 : decode cX1_tell 40 = .ok (.invokevirtual 19, 3) := by decide +kernel
theorem dX1_tell_43 : decode cX1_tell 43 = .ok (.ireturn, 1) := by decide +kernel
theorem dX1_tell_44 : decode cX1_tell 44 = .ok (.aload_n 0, 1) := by decide +kernel
theorem dX1_tell_45 : decode cX1_tell 45 = .ok (.invokevirtual 23, 3) := by decide +kernel
theorem dX1_tell_48 : decode cX1_tell 48 = .ok (.ireturn, 1) := by decide +kernel
theorem dX1_countLacking_0 : decode cX1_countLacking 0 = .ok (.iconst 0, 1) := by decide +kernel
theorem dX1_countLacking_1 : decode cX1_countLacking 1 = .ok (.istore_n 1, 1) := by decide +kernel
theorem dX1_countLacking_2 : decode cX1_countLacking 2 = .ok (.iconst 0, 1) := by decide +kernel
theorem dX1_countLacking_3 : decode cX1_countLacking 3 = .ok (.istore_n 2, 1) := by decide +kernel
theorem dX1_countLacking_4 : decode cX1_countLacking 4 = .ok (.iload_n 2, 1) := by decide +kernel
theorem dX1_countLacking_5 : decode cX1_countLacking 5 = .ok (.aload_n 0, 1) := by decide +kernel
theorem dX1_countLacking_6 : decode cX1_countLacking 6 = .ok (.getfield 15, 3) := by decide +kernel
theorem dX1_countLacking_9 : decode cX1_countLacking 9 = .ok (.arraylength, 1) := by decide +kernel
theorem dX1_countLacking_10 : decode cX1_countLacking 10 = .ok (.if_icmp .ge 21, 3) := by decide +kernel
theorem dX1_countLacking_13 : decode cX1_countLacking 13 = .ok (.aload_n 0, 1) := by decide +kernel
theorem dX1_countLacking_14 : decode cX1_countLacking 14 = .ok (.getfield 15, 3) := by decide +kernel
theorem dX1_countLacking_17 : decode cX1_countLacking 17 = .ok (.iload_n 2, 1) := by decide +kernel
theorem dX1_countLacking_18 : decode cX1_countLacking 18 = .ok (.aaload, 1) := by decide +kernel
theorem dX1_countLacking_19 : decode cX1_countLacking 19 = .ok (.ifnonnull 6, 3) := by decide +kernel
theorem dX1_countLacking_22 : decode cX1_countLacking 22 = .ok (.iinc 1 1, 3) := by decide +kernel
theorem dX1_countLacking_25 : decode cX1_countLacking 25 = .ok (.iinc 2 1, 3) := by decide +kernel
theorem dX1_countLacking_28 : decode cX1_countLacking 28 = .ok (.goto (-24), 3) := by decide +kernel
theorem dX1_countLacking_31 : decode cX1_countLacking 31 = .ok (.iload_n 1, 1) := by decide +kernel
theorem dX1_countLacking_32 : decode cX1_countLacking 32 = .ok (.ireturn, 1) := by decide +kernel
theorem dX1_countPlaces_0 : decode cX1_countPlaces 0 = .ok (.iconst 0, 1) := by decide +kernel
theorem dX1_countPlaces_1 : decode cX1_countPlaces 1 = .ok (.istore_n 1, 1) := by decide +kernel
theorem dX1_countPlaces_2 : decode cX1_countPlaces 2 = .ok (.iconst 0, 1) := by decide +kernel
theorem dX1_countPlaces_3 : decode cX1_countPlaces 3 = .ok (.istore_n 2, 1) := by decide +kernel
theorem dX1_countPlaces_4 : decode cX1_countPlaces 4 = .ok (.iload_n 2, 1) := by decide +kernel
theorem dX1_countPlaces_5 : decode cX1_countPlaces 5 = .ok (.aload_n 0, 1) := by decide +kernel
theorem dX1_countPlaces_6 : decode cX1_countPlaces 6 = .ok (.getfield 15, 3) := by decide +kernel
theorem dX1_countPlaces_9 : decode cX1_countPlaces 9 = .ok (.arraylength, 1) := by decide +kernel
theorem dX1_countPlaces_10 : decode cX1_countPlaces 10 = .ok (.if_icmp .ge 27, 3) := by decide +kernel
theorem dX1_countPlaces_13 : decode cX1_countPlaces 13 = .ok (.aload_n 0, 1) := by decide +kernel
theorem dX1_countPlaces_14 : decode cX1_countPlaces 14 = .ok (.getfield 15, 3) := by decide +kernel
theorem dX1_countPlaces_17 : decode cX1_countPlaces 17 = .ok (.iload_n 2, 1) := by decide +kernel
theorem dX1_countPlaces_18 : decode cX1_countPlaces 18 = .ok (.aaload, 1) := by decide +kernel
theorem dX1_countPlaces_19 : decode cX1_countPlaces 19 = .ok (.astore_n 3, 1) := by decide +kernel
theorem dX1_countPlaces_20 : decode cX1_countPlaces 20 = .ok (.aload_n 3, 1) := by decide +kernel
theorem dX1_countPlaces_21 : decode cX1_countPlaces 21 = .ok (.ifnull 10, 3) := by decide +kernel
theorem dX1_countPlaces_24 : decode cX1_countPlaces 24 = .ok (.iload_n 1, 1) := by decide +kernel
theorem dX1_countPlaces_25 : decode cX1_countPlaces 25 = .ok (.aload_n 3, 1) := by decide +kernel
theorem dX1_countPlaces_26 : decode cX1_countPlaces 26 = .ok (.getfield 26, 3) := by decide +kernel
theorem dX1_countPlaces_29 : decode cX1_countPlaces 29 = .ok (.iadd, 1) := by decide +kernel
theorem dX1_countPlaces_30 : decode cX1_countPlaces 30 = .ok (.istore_n 1, 1) := by decide +kernel
theorem dX1_countPlaces_31 : decode cX1_countPlaces 31 = .ok (.iinc 2 1, 3) := by decide +kernel
theorem dX1_countPlaces_34 : decode cX1_countPlaces 34 = .ok (.goto (-30), 3) := by decide +kernel
theorem dX1_countPlaces_37 : decode cX1_countPlaces 37 = .ok (.iload_n 1, 1) := by decide +kernel
theorem dX1_countPlaces_38 : decode cX1_countPlaces 38 = .ok (.ireturn, 1) := by decide +kernel
theorem dX2_init_0 : decode cX2_init 0 = .ok (.aload_n 0, 1) := by decide +kernel
theorem dX2_init_1 : decode cX2_init 1 = .ok (.invokespecial 3, 3) := by decide +kernel
theorem dX2_init_4 : decode cX2_init 4 = .ok (.aload_n 0, 1) := by decide +kernel
theorem dX2_init_5 : decode cX2_init 5 = .ok (.iconst 5, 1) := by decide +kernel
theorem dX2_init_6 : decode cX2_init 6 = .ok (.anewarray 9, 3) := by decide +kernel
theorem dX2_init_9 : decode cX2_init 9 = .ok (.putfield 11, 3) := by decide +kernel
theorem dX2_init_12 : decode cX2_init 12 = .ok (.return_, 1) := by decide +kernel
theorem dX2_playOn_0 : decode cX2_playOn 0 = .ok (.aload_n 0, 1) := by decide +kernel
theorem dX2_playOn_1 : decode cX2_playOn 1 = .ok (.getfield 17, 3) := by decide +kernel
theorem dX2_playOn_4 : decode cX2_playOn 4 = .ok (.istore_n 2, 1) := by decide +kernel
theorem dX2_playOn_5 : decode cX2_playOn 5 = .ok (.iconst 0, 1) := by decide +kernel
theorem dX2_playOn_6 : decode cX2_playOn 6 = .ok (.istore_n 3, 1) := by decide +kernel
theorem dX2_playOn_7 : decode cX2_playOn 7 = .ok (.iload_n 3, 1) := by decide +kernel
theorem dX2_playOn_8 : decode cX2_playOn 8 = .ok (.iload_n 1, 1) := by decide +kernel
theorem dX2_playOn_9 : decode cX2_playOn 9 = .ok (.if_icmp .ge 38, 3) := by decide +kernel
theorem dX2_playOn_12 : decode cX2_playOn 12 = .ok (.aload_n 0, 1) := by decide +kernel
theorem dX2_playOn_13 : decode cX2_playOn 13 = .ok (.aload_n 0, 1) := by decide +kernel
theorem dX2_playOn_14 : decode cX2_playOn 14 = .ok (.getfield 21, 3) := by decide +kernel
theorem dX2_playOn_17 : decode cX2_playOn 17 = .ok (.invokevirtual 24, 3) := by decide +kernel
theorem dX2_playOn_20 : decode cX2_playOn 20 = .ok (.ifCond .eq 27, 3) := by decide +kernel
theorem dX2_playOn_23 : decode cX2_playOn 23 = .ok (.aload_n 0, 1) := by decide +kernel
theorem dX2_playOn_24 : decode cX2_playOn 24 = .ok (.aload_n 0, 1) := by decide +kernel
theorem dX2_playOn_25 : decode cX2_playOn 25 = .ok (.getfield 21, 3) := by decide +kernel
theorem dX2_playOn_28 : decode cX2_playOn 28 = .ok (.invokevirtual 28, 3) := by decide +kernel
theorem dX2_playOn_31 : decode cX2_playOn 31 = .ok (.aload_n 0, 1) := by decide +kernel
theorem dX2_playOn_32 : decode cX2_playOn 32 = .ok (.dup, 1) := by decide +kernel
theorem dX2_playOn_33 : decode cX2_playOn 33 = .ok (.getfield 21, 3) := by decide +kernel
theorem dX2_playOn_36 : decode cX2_playOn 36 = .ok (.iconst 1, 1) := by decide +kernel
theorem dX2_playOn_37 : decode cX2_playOn 37 = .ok (.iadd, 1) := by decide +kernel
theorem dX2_playOn_38 : decode cX2_playOn 38 = .ok (.putfield 21, 3) := by decide +kernel
theorem dX2_playOn_41 : decode cX2_playOn 41 = .ok (.iinc 3 1, 3) := by decide +kernel
theorem dX2_playOn_44 : decode cX2_playOn 44 = .ok (.goto (-37), 3) := by decide +kernel
theorem dX2_playOn_47 : decode cX2_playOn 47 = .ok (.aload_n 0, 1) := by decide +kernel
theorem dX2_playOn_48 : decode cX2_playOn 48 = .ok (.getfield 17, 3) := by decide +kernel
theorem dX2_playOn_51 : decode cX2_playOn 51 = .ok (.iload_n 2, 1) := by decide +kernel
theorem dX2_playOn_52 : decode cX2_playOn 52 = .ok (.isub, 1) := by decide +kernel
theorem dX2_playOn_53 : decode cX2_playOn 53 = .ok (.ireturn, 1) := by decide +kernel
theorem dX2_someTrackHas_0 : decode cX2_someTrackHas 0 = .ok (.iconst 0, 1) := by decide +kernel
theorem dX2_someTrackHas_1 : decode cX2_someTrackHas 1 = .ok (.istore_n 2, 1) := by decide +kernel
theorem dX2_someTrackHas_2 : decode cX2_someTrackHas 2 = .ok (.iload_n 2, 1) := by decide +kernel
theorem dX2_someTrackHas_3 : decode cX2_someTrackHas 3 = .ok (.iconst 5, 1) := by decide +kernel
theorem dX2_someTrackHas_4 : decode cX2_someTrackHas 4 = .ok (.if_icmp .ge 30, 3) := by decide +kernel
theorem dX2_someTrackHas_7 : decode cX2_someTrackHas 7 = .ok (.aload_n 0, 1) := by decide +kernel
theorem dX2_someTrackHas_8 : decode cX2_someTrackHas 8 = .ok (.getfield 11, 3) := by decide +kernel
theorem dX2_someTrackHas_11 : decode cX2_someTrackHas 11 = .ok (.iload_n 2, 1) := by decide +kernel
theorem dX2_someTrackHas_12 : decode cX2_someTrackHas 12 = .ok (.aaload, 1) := by decide +kernel
theorem dX2_someTrackHas_13 : decode cX2_someTrackHas 13 = .ok (.astore_n 3, 1) := by decide +kernel
theorem dX2_someTrackHas_14 : decode cX2_someTrackHas 14 = .ok (.aload_n 3, 1) := by decide +kernel
theorem dX2_someTrackHas_15 : decode cX2_someTrackHas 15 = .ok (.ifnull 13, 3) := by decide +kernel
theorem dX2_someTrackHas_18 : decode cX2_someTrackHas 18 = .ok (.aload_n 3, 1) := by decide +kernel
theorem dX2_someTrackHas_19 : decode cX2_someTrackHas 19 = .ok (.iload_n 1, 1) := by decide +kernel
theorem dX2_someTrackHas_20 : decode cX2_someTrackHas 20 = .ok (.invokevirtual 32, 3) := by decide +kernel
theorem dX2_someTrackHas_23 : decode cX2_someTrackHas 23 = .ok (.ifCond .eq 5, 3) := by decide +kernel
theorem dX2_someTrackHas_26 : decode cX2_someTrackHas 26 = .ok (.iconst 1, 1) := by decide +kernel
theorem dX2_someTrackHas_27 : decode cX2_someTrackHas 27 = .ok (.ireturn, 1) := by decide +kernel
theorem dX2_someTrackHas_28 : decode cX2_someTrackHas 28 = .ok (.iinc 2 1, 3) := by decide +kernel
theorem dX2_someTrackHas_31 : decode cX2_someTrackHas 31 = .ok (.goto (-29), 3) := by decide +kernel
theorem dX2_someTrackHas_34 : decode cX2_someTrackHas 34 = .ok (.iconst 0, 1) := by decide +kernel
theorem dX2_someTrackHas_35 : decode cX2_someTrackHas 35 = .ok (.ireturn, 1) := by decide +kernel
theorem dX2_playPlace_0 : decode cX2_playPlace 0 = .ok (.aload_n 0, 1) := by decide +kernel
theorem dX2_playPlace_1 : decode cX2_playPlace 1 = .ok (.iconst 0, 1) := by decide +kernel
theorem dX2_playPlace_2 : decode cX2_playPlace 2 = .ok (.iload_n 1, 1) := by decide +kernel
theorem dX2_playPlace_3 : decode cX2_playPlace 3 = .ok (.iconst 1, 1) := by decide +kernel
theorem dX2_playPlace_4 : decode cX2_playPlace 4 = .ok (.invokevirtual 35, 3) := by decide +kernel
theorem dX2_playPlace_7 : decode cX2_playPlace 7 = .ok (.istore_n 2, 1) := by decide +kernel
theorem dX2_playPlace_8 : decode cX2_playPlace 8 = .ok (.aload_n 0, 1) := by decide +kernel
theorem dX2_playPlace_9 : decode cX2_playPlace 9 = .ok (.iconst 1, 1) := by decide +kernel
theorem dX2_playPlace_10 : decode cX2_playPlace 10 = .ok (.iload_n 1, 1) := by decide +kernel
theorem dX2_playPlace_11 : decode cX2_playPlace 11 = .ok (.bipush 60, 2) := by decide +kernel
theorem dX2_playPlace_13 : decode cX2_playPlace 13 = .ok (.invokevirtual 35, 3) := by decide +kernel
theorem dX2_playPlace_16 : decode cX2_playPlace 16 = .ok (.istore_n 3, 1) := by decide +kernel
theorem dX2_playPlace_17 : decode cX2_playPlace 17 = .ok (.aload_n 0, 1) := by decide +kernel
theorem dX2_playPlace_18 : decode cX2_playPlace 18 = .ok (.iconst 2, 1) := by decide +kernel
theorem dX2_playPlace_19 : decode cX2_playPlace 19 = .ok (.iload_n 1, 1) := by decide +kernel
theorem dX2_playPlace_20 : decode cX2_playPlace 20 = .ok (.iconst 1, 1) := by decide +kernel
theorem dX2_playPlace_21 : decode cX2_playPlace 21 = .ok (.invokevirtual 35, 3) := by decide +kernel
theorem dX2_playPlace_24 : decode cX2_playPlace 24 = .ok (.istore 4, 2) := by decide +kernel
theorem dX2_playPlace_26 : decode cX2_playPlace 26 = .ok (.aload_n 0, 1) := by decide +kernel
theorem dX2_playPlace_27 : decode cX2_playPlace 27 = .ok (.iload_n 1, 1) := by decide +kernel
theorem dX2_playPlace_28 : decode cX2_playPlace 28 = .ok (.invokevirtual 39, 3) := by decide +kernel
theorem dX2_playPlace_31 : decode cX2_playPlace 31 = .ok (.fstore 5, 2) := by decide +kernel
theorem dX2_playPlace_33 : decode cX2_playPlace 33 = .ok (.aload_n 0, 1) := by decide +kernel
theorem dX2_playPlace_34 : decode cX2_playPlace 34 = .ok (.iconst 4, 1) := by decide +kernel
theorem dX2_playPlace_35 : decode cX2_playPlace 35 = .ok (.iload_n 1, 1) := by decide +kernel
theorem dX2_playPlace_36 : decode cX2_playPlace 36 = .ok (.iconst 0, 1) := by decide +kernel
theorem dX2_playPlace_37 : decode cX2_playPlace 37 = .ok (.invokevirtual 35, 3) := by decide +kernel
theorem dX2_playPlace_40 : decode cX2_playPlace 40 = .ok (.istore 6, 2) := by decide +kernel
theorem dX2_playPlace_42 : decode cX2_playPlace 42 = .ok (.aload_n 0, 1) := by decide +kernel
theorem dX2_playPlace_43 : decode cX2_playPlace 43 = .ok (.dup, 1) := by decide +kernel
theorem dX2_playPlace_44 : decode cX2_playPlace 44 = .ok (.getfield 43, 3) := by decide +kernel
theorem dX2_playPlace_47 : decode cX2_playPlace 47 = .ok (.iconst 1, 1) := by decide +kernel
theorem dX2_playPlace_48 : decode cX2_playPlace 48 = .ok (.iadd, 1) := by decide +kernel
theorem dX2_playPlace_49 : decode cX2_playPlace 49 = .ok (.putfield 43, 3) := by decide +kernel
theorem dX2_playPlace_52 : decode cX2_playPlace 52 = .ok (.iload_n 2, 1) := by decide +kernel
theorem dX2_playPlace_53 : decode cX2_playPlace 53 = .ok (.iconst 1, 1) := by decide +kernel
theorem dX2_playPlace_54 : decode cX2_playPlace 54 = .ok (.if_icmp .ne 15, 3) := by decide +kernel
theorem dX2_playPlace_57 : decode cX2_playPlace 57 = .ok (.aload_n 0, 1) := by decide +kernel
theorem dX2_playPlace_58 : decode cX2_playPlace 58 = .ok (.iload_n 3, 1) := by decide +kernel
theorem dX2_playPlace_59 : decode cX2_playPlace 59 = .ok (.iload 6, 2) := by decide +kernel
theorem dX2_playPlace_61 : decode cX2_playPlace 61 = .ok (.iadd, 1) := by decide +kernel
theorem dX2_playPlace_62 : decode cX2_playPlace 62 = .ok (.iload 4, 2) := by decide +kernel
theorem dX2_playPlace_64 : decode cX2_playPlace 64 = .ok (.fload 5, 2) := by decide +kernel
theorem dX2_playPlace_66 : decode cX2_playPlace 66 = .ok (.invokevirtual 46, 3) := by decide +kernel
theorem dX2_playPlace_69 : decode cX2_playPlace 69 = .ok (.return_, 1) := by decide +kernel
theorem dX2_ask_0 : decode cX2_ask 0 = .ok (.aload_n 0, 1) := by decide +kernel
theorem dX2_ask_1 : decode cX2_ask 1 = .ok (.getfield 11, 3) := by decide +kernel
theorem dX2_ask_4 : decode cX2_ask 4 = .ok (.iload_n 1, 1) := by decide +kernel
theorem dX2_ask_5 : decode cX2_ask 5 = .ok (.aaload, 1) := by decide +kernel
theorem dX2_ask_6 : decode cX2_ask 6 = .ok (.astore 4, 2) := by decide +kernel
theorem dX2_ask_8 : decode cX2_ask 8 = .ok (.aload 4, 2) := by decide +kernel
theorem dX2_ask_10 : decode cX2_ask 10 = .ok (.ifnull 19, 3) := by decide +kernel
theorem dX2_ask_13 : decode cX2_ask 13 = .ok (.aload 4, 2) := by decide +kernel
theorem dX2_ask_15 : decode cX2_ask 15 = .ok (.iload_n 2, 1) := by decide +kernel
theorem dX2_ask_16 : decode cX2_ask 16 = .ok (.invokevirtual 32, 3) := by decide +kernel
theorem dX2_ask_19 : decode cX2_ask 19 = .ok (.ifCond .eq 10, 3) := by decide +kernel
theorem dX2_ask_22 : decode cX2_ask 22 = .ok (.aload 4, 2) := by decide +kernel
theorem dX2_ask_24 : decode cX2_ask 24 = .ok (.iload_n 2, 1) := by decide +kernel
theorem dX2_ask_25 : decode cX2_ask 25 = .ok (.invokevirtual 50, 3) := by decide +kernel
theorem dX2_ask_28 : decode cX2_ask 28 = .ok (.ireturn, 1) := by decide +kernel
theorem dX2_ask_29 : decode cX2_ask 29 = .ok (.aload_n 0, 1) := by decide +kernel
theorem dX2_ask_30 : decode cX2_ask 30 = .ok (.dup, 1) := by decide +kernel
theorem dX2_ask_31 : decode cX2_ask 31 = .ok (.getfield 54, 3) := by decide +kernel
theorem dX2_ask_34 : decode cX2_ask 34 = .ok (.iconst 1, 1) := by decide +kernel
theorem dX2_ask_35 : decode cX2_ask 35 = .ok (.iadd, 1) := by decide +kernel
theorem dX2_ask_36 : decode cX2_ask 36 = .ok (.putfield 54, 3) := by decide +kernel
theorem dX2_ask_39 : decode cX2_ask 39 = .ok (.iload_n 3, 1) := by decide +kernel
theorem dX2_ask_40 : decode cX2_ask 40 = .ok (.ireturn, 1) := by decide +kernel
theorem dX2_askLevel_0 : decode cX2_askLevel 0 = .ok (.aload_n 0, 1) := by decide +kernel
theorem dX2_askLevel_1 : decode cX2_askLevel 1 = .ok (.getfield 11, 3) := by decide +kernel
theorem dX2_askLevel_4 : decode cX2_askLevel 4 = .ok (.iconst 3, 1) := by decide +kernel
theorem dX2_askLevel_5 : decode cX2_askLevel 5 = .ok (.aaload, 1) := by decide +kernel
theorem dX2_askLevel_6 : decode cX2_askLevel 6 = .ok (.astore_n 3, 1) := by decide +kernel
theorem dX2_askLevel_7 : decode cX2_askLevel 7 = .ok (.aload_n 3, 1) := by decide +kernel
theorem dX2_askLevel_8 : decode cX2_askLevel 8 = .ok (.instanceof 57, 3) := by decide +kernel
theorem dX2_askLevel_11 : decode cX2_askLevel 11 = .ok (.ifCond .eq 22, 3) := by decide +kernel
theorem dX2_askLevel_14 : decode cX2_askLevel 14 = .ok (.aload_n 3, 1) := by decide +kernel
theorem dX2_askLevel_15 : decode cX2_askLevel 15 = .ok (.checkcast 57, 3) := by decide +kernel
theorem dX2_askLevel_18 : decode cX2_askLevel 18 = .ok (.astore_n 2, 1) := by decide +kernel
theorem dX2_askLevel_19 : decode cX2_askLevel 19 = .ok (.aload_n 2, 1) := by decide +kernel
theorem dX2_askLevel_20 : decode cX2_askLevel 20 = .ok (.iload_n 1, 1) := by decide +kernel
theorem dX2_askLevel_21 : decode cX2_askLevel 21 = .ok (.invokevirtual 59, 3) := by decide +kernel
theorem dX2_askLevel_24 : decode cX2_askLevel 24 = .ok (.ifCond .eq 9, 3) := by decide +kernel
theorem dX2_askLevel_27 : decode cX2_askLevel 27 = .ok (.aload_n 2, 1) := by decide +kernel
theorem dX2_askLevel_28 : decode cX2_askLevel 28 = .ok (.iload_n 1, 1) := by decide +kernel
theorem dX2_askLevel_29 : decode cX2_askLevel 29 = .ok (.invokevirtual 60, 3) := by decide +kernel
theorem dX2_askLevel_32 : decode cX2_askLevel 32 = .ok (.freturn, 1) := by decide +kernel
theorem dX2_askLevel_33 : decode cX2_askLevel 33 = .ok (.aload_n 0, 1) := by decide +kernel
theorem dX2_askLevel_34 : decode cX2_askLevel 34 = .ok (.dup, 1) := by decide +kernel
theorem dX2_askLevel_35 : decode cX2_askLevel 35 = .ok (.getfield 54, 3) := by decide +kernel
theorem dX2_askLevel_38 : decode cX2_askLevel 38 = .ok (.iconst 1, 1) := by decide +kernel
theorem dX2_askLevel_39 : decode cX2_askLevel 39 = .ok (.iadd, 1) := by decide +kernel
theorem dX2_askLevel_40 : decode cX2_askLevel 40 = .ok (.putfield 54, 3) := by decide +kernel
theorem dX2_askLevel_43 : decode cX2_askLevel 43 = .ok (.fconst 1, 1) := by decide +kernel
theorem dX2_askLevel_44 : decode cX2_askLevel 44 = .ok (.freturn, 1) := by decide +kernel
theorem dX2_sound_0 : decode cX2_sound 0 = .ok (.aload_n 0, 1) := by decide +kernel
theorem dX2_sound_1 : decode cX2_sound 1 = .ok (.getfield 17, 3) := by decide +kernel
theorem dX2_sound_4 : decode cX2_sound 4 = .ok (.ifCond .eq 11, 3) := by decide +kernel
theorem dX2_sound_7 : decode cX2_sound 7 = .ok (.iload_n 1, 1) := by decide +kernel
theorem dX2_sound_8 : decode cX2_sound 8 = .ok (.aload_n 0, 1) := by decide +kernel
theorem dX2_sound_9 : decode cX2_sound 9 = .ok (.getfield 63, 3) := by decide +kernel
theorem dX2_sound_12 : decode cX2_sound 12 = .ok (.if_icmp .le 8, 3) := by decide +kernel
theorem dX2_sound_15 : decode cX2_sound 15 = .ok (.aload_n 0, 1) := by decide +kernel
theorem dX2_sound_16 : decode cX2_sound 16 = .ok (.iload_n 1, 1) := by decide +kernel
theorem dX2_sound_17 : decode cX2_sound 17 = .ok (.putfield 63, 3) := by decide +kernel
theorem dX2_sound_20 : decode cX2_sound 20 = .ok (.aload_n 0, 1) := by decide +kernel
theorem dX2_sound_21 : decode cX2_sound 21 = .ok (.getfield 17, 3) := by decide +kernel
theorem dX2_sound_24 : decode cX2_sound 24 = .ok (.ifCond .eq 12, 3) := by decide +kernel
theorem dX2_sound_27 : decode cX2_sound 27 = .ok (.fload_n 3, 1) := by decide +kernel
theorem dX2_sound_28 : decode cX2_sound 28 = .ok (.aload_n 0, 1) := by decide +kernel
theorem dX2_sound_29 : decode cX2_sound 29 = .ok (.getfield 66, 3) := by decide +kernel
theorem dX2_sound_32 : decode cX2_sound 32 = .ok (.fcmp .l, 1) := by decide +kernel
theorem dX2_sound_33 : decode cX2_sound 33 = .ok (.ifCond .le 8, 3) := by decide +kernel
theorem dX2_sound_36 : decode cX2_sound 36 = .ok (.aload_n 0, 1) := by decide +kernel
theorem dX2_sound_37 : decode cX2_sound 37 = .ok (.fload_n 3, 1) := by decide +kernel
theorem dX2_sound_38 : decode cX2_sound 38 = .ok (.putfield 66, 3) := by decide +kernel
theorem dX2_sound_41 : decode cX2_sound 41 = .ok (.aload_n 0, 1) := by decide +kernel
theorem dX2_sound_42 : decode cX2_sound 42 = .ok (.dup, 1) := by decide +kernel
theorem dX2_sound_43 : decode cX2_sound 43 = .ok (.getfield 70, 3) := by decide +kernel
theorem dX2_sound_46 : decode cX2_sound 46 = .ok (.iload_n 1, 1) := by decide +kernel
theorem dX2_sound_47 : decode cX2_sound 47 = .ok (.i2l, 1) := by decide +kernel
theorem dX2_sound_48 : decode cX2_sound 48 = .ok (.iload_n 2, 1) := by decide +kernel
theorem dX2_sound_49 : decode cX2_sound 49 = .ok (.i2l, 1) := by decide +kernel
theorem dX2_sound_50 : decode cX2_sound 50 = .ok (.lmul, 1) := by decide +kernel
theorem dX2_sound_51 : decode cX2_sound 51 = .ok (.ladd, 1) := by decide +kernel
theorem dX2_sound_52 : decode cX2_sound 52 = .ok (.putfield 70, 3) := by decide +kernel
theorem dX2_sound_55 : decode cX2_sound 55 = .ok (.aload_n 0, 1) := by decide +kernel
theorem dX2_sound_56 : decode cX2_sound 56 = .ok (.dup, 1) := by decide +kernel
theorem dX2_sound_57 : decode cX2_sound 57 = .ok (.getfield 17, 3) := by decide +kernel
theorem dX2_sound_60 : decode cX2_sound 60 = .ok (.iconst 1, 1) := by decide +kernel
theorem dX2_sound_61 : decode cX2_sound 61 = .ok (.iadd, 1) := by decide +kernel
theorem dX2_sound_62 : decode cX2_sound 62 = .ok (.putfield 17, 3) := by decide +kernel
theorem dX2_sound_65 : decode cX2_sound 65 = .ok (.return_, 1) := by decide +kernel
theorem dX2_tally_0 : decode cX2_tally 0 = .ok (.iload_n 1, 1) := by decide +kernel
theorem dX2_tally_1 : decode cX2_tally 1 = .ok (.tableswitch 77 0 5 #[39, 45, 51, 57, 62, 68], 39) := by decide +kernel
theorem dX2_tally_40 : decode cX2_tally 40 = .ok (.aload_n 0, 1) := by decide +kernel
theorem dX2_tally_41 : decode cX2_tally 41 = .ok (.getfield 17, 3) := by decide +kernel
theorem dX2_tally_44 : decode cX2_tally 44 = .ok (.i2l, 1) := by decide +kernel
theorem dX2_tally_45 : decode cX2_tally 45 = .ok (.lreturn, 1) := by decide +kernel
theorem dX2_tally_46 : decode cX2_tally 46 = .ok (.aload_n 0, 1) := by decide +kernel
theorem dX2_tally_47 : decode cX2_tally 47 = .ok (.getfield 43, 3) := by decide +kernel
theorem dX2_tally_50 : decode cX2_tally 50 = .ok (.i2l, 1) := by decide +kernel
theorem dX2_tally_51 : decode cX2_tally 51 = .ok (.lreturn, 1) := by decide +kernel
theorem dX2_tally_52 : decode cX2_tally 52 = .ok (.aload_n 0, 1) := by decide +kernel
theorem dX2_tally_53 : decode cX2_tally 53 = .ok (.getfield 54, 3) := by decide +kernel
theorem dX2_tally_56 : decode cX2_tally 56 = .ok (.i2l, 1) := by decide +kernel
theorem dX2_tally_57 : decode cX2_tally 57 = .ok (.lreturn, 1) := by decide +kernel
theorem dX2_tally_58 : decode cX2_tally 58 = .ok (.aload_n 0, 1) := by decide +kernel
theorem dX2_tally_59 : decode cX2_tally 59 = .ok (.getfield 70, 3) := by decide +kernel
theorem dX2_tally_62 : decode cX2_tally 62 = .ok (.lreturn, 1) := by decide +kernel
theorem dX2_tally_63 : decode cX2_tally 63 = .ok (.aload_n 0, 1) := by decide +kernel
theorem dX2_tally_64 : decode cX2_tally 64 = .ok (.getfield 63, 3) := by decide +kernel
theorem dX2_tally_67 : decode cX2_tally 67 = .ok (.i2l, 1) := by decide +kernel
theorem dX2_tally_68 : decode cX2_tally 68 = .ok (.lreturn, 1) := by decide +kernel
theorem dX2_tally_69 : decode cX2_tally 69 = .ok (.aload_n 0, 1) := by decide +kernel
theorem dX2_tally_70 : decode cX2_tally 70 = .ok (.getfield 66, 3) := by decide +kernel
theorem dX2_tally_73 : decode cX2_tally 73 = .ok (.invokestatic 74, 3) := by decide +kernel
theorem dX2_tally_76 : decode cX2_tally 76 = .ok (.i2l, 1) := by decide +kernel
theorem dX2_tally_77 : decode cX2_tally 77 = .ok (.lreturn, 1) := by decide +kernel
theorem dX2_tally_78 : decode cX2_tally 78 = .ok (.aload_n 0, 1) := by decide +kernel
theorem dX2_tally_79 : decode cX2_tally 79 = .ok (.getfield 21, 3) := by decide +kernel
theorem dX2_tally_82 : decode cX2_tally 82 = .ok (.i2l, 1) := by decide +kernel
theorem dX2_tally_83 : decode cX2_tally 83 = .ok (.lreturn, 1) := by decide +kernel
theorem dX2_forget_0 : decode cX2_forget 0 = .ok (.aload_n 0, 1) := by decide +kernel
theorem dX2_forget_1 : decode cX2_forget 1 = .ok (.iconst 0, 1) := by decide +kernel
theorem dX2_forget_2 : decode cX2_forget 2 = .ok (.putfield 17, 3) := by decide +kernel
theorem dX2_forget_5 : decode cX2_forget 5 = .ok (.aload_n 0, 1) := by decide +kernel
theorem dX2_forget_6 : decode cX2_forget 6 = .ok (.iconst 0, 1) := by decide +kernel
theorem dX2_forget_7 : decode cX2_forget 7 = .ok (.putfield 43, 3) := by decide +kernel
theorem dX2_forget_10 : decode cX2_forget 10 = .ok (.aload_n 0, 1) := by decide +kernel
theorem dX2_forget_11 : decode cX2_forget 11 = .ok (.iconst 0, 1) := by decide +kernel
theorem dX2_forget_12 : decode cX2_forget 12 = .ok (.putfield 54, 3) := by decide +kernel
theorem dX2_forget_15 : decode cX2_forget 15 = .ok (.aload_n 0, 1) := by decide +kernel
theorem dX2_forget_16 : decode cX2_forget 16 = .ok (.lconst 0, 1) := by decide +kernel
theorem dX2_forget_17 : decode cX2_forget 17 = .ok (.putfield 70, 3) := by decide +kernel
theorem dX2_forget_20 : decode cX2_forget 20 = .ok (.aload_n 0, 1) := by decide +kernel
theorem dX2_forget_21 : decode cX2_forget 21 = .ok (.iconst 0, 1) := by decide +kernel
theorem dX2_forget_22 : decode cX2_forget 22 = .ok (.putfield 63, 3) := by decide +kernel
theorem dX2_forget_25 : decode cX2_forget 25 = .ok (.aload_n 0, 1) := by decide +kernel
theorem dX2_forget_26 : decode cX2_forget 26 = .ok (.fconst 0, 1) := by decide +kernel
theorem dX2_forget_27 : decode cX2_forget 27 = .ok (.putfield 66, 3) := by decide +kernel
theorem dX2_forget_30 : decode cX2_forget 30 = .ok (.return_, 1) := by decide +kernel
theorem dX3_init_0 : decode cX3_init 0 = .ok (.aload_n 0, 1) := by decide +kernel
theorem dX3_init_1 : decode cX3_init 1 = .ok (.iload_n 1, 1) := by decide +kernel
theorem dX3_init_2 : decode cX3_init 2 = .ok (.invokespecial 1, 3) := by decide +kernel
theorem dX3_init_5 : decode cX3_init 5 = .ok (.aload_n 0, 1) := by decide +kernel
theorem dX3_init_6 : decode cX3_init 6 = .ok (.iload_n 1, 1) := by decide +kernel
theorem dX3_init_7 : decode cX3_init 7 = .ok (.newarray .short, 2) := by decide +kernel
theorem dX3_init_9 : decode cX3_init 9 = .ok (.putfield 7, 3) := by decide +kernel
theorem dX3_init_12 : decode cX3_init 12 = .ok (.return_, 1) := by decide +kernel
theorem dX3_valueAt_0 : decode cX3_valueAt 0 = .ok (.aload_n 0, 1) := by decide +kernel
theorem dX3_valueAt_1 : decode cX3_valueAt 1 = .ok (.getfield 7, 3) := by decide +kernel
theorem dX3_valueAt_4 : decode cX3_valueAt 4 = .ok (.iload_n 1, 1) := by decide +kernel
theorem dX3_valueAt_5 : decode cX3_valueAt 5 = .ok (.saload, 1) := by decide +kernel
theorem dX3_valueAt_6 : decode cX3_valueAt 6 = .ok (.ireturn, 1) := by decide +kernel
theorem dX3_put_0 : decode cX3_put 0 = .ok (.aload_n 0, 1) := by decide +kernel
theorem dX3_put_1 : decode cX3_put 1 = .ok (.getfield 7, 3) := by decide +kernel
theorem dX3_put_4 : decode cX3_put 4 = .ok (.iload_n 1, 1) := by decide +kernel
theorem dX3_put_5 : decode cX3_put 5 = .ok (.iload_n 2, 1) := by decide +kernel
theorem dX3_put_6 : decode cX3_put 6 = .ok (.i2s, 1) := by decide +kernel
theorem dX3_put_7 : decode cX3_put 7 = .ok (.sastore, 1) := by decide +kernel
theorem dX3_put_8 : decode cX3_put 8 = .ok (.iconst 1, 1) := by decide +kernel
theorem dX3_put_9 : decode cX3_put 9 = .ok (.ireturn, 1) := by decide +kernel
theorem dX3_alter_0 : decode cX3_alter 0 = .ok (.aload_n 0, 1) := by decide +kernel
theorem dX3_alter_1 : decode cX3_alter 1 = .ok (.getfield 7, 3) := by decide +kernel
theorem dX3_alter_4 : decode cX3_alter 4 = .ok (.iload_n 1, 1) := by decide +kernel
theorem dX3_alter_5 : decode cX3_alter 5 = .ok (.aload_n 0, 1) := by decide +kernel
theorem dX3_alter_6 : decode cX3_alter 6 = .ok (.getfield 7, 3) := by decide +kernel
theorem dX3_alter_9 : decode cX3_alter 9 = .ok (.iload_n 1, 1) := by decide +kernel
theorem dX3_alter_10 : decode cX3_alter 10 = .ok (.saload, 1) := by decide +kernel
theorem dX3_alter_11 : decode cX3_alter 11 = .ok (.iload_n 2, 1) := by decide +kernel
theorem dX3_alter_12 : decode cX3_alter 12 = .ok (.imul, 1) := by decide +kernel
theorem dX3_alter_13 : decode cX3_alter 13 = .ok (.i2s, 1) := by decide +kernel
theorem dX3_alter_14 : decode cX3_alter 14 = .ok (.sastore, 1) := by decide +kernel
theorem dX3_alter_15 : decode cX3_alter 15 = .ok (.iconst 1, 1) := by decide +kernel
theorem dX3_alter_16 : decode cX3_alter 16 = .ok (.ireturn, 1) := by decide +kernel
theorem dX4_init_0 : decode cX4_init 0 = .ok (.aload_n 0, 1) := by decide +kernel
theorem dX4_init_1 : decode cX4_init 1 = .ok (.iload_n 1, 1) := by decide +kernel
theorem dX4_init_2 : decode cX4_init 2 = .ok (.invokespecial 3, 3) := by decide +kernel
theorem dX4_init_5 : decode cX4_init 5 = .ok (.aload_n 0, 1) := by decide +kernel
theorem dX4_init_6 : decode cX4_init 6 = .ok (.iload_n 1, 1) := by decide +kernel
theorem dX4_init_7 : decode cX4_init 7 = .ok (.newarray .float, 2) := by decide +kernel
theorem dX4_init_9 : decode cX4_init 9 = .ok (.putfield 9, 3) := by decide +kernel
theorem dX4_init_12 : decode cX4_init 12 = .ok (.return_, 1) := by decide +kernel
theorem dX4_levelAt_0 : decode cX4_levelAt 0 = .ok (.aload_n 0, 1) := by decide +kernel
theorem dX4_levelAt_1 : decode cX4_levelAt 1 = .ok (.getfield 9, 3) := by decide +kernel
theorem dX4_levelAt_4 : decode cX4_levelAt 4 = .ok (.iload_n 1, 1) := by decide +kernel
theorem dX4_levelAt_5 : decode cX4_levelAt 5 = .ok (.faload, 1) := by decide +kernel
theorem dX4_levelAt_6 : decode cX4_levelAt 6 = .ok (.freturn, 1) := by decide +kernel
theorem dX4_valueAt_0 : decode cX4_valueAt 0 = .ok (.aload_n 0, 1) := by decide +kernel
theorem dX4_valueAt_1 : decode cX4_valueAt 1 = .ok (.getfield 9, 3) := by decide +kernel
theorem dX4_valueAt_4 : decode cX4_valueAt 4 = .ok (.iload_n 1, 1) := by decide +kernel
theorem dX4_valueAt_5 : decode cX4_valueAt 5 = .ok (.faload, 1) := by decide +kernel
theorem dX4_valueAt_6 : decode cX4_valueAt 6 = .ok (.invokestatic 15, 3) := by decide +kernel
theorem dX4_valueAt_9 : decode cX4_valueAt 9 = .ok (.ireturn, 1) := by decide +kernel
theorem dX4_put_0 : decode cX4_put 0 = .ok (.iload_n 2, 1) := by decide +kernel
theorem dX4_put_1 : decode cX4_put 1 = .ok (.ldc 19, 2) := by decide +kernel
theorem dX4_put_3 : decode cX4_put 3 = .ok (.if_icmp .lt 9, 3) := by decide +kernel
theorem dX4_put_6 : decode cX4_put 6 = .ok (.iload_n 2, 1) := by decide +kernel
theorem dX4_put_7 : decode cX4_put 7 = .ok (.ldc 20, 2) := by decide +kernel
theorem dX4_put_9 : decode cX4_put 9 = .ok (.if_icmp .le 5, 3) := by decide +kernel
theorem dX4_put_12 : decode cX4_put 12 = .ok (.iconst 0, 1) := by decide +kernel
theorem dX4_put_13 : decode cX4_put 13 = .ok (.ireturn, 1) := by decide +kernel
theorem dX4_put_14 : decode cX4_put 14 = .ok (.aload_n 0, 1) := by decide +kernel
theorem dX4_put_15 : decode cX4_put 15 = .ok (.getfield 9, 3) := by decide +kernel
theorem dX4_put_18 : decode cX4_put 18 = .ok (.iload_n 1, 1) := by decide +kernel
theorem dX4_put_19 : decode cX4_put 19 = .ok (.iload_n 2, 1) := by decide +kernel
theorem dX4_put_20 : decode cX4_put 20 = .ok (.i2f, 1) := by decide +kernel
theorem dX4_put_21 : decode cX4_put 21 = .ok (.ldc 21, 2) := by decide +kernel
theorem dX4_put_23 : decode cX4_put 23 = .ok (.fdiv, 1) := by decide +kernel
theorem dX4_put_24 : decode cX4_put 24 = .ok (.fastore, 1) := by decide +kernel
theorem dX4_put_25 : decode cX4_put 25 = .ok (.iconst 1, 1) := by decide +kernel
theorem dX4_put_26 : decode cX4_put 26 = .ok (.ireturn, 1) := by decide +kernel
theorem dX4_alter_0 : decode cX4_alter 0 = .ok (.iload_n 2, 1) := by decide +kernel
theorem dX4_alter_1 : decode cX4_alter 1 = .ok (.sipush (-4000), 3) := by decide +kernel
theorem dX4_alter_4 : decode cX4_alter 4 = .ok (.if_icmp .lt 10, 3) := by decide +kernel
theorem dX4_alter_7 : decode cX4_alter 7 = .ok (.iload_n 2, 1) := by decide +kernel
theorem dX4_alter_8 : decode cX4_alter 8 = .ok (.sipush 4000, 3) := by decide +kernel
theorem dX4_alter_11 : decode cX4_alter 11 = .ok (.if_icmp .le 5, 3) := by decide +kernel
theorem dX4_alter_14 : decode cX4_alter 14 = .ok (.iconst 0, 1) := by decide +kernel
theorem dX4_alter_15 : decode cX4_alter 15 = .ok (.ireturn, 1) := by decide +kernel
theorem dX4_alter_16 : decode cX4_alter 16 = .ok (.aload_n 0, 1) := by decide +kernel
theorem dX4_alter_17 : decode cX4_alter 17 = .ok (.getfield 9, 3) := by decide +kernel
theorem dX4_alter_20 : decode cX4_alter 20 = .ok (.iload_n 1, 1) := by decide +kernel
theorem dX4_alter_21 : decode cX4_alter 21 = .ok (.faload, 1) := by decide +kernel
theorem dX4_alter_22 : decode cX4_alter 22 = .ok (.iload_n 2, 1) := by decide +kernel
theorem dX4_alter_23 : decode cX4_alter 23 = .ok (.i2f, 1) := by decide +kernel
theorem dX4_alter_24 : decode cX4_alter 24 = .ok (.ldc 22, 2) := by decide +kernel
theorem dX4_alter_26 : decode cX4_alter 26 = .ok (.fdiv, 1) := by decide +kernel
theorem dX4_alter_27 : decode cX4_alter 27 = .ok (.fmul, 1) := by decide +kernel
theorem dX4_alter_28 : decode cX4_alter 28 = .ok (.fstore_n 3, 1) := by decide +kernel
theorem dX4_alter_29 : decode cX4_alter 29 = .ok (.fload_n 3, 1) := by decide +kernel
theorem dX4_alter_30 : decode cX4_alter 30 = .ok (.ldc 23, 2) := by decide +kernel
theorem dX4_alter_32 : decode cX4_alter 32 = .ok (.fcmp .g, 1) := by decide +kernel
theorem dX4_alter_33 : decode cX4_alter 33 = .ok (.ifCond .lt 10, 3) := by decide +kernel
theorem dX4_alter_36 : decode cX4_alter 36 = .ok (.fload_n 3, 1) := by decide +kernel
theorem dX4_alter_37 : decode cX4_alter 37 = .ok (.ldc 24, 2) := by decide +kernel
theorem dX4_alter_39 : decode cX4_alter 39 = .ok (.fcmp .l, 1) := by decide +kernel
theorem dX4_alter_40 : decode cX4_alter 40 = .ok (.ifCond .le 5, 3) := by decide +kernel
theorem dX4_alter_43 : decode cX4_alter 43 = .ok (.iconst 0, 1) := by decide +kernel
theorem dX4_alter_44 : decode cX4_alter 44 = .ok (.ireturn, 1) := by decide +kernel
theorem dX4_alter_45 : decode cX4_alter 45 = .ok (.aload_n 0, 1) := by decide +kernel
theorem dX4_alter_46 : decode cX4_alter 46 = .ok (.getfield 9, 3) := by decide +kernel
theorem dX4_alter_49 : decode cX4_alter 49 = .ok (.iload_n 1, 1) := by decide +kernel
theorem dX4_alter_50 : decode cX4_alter 50 = .ok (.fload_n 3, 1) := by decide +kernel
theorem dX4_alter_51 : decode cX4_alter 51 = .ok (.fastore, 1) := by decide +kernel
theorem dX4_alter_52 : decode cX4_alter 52 = .ok (.iconst 1, 1) := by decide +kernel
theorem dX4_alter_53 : decode cX4_alter 53 = .ok (.ireturn, 1) := by decide +kernel
theorem dX4_bitsOf_0 : decode cX4_bitsOf 0 = .ok (.fload_n 0, 1) := by decide +kernel
theorem dX4_bitsOf_1 : decode cX4_bitsOf 1 = .ok (.invokestatic 25, 3) := by decide +kernel
theorem dX4_bitsOf_4 : decode cX4_bitsOf 4 = .ok (.ifCond .eq 8, 3) := by decide +kernel
theorem dX4_bitsOf_7 : decode cX4_bitsOf 7 = .ok (.ldc 29, 2) := by decide +kernel
theorem dX4_bitsOf_9 : decode cX4_bitsOf 9 = .ok (.goto 4, 3) := by decide +kernel
theorem dX4_bitsOf_12 : decode cX4_bitsOf 12 = .ok (.iconst 0, 1) := by decide +kernel
theorem dX4_bitsOf_13 : decode cX4_bitsOf 13 = .ok (.istore_n 1, 1) := by decide +kernel
theorem dX4_bitsOf_14 : decode cX4_bitsOf 14 = .ok (.fload_n 0, 1) := by decide +kernel
theorem dX4_bitsOf_15 : decode cX4_bitsOf 15 = .ok (.fconst 0, 1) := by decide +kernel
theorem dX4_bitsOf_16 : decode cX4_bitsOf 16 = .ok (.fcmp .l, 1) := by decide +kernel
theorem dX4_bitsOf_17 : decode cX4_bitsOf 17 = .ok (.ifCond .ne 5, 3) := by decide +kernel
theorem dX4_bitsOf_20 : decode cX4_bitsOf 20 = .ok (.iload_n 1, 1) := by decide +kernel
theorem dX4_bitsOf_21 : decode cX4_bitsOf 21 = .ok (.ireturn, 1) := by decide +kernel
theorem dX4_bitsOf_22 : decode cX4_bitsOf 22 = .ok (.fload_n 0, 1) := by decide +kernel
theorem dX4_bitsOf_23 : decode cX4_bitsOf 23 = .ok (.fconst 0, 1) := by decide +kernel
theorem dX4_bitsOf_24 : decode cX4_bitsOf 24 = .ok (.fcmp .g, 1) := by decide +kernel
theorem dX4_bitsOf_25 : decode cX4_bitsOf 25 = .ok (.ifCond .ge 8, 3) := by decide +kernel
theorem dX4_bitsOf_28 : decode cX4_bitsOf 28 = .ok (.fload_n 0, 1) := by decide +kernel
theorem dX4_bitsOf_29 : decode cX4_bitsOf 29 = .ok (.fneg, 1) := by decide +kernel
theorem dX4_bitsOf_30 : decode cX4_bitsOf 30 = .ok (.goto 4, 3) := by decide +kernel
theorem dX4_bitsOf_33 : decode cX4_bitsOf 33 = .ok (.fload_n 0, 1) := by decide +kernel
theorem dX4_bitsOf_34 : decode cX4_bitsOf 34 = .ok (.fstore_n 2, 1) := by decide +kernel
theorem dX4_bitsOf_35 : decode cX4_bitsOf 35 = .ok (.sipush 149, 3) := by decide +kernel
theorem dX4_bitsOf_38 : decode cX4_bitsOf 38 = .ok (.istore_n 3, 1) := by decide +kernel
theorem dX4_bitsOf_39 : decode cX4_bitsOf 39 = .ok (.iload_n 3, 1) := by decide +kernel
theorem dX4_bitsOf_40 : decode cX4_bitsOf 40 = .ok (.ifCond .le 20, 3) := by decide +kernel
theorem dX4_bitsOf_43 : decode cX4_bitsOf 43 = .ok (.fload_n 2, 1) := by decide +kernel
theorem dX4_bitsOf_44 : decode cX4_bitsOf 44 = .ok (.ldc 30, 2) := by decide +kernel
theorem dX4_bitsOf_46 : decode cX4_bitsOf 46 = .ok (.fcmp .g, 1) := by decide +kernel
theorem dX4_bitsOf_47 : decode cX4_bitsOf 47 = .ok (.ifCond .ge 13, 3) := by decide +kernel
theorem dX4_bitsOf_50 : decode cX4_bitsOf 50 = .ok (.fload_n 2, 1) := by decide +kernel
theorem dX4_bitsOf_51 : decode cX4_bitsOf 51 = .ok (.fconst 2, 1) := by decide +kernel
theorem dX4_bitsOf_52 : decode cX4_bitsOf 52 = .ok (.fmul, 1) := by decide +kernel
theorem dX4_bitsOf_53 : decode cX4_bitsOf 53 = .ok (.fstore_n 2, 1) := by decide +kernel
theorem dX4_bitsOf_54 : decode cX4_bitsOf 54 = .ok (.iinc 3 (-1), 3) := by decide +kernel
theorem dX4_bitsOf_57 : decode cX4_bitsOf 57 = .ok (.goto (-18), 3) := by decide +kernel
theorem dX4_bitsOf_60 : decode cX4_bitsOf 60 = .ok (.iload_n 1, 1) := by decide +kernel
theorem dX4_bitsOf_61 : decode cX4_bitsOf 61 = .ok (.iload_n 3, 1) := by decide +kernel
theorem dX4_bitsOf_62 : decode cX4_bitsOf 62 = .ok (.bipush 23, 2) := by decide +kernel
theorem dX4_bitsOf_64 : decode cX4_bitsOf 64 = .ok (.ishl, 1) := by decide +kernel
theorem dX4_bitsOf_65 : decode cX4_bitsOf 65 = .ok (.fload_n 2, 1) := by decide +kernel
theorem dX4_bitsOf_66 : decode cX4_bitsOf 66 = .ok (.f2i, 1) := by decide +kernel
theorem dX4_bitsOf_67 : decode cX4_bitsOf 67 = .ok (.iadd, 1) := by decide +kernel
theorem dX4_bitsOf_68 : decode cX4_bitsOf 68 = .ok (.ior, 1) := by decide +kernel
theorem dX4_bitsOf_69 : decode cX4_bitsOf 69 = .ok (.ireturn, 1) := by decide +kernel
theorem dX4_isNegative_0 : decode cX4_isNegative 0 = .ok (.fload_n 0, 1) := by decide +kernel
theorem dX4_isNegative_1 : decode cX4_isNegative 1 = .ok (.fconst 0, 1) := by decide +kernel
theorem dX4_isNegative_2 : decode cX4_isNegative 2 = .ok (.fcmp .l, 1) := by decide +kernel
theorem dX4_isNegative_3 : decode cX4_isNegative 3 = .ok (.ifCond .ne 19, 3) := by decide +kernel
theorem dX4_isNegative_6 : decode cX4_isNegative 6 = .ok (.fconst 1, 1) := by decide +kernel
theorem dX4_isNegative_7 : decode cX4_isNegative 7 = .ok (.fload_n 0, 1) := by decide +kernel
theorem dX4_isNegative_8 : decode cX4_isNegative 8 = .ok (.fdiv, 1) := by decide +kernel
theorem dX4_isNegative_9 : decode cX4_isNegative 9 = .ok (.fconst 0, 1) := by decide +kernel
theorem dX4_isNegative_10 : decode cX4_isNegative 10 = .ok (.fcmp .g, 1) := by decide +kernel
theorem dX4_isNegative_11 : decode cX4_isNegative 11 = .ok (.ifCond .ge 7, 3) := by decide +kernel
theorem dX4_isNegative_14 : decode cX4_isNegative 14 = .ok (.iconst 1, 1) := by decide +kernel
theorem dX4_isNegative_15 : decode cX4_isNegative 15 = .ok (.goto 18, 3) := by decide +kernel
theorem dX4_isNegative_18 : decode cX4_isNegative 18 = .ok (.iconst 0, 1) := by decide +kernel
theorem dX4_isNegative_19 : decode cX4_isNegative 19 = .ok (.goto 14, 3) := by decide +kernel
theorem dX4_isNegative_22 : decode cX4_isNegative 22 = .ok (.fload_n 0, 1) := by decide +kernel
theorem dX4_isNegative_23 : decode cX4_isNegative 23 = .ok (.fconst 0, 1) := by decide +kernel
theorem dX4_isNegative_24 : decode cX4_isNegative 24 = .ok (.fcmp .g, 1) := by decide +kernel
theorem dX4_isNegative_25 : decode cX4_isNegative 25 = .ok (.ifCond .ge 7, 3) := by decide +kernel
theorem dX4_isNegative_28 : decode cX4_isNegative 28 = .ok (.iconst 1, 1) := by decide +kernel
theorem dX4_isNegative_29 : decode cX4_isNegative 29 = .ok (.goto 4, 3) := by decide +kernel
theorem dX4_isNegative_32 : decode cX4_isNegative 32 = .ok (.iconst 0, 1) := by decide +kernel
theorem dX4_isNegative_33 : decode cX4_isNegative 33 = .ok (.ireturn, 1) := by decide +kernel
theorem dX5_init_0 : decode cX5_init 0 = .ok (.aload_n 0, 1) := by decide +kernel
theorem dX5_init_1 : decode cX5_init 1 = .ok (.iload_n 1, 1) := by decide +kernel
theorem dX5_init_2 : decode cX5_init 2 = .ok (.invokespecial 1, 3) := by decide +kernel
theorem dX5_init_5 : decode cX5_init 5 = .ok (.aload_n 0, 1) := by decide +kernel
theorem dX5_init_6 : decode cX5_init 6 = .ok (.iload_n 1, 1) := by decide +kernel
theorem dX5_init_7 : decode cX5_init 7 = .ok (.newarray .boolean, 2) := by decide +kernel
theorem dX5_init_9 : decode cX5_init 9 = .ok (.putfield 7, 3) := by decide +kernel
theorem dX5_init_12 : decode cX5_init 12 = .ok (.return_, 1) := by decide +kernel
theorem dX5_valueAt_0 : decode cX5_valueAt 0 = .ok (.aload_n 0, 1) := by decide +kernel
theorem dX5_valueAt_1 : decode cX5_valueAt 1 = .ok (.getfield 7, 3) := by decide +kernel
theorem dX5_valueAt_4 : decode cX5_valueAt 4 = .ok (.iload_n 1, 1) := by decide +kernel
theorem dX5_valueAt_5 : decode cX5_valueAt 5 = .ok (.baload, 1) := by decide +kernel
theorem dX5_valueAt_6 : decode cX5_valueAt 6 = .ok (.ifCond .eq 7, 3) := by decide +kernel
theorem dX5_valueAt_9 : decode cX5_valueAt 9 = .ok (.iconst 1, 1) := by decide +kernel
theorem dX5_valueAt_10 : decode cX5_valueAt 10 = .ok (.goto 4, 3) := by decide +kernel
theorem dX5_valueAt_13 : decode cX5_valueAt 13 = .ok (.iconst 0, 1) := by decide +kernel
theorem dX5_valueAt_14 : decode cX5_valueAt 14 = .ok (.ireturn, 1) := by decide +kernel
theorem dX5_put_0 : decode cX5_put 0 = .ok (.aload_n 0, 1) := by decide +kernel
theorem dX5_put_1 : decode cX5_put 1 = .ok (.getfield 7, 3) := by decide +kernel
theorem dX5_put_4 : decode cX5_put 4 = .ok (.iload_n 1, 1) := by decide +kernel
theorem dX5_put_5 : decode cX5_put 5 = .ok (.iload_n 2, 1) := by decide +kernel
theorem dX5_put_6 : decode cX5_put 6 = .ok (.ifCond .eq 7, 3) := by decide +kernel
theorem dX5_put_9 : decode cX5_put 9 = .ok (.iconst 1, 1) := by decide +kernel
theorem dX5_put_10 : decode cX5_put 10 = .ok (.goto 4, 3) := by decide +kernel
theorem dX5_put_13 : decode cX5_put 13 = .ok (.iconst 0, 1) := by decide +kernel
theorem dX5_put_14 : decode cX5_put 14 = .ok (.bastore, 1) := by decide +kernel
theorem dX5_put_15 : decode cX5_put 15 = .ok (.iconst 1, 1) := by decide +kernel
theorem dX5_put_16 : decode cX5_put 16 = .ok (.ireturn, 1) := by decide +kernel
theorem dX5_alter_0 : decode cX5_alter 0 = .ok (.iload_n 2, 1) := by decide +kernel
theorem dX5_alter_1 : decode cX5_alter 1 = .ok (.iconst 1, 1) := by decide +kernel
theorem dX5_alter_2 : decode cX5_alter 2 = .ok (.iand, 1) := by decide +kernel
theorem dX5_alter_3 : decode cX5_alter 3 = .ok (.ifCond .eq 23, 3) := by decide +kernel
theorem dX5_alter_6 : decode cX5_alter 6 = .ok (.aload_n 0, 1) := by decide +kernel
theorem dX5_alter_7 : decode cX5_alter 7 = .ok (.getfield 7, 3) := by decide +kernel
theorem dX5_alter_10 : decode cX5_alter 10 = .ok (.iload_n 1, 1) := by decide +kernel
theorem dX5_alter_11 : decode cX5_alter 11 = .ok (.aload_n 0, 1) := by decide +kernel
theorem dX5_alter_12 : decode cX5_alter 12 = .ok (.getfield 7, 3) := by decide +kernel
theorem dX5_alter_15 : decode cX5_alter 15 = .ok (.iload_n 1, 1) := by decide +kernel
theorem dX5_alter_16 : decode cX5_alter 16 = .ok (.baload, 1) := by decide +kernel
theorem dX5_alter_17 : decode cX5_alter 17 = .ok (.ifCond .ne 7, 3) := by decide +kernel
theorem dX5_alter_20 : decode cX5_alter 20 = .ok (.iconst 1, 1) := by decide +kernel
theorem dX5_alter_21 : decode cX5_alter 21 = .ok (.goto 4, 3) := by decide +kernel
theorem dX5_alter_24 : decode cX5_alter 24 = .ok (.iconst 0, 1) := by decide +kernel
theorem dX5_alter_25 : decode cX5_alter 25 = .ok (.bastore, 1) := by decide +kernel
theorem dX5_alter_26 : decode cX5_alter 26 = .ok (.iconst 1, 1) := by decide +kernel
theorem dX5_alter_27 : decode cX5_alter 27 = .ok (.ireturn, 1) := by decide +kernel
theorem dX6_init_0 : decode cX6_init 0 = .ok (.aload_n 0, 1) := by decide +kernel
theorem dX6_init_1 : decode cX6_init 1 = .ok (.iload_n 1, 1) := by decide +kernel
theorem dX6_init_2 : decode cX6_init 2 = .ok (.invokespecial 1, 3) := by decide +kernel
theorem dX6_init_5 : decode cX6_init 5 = .ok (.aload_n 0, 1) := by decide +kernel
theorem dX6_init_6 : decode cX6_init 6 = .ok (.iload_n 1, 1) := by decide +kernel
theorem dX6_init_7 : decode cX6_init 7 = .ok (.newarray .char, 2) := by decide +kernel
theorem dX6_init_9 : decode cX6_init 9 = .ok (.putfield 7, 3) := by decide +kernel
theorem dX6_init_12 : decode cX6_init 12 = .ok (.return_, 1) := by decide +kernel
theorem dX6_valueAt_0 : decode cX6_valueAt 0 = .ok (.aload_n 0, 1) := by decide +kernel
theorem dX6_valueAt_1 : decode cX6_valueAt 1 = .ok (.getfield 7, 3) := by decide +kernel
theorem dX6_valueAt_4 : decode cX6_valueAt 4 = .ok (.iload_n 1, 1) := by decide +kernel
theorem dX6_valueAt_5 : decode cX6_valueAt 5 = .ok (.caload, 1) := by decide +kernel
theorem dX6_valueAt_6 : decode cX6_valueAt 6 = .ok (.ireturn, 1) := by decide +kernel
theorem dX6_put_0 : decode cX6_put 0 = .ok (.aload_n 0, 1) := by decide +kernel
theorem dX6_put_1 : decode cX6_put 1 = .ok (.getfield 7, 3) := by decide +kernel
theorem dX6_put_4 : decode cX6_put 4 = .ok (.iload_n 1, 1) := by decide +kernel
theorem dX6_put_5 : decode cX6_put 5 = .ok (.iload_n 2, 1) := by decide +kernel
theorem dX6_put_6 : decode cX6_put 6 = .ok (.i2c, 1) := by decide +kernel
theorem dX6_put_7 : decode cX6_put 7 = .ok (.castore, 1) := by decide +kernel
theorem dX6_put_8 : decode cX6_put 8 = .ok (.iconst 1, 1) := by decide +kernel
theorem dX6_put_9 : decode cX6_put 9 = .ok (.ireturn, 1) := by decide +kernel
theorem dX6_alter_0 : decode cX6_alter 0 = .ok (.aload_n 0, 1) := by decide +kernel
theorem dX6_alter_1 : decode cX6_alter 1 = .ok (.getfield 7, 3) := by decide +kernel
theorem dX6_alter_4 : decode cX6_alter 4 = .ok (.iload_n 1, 1) := by decide +kernel
theorem dX6_alter_5 : decode cX6_alter 5 = .ok (.aload_n 0, 1) := by decide +kernel
theorem dX6_alter_6 : decode cX6_alter 6 = .ok (.getfield 7, 3) := by decide +kernel
theorem dX6_alter_9 : decode cX6_alter 9 = .ok (.iload_n 1, 1) := by decide +kernel
theorem dX6_alter_10 : decode cX6_alter 10 = .ok (.caload, 1) := by decide +kernel
theorem dX6_alter_11 : decode cX6_alter 11 = .ok (.iload_n 2, 1) := by decide +kernel
theorem dX6_alter_12 : decode cX6_alter 12 = .ok (.iadd, 1) := by decide +kernel
theorem dX6_alter_13 : decode cX6_alter 13 = .ok (.i2c, 1) := by decide +kernel
theorem dX6_alter_14 : decode cX6_alter 14 = .ok (.castore, 1) := by decide +kernel
theorem dX6_alter_15 : decode cX6_alter 15 = .ok (.iconst 1, 1) := by decide +kernel
theorem dX6_alter_16 : decode cX6_alter 16 = .ok (.ireturn, 1) := by decide +kernel
theorem dX7_init_0 : decode cX7_init 0 = .ok (.aload_n 0, 1) := by decide +kernel
theorem dX7_init_1 : decode cX7_init 1 = .ok (.invokespecial 1, 3) := by decide +kernel
theorem dX7_init_4 : decode cX7_init 4 = .ok (.aload_n 0, 1) := by decide +kernel
theorem dX7_init_5 : decode cX7_init 5 = .ok (.iload_n 1, 1) := by decide +kernel
theorem dX7_init_6 : decode cX7_init 6 = .ok (.putfield 7, 3) := by decide +kernel
theorem dX7_init_9 : decode cX7_init 9 = .ok (.return_, 1) := by decide +kernel
theorem dX7_hasPlace_0 : decode cX7_hasPlace 0 = .ok (.iload_n 1, 1) := by decide +kernel
theorem dX7_hasPlace_1 : decode cX7_hasPlace 1 = .ok (.ifCond .lt 15, 3) := by decide +kernel
theorem dX7_hasPlace_4 : decode cX7_hasPlace 4 = .ok (.iload_n 1, 1) := by decide +kernel
theorem dX7_hasPlace_5 : decode cX7_hasPlace 5 = .ok (.aload_n 0, 1) := by decide +kernel
theorem dX7_hasPlace_6 : decode cX7_hasPlace 6 = .ok (.getfield 7, 3) := by decide +kernel
theorem dX7_hasPlace_9 : decode cX7_hasPlace 9 = .ok (.if_icmp .ge 7, 3) := by decide +kernel
theorem dX7_hasPlace_12 : decode cX7_hasPlace 12 = .ok (.iconst 1, 1) := by decide +kernel
theorem dX7_hasPlace_13 : decode cX7_hasPlace 13 = .ok (.goto 4, 3) := by decide +kernel
theorem dX7_hasPlace_16 : decode cX7_hasPlace 16 = .ok (.iconst 0, 1) := by decide +kernel
theorem dX7_hasPlace_17 : decode cX7_hasPlace 17 = .ok (.ireturn, 1) := by decide +kernel
theorem dJxf58ca_isNaN_12338_0 : decode cJxf58ca_isNaN_12338 0 = .ok (.fload_n 0, 1) := by decide +kernel
theorem dJxf58ca_isNaN_12338_1 : decode cJxf58ca_isNaN_12338 1 = .ok (.fload_n 0, 1) := by decide +kernel
theorem dJxf58ca_isNaN_12338_2 : decode cJxf58ca_isNaN_12338 2 = .ok (.fcmp .l, 1) := by decide +kernel
theorem dJxf58ca_isNaN_12338_3 : decode cJxf58ca_isNaN_12338 3 = .ok (.ifCond .eq 7, 3) := by decide +kernel
theorem dJxf58ca_isNaN_12338_6 : decode cJxf58ca_isNaN_12338 6 = .ok (.iconst 1, 1) := by decide +kernel
theorem dJxf58ca_isNaN_12338_7 : decode cJxf58ca_isNaN_12338 7 = .ok (.goto 4, 3) := by decide +kernel
theorem dJxf58ca_isNaN_12338_10 : decode cJxf58ca_isNaN_12338 10 = .ok (.iconst 0, 1) := by decide +kernel
theorem dJxf58ca_isNaN_12338_11 : decode cJxf58ca_isNaN_12338 11 = .ok (.ireturn, 1) := by decide +kernel
theorem dJxf58ca_floatToIntBits_5c35a_0 : decode cJxf58ca_floatToIntBits_5c35a 0 = .ok (.fload_n 0, 1) := by decide +kernel
theorem dJxf58ca_floatToIntBits_5c35a_1 : decode cJxf58ca_floatToIntBits_5c35a 1 = .ok (.invokestatic 59, 3) := by decide +kernel
theorem dJxf58ca_floatToIntBits_5c35a_4 : decode cJxf58ca_floatToIntBits_5c35a 4 = .ok (.ifCond .ne 8, 3) := by decide +kernel
theorem dJxf58ca_floatToIntBits_5c35a_7 : decode cJxf58ca_floatToIntBits_5c35a 7 = .ok (.fload_n 0, 1) := by decide +kernel
theorem dJxf58ca_floatToIntBits_5c35a_8 : decode cJxf58ca_floatToIntBits_5c35a 8 = .ok (.invokestatic 74, 3) := by decide +kernel
theorem dJxf58ca_floatToIntBits_5c35a_11 : decode cJxf58ca_floatToIntBits_5c35a 11 = .ok (.ireturn, 1) := by decide +kernel
theorem dJxf58ca_floatToIntBits_5c35a_12 : decode cJxf58ca_floatToIntBits_5c35a 12 = .ok (.ldc 77, 2) := by decide +kernel
theorem dJxf58ca_floatToIntBits_5c35a_14 : decode cJxf58ca_floatToIntBits_5c35a 14 = .ok (.ireturn, 1) := by decide +kernel
end
section
theorem dX8_init_0 : decode cX8_init 0 = .ok (.aload_n 0, 1) := by decide +kernel
theorem dX8_init_1 : decode cX8_init 1 = .ok (.invokespecial 1, 3) := by decide +kernel
theorem dX8_init_4 : decode cX8_init 4 = .ok (.aload_n 0, 1) := by decide +kernel
theorem dX8_init_5 : decode cX8_init 5 = .ok (.bipush 8, 2) := by decide +kernel
theorem dX8_init_7 : decode cX8_init 7 = .ok (.anewarray 9, 3) := by decide +kernel
theorem dX8_init_10 : decode cX8_init 10 = .ok (.putfield 11, 3) := by decide +kernel
theorem dX8_init_13 : decode cX8_init 13 = .ok (.iconst 0, 1) := by decide +kernel
theorem dX8_init_14 : decode cX8_init 14 = .ok (.istore_n 1, 1) := by decide +kernel
theorem dX8_init_15 : decode cX8_init 15 = .ok (.iload_n 1, 1) := by decide +kernel
theorem dX8_init_16 : decode cX8_init 16 = .ok (.bipush 8, 2) := by decide +kernel
theorem dX8_init_18 : decode cX8_init 18 = .ok (.if_icmp .ge 22, 3) := by decide +kernel
theorem dX8_init_21 : decode cX8_init 21 = .ok (.aload_n 0, 1) := by decide +kernel
theorem dX8_init_22 : decode cX8_init 22 = .ok (.getfield 11, 3) := by decide +kernel
theorem dX8_init_25 : decode cX8_init 25 = .ok (.iload_n 1, 1) := by decide +kernel
theorem dX8_init_26 : decode cX8_init 26 = .ok (.new 9, 3) := by decide +kernel
theorem dX8_init_29 : decode cX8_init 29 = .ok (.dup, 1) := by decide +kernel
theorem dX8_init_30 : decode cX8_init 30 = .ok (.invokespecial 15, 3) := by decide +kernel
theorem dX8_init_33 : decode cX8_init 33 = .ok (.aastore, 1) := by decide +kernel
theorem dX8_init_34 : decode cX8_init 34 = .ok (.iinc 1 1, 3) := by decide +kernel
theorem dX8_init_37 : decode cX8_init 37 = .ok (.goto (-22), 3) := by decide +kernel
theorem dX8_init_40 : decode cX8_init 40 = .ok (.aload_n 0, 1) := by decide +kernel
theorem dX8_init_41 : decode cX8_init 41 = .ok (.iconst 4, 1) := by decide +kernel
theorem dX8_init_42 : decode cX8_init 42 = .ok (.anewarray 16, 3) := by decide +kernel
theorem dX8_init_45 : decode cX8_init 45 = .ok (.putfield 18, 3) := by decide +kernel
theorem dX8_init_48 : decode cX8_init 48 = .ok (.aload_n 0, 1) := by decide +kernel
theorem dX8_init_49 : decode cX8_init 49 = .ok (.iconst 0, 1) := by decide +kernel
theorem dX8_init_50 : decode cX8_init 50 = .ok (.putfield 22, 3) := by decide +kernel
theorem dX8_init_53 : decode cX8_init 53 = .ok (.return_, 1) := by decide +kernel
theorem dX8_cut_0 : decode cX8_cut 0 = .ok (.iload_n 1, 1) := by decide +kernel
theorem dX8_cut_1 : decode cX8_cut 1 = .ok (.invokestatic 26, 3) := by decide +kernel
theorem dX8_cut_4 : decode cX8_cut 4 = .ok (.ifCond .eq 10, 3) := by decide +kernel
theorem dX8_cut_7 : decode cX8_cut 7 = .ok (.iload_n 2, 1) := by decide +kernel
theorem dX8_cut_8 : decode cX8_cut 8 = .ok (.invokestatic 30, 3) := by decide +kernel
theorem dX8_cut_11 : decode cX8_cut 11 = .ok (.ifCond .ne 9, 3) := by decide +kernel
theorem dX8_cut_14 : decode cX8_cut 14 = .ok (.aload_n 0, 1) := by decide +kernel
theorem dX8_cut_15 : decode cX8_cut 15 = .ok (.iconst (-1), 1) := by decide +kernel
theorem dX8_cut_16 : decode cX8_cut 16 = .ok (.invokevirtual 33, 3) := by decide +kernel
theorem dX8_cut_19 : decode cX8_cut 19 = .ok (.ireturn, 1) := by decide +kernel
theorem dX8_cut_20 : decode cX8_cut 20 = .ok (.iload_n 3, 1) := by decide +kernel
theorem dX8_cut_21 : decode cX8_cut 21 = .ok (.sipush 300, 3) := by decide +kernel
theorem dX8_cut_24 : decode cX8_cut 24 = .ok (.invokestatic 37, 3) := by decide +kernel
theorem dX8_cut_27 : decode cX8_cut 27 = .ok (.ifCond .ne 10, 3) := by decide +kernel
theorem dX8_cut_30 : decode cX8_cut 30 = .ok (.aload_n 0, 1) := by decide +kernel
theorem dX8_cut_31 : decode cX8_cut 31 = .ok (.bipush (-4), 2) := by decide +kernel
theorem dX8_cut_33 : decode cX8_cut 33 = .ok (.invokevirtual 33, 3) := by decide +kernel
theorem dX8_cut_36 : decode cX8_cut 36 = .ok (.ireturn, 1) := by decide +kernel
theorem dX8_cut_37 : decode cX8_cut 37 = .ok (.aload_n 0, 1) := by decide +kernel
theorem dX8_cut_38 : decode cX8_cut 38 = .ok (.getfield 11, 3) := by decide +kernel
theorem dX8_cut_41 : decode cX8_cut 41 = .ok (.iload_n 1, 1) := by decide +kernel
theorem dX8_cut_42 : decode cX8_cut 42 = .ok (.aaload, 1) := by decide +kernel
theorem dX8_cut_43 : decode cX8_cut 43 = .ok (.getfield 41, 3) := by decide +kernel
theorem dX8_cut_46 : decode cX8_cut 46 = .ok (.iload_n 2, 1) := by decide +kernel
theorem dX8_cut_47 : decode cX8_cut 47 = .ok (.iload_n 2, 1) := by decide +kernel
theorem dX8_cut_48 : decode cX8_cut 48 = .ok (.iload_n 3, 1) := by decide +kernel
theorem dX8_cut_49 : decode cX8_cut 49 = .ok (.invokestatic 45, 3) := by decide +kernel
theorem dX8_cut_52 : decode cX8_cut 52 = .ok (.aastore, 1) := by decide +kernel
theorem dX8_cut_53 : decode cX8_cut 53 = .ok (.aload_n 0, 1) := by decide +kernel
theorem dX8_cut_54 : decode cX8_cut 54 = .ok (.iload_n 3, 1) := by decide +kernel
theorem dX8_cut_55 : decode cX8_cut 55 = .ok (.invokevirtual 49, 3) := by decide +kernel
theorem dX8_cut_58 : decode cX8_cut 58 = .ok (.ireturn, 1) := by decide +kernel
theorem dX8_strip_0 : decode cX8_strip 0 = .ok (.aload_n 0, 1) := by decide +kernel
theorem dX8_strip_1 : decode cX8_strip 1 = .ok (.iload_n 1, 1) := by decide +kernel
theorem dX8_strip_2 : decode cX8_strip 2 = .ok (.iload_n 2, 1) := by decide +kernel
theorem dX8_strip_3 : decode cX8_strip 3 = .ok (.invokevirtual 52, 3) := by decide +kernel
theorem dX8_strip_6 : decode cX8_strip 6 = .ok (.astore_n 3, 1) := by decide +kernel
theorem dX8_strip_7 : decode cX8_strip 7 = .ok (.aload_n 3, 1) := by decide +kernel
theorem dX8_strip_8 : decode cX8_strip 8 = .ok (.ifnonnull 8, 3) := by decide +kernel
theorem dX8_strip_11 : decode cX8_strip 11 = .ok (.aload_n 0, 1) := by decide +kernel
theorem dX8_strip_12 : decode cX8_strip 12 = .ok (.getfield 22, 3) := by decide +kernel
theorem dX8_strip_15 : decode cX8_strip 15 = .ok (.ireturn, 1) := by decide +kernel
theorem dX8_strip_16 : decode cX8_strip 16 = .ok (.aload_n 0, 1) := by decide +kernel
theorem dX8_strip_17 : decode cX8_strip 17 = .ok (.getfield 11, 3) := by decide +kernel
theorem dX8_strip_20 : decode cX8_strip 20 = .ok (.iload_n 1, 1) := by decide +kernel
theorem dX8_strip_21 : decode cX8_strip 21 = .ok (.aaload, 1) := by decide +kernel
theorem dX8_strip_22 : decode cX8_strip 22 = .ok (.getfield 41, 3) := by decide +kernel
theorem dX8_strip_25 : decode cX8_strip 25 = .ok (.iload_n 2, 1) := by decide +kernel
theorem dX8_strip_26 : decode cX8_strip 26 = .ok (.aconst_null, 1) := by decide +kernel
theorem dX8_strip_27 : decode cX8_strip 27 = .ok (.aastore, 1) := by decide +kernel
theorem dX8_strip_28 : decode cX8_strip 28 = .ok (.aload_n 3, 1) := by decide +kernel
theorem dX8_strip_29 : decode cX8_strip 29 = .ok (.getfield 55, 3) := by decide +kernel
theorem dX8_strip_32 : decode cX8_strip 32 = .ok (.ireturn, 1) := by decide +kernel
theorem dX8_share_0 : decode cX8_share 0 = .ok (.iload_n 2, 1) := by decide +kernel
theorem dX8_share_1 : decode cX8_share 1 = .ok (.invokestatic 26, 3) := by decide +kernel
theorem dX8_share_4 : decode cX8_share 4 = .ok (.ifCond .ne 9, 3) := by decide +kernel
theorem dX8_share_7 : decode cX8_share 7 = .ok (.aload_n 0, 1) := by decide +kernel
theorem dX8_share_8 : decode cX8_share 8 = .ok (.iconst (-1), 1) := by decide +kernel
theorem dX8_share_9 : decode cX8_share 9 = .ok (.invokevirtual 33, 3) := by decide +kernel
theorem dX8_share_12 : decode cX8_share 12 = .ok (.ireturn, 1) := by decide +kernel
theorem dX8_share_13 : decode cX8_share 13 = .ok (.aload_n 0, 1) := by decide +kernel
theorem dX8_share_14 : decode cX8_share 14 = .ok (.iload_n 1, 1) := by decide +kernel
theorem dX8_share_15 : decode cX8_share 15 = .ok (.iload_n 3, 1) := by decide +kernel
theorem dX8_share_16 : decode cX8_share 16 = .ok (.invokevirtual 52, 3) := by decide +kernel
theorem dX8_share_19 : decode cX8_share 19 = .ok (.astore 4, 2) := by decide +kernel
theorem dX8_share_21 : decode cX8_share 21 = .ok (.aload 4, 2) := by decide +kernel
theorem dX8_share_23 : decode cX8_share 23 = .ok (.ifnonnull 8, 3) := by decide +kernel
theorem dX8_share_26 : decode cX8_share 26 = .ok (.aload_n 0, 1) := by decide +kernel
theorem dX8_share_27 : decode cX8_share 27 = .ok (.getfield 22, 3) := by decide +kernel
theorem dX8_share_30 : decode cX8_share 30 = .ok (.ireturn, 1) := by decide +kernel
theorem dX8_share_31 : decode cX8_share 31 = .ok (.aload_n 0, 1) := by decide +kernel
theorem dX8_share_32 : decode cX8_share 32 = .ok (.getfield 11, 3) := by decide +kernel
theorem dX8_share_35 : decode cX8_share 35 = .ok (.iload_n 2, 1) := by decide +kernel
theorem dX8_share_36 : decode cX8_share 36 = .ok (.aaload, 1) := by decide +kernel
theorem dX8_share_37 : decode cX8_share 37 = .ok (.getfield 41, 3) := by decide +kernel
theorem dX8_share_40 : decode cX8_share 40 = .ok (.iload_n 3, 1) := by decide +kernel
theorem dX8_share_41 : decode cX8_share 41 = .ok (.aload 4, 2) := by decide +kernel
theorem dX8_share_43 : decode cX8_share 43 = .ok (.aastore, 1) := by decide +kernel
theorem dX8_share_44 : decode cX8_share 44 = .ok (.aload 4, 2) := by decide +kernel
theorem dX8_share_46 : decode cX8_share 46 = .ok (.getfield 55, 3) := by decide +kernel
theorem dX8_share_49 : decode cX8_share 49 = .ok (.ireturn, 1) := by decide +kernel
theorem dX8_places_0 : decode cX8_places 0 = .ok (.aload_n 0, 1) := by decide +kernel
theorem dX8_places_1 : decode cX8_places 1 = .ok (.iload_n 1, 1) := by decide +kernel
theorem dX8_places_2 : decode cX8_places 2 = .ok (.iload_n 2, 1) := by decide +kernel
theorem dX8_places_3 : decode cX8_places 3 = .ok (.invokevirtual 52, 3) := by decide +kernel
theorem dX8_places_6 : decode cX8_places 6 = .ok (.astore_n 3, 1) := by decide +kernel
theorem dX8_places_7 : decode cX8_places 7 = .ok (.aload_n 3, 1) := by decide +kernel
theorem dX8_places_8 : decode cX8_places 8 = .ok (.ifnonnull 10, 3) := by decide +kernel
theorem dX8_places_11 : decode cX8_places 11 = .ok (.aload_n 0, 1) := by decide +kernel
theorem dX8_places_12 : decode cX8_places 12 = .ok (.getfield 22, 3) := by decide +kernel
theorem dX8_places_15 : decode cX8_places 15 = .ok (.goto 7, 3) := by decide +kernel
theorem dX8_places_18 : decode cX8_places 18 = .ok (.aload_n 3, 1) := by decide +kernel
theorem dX8_places_19 : decode cX8_places 19 = .ok (.getfield 55, 3) := by decide +kernel
theorem dX8_places_22 : decode cX8_places 22 = .ok (.ireturn, 1) := by decide +kernel
theorem dX8_read_0 : decode cX8_read 0 = .ok (.aload_n 0, 1) := by decide +kernel
theorem dX8_read_1 : decode cX8_read 1 = .ok (.aload_n 0, 1) := by decide +kernel
theorem dX8_read_2 : decode cX8_read 2 = .ok (.iload_n 1, 1) := by decide +kernel
theorem dX8_read_3 : decode cX8_read 3 = .ok (.iload_n 2, 1) := by decide +kernel
theorem dX8_read_4 : decode cX8_read 4 = .ok (.invokevirtual 52, 3) := by decide +kernel
theorem dX8_read_7 : decode cX8_read 7 = .ok (.iload_n 3, 1) := by decide +kernel
theorem dX8_read_8 : decode cX8_read 8 = .ok (.invokevirtual 60, 3) := by decide +kernel
theorem dX8_read_11 : decode cX8_read 11 = .ok (.ireturn, 1) := by decide +kernel
theorem dX8_write_0 : decode cX8_write 0 = .ok (.aload_n 0, 1) := by decide +kernel
theorem dX8_write_1 : decode cX8_write 1 = .ok (.aload_n 0, 1) := by decide +kernel
theorem dX8_write_2 : decode cX8_write 2 = .ok (.iload_n 1, 1) := by decide +kernel
theorem dX8_write_3 : decode cX8_write 3 = .ok (.iload_n 2, 1) := by decide +kernel
theorem dX8_write_4 : decode cX8_write 4 = .ok (.invokevirtual 52, 3) := by decide +kernel
theorem dX8_write_7 : decode cX8_write 7 = .ok (.iload_n 3, 1) := by decide +kernel
theorem dX8_write_8 : decode cX8_write 8 = .ok (.iload 4, 2) := by decide +kernel
theorem dX8_write_10 : decode cX8_write 10 = .ok (.invokevirtual 64, 3) := by decide +kernel
theorem dX8_write_13 : decode cX8_write 13 = .ok (.ireturn, 1) := by decide +kernel
theorem dX8_turn_0 : decode cX8_turn 0 = .ok (.aload_n 0, 1) := by decide +kernel
theorem dX8_turn_1 : decode cX8_turn 1 = .ok (.aload_n 0, 1) := by decide +kernel
theorem dX8_turn_2 : decode cX8_turn 2 = .ok (.iload_n 1, 1) := by decide +kernel
theorem dX8_turn_3 : decode cX8_turn 3 = .ok (.iload_n 2, 1) := by decide +kernel
theorem dX8_turn_4 : decode cX8_turn 4 = .ok (.invokevirtual 52, 3) := by decide +kernel
theorem dX8_turn_7 : decode cX8_turn 7 = .ok (.iload_n 3, 1) := by decide +kernel
theorem dX8_turn_8 : decode cX8_turn 8 = .ok (.iload 4, 2) := by decide +kernel
theorem dX8_turn_10 : decode cX8_turn 10 = .ok (.invokevirtual 68, 3) := by decide +kernel
theorem dX8_turn_13 : decode cX8_turn 13 = .ok (.ireturn, 1) := by decide +kernel
theorem dX8_head_0 : decode cX8_head 0 = .ok (.iload_n 1, 1) := by decide +kernel
theorem dX8_head_1 : decode cX8_head 1 = .ok (.invokestatic 26, 3) := by decide +kernel
theorem dX8_head_4 : decode cX8_head 4 = .ok (.ifCond .ne 9, 3) := by decide +kernel
theorem dX8_head_7 : decode cX8_head 7 = .ok (.aload_n 0, 1) := by decide +kernel
theorem dX8_head_8 : decode cX8_head 8 = .ok (.iconst (-1), 1) := by decide +kernel
theorem dX8_head_9 : decode cX8_head 9 = .ok (.invokevirtual 33, 3) := by decide +kernel
theorem dX8_head_12 : decode cX8_head 12 = .ok (.ireturn, 1) := by decide +kernel
theorem dX8_head_13 : decode cX8_head 13 = .ok (.iload_n 2, 1) := by decide +kernel
theorem dX8_head_14 : decode cX8_head 14 = .ok (.sipush 300, 3) := by decide +kernel
theorem dX8_head_17 : decode cX8_head 17 = .ok (.invokestatic 37, 3) := by decide +kernel
theorem dX8_head_20 : decode cX8_head 20 = .ok (.ifCond .ne 10, 3) := by decide +kernel
theorem dX8_head_23 : decode cX8_head 23 = .ok (.aload_n 0, 1) := by decide +kernel
theorem dX8_head_24 : decode cX8_head 24 = .ok (.bipush (-4), 2) := by decide +kernel
theorem dX8_head_26 : decode cX8_head 26 = .ok (.invokevirtual 33, 3) := by decide +kernel
theorem dX8_head_29 : decode cX8_head 29 = .ok (.ireturn, 1) := by decide +kernel
theorem dX8_head_30 : decode cX8_head 30 = .ok (.aload_n 0, 1) := by decide +kernel
theorem dX8_head_31 : decode cX8_head 31 = .ok (.getfield 11, 3) := by decide +kernel
theorem dX8_head_34 : decode cX8_head 34 = .ok (.iload_n 1, 1) := by decide +kernel
theorem dX8_head_35 : decode cX8_head 35 = .ok (.aaload, 1) := by decide +kernel
theorem dX8_head_36 : decode cX8_head 36 = .ok (.getfield 71, 3) := by decide +kernel
theorem dX8_head_39 : decode cX8_head 39 = .ok (.istore_n 3, 1) := by decide +kernel
theorem dX8_head_40 : decode cX8_head 40 = .ok (.aload_n 0, 1) := by decide +kernel
theorem dX8_head_41 : decode cX8_head 41 = .ok (.getfield 11, 3) := by decide +kernel
theorem dX8_head_44 : decode cX8_head 44 = .ok (.iload_n 1, 1) := by decide +kernel
theorem dX8_head_45 : decode cX8_head 45 = .ok (.aaload, 1) := by decide +kernel
theorem dX8_head_46 : decode cX8_head 46 = .ok (.iload_n 2, 1) := by decide +kernel
theorem dX8_head_47 : decode cX8_head 47 = .ok (.putfield 71, 3) := by decide +kernel
theorem dX8_head_50 : decode cX8_head 50 = .ok (.aload_n 0, 1) := by decide +kernel
theorem dX8_head_51 : decode cX8_head 51 = .ok (.iload_n 3, 1) := by decide +kernel
theorem dX8_head_52 : decode cX8_head 52 = .ok (.invokevirtual 49, 3) := by decide +kernel
theorem dX8_head_55 : decode cX8_head 55 = .ok (.ireturn, 1) := by decide +kernel
theorem dX8_play_0 : decode cX8_play 0 = .ok (.iload_n 1, 1) := by decide +kernel
theorem dX8_play_1 : decode cX8_play 1 = .ok (.invokestatic 26, 3) := by decide +kernel
theorem dX8_play_4 : decode cX8_play 4 = .ok (.ifCond .ne 9, 3) := by decide +kernel
theorem dX8_play_7 : decode cX8_play 7 = .ok (.aload_n 0, 1) := by decide +kernel
theorem dX8_play_8 : decode cX8_play 8 = .ok (.iconst (-1), 1) := by decide +kernel
theorem dX8_play_9 : decode cX8_play 9 = .ok (.invokevirtual 33, 3) := by decide +kernel
theorem dX8_play_12 : decode cX8_play 12 = .ok (.ireturn, 1) := by decide +kernel
theorem dX8_play_13 : decode cX8_play 13 = .ok (.iload_n 2, 1) := by decide +kernel
theorem dX8_play_14 : decode cX8_play 14 = .ok (.bipush 20, 2) := by decide +kernel
theorem dX8_play_16 : decode cX8_play 16 = .ok (.invokestatic 37, 3) := by decide +kernel
theorem dX8_play_19 : decode cX8_play 19 = .ok (.ifCond .ne 10, 3) := by decide +kernel
theorem dX8_play_22 : decode cX8_play 22 = .ok (.aload_n 0, 1) := by decide +kernel
theorem dX8_play_23 : decode cX8_play 23 = .ok (.bipush (-4), 2) := by decide +kernel
theorem dX8_play_25 : decode cX8_play 25 = .ok (.invokevirtual 33, 3) := by decide +kernel
theorem dX8_play_28 : decode cX8_play 28 = .ok (.ireturn, 1) := by decide +kernel
theorem dX8_play_29 : decode cX8_play 29 = .ok (.aload_n 0, 1) := by decide +kernel
theorem dX8_play_30 : decode cX8_play 30 = .ok (.aload_n 0, 1) := by decide +kernel
theorem dX8_play_31 : decode cX8_play 31 = .ok (.getfield 11, 3) := by decide +kernel
theorem dX8_play_34 : decode cX8_play 34 = .ok (.iload_n 1, 1) := by decide +kernel
theorem dX8_play_35 : decode cX8_play 35 = .ok (.aaload, 1) := by decide +kernel
theorem dX8_play_36 : decode cX8_play 36 = .ok (.iload_n 2, 1) := by decide +kernel
theorem dX8_play_37 : decode cX8_play 37 = .ok (.invokevirtual 74, 3) := by decide +kernel
theorem dX8_play_40 : decode cX8_play 40 = .ok (.invokevirtual 49, 3) := by decide +kernel
theorem dX8_play_43 : decode cX8_play 43 = .ok (.ireturn, 1) := by decide +kernel
theorem dX8_heard_0 : decode cX8_heard 0 = .ok (.iload_n 1, 1) := by decide +kernel
theorem dX8_heard_1 : decode cX8_heard 1 = .ok (.invokestatic 26, 3) := by decide +kernel
theorem dX8_heard_4 : decode cX8_heard 4 = .ok (.ifCond .eq 12, 3) := by decide +kernel
theorem dX8_heard_7 : decode cX8_heard 7 = .ok (.iload_n 2, 1) := by decide +kernel
theorem dX8_heard_8 : decode cX8_heard 8 = .ok (.bipush 6, 2) := by decide +kernel
theorem dX8_heard_10 : decode cX8_heard 10 = .ok (.invokestatic 37, 3) := by decide +kernel
theorem dX8_heard_13 : decode cX8_heard 13 = .ok (.ifCond .ne 11, 3) := by decide +kernel
theorem dX8_heard_16 : decode cX8_heard 16 = .ok (.aload_n 0, 1) := by decide +kernel
theorem dX8_heard_17 : decode cX8_heard 17 = .ok (.iconst (-1), 1) := by decide +kernel
theorem dX8_heard_18 : decode cX8_heard 18 = .ok (.invokevirtual 33, 3) := by decide +kernel
theorem dX8_heard_21 : decode cX8_heard 21 = .ok (.pop, 1) := by decide +kernel
theorem dX8_heard_22 : decode cX8_heard 22 = .ok (.lconst 0, 1) := by decide +kernel
theorem dX8_heard_23 : decode cX8_heard 23 = .ok (.lreturn, 1) := by decide +kernel
theorem dX8_heard_24 : decode cX8_heard 24 = .ok (.aload_n 0, 1) := by decide +kernel
theorem dX8_heard_25 : decode cX8_heard 25 = .ok (.iconst 0, 1) := by decide +kernel
theorem dX8_heard_26 : decode cX8_heard 26 = .ok (.putfield 22, 3) := by decide +kernel
theorem dX8_heard_29 : decode cX8_heard 29 = .ok (.aload_n 0, 1) := by decide +kernel
theorem dX8_heard_30 : decode cX8_heard 30 = .ok (.getfield 11, 3) := by decide +kernel
theorem dX8_heard_33 : decode cX8_heard 33 = .ok (.iload_n 1, 1) := by decide +kernel
theorem dX8_heard_34 : decode cX8_heard 34 = .ok (.aaload, 1) := by decide +kernel
theorem dX8_heard_35 : decode cX8_heard 35 = .ok (.iload_n 2, 1) := by decide +kernel
theorem dX8_heard_36 : decode cX8_heard 36 = .ok (.invokevirtual 77, 3) := by decide +kernel
theorem dX8_heard_39 : decode cX8_heard 39 = .ok (.lreturn, 1) := by decide +kernel
theorem dX8_quiet_0 : decode cX8_quiet 0 = .ok (.iload_n 1, 1) := by decide +kernel
theorem dX8_quiet_1 : decode cX8_quiet 1 = .ok (.invokestatic 26, 3) := by decide +kernel
theorem dX8_quiet_4 : decode cX8_quiet 4 = .ok (.ifCond .ne 9, 3) := by decide +kernel
theorem dX8_quiet_7 : decode cX8_quiet 7 = .ok (.aload_n 0, 1) := by decide +kernel
theorem dX8_quiet_8 : decode cX8_quiet 8 = .ok (.iconst (-1), 1) := by decide +kernel
theorem dX8_quiet_9 : decode cX8_quiet 9 = .ok (.invokevirtual 33, 3) := by decide +kernel
theorem dX8_quiet_12 : decode cX8_quiet 12 = .ok (.ireturn, 1) := by decide +kernel
theorem dX8_quiet_13 : decode cX8_quiet 13 = .ok (.aload_n 0, 1) := by decide +kernel
theorem dX8_quiet_14 : decode cX8_quiet 14 = .ok (.getfield 11, 3) := by decide +kernel
theorem dX8_quiet_17 : decode cX8_quiet 17 = .ok (.iload_n 1, 1) := by decide +kernel
theorem dX8_quiet_18 : decode cX8_quiet 18 = .ok (.aaload, 1) := by decide +kernel
theorem dX8_quiet_19 : decode cX8_quiet 19 = .ok (.getfield 81, 3) := by decide +kernel
theorem dX8_quiet_22 : decode cX8_quiet 22 = .ok (.istore_n 2, 1) := by decide +kernel
theorem dX8_quiet_23 : decode cX8_quiet 23 = .ok (.aload_n 0, 1) := by decide +kernel
theorem dX8_quiet_24 : decode cX8_quiet 24 = .ok (.getfield 11, 3) := by decide +kernel
theorem dX8_quiet_27 : decode cX8_quiet 27 = .ok (.iload_n 1, 1) := by decide +kernel
theorem dX8_quiet_28 : decode cX8_quiet 28 = .ok (.aaload, 1) := by decide +kernel
theorem dX8_quiet_29 : decode cX8_quiet 29 = .ok (.invokevirtual 84, 3) := by decide +kernel
theorem dX8_quiet_32 : decode cX8_quiet 32 = .ok (.aload_n 0, 1) := by decide +kernel
theorem dX8_quiet_33 : decode cX8_quiet 33 = .ok (.iload_n 2, 1) := by decide +kernel
theorem dX8_quiet_34 : decode cX8_quiet 34 = .ok (.invokevirtual 49, 3) := by decide +kernel
theorem dX8_quiet_37 : decode cX8_quiet 37 = .ok (.ireturn, 1) := by decide +kernel
theorem dX8_comb_0 : decode cX8_comb 0 = .ok (.iload_n 1, 1) := by decide +kernel
theorem dX8_comb_1 : decode cX8_comb 1 = .ok (.invokestatic 87, 3) := by decide +kernel
theorem dX8_comb_4 : decode cX8_comb 4 = .ok (.ifCond .eq 10, 3) := by decide +kernel
theorem dX8_comb_7 : decode cX8_comb 7 = .ok (.iload_n 2, 1) := by decide +kernel
theorem dX8_comb_8 : decode cX8_comb 8 = .ok (.invokestatic 30, 3) := by decide +kernel
theorem dX8_comb_11 : decode cX8_comb 11 = .ok (.ifCond .ne 9, 3) := by decide +kernel
theorem dX8_comb_14 : decode cX8_comb 14 = .ok (.aload_n 0, 1) := by decide +kernel
theorem dX8_comb_15 : decode cX8_comb 15 = .ok (.iconst (-1), 1) := by decide +kernel
theorem dX8_comb_16 : decode cX8_comb 16 = .ok (.invokevirtual 33, 3) := by decide +kernel
theorem dX8_comb_19 : decode cX8_comb 19 = .ok (.ireturn, 1) := by decide +kernel
theorem dX8_comb_20 : decode cX8_comb 20 = .ok (.iload_n 3, 1) := by decide +kernel
theorem dX8_comb_21 : decode cX8_comb 21 = .ok (.bipush 40, 2) := by decide +kernel
theorem dX8_comb_23 : decode cX8_comb 23 = .ok (.invokestatic 37, 3) := by decide +kernel
theorem dX8_comb_26 : decode cX8_comb 26 = .ok (.ifCond .eq 13, 3) := by decide +kernel
theorem dX8_comb_29 : decode cX8_comb 29 = .ok (.iload 4, 2) := by decide +kernel
theorem dX8_comb_31 : decode cX8_comb 31 = .ok (.bipush 40, 2) := by decide +kernel
theorem dX8_comb_33 : decode cX8_comb 33 = .ok (.invokestatic 37, 3) := by decide +kernel
theorem dX8_comb_36 : decode cX8_comb 36 = .ok (.ifCond .ne 10, 3) := by decide +kernel
theorem dX8_comb_39 : decode cX8_comb 39 = .ok (.aload_n 0, 1) := by decide +kernel
theorem dX8_comb_40 : decode cX8_comb 40 = .ok (.bipush (-4), 2) := by decide +kernel
theorem dX8_comb_42 : decode cX8_comb 42 = .ok (.invokevirtual 33, 3) := by decide +kernel
theorem dX8_comb_45 : decode cX8_comb 45 = .ok (.ireturn, 1) := by decide +kernel
theorem dX8_comb_46 : decode cX8_comb 46 = .ok (.new 16, 3) := by decide +kernel
theorem dX8_comb_49 : decode cX8_comb 49 = .ok (.dup, 1) := by decide +kernel
theorem dX8_comb_50 : decode cX8_comb 50 = .ok (.iload_n 2, 1) := by decide +kernel
theorem dX8_comb_51 : decode cX8_comb 51 = .ok (.iload_n 3, 1) := by decide +kernel
theorem dX8_comb_52 : decode cX8_comb 52 = .ok (.invokespecial 90, 3) := by decide +kernel
theorem dX8_comb_55 : decode cX8_comb 55 = .ok (.astore 5, 2) := by decide +kernel
theorem dX8_comb_57 : decode cX8_comb 57 = .ok (.iconst 0, 1) := by decide +kernel
theorem dX8_comb_58 : decode cX8_comb 58 = .ok (.istore 6, 2) := by decide +kernel
theorem dX8_comb_60 : decode cX8_comb 60 = .ok (.iload 6, 2) := by decide +kernel
theorem dX8_comb_62 : decode cX8_comb 62 = .ok (.iload_n 3, 1) := by decide +kernel
theorem dX8_comb_63 : decode cX8_comb 63 = .ok (.if_icmp .ge 23, 3) := by decide +kernel
theorem dX8_comb_66 : decode cX8_comb 66 = .ok (.aload 5, 2) := by decide +kernel
theorem dX8_comb_68 : decode cX8_comb 68 = .ok (.getfield 93, 3) := by decide +kernel
theorem dX8_comb_71 : decode cX8_comb 71 = .ok (.iload 6, 2) := by decide +kernel
theorem dX8_comb_73 : decode cX8_comb 73 = .ok (.iload_n 2, 1) := by decide +kernel
theorem dX8_comb_74 : decode cX8_comb 74 = .ok (.iload 4, 2) := by decide +kernel
theorem dX8_comb_76 : decode cX8_comb 76 = .ok (.invokestatic 45, 3) := by decide +kernel
theorem dX8_comb_79 : decode cX8_comb 79 = .ok (.aastore, 1) := by decide +kernel
theorem dX8_comb_80 : decode cX8_comb 80 = .ok (.iinc 6 1, 3) := by decide +kernel
theorem dX8_comb_83 : decode cX8_comb 83 = .ok (.goto (-23), 3) := by decide +kernel
theorem dX8_comb_86 : decode cX8_comb 86 = .ok (.aload_n 0, 1) := by decide +kernel
theorem dX8_comb_87 : decode cX8_comb 87 = .ok (.getfield 18, 3) := by decide +kernel
theorem dX8_comb_90 : decode cX8_comb 90 = .ok (.iload_n 1, 1) := by decide +kernel
theorem dX8_comb_91 : decode cX8_comb 91 = .ok (.aload 5, 2) := by decide +kernel
theorem dX8_comb_93 : decode cX8_comb 93 = .ok (.aastore, 1) := by decide +kernel
theorem dX8_comb_94 : decode cX8_comb 94 = .ok (.aload_n 0, 1) := by decide +kernel
theorem dX8_comb_95 : decode cX8_comb 95 = .ok (.iload_n 3, 1) := by decide +kernel
theorem dX8_comb_96 : decode cX8_comb 96 = .ok (.invokevirtual 49, 3) := by decide +kernel
theorem dX8_comb_99 : decode cX8_comb 99 = .ok (.ireturn, 1) := by decide +kernel
theorem dX8_drop_0 : decode cX8_drop 0 = .ok (.aload_n 0, 1) := by decide +kernel
theorem dX8_drop_1 : decode cX8_drop 1 = .ok (.iload_n 1, 1) := by decide +kernel
theorem dX8_drop_2 : decode cX8_drop 2 = .ok (.invokevirtual 96, 3) := by decide +kernel
theorem dX8_drop_5 : decode cX8_drop 5 = .ok (.astore_n 2, 1) := by decide +kernel
theorem dX8_drop_6 : decode cX8_drop 6 = .ok (.aload_n 2, 1) := by decide +kernel
theorem dX8_drop_7 : decode cX8_drop 7 = .ok (.ifnonnull 9, 3) := by decide +kernel
theorem dX8_drop_10 : decode cX8_drop 10 = .ok (.aload_n 0, 1) := by decide +kernel
theorem dX8_drop_11 : decode cX8_drop 11 = .ok (.iconst (-1), 1) := by decide +kernel
theorem dX8_drop_12 : decode cX8_drop 12 = .ok (.invokevirtual 33, 3) := by decide +kernel
theorem dX8_drop_15 : decode cX8_drop 15 = .ok (.ireturn, 1) := by decide +kernel
theorem dX8_drop_16 : decode cX8_drop 16 = .ok (.aload_n 0, 1) := by decide +kernel
theorem dX8_drop_17 : decode cX8_drop 17 = .ok (.getfield 18, 3) := by decide +kernel
theorem dX8_drop_20 : decode cX8_drop 20 = .ok (.iload_n 1, 1) := by decide +kernel
theorem dX8_drop_21 : decode cX8_drop 21 = .ok (.aconst_null, 1) := by decide +kernel
theorem dX8_drop_22 : decode cX8_drop 22 = .ok (.aastore, 1) := by decide +kernel
theorem dX8_drop_23 : decode cX8_drop 23 = .ok (.aload_n 0, 1) := by decide +kernel
theorem dX8_drop_24 : decode cX8_drop 24 = .ok (.aload_n 2, 1) := by decide +kernel
theorem dX8_drop_25 : decode cX8_drop 25 = .ok (.getfield 93, 3) := by decide +kernel
theorem dX8_drop_28 : decode cX8_drop 28 = .ok (.arraylength, 1) := by decide +kernel
theorem dX8_drop_29 : decode cX8_drop 29 = .ok (.invokevirtual 49, 3) := by decide +kernel
theorem dX8_drop_32 : decode cX8_drop 32 = .ok (.ireturn, 1) := by decide +kernel
theorem dX8_about_0 : decode cX8_about 0 = .ok (.aload_n 0, 1) := by decide +kernel
theorem dX8_about_1 : decode cX8_about 1 = .ok (.iload_n 1, 1) := by decide +kernel
theorem dX8_about_2 : decode cX8_about 2 = .ok (.invokevirtual 96, 3) := by decide +kernel
theorem dX8_about_5 : decode cX8_about 5 = .ok (.astore_n 3, 1) := by decide +kernel
theorem dX8_about_6 : decode cX8_about 6 = .ok (.aload_n 3, 1) := by decide +kernel
theorem dX8_about_7 : decode cX8_about 7 = .ok (.ifnull 11, 3) := by decide +kernel
theorem dX8_about_10 : decode cX8_about 10 = .ok (.iload_n 2, 1) := by decide +kernel
theorem dX8_about_11 : decode cX8_about 11 = .ok (.iconst 3, 1) := by decide +kernel
theorem dX8_about_12 : decode cX8_about 12 = .ok (.invokestatic 37, 3) := by decide +kernel
theorem dX8_about_15 : decode cX8_about 15 = .ok (.ifCond .ne 9, 3) := by decide +kernel
theorem dX8_about_18 : decode cX8_about 18 = .ok (.aload_n 0, 1) := by decide +kernel
theorem dX8_about_19 : decode cX8_about 19 = .ok (.iconst (-1), 1) := by decide +kernel
theorem dX8_about_20 : decode cX8_about 20 = .ok (.invokevirtual 33, 3) := by decide +kernel
theorem dX8_about_23 : decode cX8_about 23 = .ok (.ireturn, 1) := by decide +kernel
theorem dX8_about_24 : decode cX8_about 24 = .ok (.aload_n 0, 1) := by decide +kernel
theorem dX8_about_25 : decode cX8_about 25 = .ok (.aload_n 3, 1) := by decide +kernel
theorem dX8_about_26 : decode cX8_about 26 = .ok (.iload_n 2, 1) := by decide +kernel
theorem dX8_about_27 : decode cX8_about 27 = .ok (.invokevirtual 100, 3) := by decide +kernel
theorem dX8_about_30 : decode cX8_about 30 = .ok (.invokevirtual 49, 3) := by decide +kernel
theorem dX8_about_33 : decode cX8_about 33 = .ok (.ireturn, 1) := by decide +kernel
theorem dX8_loosen_0 : decode cX8_loosen 0 = .ok (.aload_n 0, 1) := by decide +kernel
theorem dX8_loosen_1 : decode cX8_loosen 1 = .ok (.iload_n 1, 1) := by decide +kernel
theorem dX8_loosen_2 : decode cX8_loosen 2 = .ok (.iload_n 2, 1) := by decide +kernel
theorem dX8_loosen_3 : decode cX8_loosen 3 = .ok (.invokevirtual 103, 3) := by decide +kernel
theorem dX8_loosen_6 : decode cX8_loosen 6 = .ok (.astore_n 3, 1) := by decide +kernel
theorem dX8_loosen_7 : decode cX8_loosen 7 = .ok (.aload_n 3, 1) := by decide +kernel
theorem dX8_loosen_8 : decode cX8_loosen 8 = .ok (.ifnonnull 9, 3) := by decide +kernel
theorem dX8_loosen_11 : decode cX8_loosen 11 = .ok (.aload_n 0, 1) := by decide +kernel
theorem dX8_loosen_12 : decode cX8_loosen 12 = .ok (.iconst (-1), 1) := by decide +kernel
theorem dX8_loosen_13 : decode cX8_loosen 13 = .ok (.invokevirtual 33, 3) := by decide +kernel
theorem dX8_loosen_16 : decode cX8_loosen 16 = .ok (.ireturn, 1) := by decide +kernel
theorem dX8_loosen_17 : decode cX8_loosen 17 = .ok (.aload_n 3, 1) := by decide +kernel
theorem dX8_loosen_18 : decode cX8_loosen 18 = .ok (.getfield 93, 3) := by decide +kernel
theorem dX8_loosen_21 : decode cX8_loosen 21 = .ok (.iload_n 2, 1) := by decide +kernel
theorem dX8_loosen_22 : decode cX8_loosen 22 = .ok (.aaload, 1) := by decide +kernel
theorem dX8_loosen_23 : decode cX8_loosen 23 = .ok (.astore 4, 2) := by decide +kernel
theorem dX8_loosen_25 : decode cX8_loosen 25 = .ok (.aload 4, 2) := by decide +kernel
theorem dX8_loosen_27 : decode cX8_loosen 27 = .ok (.ifnonnull 10, 3) := by decide +kernel
theorem dX8_loosen_30 : decode cX8_loosen 30 = .ok (.aload_n 0, 1) := by decide +kernel
theorem dX8_loosen_31 : decode cX8_loosen 31 = .ok (.bipush (-2), 2) := by decide +kernel
theorem dX8_loosen_33 : decode cX8_loosen 33 = .ok (.invokevirtual 33, 3) := by decide +kernel
theorem dX8_loosen_36 : decode cX8_loosen 36 = .ok (.ireturn, 1) := by decide +kernel
theorem dX8_loosen_37 : decode cX8_loosen 37 = .ok (.aload_n 3, 1) := by decide +kernel
theorem dX8_loosen_38 : decode cX8_loosen 38 = .ok (.getfield 93, 3) := by decide +kernel
theorem dX8_loosen_41 : decode cX8_loosen 41 = .ok (.iload_n 2, 1) := by decide +kernel
theorem dX8_loosen_42 : decode cX8_loosen 42 = .ok (.aconst_null, 1) := by decide +kernel
theorem dX8_loosen_43 : decode cX8_loosen 43 = .ok (.aastore, 1) := by decide +kernel
theorem dX8_loosen_44 : decode cX8_loosen 44 = .ok (.aload_n 0, 1) := by decide +kernel
theorem dX8_loosen_45 : decode cX8_loosen 45 = .ok (.aload 4, 2) := by decide +kernel
theorem dX8_loosen_47 : decode cX8_loosen 47 = .ok (.getfield 55, 3) := by decide +kernel
theorem dX8_loosen_50 : decode cX8_loosen 50 = .ok (.invokevirtual 49, 3) := by decide +kernel
theorem dX8_loosen_53 : decode cX8_loosen 53 = .ok (.ireturn, 1) := by decide +kernel
theorem dX8_hang_0 : decode cX8_hang 0 = .ok (.aload_n 0, 1) := by decide +kernel
theorem dX8_hang_1 : decode cX8_hang 1 = .ok (.iload_n 1, 1) := by decide +kernel
theorem dX8_hang_2 : decode cX8_hang 2 = .ok (.iload_n 2, 1) := by decide +kernel
theorem dX8_hang_3 : decode cX8_hang 3 = .ok (.invokevirtual 103, 3) := by decide +kernel
theorem dX8_hang_6 : decode cX8_hang 6 = .ok (.astore 4, 2) := by decide +kernel
theorem dX8_hang_8 : decode cX8_hang 8 = .ok (.aload 4, 2) := by decide +kernel
theorem dX8_hang_10 : decode cX8_hang 10 = .ok (.ifnonnull 9, 3) := by decide +kernel
theorem dX8_hang_13 : decode cX8_hang 13 = .ok (.aload_n 0, 1) := by decide +kernel
theorem dX8_hang_14 : decode cX8_hang 14 = .ok (.iconst (-1), 1) := by decide +kernel
theorem dX8_hang_15 : decode cX8_hang 15 = .ok (.invokevirtual 33, 3) := by decide +kernel
theorem dX8_hang_18 : decode cX8_hang 18 = .ok (.ireturn, 1) := by decide +kernel
theorem dX8_hang_19 : decode cX8_hang 19 = .ok (.aload_n 0, 1) := by decide +kernel
theorem dX8_hang_20 : decode cX8_hang 20 = .ok (.iload_n 3, 1) := by decide +kernel
theorem dX8_hang_21 : decode cX8_hang 21 = .ok (.aload 4, 2) := by decide +kernel
theorem dX8_hang_23 : decode cX8_hang 23 = .ok (.getfield 107, 3) := by decide +kernel
theorem dX8_hang_26 : decode cX8_hang 26 = .ok (.invokevirtual 52, 3) := by decide +kernel
theorem dX8_hang_29 : decode cX8_hang 29 = .ok (.astore 5, 2) := by decide +kernel
theorem dX8_hang_31 : decode cX8_hang 31 = .ok (.aload 5, 2) := by decide +kernel
theorem dX8_hang_33 : decode cX8_hang 33 = .ok (.ifnonnull 8, 3) := by decide +kernel
theorem dX8_hang_36 : decode cX8_hang 36 = .ok (.aload_n 0, 1) := by decide +kernel
theorem dX8_hang_37 : decode cX8_hang 37 = .ok (.getfield 22, 3) := by decide +kernel
theorem dX8_hang_40 : decode cX8_hang 40 = .ok (.ireturn, 1) := by decide +kernel
theorem dX8_hang_41 : decode cX8_hang 41 = .ok (.aload 4, 2) := by decide +kernel
theorem dX8_hang_43 : decode cX8_hang 43 = .ok (.getfield 93, 3) := by decide +kernel
theorem dX8_hang_46 : decode cX8_hang 46 = .ok (.iload_n 2, 1) := by decide +kernel
theorem dX8_hang_47 : decode cX8_hang 47 = .ok (.aload 5, 2) := by decide +kernel
theorem dX8_hang_49 : decode cX8_hang 49 = .ok (.aastore, 1) := by decide +kernel
theorem dX8_hang_50 : decode cX8_hang 50 = .ok (.aload 5, 2) := by decide +kernel
theorem dX8_hang_52 : decode cX8_hang 52 = .ok (.getfield 55, 3) := by decide +kernel
theorem dX8_hang_55 : decode cX8_hang 55 = .ok (.ireturn, 1) := by decide +kernel
theorem dX8_fit_0 : decode cX8_fit 0 = .ok (.aload_n 0, 1) := by decide +kernel
theorem dX8_fit_1 : decode cX8_fit 1 = .ok (.iload_n 1, 1) := by decide +kernel
theorem dX8_fit_2 : decode cX8_fit 2 = .ok (.iload_n 2, 1) := by decide +kernel
theorem dX8_fit_3 : decode cX8_fit 3 = .ok (.invokevirtual 103, 3) := by decide +kernel
theorem dX8_fit_6 : decode cX8_fit 6 = .ok (.astore 4, 2) := by decide +kernel
theorem dX8_fit_8 : decode cX8_fit 8 = .ok (.aload 4, 2) := by decide +kernel
theorem dX8_fit_10 : decode cX8_fit 10 = .ok (.ifnull 10, 3) := by decide +kernel
theorem dX8_fit_13 : decode cX8_fit 13 = .ok (.iload_n 3, 1) := by decide +kernel
theorem dX8_fit_14 : decode cX8_fit 14 = .ok (.invokestatic 26, 3) := by decide +kernel
theorem dX8_fit_17 : decode cX8_fit 17 = .ok (.ifCond .ne 9, 3) := by decide +kernel
theorem dX8_fit_20 : decode cX8_fit 20 = .ok (.aload_n 0, 1) := by decide +kernel
theorem dX8_fit_21 : decode cX8_fit 21 = .ok (.iconst (-1), 1) := by decide +kernel
theorem dX8_fit_22 : decode cX8_fit 22 = .ok (.invokevirtual 33, 3) := by decide +kernel
theorem dX8_fit_25 : decode cX8_fit 25 = .ok (.ireturn, 1) := by decide +kernel
theorem dX8_fit_26 : decode cX8_fit 26 = .ok (.aload 4, 2) := by decide +kernel
theorem dX8_fit_28 : decode cX8_fit 28 = .ok (.getfield 93, 3) := by decide +kernel
theorem dX8_fit_31 : decode cX8_fit 31 = .ok (.iload_n 2, 1) := by decide +kernel
theorem dX8_fit_32 : decode cX8_fit 32 = .ok (.aaload, 1) := by decide +kernel
theorem dX8_fit_33 : decode cX8_fit 33 = .ok (.astore 5, 2) := by decide +kernel
theorem dX8_fit_35 : decode cX8_fit 35 = .ok (.aload 5, 2) := by decide +kernel
theorem dX8_fit_37 : decode cX8_fit 37 = .ok (.ifnonnull 10, 3) := by decide +kernel
theorem dX8_fit_40 : decode cX8_fit 40 = .ok (.aload_n 0, 1) := by decide +kernel
theorem dX8_fit_41 : decode cX8_fit 41 = .ok (.bipush (-2), 2) := by decide +kernel
theorem dX8_fit_43 : decode cX8_fit 43 = .ok (.invokevirtual 33, 3) := by decide +kernel
theorem dX8_fit_46 : decode cX8_fit 46 = .ok (.ireturn, 1) := by decide +kernel
theorem dX8_fit_47 : decode cX8_fit 47 = .ok (.aload_n 0, 1) := by decide +kernel
theorem dX8_fit_48 : decode cX8_fit 48 = .ok (.getfield 11, 3) := by decide +kernel
theorem dX8_fit_51 : decode cX8_fit 51 = .ok (.iload_n 3, 1) := by decide +kernel
theorem dX8_fit_52 : decode cX8_fit 52 = .ok (.aaload, 1) := by decide +kernel
theorem dX8_fit_53 : decode cX8_fit 53 = .ok (.getfield 41, 3) := by decide +kernel
theorem dX8_fit_56 : decode cX8_fit 56 = .ok (.aload 4, 2) := by decide +kernel
theorem dX8_fit_58 : decode cX8_fit 58 = .ok (.getfield 107, 3) := by decide +kernel
theorem dX8_fit_61 : decode cX8_fit 61 = .ok (.aload 5, 2) := by decide +kernel
theorem dX8_fit_63 : decode cX8_fit 63 = .ok (.aastore, 1) := by decide +kernel
theorem dX8_fit_64 : decode cX8_fit 64 = .ok (.aload_n 0, 1) := by decide +kernel
theorem dX8_fit_65 : decode cX8_fit 65 = .ok (.aload 5, 2) := by decide +kernel
theorem dX8_fit_67 : decode cX8_fit 67 = .ok (.getfield 55, 3) := by decide +kernel
theorem dX8_fit_70 : decode cX8_fit 70 = .ok (.invokevirtual 49, 3) := by decide +kernel
theorem dX8_fit_73 : decode cX8_fit 73 = .ok (.ireturn, 1) := by decide +kernel
theorem dX8_cell_0 : decode cX8_cell 0 = .ok (.aload_n 0, 1) := by decide +kernel
theorem dX8_cell_1 : decode cX8_cell 1 = .ok (.aload_n 0, 1) := by decide +kernel
theorem dX8_cell_2 : decode cX8_cell 2 = .ok (.iload_n 1, 1) := by decide +kernel
theorem dX8_cell_3 : decode cX8_cell 3 = .ok (.iload_n 2, 1) := by decide +kernel
theorem dX8_cell_4 : decode cX8_cell 4 = .ok (.invokevirtual 110, 3) := by decide +kernel
theorem dX8_cell_7 : decode cX8_cell 7 = .ok (.iload_n 3, 1) := by decide +kernel
theorem dX8_cell_8 : decode cX8_cell 8 = .ok (.invokevirtual 60, 3) := by decide +kernel
theorem dX8_cell_11 : decode cX8_cell 11 = .ok (.ireturn, 1) := by decide +kernel
theorem dX8_set_0 : decode cX8_set 0 = .ok (.aload_n 0, 1) := by decide +kernel
theorem dX8_set_1 : decode cX8_set 1 = .ok (.aload_n 0, 1) := by decide +kernel
theorem dX8_set_2 : decode cX8_set 2 = .ok (.iload_n 1, 1) := by decide +kernel
theorem dX8_set_3 : decode cX8_set 3 = .ok (.iload_n 2, 1) := by decide +kernel
theorem dX8_set_4 : decode cX8_set 4 = .ok (.invokevirtual 110, 3) := by decide +kernel
theorem dX8_set_7 : decode cX8_set 7 = .ok (.iload_n 3, 1) := by decide +kernel
theorem dX8_set_8 : decode cX8_set 8 = .ok (.iload 4, 2) := by decide +kernel
theorem dX8_set_10 : decode cX8_set 10 = .ok (.invokevirtual 64, 3) := by decide +kernel
theorem dX8_set_13 : decode cX8_set 13 = .ok (.ireturn, 1) := by decide +kernel
theorem dX8_twist_0 : decode cX8_twist 0 = .ok (.aload_n 0, 1) := by decide +kernel
theorem dX8_twist_1 : decode cX8_twist 1 = .ok (.aload_n 0, 1) := by decide +kernel
theorem dX8_twist_2 : decode cX8_twist 2 = .ok (.iload_n 1, 1) := by decide +kernel
theorem dX8_twist_3 : decode cX8_twist 3 = .ok (.iload_n 2, 1) := by decide +kernel
theorem dX8_twist_4 : decode cX8_twist 4 = .ok (.invokevirtual 110, 3) := by decide +kernel
theorem dX8_twist_7 : decode cX8_twist 7 = .ok (.iload_n 3, 1) := by decide +kernel
theorem dX8_twist_8 : decode cX8_twist 8 = .ok (.iload 4, 2) := by decide +kernel
theorem dX8_twist_10 : decode cX8_twist 10 = .ok (.invokevirtual 68, 3) := by decide +kernel
theorem dX8_twist_13 : decode cX8_twist 13 = .ok (.ireturn, 1) := by decide +kernel
theorem dX8_state_0 : decode cX8_state 0 = .ok (.aload_n 0, 1) := by decide +kernel
theorem dX8_state_1 : decode cX8_state 1 = .ok (.getfield 22, 3) := by decide +kernel
theorem dX8_state_4 : decode cX8_state 4 = .ok (.ireturn, 1) := by decide +kernel
theorem dX8_refuse_0 : decode cX8_refuse 0 = .ok (.aload_n 0, 1) := by decide +kernel
theorem dX8_refuse_1 : decode cX8_refuse 1 = .ok (.iload_n 1, 1) := by decide +kernel
theorem dX8_refuse_2 : decode cX8_refuse 2 = .ok (.putfield 22, 3) := by decide +kernel
theorem dX8_refuse_5 : decode cX8_refuse 5 = .ok (.iload_n 1, 1) := by decide +kernel
theorem dX8_refuse_6 : decode cX8_refuse 6 = .ok (.ireturn, 1) := by decide +kernel
theorem dX8_grant_0 : decode cX8_grant 0 = .ok (.aload_n 0, 1) := by decide +kernel
theorem dX8_grant_1 : decode cX8_grant 1 = .ok (.iconst 0, 1) := by decide +kernel
theorem dX8_grant_2 : decode cX8_grant 2 = .ok (.putfield 22, 3) := by decide +kernel
theorem dX8_grant_5 : decode cX8_grant 5 = .ok (.iload_n 1, 1) := by decide +kernel
theorem dX8_grant_6 : decode cX8_grant 6 = .ok (.ireturn, 1) := by decide +kernel
theorem dX8_isUpTo_0 : decode cX8_isUpTo 0 = .ok (.iload_n 0, 1) := by decide +kernel
theorem dX8_isUpTo_1 : decode cX8_isUpTo 1 = .ok (.ifCond .lt 12, 3) := by decide +kernel
theorem dX8_isUpTo_4 : decode cX8_isUpTo 4 = .ok (.iload_n 0, 1) := by decide +kernel
theorem dX8_isUpTo_5 : decode cX8_isUpTo 5 = .ok (.iload_n 1, 1) := by decide +kernel
theorem dX8_isUpTo_6 : decode cX8_isUpTo 6 = .ok (.if_icmp .gt 7, 3) := by decide +kernel
theorem dX8_isUpTo_9 : decode cX8_isUpTo 9 = .ok (.iconst 1, 1) := by decide +kernel
theorem dX8_isUpTo_10 : decode cX8_isUpTo 10 = .ok (.goto 4, 3) := by decide +kernel
theorem dX8_isUpTo_13 : decode cX8_isUpTo 13 = .ok (.iconst 0, 1) := by decide +kernel
theorem dX8_isUpTo_14 : decode cX8_isUpTo 14 = .ok (.ireturn, 1) := by decide +kernel
theorem dX8_isDrum_0 : decode cX8_isDrum 0 = .ok (.iload_n 0, 1) := by decide +kernel
theorem dX8_isDrum_1 : decode cX8_isDrum 1 = .ok (.ifCond .lt 13, 3) := by decide +kernel
theorem dX8_isDrum_4 : decode cX8_isDrum 4 = .ok (.iload_n 0, 1) := by decide +kernel
theorem dX8_isDrum_5 : decode cX8_isDrum 5 = .ok (.bipush 8, 2) := by decide +kernel
theorem dX8_isDrum_7 : decode cX8_isDrum 7 = .ok (.if_icmp .ge 7, 3) := by decide +kernel
theorem dX8_isDrum_10 : decode cX8_isDrum 10 = .ok (.iconst 1, 1) := by decide +kernel
theorem dX8_isDrum_11 : decode cX8_isDrum 11 = .ok (.goto 4, 3) := by decide +kernel
theorem dX8_isDrum_14 : decode cX8_isDrum 14 = .ok (.iconst 0, 1) := by decide +kernel
theorem dX8_isDrum_15 : decode cX8_isDrum 15 = .ok (.ireturn, 1) := by decide +kernel
theorem dX8_isKind_0 : decode cX8_isKind 0 = .ok (.iload_n 0, 1) := by decide +kernel
theorem dX8_isKind_1 : decode cX8_isKind 1 = .ok (.ifCond .lt 12, 3) := by decide +kernel
theorem dX8_isKind_4 : decode cX8_isKind 4 = .ok (.iload_n 0, 1) := by decide +kernel
theorem dX8_isKind_5 : decode cX8_isKind 5 = .ok (.iconst 5, 1) := by decide +kernel
theorem dX8_isKind_6 : decode cX8_isKind 6 = .ok (.if_icmp .ge 7, 3) := by decide +kernel
theorem dX8_isKind_9 : decode cX8_isKind 9 = .ok (.iconst 1, 1) := by decide +kernel
theorem dX8_isKind_10 : decode cX8_isKind 10 = .ok (.goto 4, 3) := by decide +kernel
theorem dX8_isKind_13 : decode cX8_isKind 13 = .ok (.iconst 0, 1) := by decide +kernel
theorem dX8_isKind_14 : decode cX8_isKind 14 = .ok (.ireturn, 1) := by decide +kernel
theorem dX8_isComb_0 : decode cX8_isComb 0 = .ok (.iload_n 0, 1) := by decide +kernel
theorem dX8_isComb_1 : decode cX8_isComb 1 = .ok (.ifCond .lt 12, 3) := by decide +kernel
theorem dX8_isComb_4 : decode cX8_isComb 4 = .ok (.iload_n 0, 1) := by decide +kernel
theorem dX8_isComb_5 : decode cX8_isComb 5 = .ok (.iconst 4, 1) := by decide +kernel
theorem dX8_isComb_6 : decode cX8_isComb 6 = .ok (.if_icmp .ge 7, 3) := by decide +kernel
theorem dX8_isComb_9 : decode cX8_isComb 9 = .ok (.iconst 1, 1) := by decide +kernel
theorem dX8_isComb_10 : decode cX8_isComb 10 = .ok (.goto 4, 3) := by decide +kernel
theorem dX8_isComb_13 : decode cX8_isComb 13 = .ok (.iconst 0, 1) := by decide +kernel
theorem dX8_isComb_14 : decode cX8_isComb 14 = .ok (.ireturn, 1) := by decide +kernel
theorem dX8_combOf_0 : decode cX8_combOf 0 = .ok (.iload_n 1, 1) := by decide +kernel
theorem dX8_combOf_1 : decode cX8_combOf 1 = .ok (.invokestatic 87, 3) := by decide +kernel
theorem dX8_combOf_4 : decode cX8_combOf 4 = .ok (.ifCond .eq 12, 3) := by decide +kernel
theorem dX8_combOf_7 : decode cX8_combOf 7 = .ok (.aload_n 0, 1) := by decide +kernel
theorem dX8_combOf_8 : decode cX8_combOf 8 = .ok (.getfield 18, 3) := by decide +kernel
theorem dX8_combOf_11 : decode cX8_combOf 11 = .ok (.iload_n 1, 1) := by decide +kernel
theorem dX8_combOf_12 : decode cX8_combOf 12 = .ok (.aaload, 1) := by decide +kernel
theorem dX8_combOf_13 : decode cX8_combOf 13 = .ok (.goto 4, 3) := by decide +kernel
theorem dX8_combOf_16 : decode cX8_combOf 16 = .ok (.aconst_null, 1) := by decide +kernel
theorem dX8_combOf_17 : decode cX8_combOf 17 = .ok (.areturn, 1) := by decide +kernel
theorem dX8_combWithTooth_0 : decode cX8_combWithTooth 0 = .ok (.aload_n 0, 1) := by decide +kernel
theorem dX8_combWithTooth_1 : decode cX8_combWithTooth 1 = .ok (.iload_n 1, 1) := by decide +kernel
theorem dX8_combWithTooth_2 : decode cX8_combWithTooth 2 = .ok (.invokevirtual 96, 3) := by decide +kernel
theorem dX8_combWithTooth_5 : decode cX8_combWithTooth 5 = .ok (.astore_n 3, 1) := by decide +kernel
theorem dX8_combWithTooth_6 : decode cX8_combWithTooth 6 = .ok (.aload_n 3, 1) := by decide +kernel
theorem dX8_combWithTooth_7 : decode cX8_combWithTooth 7 = .ok (.ifnull 16, 3) := by decide +kernel
theorem dX8_combWithTooth_10 : decode cX8_combWithTooth 10 = .ok (.iload_n 2, 1) := by decide +kernel
theorem dX8_combWithTooth_11 : decode cX8_combWithTooth 11 = .ok (.ifCond .lt 12, 3) := by decide +kernel
theorem dX8_combWithTooth_14 : decode cX8_combWithTooth 14 = .ok (.iload_n 2, 1) := by decide +kernel
theorem dX8_combWithTooth_15 : decode cX8_combWithTooth 15 = .ok (.aload_n 3, 1) := by decide +kernel
theorem dX8_combWithTooth_16 : decode cX8_combWithTooth 16 = .ok (.getfield 93, 3) := by decide +kernel
theorem dX8_combWithTooth_19 : decode cX8_combWithTooth 19 = .ok (.arraylength, 1) := by decide +kernel
theorem dX8_combWithTooth_20 : decode cX8_combWithTooth 20 = .ok (.if_icmp .lt 5, 3) := by decide +kernel
theorem dX8_combWithTooth_23 : decode cX8_combWithTooth 23 = .ok (.aconst_null, 1) := by decide +kernel
theorem dX8_combWithTooth_24 : decode cX8_combWithTooth 24 = .ok (.areturn, 1) := by decide +kernel
theorem dX8_combWithTooth_25 : decode cX8_combWithTooth 25 = .ok (.aload_n 3, 1) := by decide +kernel
theorem dX8_combWithTooth_26 : decode cX8_combWithTooth 26 = .ok (.areturn, 1) := by decide +kernel
theorem dX8_trackOfDrum_0 : decode cX8_trackOfDrum 0 = .ok (.iload_n 1, 1) := by decide +kernel
theorem dX8_trackOfDrum_1 : decode cX8_trackOfDrum 1 = .ok (.invokestatic 26, 3) := by decide +kernel
theorem dX8_trackOfDrum_4 : decode cX8_trackOfDrum 4 = .ok (.ifCond .eq 10, 3) := by decide +kernel
theorem dX8_trackOfDrum_7 : decode cX8_trackOfDrum 7 = .ok (.iload_n 2, 1) := by decide +kernel
theorem dX8_trackOfDrum_8 : decode cX8_trackOfDrum 8 = .ok (.invokestatic 30, 3) := by decide +kernel
theorem dX8_trackOfDrum_11 : decode cX8_trackOfDrum 11 = .ok (.ifCond .ne 10, 3) := by decide +kernel
theorem dX8_trackOfDrum_14 : decode cX8_trackOfDrum 14 = .ok (.aload_n 0, 1) := by decide +kernel
theorem dX8_trackOfDrum_15 : decode cX8_trackOfDrum 15 = .ok (.iconst (-1), 1) := by decide +kernel
theorem dX8_trackOfDrum_16 : decode cX8_trackOfDrum 16 = .ok (.putfield 22, 3) := by decide +kernel
theorem dX8_trackOfDrum_19 : decode cX8_trackOfDrum 19 = .ok (.aconst_null, 1) := by decide +kernel
theorem dX8_trackOfDrum_20 : decode cX8_trackOfDrum 20 = .ok (.areturn, 1) := by decide +kernel
theorem dX8_trackOfDrum_21 : decode cX8_trackOfDrum 21 = .ok (.aload_n 0, 1) := by decide +kernel
theorem dX8_trackOfDrum_22 : decode cX8_trackOfDrum 22 = .ok (.aload_n 0, 1) := by decide +kernel
theorem dX8_trackOfDrum_23 : decode cX8_trackOfDrum 23 = .ok (.getfield 11, 3) := by decide +kernel
theorem dX8_trackOfDrum_26 : decode cX8_trackOfDrum 26 = .ok (.iload_n 1, 1) := by decide +kernel
theorem dX8_trackOfDrum_27 : decode cX8_trackOfDrum 27 = .ok (.aaload, 1) := by decide +kernel
theorem dX8_trackOfDrum_28 : decode cX8_trackOfDrum 28 = .ok (.getfield 41, 3) := by decide +kernel
theorem dX8_trackOfDrum_31 : decode cX8_trackOfDrum 31 = .ok (.iload_n 2, 1) := by decide +kernel
theorem dX8_trackOfDrum_32 : decode cX8_trackOfDrum 32 = .ok (.aaload, 1) := by decide +kernel
theorem dX8_trackOfDrum_33 : decode cX8_trackOfDrum 33 = .ok (.invokevirtual 113, 3) := by decide +kernel
theorem dX8_trackOfDrum_36 : decode cX8_trackOfDrum 36 = .ok (.areturn, 1) := by decide +kernel
theorem dX8_trackOfTooth_0 : decode cX8_trackOfTooth 0 = .ok (.aload_n 0, 1) := by decide +kernel
theorem dX8_trackOfTooth_1 : decode cX8_trackOfTooth 1 = .ok (.iload_n 1, 1) := by decide +kernel
theorem dX8_trackOfTooth_2 : decode cX8_trackOfTooth 2 = .ok (.iload_n 2, 1) := by decide +kernel
theorem dX8_trackOfTooth_3 : decode cX8_trackOfTooth 3 = .ok (.invokevirtual 103, 3) := by decide +kernel
theorem dX8_trackOfTooth_6 : decode cX8_trackOfTooth 6 = .ok (.astore_n 3, 1) := by decide +kernel
theorem dX8_trackOfTooth_7 : decode cX8_trackOfTooth 7 = .ok (.aload_n 3, 1) := by decide +kernel
theorem dX8_trackOfTooth_8 : decode cX8_trackOfTooth 8 = .ok (.ifnonnull 10, 3) := by decide +kernel
theorem dX8_trackOfTooth_11 : decode cX8_trackOfTooth 11 = .ok (.aload_n 0, 1) := by decide +kernel
theorem dX8_trackOfTooth_12 : decode cX8_trackOfTooth 12 = .ok (.iconst (-1), 1) := by decide +kernel
theorem dX8_trackOfTooth_13 : decode cX8_trackOfTooth 13 = .ok (.putfield 22, 3) := by decide +kernel
theorem dX8_trackOfTooth_16 : decode cX8_trackOfTooth 16 = .ok (.aconst_null, 1) := by decide +kernel
theorem dX8_trackOfTooth_17 : decode cX8_trackOfTooth 17 = .ok (.areturn, 1) := by decide +kernel
theorem dX8_trackOfTooth_18 : decode cX8_trackOfTooth 18 = .ok (.aload_n 0, 1) := by decide +kernel
theorem dX8_trackOfTooth_19 : decode cX8_trackOfTooth 19 = .ok (.aload_n 3, 1) := by decide +kernel
theorem dX8_trackOfTooth_20 : decode cX8_trackOfTooth 20 = .ok (.getfield 93, 3) := by decide +kernel
theorem dX8_trackOfTooth_23 : decode cX8_trackOfTooth 23 = .ok (.iload_n 2, 1) := by decide +kernel
theorem dX8_trackOfTooth_24 : decode cX8_trackOfTooth 24 = .ok (.aaload, 1) := by decide +kernel
theorem dX8_trackOfTooth_25 : decode cX8_trackOfTooth 25 = .ok (.invokevirtual 113, 3) := by decide +kernel
theorem dX8_trackOfTooth_28 : decode cX8_trackOfTooth 28 = .ok (.areturn, 1) := by decide +kernel
theorem dX8_wanted_0 : decode cX8_wanted 0 = .ok (.aload_n 0, 1) := by decide +kernel
theorem dX8_wanted_1 : decode cX8_wanted 1 = .ok (.aload_n 1, 1) := by decide +kernel
theorem dX8_wanted_2 : decode cX8_wanted 2 = .ok (.ifnonnull 8, 3) := by decide +kernel
theorem dX8_wanted_5 : decode cX8_wanted 5 = .ok (.bipush (-2), 2) := by decide +kernel
theorem dX8_wanted_7 : decode cX8_wanted 7 = .ok (.goto 4, 3) := by decide +kernel
theorem dX8_wanted_10 : decode cX8_wanted 10 = .ok (.iconst 0, 1) := by decide +kernel
theorem dX8_wanted_11 : decode cX8_wanted 11 = .ok (.putfield 22, 3) := by decide +kernel
theorem dX8_wanted_14 : decode cX8_wanted 14 = .ok (.aload_n 1, 1) := by decide +kernel
theorem dX8_wanted_15 : decode cX8_wanted 15 = .ok (.areturn, 1) := by decide +kernel
theorem dX8_valueIn_0 : decode cX8_valueIn 0 = .ok (.aload_n 1, 1) := by decide +kernel
theorem dX8_valueIn_1 : decode cX8_valueIn 1 = .ok (.ifnonnull 5, 3) := by decide +kernel
theorem dX8_valueIn_4 : decode cX8_valueIn 4 = .ok (.iconst 0, 1) := by decide +kernel
theorem dX8_valueIn_5 : decode cX8_valueIn 5 = .ok (.ireturn, 1) := by decide +kernel
theorem dX8_valueIn_6 : decode cX8_valueIn 6 = .ok (.aload_n 1, 1) := by decide +kernel
theorem dX8_valueIn_7 : decode cX8_valueIn 7 = .ok (.iload_n 2, 1) := by decide +kernel
theorem dX8_valueIn_8 : decode cX8_valueIn 8 = .ok (.invokevirtual 117, 3) := by decide +kernel
theorem dX8_valueIn_11 : decode cX8_valueIn 11 = .ok (.ifCond .ne 12, 3) := by decide +kernel
theorem dX8_valueIn_14 : decode cX8_valueIn 14 = .ok (.aload_n 0, 1) := by decide +kernel
theorem dX8_valueIn_15 : decode cX8_valueIn 15 = .ok (.bipush (-3), 2) := by decide +kernel
theorem dX8_valueIn_17 : decode cX8_valueIn 17 = .ok (.invokevirtual 33, 3) := by decide +kernel
theorem dX8_valueIn_20 : decode cX8_valueIn 20 = .ok (.pop, 1) := by decide +kernel
theorem dX8_valueIn_21 : decode cX8_valueIn 21 = .ok (.iconst 0, 1) := by decide +kernel
theorem dX8_valueIn_22 : decode cX8_valueIn 22 = .ok (.ireturn, 1) := by decide +kernel
theorem dX8_valueIn_23 : decode cX8_valueIn 23 = .ok (.aload_n 1, 1) := by decide +kernel
theorem dX8_valueIn_24 : decode cX8_valueIn 24 = .ok (.iload_n 2, 1) := by decide +kernel
theorem dX8_valueIn_25 : decode cX8_valueIn 25 = .ok (.invokevirtual 120, 3) := by decide +kernel
theorem dX8_valueIn_28 : decode cX8_valueIn 28 = .ok (.ireturn, 1) := by decide +kernel
theorem dX8_putInto_0 : decode cX8_putInto 0 = .ok (.aload_n 1, 1) := by decide +kernel
theorem dX8_putInto_1 : decode cX8_putInto 1 = .ok (.ifnonnull 8, 3) := by decide +kernel
theorem dX8_putInto_4 : decode cX8_putInto 4 = .ok (.aload_n 0, 1) := by decide +kernel
theorem dX8_putInto_5 : decode cX8_putInto 5 = .ok (.getfield 22, 3) := by decide +kernel
theorem dX8_putInto_8 : decode cX8_putInto 8 = .ok (.ireturn, 1) := by decide +kernel
theorem dX8_putInto_9 : decode cX8_putInto 9 = .ok (.aload_n 1, 1) := by decide +kernel
theorem dX8_putInto_10 : decode cX8_putInto 10 = .ok (.iload_n 2, 1) := by decide +kernel
theorem dX8_putInto_11 : decode cX8_putInto 11 = .ok (.invokevirtual 117, 3) := by decide +kernel
theorem dX8_putInto_14 : decode cX8_putInto 14 = .ok (.ifCond .ne 10, 3) := by decide +kernel
theorem dX8_putInto_17 : decode cX8_putInto 17 = .ok (.aload_n 0, 1) := by decide +kernel
theorem dX8_putInto_18 : decode cX8_putInto 18 = .ok (.bipush (-3), 2) := by decide +kernel
theorem dX8_putInto_20 : decode cX8_putInto 20 = .ok (.invokevirtual 33, 3) := by decide +kernel
theorem dX8_putInto_23 : decode cX8_putInto 23 = .ok (.ireturn, 1) := by decide +kernel
theorem dX8_putInto_24 : decode cX8_putInto 24 = .ok (.aload_n 1, 1) := by decide +kernel
theorem dX8_putInto_25 : decode cX8_putInto 25 = .ok (.iload_n 2, 1) := by decide +kernel
theorem dX8_putInto_26 : decode cX8_putInto 26 = .ok (.iload_n 3, 1) := by decide +kernel
theorem dX8_putInto_27 : decode cX8_putInto 27 = .ok (.invokevirtual 123, 3) := by decide +kernel
theorem dX8_putInto_30 : decode cX8_putInto 30 = .ok (.ifCond .eq 7, 3) := by decide +kernel
theorem dX8_putInto_33 : decode cX8_putInto 33 = .ok (.iconst 0, 1) := by decide +kernel
theorem dX8_putInto_34 : decode cX8_putInto 34 = .ok (.goto 9, 3) := by decide +kernel
theorem dX8_putInto_37 : decode cX8_putInto 37 = .ok (.aload_n 0, 1) := by decide +kernel
theorem dX8_putInto_38 : decode cX8_putInto 38 = .ok (.bipush (-5), 2) := by decide +kernel
theorem dX8_putInto_40 : decode cX8_putInto 40 = .ok (.invokevirtual 33, 3) := by decide +kernel
theorem dX8_putInto_43 : decode cX8_putInto 43 = .ok (.ireturn, 1) := by decide +kernel
theorem dX8_alterIn_0 : decode cX8_alterIn 0 = .ok (.aload_n 1, 1) := by decide +kernel
theorem dX8_alterIn_1 : decode cX8_alterIn 1 = .ok (.ifnonnull 8, 3) := by decide +kernel
theorem dX8_alterIn_4 : decode cX8_alterIn 4 = .ok (.aload_n 0, 1) := by decide +kernel
theorem dX8_alterIn_5 : decode cX8_alterIn 5 = .ok (.getfield 22, 3) := by decide +kernel
theorem dX8_alterIn_8 : decode cX8_alterIn 8 = .ok (.ireturn, 1) := by decide +kernel
theorem dX8_alterIn_9 : decode cX8_alterIn 9 = .ok (.aload_n 1, 1) := by decide +kernel
theorem dX8_alterIn_10 : decode cX8_alterIn 10 = .ok (.iload_n 2, 1) := by decide +kernel
theorem dX8_alterIn_11 : decode cX8_alterIn 11 = .ok (.invokevirtual 117, 3) := by decide +kernel
theorem dX8_alterIn_14 : decode cX8_alterIn 14 = .ok (.ifCond .ne 10, 3) := by decide +kernel
theorem dX8_alterIn_17 : decode cX8_alterIn 17 = .ok (.aload_n 0, 1) := by decide +kernel
theorem dX8_alterIn_18 : decode cX8_alterIn 18 = .ok (.bipush (-3), 2) := by decide +kernel
theorem dX8_alterIn_20 : decode cX8_alterIn 20 = .ok (.invokevirtual 33, 3) := by decide +kernel
theorem dX8_alterIn_23 : decode cX8_alterIn 23 = .ok (.ireturn, 1) := by decide +kernel
theorem dX8_alterIn_24 : decode cX8_alterIn 24 = .ok (.aload_n 1, 1) := by decide +kernel
theorem dX8_alterIn_25 : decode cX8_alterIn 25 = .ok (.iload_n 2, 1) := by decide +kernel
theorem dX8_alterIn_26 : decode cX8_alterIn 26 = .ok (.iload_n 3, 1) := by decide +kernel
theorem dX8_alterIn_27 : decode cX8_alterIn 27 = .ok (.invokevirtual 126, 3) := by decide +kernel
theorem dX8_alterIn_30 : decode cX8_alterIn 30 = .ok (.ifCond .eq 7, 3) := by decide +kernel
theorem dX8_alterIn_33 : decode cX8_alterIn 33 = .ok (.iconst 0, 1) := by decide +kernel
theorem dX8_alterIn_34 : decode cX8_alterIn 34 = .ok (.goto 9, 3) := by decide +kernel
theorem dX8_alterIn_37 : decode cX8_alterIn 37 = .ok (.aload_n 0, 1) := by decide +kernel
theorem dX8_alterIn_38 : decode cX8_alterIn 38 = .ok (.bipush (-5), 2) := by decide +kernel
theorem dX8_alterIn_40 : decode cX8_alterIn 40 = .ok (.invokevirtual 33, 3) := by decide +kernel
theorem dX8_alterIn_43 : decode cX8_alterIn 43 = .ok (.ireturn, 1) := by decide +kernel
theorem dX8_newTrack_0 : decode cX8_newTrack 0 = .ok (.iload_n 0, 1) := by decide +kernel
theorem dX8_newTrack_1 : decode cX8_newTrack 1 = .ok (.tableswitch 67 0 3 #[31, 40, 49, 58], 31) := by decide +kernel
theorem dX8_newTrack_32 : decode cX8_newTrack 32 = .ok (.new 129, 3) := by decide +kernel
theorem dX8_newTrack_35 : decode cX8_newTrack 35 = .ok (.dup, 1) := by decide +kernel
theorem dX8_newTrack_36 : decode cX8_newTrack 36 = .ok (.iload_n 1, 1) := by decide +kernel
theorem dX8_newTrack_37 : decode cX8_newTrack 37 = .ok (.invokespecial 131, 3) := by decide +kernel
theorem dX8_newTrack_40 : decode cX8_newTrack 40 = .ok (.areturn, 1) := by decide +kernel
theorem dX8_newTrack_41 : decode cX8_newTrack 41 = .ok (.new 134, 3) := by decide +kernel
theorem dX8_newTrack_44 : decode cX8_newTrack 44 = .ok (.dup, 1) := by decide +kernel
theorem dX8_newTrack_45 : decode cX8_newTrack 45 = .ok (.iload_n 1, 1) := by decide +kernel
theorem dX8_newTrack_46 : decode cX8_newTrack 46 = .ok (.invokespecial 136, 3) := by decide +kernel
theorem dX8_newTrack_49 : decode cX8_newTrack 49 = .ok (.areturn, 1) := by decide +kernel
theorem dX8_newTrack_50 : decode cX8_newTrack 50 = .ok (.new 137, 3) := by decide +kernel
theorem dX8_newTrack_53 : decode cX8_newTrack 53 = .ok (.dup, 1) := by decide +kernel
theorem dX8_newTrack_54 : decode cX8_newTrack 54 = .ok (.iload_n 1, 1) := by decide +kernel
theorem dX8_newTrack_55 : decode cX8_newTrack 55 = .ok (.invokespecial 139, 3) := by decide +kernel
theorem dX8_newTrack_58 : decode cX8_newTrack 58 = .ok (.areturn, 1) := by decide +kernel
theorem dX8_newTrack_59 : decode cX8_newTrack 59 = .ok (.new 140, 3) := by decide +kernel
theorem dX8_newTrack_62 : decode cX8_newTrack 62 = .ok (.dup, 1) := by decide +kernel
theorem dX8_newTrack_63 : decode cX8_newTrack 63 = .ok (.iload_n 1, 1) := by decide +kernel
theorem dX8_newTrack_64 : decode cX8_newTrack 64 = .ok (.invokespecial 142, 3) := by decide +kernel
theorem dX8_newTrack_67 : decode cX8_newTrack 67 = .ok (.areturn, 1) := by decide +kernel
theorem dX8_newTrack_68 : decode cX8_newTrack 68 = .ok (.new 143, 3) := by decide +kernel
theorem dX8_newTrack_71 : decode cX8_newTrack 71 = .ok (.dup, 1) := by decide +kernel
theorem dX8_newTrack_72 : decode cX8_newTrack 72 = .ok (.iload_n 1, 1) := by decide +kernel
theorem dX8_newTrack_73 : decode cX8_newTrack 73 = .ok (.invokespecial 145, 3) := by decide +kernel
theorem dX8_newTrack_76 : decode cX8_newTrack 76 = .ok (.areturn, 1) := by decide +kernel
end
section
theorem dX9_init_0 : decode cX9_init 0 = .ok (.aload_n 0, 1) := by decide +kernel
theorem dX9_init_1 : decode cX9_init 1 = .ok (.invokespecial 1, 3) := by decide +kernel
theorem dX9_init_4 : decode cX9_init 4 = .ok (.aload_n 0, 1) := by decide +kernel
theorem dX9_init_5 : decode cX9_init 5 = .ok (.ldc 7, 2) := by decide +kernel
theorem dX9_init_7 : decode cX9_init 7 = .ok (.newarray .int, 2) := by decide +kernel
theorem dX9_init_9 : decode cX9_init 9 = .ok (.putfield 8, 3) := by decide +kernel
theorem dX9_init_12 : decode cX9_init 12 = .ok (.aload_n 0, 1) := by decide +kernel
theorem dX9_init_13 : decode cX9_init 13 = .ok (.sipush 202, 3) := by decide +kernel
theorem dX9_init_16 : decode cX9_init 16 = .ok (.newarray .int, 2) := by decide +kernel
theorem dX9_init_18 : decode cX9_init 18 = .ok (.putfield 14, 3) := by decide +kernel
theorem dX9_init_21 : decode cX9_init 21 = .ok (.aload_n 0, 1) := by decide +kernel
theorem dX9_init_22 : decode cX9_init 22 = .ok (.sipush 202, 3) := by decide +kernel
theorem dX9_init_25 : decode cX9_init 25 = .ok (.newarray .int, 2) := by decide +kernel
theorem dX9_init_27 : decode cX9_init 27 = .ok (.putfield 17, 3) := by decide +kernel
theorem dX9_init_30 : decode cX9_init 30 = .ok (.aload_n 0, 1) := by decide +kernel
theorem dX9_init_31 : decode cX9_init 31 = .ok (.bipush 40, 2) := by decide +kernel
theorem dX9_init_33 : decode cX9_init 33 = .ok (.newarray .int, 2) := by decide +kernel
theorem dX9_init_35 : decode cX9_init 35 = .ok (.putfield 20, 3) := by decide +kernel
theorem dX9_init_38 : decode cX9_init 38 = .ok (.aload_n 0, 1) := by decide +kernel
theorem dX9_init_39 : decode cX9_init 39 = .ok (.sipush 160, 3) := by decide +kernel
theorem dX9_init_42 : decode cX9_init 42 = .ok (.newarray .int, 2) := by decide +kernel
theorem dX9_init_44 : decode cX9_init 44 = .ok (.putfield 23, 3) := by decide +kernel
theorem dX9_init_47 : decode cX9_init 47 = .ok (.aload_n 0, 1) := by decide +kernel
theorem dX9_init_48 : decode cX9_init 48 = .ok (.iconst 4, 1) := by decide +kernel
theorem dX9_init_49 : decode cX9_init 49 = .ok (.newarray .int, 2) := by decide +kernel
theorem dX9_init_51 : decode cX9_init 51 = .ok (.putfield 26, 3) := by decide +kernel
theorem dX9_init_54 : decode cX9_init 54 = .ok (.aload_n 0, 1) := by decide +kernel
theorem dX9_init_55 : decode cX9_init 55 = .ok (.iconst 4, 1) := by decide +kernel
theorem dX9_init_56 : decode cX9_init 56 = .ok (.newarray .int, 2) := by decide +kernel
theorem dX9_init_58 : decode cX9_init 58 = .ok (.putfield 29, 3) := by decide +kernel
theorem dX9_init_61 : decode cX9_init 61 = .ok (.aload_n 0, 1) := by decide +kernel
theorem dX9_init_62 : decode cX9_init 62 = .ok (.bipush 8, 2) := by decide +kernel
theorem dX9_init_64 : decode cX9_init 64 = .ok (.newarray .int, 2) := by decide +kernel
theorem dX9_init_66 : decode cX9_init 66 = .ok (.putfield 32, 3) := by decide +kernel
theorem dX9_init_69 : decode cX9_init 69 = .ok (.aload_n 0, 1) := by decide +kernel
theorem dX9_init_70 : decode cX9_init 70 = .ok (.bipush 8, 2) := by decide +kernel
theorem dX9_init_72 : decode cX9_init 72 = .ok (.newarray .int, 2) := by decide +kernel
theorem dX9_init_74 : decode cX9_init 74 = .ok (.putfield 35, 3) := by decide +kernel
theorem dX9_init_77 : decode cX9_init 77 = .ok (.aload_n 0, 1) := by decide +kernel
theorem dX9_init_78 : decode cX9_init 78 = .ok (.bipush 8, 2) := by decide +kernel
theorem dX9_init_80 : decode cX9_init 80 = .ok (.newarray .int, 2) := by decide +kernel
theorem dX9_init_82 : decode cX9_init 82 = .ok (.putfield 38, 3) := by decide +kernel
theorem dX9_init_85 : decode cX9_init 85 = .ok (.aload_n 0, 1) := by decide +kernel
theorem dX9_init_86 : decode cX9_init 86 = .ok (.bipush 8, 2) := by decide +kernel
theorem dX9_init_88 : decode cX9_init 88 = .ok (.newarray .int, 2) := by decide +kernel
theorem dX9_init_90 : decode cX9_init 90 = .ok (.putfield 41, 3) := by decide +kernel
theorem dX9_init_93 : decode cX9_init 93 = .ok (.aload_n 0, 1) := by decide +kernel
theorem dX9_init_94 : decode cX9_init 94 = .ok (.bipush 8, 2) := by decide +kernel
theorem dX9_init_96 : decode cX9_init 96 = .ok (.newarray .long, 2) := by decide +kernel
theorem dX9_init_98 : decode cX9_init 98 = .ok (.putfield 44, 3) := by decide +kernel
theorem dX9_init_101 : decode cX9_init 101 = .ok (.aload_n 0, 1) := by decide +kernel
theorem dX9_init_102 : decode cX9_init 102 = .ok (.bipush 8, 2) := by decide +kernel
theorem dX9_init_104 : decode cX9_init 104 = .ok (.newarray .int, 2) := by decide +kernel
theorem dX9_init_106 : decode cX9_init 106 = .ok (.putfield 48, 3) := by decide +kernel
theorem dX9_init_109 : decode cX9_init 109 = .ok (.aload_n 0, 1) := by decide +kernel
theorem dX9_init_110 : decode cX9_init 110 = .ok (.bipush 8, 2) := by decide +kernel
theorem dX9_init_112 : decode cX9_init 112 = .ok (.newarray .int, 2) := by decide +kernel
theorem dX9_init_114 : decode cX9_init 114 = .ok (.putfield 51, 3) := by decide +kernel
theorem dX9_init_117 : decode cX9_init 117 = .ok (.iconst 0, 1) := by decide +kernel
theorem dX9_init_118 : decode cX9_init 118 = .ok (.istore_n 1, 1) := by decide +kernel
theorem dX9_init_119 : decode cX9_init 119 = .ok (.iload_n 1, 1) := by decide +kernel
theorem dX9_init_120 : decode cX9_init 120 = .ok (.bipush 40, 2) := by decide +kernel
theorem dX9_init_122 : decode cX9_init 122 = .ok (.if_icmp .ge 16, 3) := by decide +kernel
theorem dX9_init_125 : decode cX9_init 125 = .ok (.aload_n 0, 1) := by decide +kernel
theorem dX9_init_126 : decode cX9_init 126 = .ok (.getfield 20, 3) := by decide +kernel
theorem dX9_init_129 : decode cX9_init 129 = .ok (.iload_n 1, 1) := by decide +kernel
theorem dX9_init_130 : decode cX9_init 130 = .ok (.iconst (-1), 1) := by decide +kernel
theorem dX9_init_131 : decode cX9_init 131 = .ok (.iastore, 1) := by decide +kernel
theorem dX9_init_132 : decode cX9_init 132 = .ok (.iinc 1 1, 3) := by decide +kernel
theorem dX9_init_135 : decode cX9_init 135 = .ok (.goto (-16), 3) := by decide +kernel
theorem dX9_init_138 : decode cX9_init 138 = .ok (.iconst 0, 1) := by decide +kernel
theorem dX9_init_139 : decode cX9_init 139 = .ok (.istore_n 1, 1) := by decide +kernel
theorem dX9_init_140 : decode cX9_init 140 = .ok (.iload_n 1, 1) := by decide +kernel
theorem dX9_init_141 : decode cX9_init 141 = .ok (.sipush 160, 3) := by decide +kernel
theorem dX9_init_144 : decode cX9_init 144 = .ok (.if_icmp .ge 16, 3) := by decide +kernel
theorem dX9_init_147 : decode cX9_init 147 = .ok (.aload_n 0, 1) := by decide +kernel
theorem dX9_init_148 : decode cX9_init 148 = .ok (.getfield 23, 3) := by decide +kernel
theorem dX9_init_151 : decode cX9_init 151 = .ok (.iload_n 1, 1) := by decide +kernel
theorem dX9_init_152 : decode cX9_init 152 = .ok (.iconst (-1), 1) := by decide +kernel
theorem dX9_init_153 : decode cX9_init 153 = .ok (.iastore, 1) := by decide +kernel
theorem dX9_init_154 : decode cX9_init 154 = .ok (.iinc 1 1, 3) := by decide +kernel
theorem dX9_init_157 : decode cX9_init 157 = .ok (.goto (-17), 3) := by decide +kernel
theorem dX9_init_160 : decode cX9_init 160 = .ok (.iconst 0, 1) := by decide +kernel
theorem dX9_init_161 : decode cX9_init 161 = .ok (.istore_n 1, 1) := by decide +kernel
theorem dX9_init_162 : decode cX9_init 162 = .ok (.iload_n 1, 1) := by decide +kernel
theorem dX9_init_163 : decode cX9_init 163 = .ok (.iconst 4, 1) := by decide +kernel
theorem dX9_init_164 : decode cX9_init 164 = .ok (.if_icmp .ge 16, 3) := by decide +kernel
theorem dX9_init_167 : decode cX9_init 167 = .ok (.aload_n 0, 1) := by decide +kernel
theorem dX9_init_168 : decode cX9_init 168 = .ok (.getfield 26, 3) := by decide +kernel
theorem dX9_init_171 : decode cX9_init 171 = .ok (.iload_n 1, 1) := by decide +kernel
theorem dX9_init_172 : decode cX9_init 172 = .ok (.iconst (-1), 1) := by decide +kernel
theorem dX9_init_173 : decode cX9_init 173 = .ok (.iastore, 1) := by decide +kernel
theorem dX9_init_174 : decode cX9_init 174 = .ok (.iinc 1 1, 3) := by decide +kernel
theorem dX9_init_177 : decode cX9_init 177 = .ok (.goto (-15), 3) := by decide +kernel
theorem dX9_init_180 : decode cX9_init 180 = .ok (.return_, 1) := by decide +kernel
theorem dX9_told_0 : decode cX9_told 0 = .ok (.aload_n 0, 1) := by decide +kernel
theorem dX9_told_1 : decode cX9_told 1 = .ok (.iload_n 1, 1) := by decide +kernel
theorem dX9_told_2 : decode cX9_told 2 = .ok (.ifCond .ge 7, 3) := by decide +kernel
theorem dX9_told_5 : decode cX9_told 5 = .ok (.iload_n 1, 1) := by decide +kernel
theorem dX9_told_6 : decode cX9_told 6 = .ok (.goto 4, 3) := by decide +kernel
theorem dX9_told_9 : decode cX9_told 9 = .ok (.iconst 0, 1) := by decide +kernel
theorem dX9_told_10 : decode cX9_told 10 = .ok (.putfield 54, 3) := by decide +kernel
theorem dX9_told_13 : decode cX9_told 13 = .ok (.iload_n 1, 1) := by decide +kernel
theorem dX9_told_14 : decode cX9_told 14 = .ok (.ireturn, 1) := by decide +kernel
theorem dX9_in_0 : decode cX9_in 0 = .ok (.iload_n 0, 1) := by decide +kernel
theorem dX9_in_1 : decode cX9_in 1 = .ok (.iload_n 1, 1) := by decide +kernel
theorem dX9_in_2 : decode cX9_in 2 = .ok (.if_icmp .lt 12, 3) := by decide +kernel
theorem dX9_in_5 : decode cX9_in 5 = .ok (.iload_n 0, 1) := by decide +kernel
theorem dX9_in_6 : decode cX9_in 6 = .ok (.iload_n 2, 1) := by decide +kernel
theorem dX9_in_7 : decode cX9_in 7 = .ok (.if_icmp .gt 7, 3) := by decide +kernel
theorem dX9_in_10 : decode cX9_in 10 = .ok (.iconst 1, 1) := by decide +kernel
theorem dX9_in_11 : decode cX9_in 11 = .ok (.goto 4, 3) := by decide +kernel
theorem dX9_in_14 : decode cX9_in 14 = .ok (.iconst 0, 1) := by decide +kernel
theorem dX9_in_15 : decode cX9_in 15 = .ok (.ireturn, 1) := by decide +kernel
theorem dX9_isDrum_0 : decode cX9_isDrum 0 = .ok (.iload_n 0, 1) := by decide +kernel
theorem dX9_isDrum_1 : decode cX9_isDrum 1 = .ok (.iconst 0, 1) := by decide +kernel
theorem dX9_isDrum_2 : decode cX9_isDrum 2 = .ok (.bipush 7, 2) := by decide +kernel
theorem dX9_isDrum_4 : decode cX9_isDrum 4 = .ok (.invokestatic 58, 3) := by decide +kernel
theorem dX9_isDrum_7 : decode cX9_isDrum 7 = .ok (.ireturn, 1) := by decide +kernel
theorem dX9_isKind_0 : decode cX9_isKind 0 = .ok (.iload_n 0, 1) := by decide +kernel
theorem dX9_isKind_1 : decode cX9_isKind 1 = .ok (.iconst 0, 1) := by decide +kernel
theorem dX9_isKind_2 : decode cX9_isKind 2 = .ok (.iconst 4, 1) := by decide +kernel
theorem dX9_isKind_3 : decode cX9_isKind 3 = .ok (.invokestatic 58, 3) := by decide +kernel
theorem dX9_isKind_6 : decode cX9_isKind 6 = .ok (.ireturn, 1) := by decide +kernel
theorem dX9_isComb_0 : decode cX9_isComb 0 = .ok (.iload_n 1, 1) := by decide +kernel
theorem dX9_isComb_1 : decode cX9_isComb 1 = .ok (.iconst 0, 1) := by decide +kernel
theorem dX9_isComb_2 : decode cX9_isComb 2 = .ok (.iconst 3, 1) := by decide +kernel
theorem dX9_isComb_3 : decode cX9_isComb 3 = .ok (.invokestatic 58, 3) := by decide +kernel
theorem dX9_isComb_6 : decode cX9_isComb 6 = .ok (.ifCond .eq 30, 3) := by decide +kernel
theorem dX9_isComb_9 : decode cX9_isComb 9 = .ok (.aload_n 0, 1) := by decide +kernel
theorem dX9_isComb_10 : decode cX9_isComb 10 = .ok (.getfield 26, 3) := by decide +kernel
theorem dX9_isComb_13 : decode cX9_isComb 13 = .ok (.iload_n 1, 1) := by decide +kernel
theorem dX9_isComb_14 : decode cX9_isComb 14 = .ok (.ifCond .lt 8, 3) := by decide +kernel
theorem dX9_isComb_17 : decode cX9_isComb 17 = .ok (.iload_n 1, 1) := by decide +kernel
theorem dX9_isComb_18 : decode cX9_isComb 18 = .ok (.iconst 3, 1) := by decide +kernel
theorem dX9_isComb_19 : decode cX9_isComb 19 = .ok (.if_icmp .le 7, 3) := by decide +kernel
theorem dX9_isComb_22 : decode cX9_isComb 22 = .ok (.iconst 0, 1) := by decide +kernel
theorem dX9_isComb_23 : decode cX9_isComb 23 = .ok (.goto 4, 3) := by decide +kernel
theorem dX9_isComb_26 : decode cX9_isComb 26 = .ok (.iload_n 1, 1) := by decide +kernel
theorem dX9_isComb_27 : decode cX9_isComb 27 = .ok (.iaload, 1) := by decide +kernel
theorem dX9_isComb_28 : decode cX9_isComb 28 = .ok (.iconst (-1), 1) := by decide +kernel
theorem dX9_isComb_29 : decode cX9_isComb 29 = .ok (.if_icmp .eq 7, 3) := by decide +kernel
theorem dX9_isComb_32 : decode cX9_isComb 32 = .ok (.iconst 1, 1) := by decide +kernel
theorem dX9_isComb_33 : decode cX9_isComb 33 = .ok (.goto 4, 3) := by decide +kernel
theorem dX9_isComb_36 : decode cX9_isComb 36 = .ok (.iconst 0, 1) := by decide +kernel
theorem dX9_isComb_37 : decode cX9_isComb 37 = .ok (.ireturn, 1) := by decide +kernel
theorem dX9_isTooth_0 : decode cX9_isTooth 0 = .ok (.aload_n 0, 1) := by decide +kernel
theorem dX9_isTooth_1 : decode cX9_isTooth 1 = .ok (.iload_n 1, 1) := by decide +kernel
theorem dX9_isTooth_2 : decode cX9_isTooth 2 = .ok (.invokevirtual 62, 3) := by decide +kernel
theorem dX9_isTooth_5 : decode cX9_isTooth 5 = .ok (.ifCond .eq 21, 3) := by decide +kernel
theorem dX9_isTooth_8 : decode cX9_isTooth 8 = .ok (.iload_n 2, 1) := by decide +kernel
theorem dX9_isTooth_9 : decode cX9_isTooth 9 = .ok (.ifCond .lt 17, 3) := by decide +kernel
theorem dX9_isTooth_12 : decode cX9_isTooth 12 = .ok (.iload_n 2, 1) := by decide +kernel
theorem dX9_isTooth_13 : decode cX9_isTooth 13 = .ok (.aload_n 0, 1) := by decide +kernel
theorem dX9_isTooth_14 : decode cX9_isTooth 14 = .ok (.getfield 29, 3) := by decide +kernel
theorem dX9_isTooth_17 : decode cX9_isTooth 17 = .ok (.iload_n 1, 1) := by decide +kernel
theorem dX9_isTooth_18 : decode cX9_isTooth 18 = .ok (.iaload, 1) := by decide +kernel
theorem dX9_isTooth_19 : decode cX9_isTooth 19 = .ok (.if_icmp .ge 7, 3) := by decide +kernel
theorem dX9_isTooth_22 : decode cX9_isTooth 22 = .ok (.iconst 1, 1) := by decide +kernel
theorem dX9_isTooth_23 : decode cX9_isTooth 23 = .ok (.goto 4, 3) := by decide +kernel
theorem dX9_isTooth_26 : decode cX9_isTooth 26 = .ok (.iconst 0, 1) := by decide +kernel
theorem dX9_isTooth_27 : decode cX9_isTooth 27 = .ok (.ireturn, 1) := by decide +kernel
theorem dX9_newTrack_0 : decode cX9_newTrack 0 = .ok (.iconst 0, 1) := by decide +kernel
theorem dX9_newTrack_1 : decode cX9_newTrack 1 = .ok (.istore_n 2, 1) := by decide +kernel
theorem dX9_newTrack_2 : decode cX9_newTrack 2 = .ok (.aload_n 0, 1) := by decide +kernel
theorem dX9_newTrack_3 : decode cX9_newTrack 3 = .ok (.getfield 17, 3) := by decide +kernel
theorem dX9_newTrack_6 : decode cX9_newTrack 6 = .ok (.iload_n 2, 1) := by decide +kernel
theorem dX9_newTrack_7 : decode cX9_newTrack 7 = .ok (.iaload, 1) := by decide +kernel
theorem dX9_newTrack_8 : decode cX9_newTrack 8 = .ok (.ifCond .le 9, 3) := by decide +kernel
theorem dX9_newTrack_11 : decode cX9_newTrack 11 = .ok (.iinc 2 1, 3) := by decide +kernel
theorem dX9_newTrack_14 : decode cX9_newTrack 14 = .ok (.goto (-12), 3) := by decide +kernel
theorem dX9_newTrack_17 : decode cX9_newTrack 17 = .ok (.aload_n 0, 1) := by decide +kernel
theorem dX9_newTrack_18 : decode cX9_newTrack 18 = .ok (.getfield 14, 3) := by decide +kernel
theorem dX9_newTrack_21 : decode cX9_newTrack 21 = .ok (.iload_n 2, 1) := by decide +kernel
theorem dX9_newTrack_22 : decode cX9_newTrack 22 = .ok (.iload_n 1, 1) := by decide +kernel
theorem dX9_newTrack_23 : decode cX9_newTrack 23 = .ok (.iastore, 1) := by decide +kernel
theorem dX9_newTrack_24 : decode cX9_newTrack 24 = .ok (.iconst 0, 1) := by decide +kernel
theorem dX9_newTrack_25 : decode cX9_newTrack 25 = .ok (.istore_n 3, 1) := by decide +kernel
theorem dX9_newTrack_26 : decode cX9_newTrack 26 = .ok (.iload_n 3, 1) := by decide +kernel
theorem dX9_newTrack_27 : decode cX9_newTrack 27 = .ok (.iload_n 1, 1) := by decide +kernel
theorem dX9_newTrack_28 : decode cX9_newTrack 28 = .ok (.if_icmp .ge 22, 3) := by decide +kernel
theorem dX9_newTrack_31 : decode cX9_newTrack 31 = .ok (.aload_n 0, 1) := by decide +kernel
theorem dX9_newTrack_32 : decode cX9_newTrack 32 = .ok (.getfield 8, 3) := by decide +kernel
theorem dX9_newTrack_35 : decode cX9_newTrack 35 = .ok (.sipush 300, 3) := by decide +kernel
theorem dX9_newTrack_38 : decode cX9_newTrack 38 = .ok (.iload_n 2, 1) := by decide +kernel
theorem dX9_newTrack_39 : decode cX9_newTrack 39 = .ok (.imul, 1) := by decide +kernel
theorem dX9_newTrack_40 : decode cX9_newTrack 40 = .ok (.iload_n 3, 1) := by decide +kernel
theorem dX9_newTrack_41 : decode cX9_newTrack 41 = .ok (.iadd, 1) := by decide +kernel
theorem dX9_newTrack_42 : decode cX9_newTrack 42 = .ok (.iconst 0, 1) := by decide +kernel
theorem dX9_newTrack_43 : decode cX9_newTrack 43 = .ok (.iastore, 1) := by decide +kernel
theorem dX9_newTrack_44 : decode cX9_newTrack 44 = .ok (.iinc 3 1, 3) := by decide +kernel
theorem dX9_newTrack_47 : decode cX9_newTrack 47 = .ok (.goto (-21), 3) := by decide +kernel
theorem dX9_newTrack_50 : decode cX9_newTrack 50 = .ok (.iload_n 2, 1) := by decide +kernel
theorem dX9_newTrack_51 : decode cX9_newTrack 51 = .ok (.ireturn, 1) := by decide +kernel
theorem dX9_drumGets_0 : decode cX9_drumGets 0 = .ok (.iconst 5, 1) := by decide +kernel
theorem dX9_drumGets_1 : decode cX9_drumGets 1 = .ok (.iload_n 1, 1) := by decide +kernel
theorem dX9_drumGets_2 : decode cX9_drumGets 2 = .ok (.imul, 1) := by decide +kernel
theorem dX9_drumGets_3 : decode cX9_drumGets 3 = .ok (.iload_n 2, 1) := by decide +kernel
theorem dX9_drumGets_4 : decode cX9_drumGets 4 = .ok (.iadd, 1) := by decide +kernel
theorem dX9_drumGets_5 : decode cX9_drumGets 5 = .ok (.istore 4, 2) := by decide +kernel
theorem dX9_drumGets_7 : decode cX9_drumGets 7 = .ok (.iload_n 3, 1) := by decide +kernel
theorem dX9_drumGets_8 : decode cX9_drumGets 8 = .ok (.ifCond .lt 13, 3) := by decide +kernel
theorem dX9_drumGets_11 : decode cX9_drumGets 11 = .ok (.aload_n 0, 1) := by decide +kernel
theorem dX9_drumGets_12 : decode cX9_drumGets 12 = .ok (.getfield 17, 3) := by decide +kernel
theorem dX9_drumGets_15 : decode cX9_drumGets 15 = .ok (.iload_n 3, 1) := by decide +kernel
theorem dX9_drumGets_16 : decode cX9_drumGets 16 = .ok (.dup2, 1) := by decide +kernel
theorem dX9_drumGets_17 : decode cX9_drumGets 17 = .ok (.iaload, 1) := by decide +kernel
theorem dX9_drumGets_18 : decode cX9_drumGets 18 = .ok (.iconst 1, 1) := by decide +kernel
theorem dX9_drumGets_19 : decode cX9_drumGets 19 = .ok (.iadd, 1) := by decide +kernel
theorem dX9_drumGets_20 : decode cX9_drumGets 20 = .ok (.iastore, 1) := by decide +kernel
theorem dX9_drumGets_21 : decode cX9_drumGets 21 = .ok (.aload_n 0, 1) := by decide +kernel
theorem dX9_drumGets_22 : decode cX9_drumGets 22 = .ok (.getfield 20, 3) := by decide +kernel
theorem dX9_drumGets_25 : decode cX9_drumGets 25 = .ok (.iload 4, 2) := by decide +kernel
theorem dX9_drumGets_27 : decode cX9_drumGets 27 = .ok (.iaload, 1) := by decide +kernel
theorem dX9_drumGets_28 : decode cX9_drumGets 28 = .ok (.ifCond .lt 19, 3) := by decide +kernel
theorem dX9_drumGets_31 : decode cX9_drumGets 31 = .ok (.aload_n 0, 1) := by decide +kernel
theorem dX9_drumGets_32 : decode cX9_drumGets 32 = .ok (.getfield 17, 3) := by decide +kernel
theorem dX9_drumGets_35 : decode cX9_drumGets 35 = .ok (.aload_n 0, 1) := by decide +kernel
theorem dX9_drumGets_36 : decode cX9_drumGets 36 = .ok (.getfield 20, 3) := by decide +kernel
theorem dX9_drumGets_39 : decode cX9_drumGets 39 = .ok (.iload 4, 2) := by decide +kernel
theorem dX9_drumGets_41 : decode cX9_drumGets 41 = .ok (.iaload, 1) := by decide +kernel
theorem dX9_drumGets_42 : decode cX9_drumGets 42 = .ok (.dup2, 1) := by decide +kernel
theorem dX9_drumGets_43 : decode cX9_drumGets 43 = .ok (.iaload, 1) := by decide +kernel
theorem dX9_drumGets_44 : decode cX9_drumGets 44 = .ok (.iconst 1, 1) := by decide +kernel
theorem dX9_drumGets_45 : decode cX9_drumGets 45 = .ok (.isub, 1) := by decide +kernel
theorem dX9_drumGets_46 : decode cX9_drumGets 46 = .ok (.iastore, 1) := by decide +kernel
theorem dX9_drumGets_47 : decode cX9_drumGets 47 = .ok (.aload_n 0, 1) := by decide +kernel
theorem dX9_drumGets_48 : decode cX9_drumGets 48 = .ok (.getfield 20, 3) := by decide +kernel
theorem dX9_drumGets_51 : decode cX9_drumGets 51 = .ok (.iload 4, 2) := by decide +kernel
theorem dX9_drumGets_53 : decode cX9_drumGets 53 = .ok (.iload_n 3, 1) := by decide +kernel
theorem dX9_drumGets_54 : decode cX9_drumGets 54 = .ok (.iastore, 1) := by decide +kernel
theorem dX9_drumGets_55 : decode cX9_drumGets 55 = .ok (.return_, 1) := by decide +kernel
theorem dX9_toothGets_0 : decode cX9_toothGets 0 = .ok (.bipush 40, 2) := by decide +kernel
theorem dX9_toothGets_2 : decode cX9_toothGets 2 = .ok (.iload_n 1, 1) := by decide +kernel
theorem dX9_toothGets_3 : decode cX9_toothGets 3 = .ok (.imul, 1) := by decide +kernel
theorem dX9_toothGets_4 : decode cX9_toothGets 4 = .ok (.iload_n 2, 1) := by decide +kernel
theorem dX9_toothGets_5 : decode cX9_toothGets 5 = .ok (.iadd, 1) := by decide +kernel
theorem dX9_toothGets_6 : decode cX9_toothGets 6 = .ok (.istore 4, 2) := by decide +kernel
theorem dX9_toothGets_8 : decode cX9_toothGets 8 = .ok (.iload_n 3, 1) := by decide +kernel
theorem dX9_toothGets_9 : decode cX9_toothGets 9 = .ok (.ifCond .lt 13, 3) := by decide +kernel
theorem dX9_toothGets_12 : decode cX9_toothGets 12 = .ok (.aload_n 0, 1) := by decide +kernel
theorem dX9_toothGets_13 : decode cX9_toothGets 13 = .ok (.getfield 17, 3) := by decide +kernel
theorem dX9_toothGets_16 : decode cX9_toothGets 16 = .ok (.iload_n 3, 1) := by decide +kernel
theorem dX9_toothGets_17 : decode cX9_toothGets 17 = .ok (.dup2, 1) := by decide +kernel
theorem dX9_toothGets_18 : decode cX9_toothGets 18 = .ok (.iaload, 1) := by decide +kernel
theorem dX9_toothGets_19 : decode cX9_toothGets 19 = .ok (.iconst 1, 1) := by decide +kernel
theorem dX9_toothGets_20 : decode cX9_toothGets 20 = .ok (.iadd, 1) := by decide +kernel
theorem dX9_toothGets_21 : decode cX9_toothGets 21 = .ok (.iastore, 1) := by decide +kernel
theorem dX9_toothGets_22 : decode cX9_toothGets 22 = .ok (.aload_n 0, 1) := by decide +kernel
theorem dX9_toothGets_23 : decode cX9_toothGets 23 = .ok (.getfield 23, 3) := by decide +kernel
theorem dX9_toothGets_26 : decode cX9_toothGets 26 = .ok (.iload 4, 2) := by decide +kernel
theorem dX9_toothGets_28 : decode cX9_toothGets 28 = .ok (.iaload, 1) := by decide +kernel
theorem dX9_toothGets_29 : decode cX9_toothGets 29 = .ok (.ifCond .lt 19, 3) := by decide +kernel
theorem dX9_toothGets_32 : decode cX9_toothGets 32 = .ok (.aload_n 0, 1) := by decide +kernel
theorem dX9_toothGets_33 : decode cX9_toothGets 33 = .ok (.getfield 17, 3) := by decide +kernel
theorem dX9_toothGets_36 : decode cX9_toothGets 36 = .ok (.aload_n 0, 1) := by decide +kernel
theorem dX9_toothGets_37 : decode cX9_toothGets 37 = .ok (.getfield 23, 3) := by decide +kernel
theorem dX9_toothGets_40 : decode cX9_toothGets 40 = .ok (.iload 4, 2) := by decide +kernel
theorem dX9_toothGets_42 : decode cX9_toothGets 42 = .ok (.iaload, 1) := by decide +kernel
theorem dX9_toothGets_43 : decode cX9_toothGets 43 = .ok (.dup2, 1) := by decide +kernel
theorem dX9_toothGets_44 : decode cX9_toothGets 44 = .ok (.iaload, 1) := by decide +kernel
theorem dX9_toothGets_45 : decode cX9_toothGets 45 = .ok (.iconst 1, 1) := by decide +kernel
theorem dX9_toothGets_46 : decode cX9_toothGets 46 = .ok (.isub, 1) := by decide +kernel
theorem dX9_toothGets_47 : decode cX9_toothGets 47 = .ok (.iastore, 1) := by decide +kernel
theorem dX9_toothGets_48 : decode cX9_toothGets 48 = .ok (.aload_n 0, 1) := by decide +kernel
theorem dX9_toothGets_49 : decode cX9_toothGets 49 = .ok (.getfield 23, 3) := by decide +kernel
theorem dX9_toothGets_52 : decode cX9_toothGets 52 = .ok (.iload 4, 2) := by decide +kernel
theorem dX9_toothGets_54 : decode cX9_toothGets 54 = .ok (.iload_n 3, 1) := by decide +kernel
theorem dX9_toothGets_55 : decode cX9_toothGets 55 = .ok (.iastore, 1) := by decide +kernel
theorem dX9_toothGets_56 : decode cX9_toothGets 56 = .ok (.return_, 1) := by decide +kernel
theorem dX9_lacks_0 : decode cX9_lacks 0 = .ok (.iload_n 1, 1) := by decide +kernel
theorem dX9_lacks_1 : decode cX9_lacks 1 = .ok (.ifCond .ge 8, 3) := by decide +kernel
theorem dX9_lacks_4 : decode cX9_lacks 4 = .ok (.bipush (-2), 2) := by decide +kernel
theorem dX9_lacks_6 : decode cX9_lacks 6 = .ok (.goto 23, 3) := by decide +kernel
theorem dX9_lacks_9 : decode cX9_lacks 9 = .ok (.iload_n 2, 1) := by decide +kernel
theorem dX9_lacks_10 : decode cX9_lacks 10 = .ok (.ifCond .lt 13, 3) := by decide +kernel
theorem dX9_lacks_13 : decode cX9_lacks 13 = .ok (.iload_n 2, 1) := by decide +kernel
theorem dX9_lacks_14 : decode cX9_lacks 14 = .ok (.aload_n 0, 1) := by decide +kernel
theorem dX9_lacks_15 : decode cX9_lacks 15 = .ok (.getfield 14, 3) := by decide +kernel
theorem dX9_lacks_18 : decode cX9_lacks 18 = .ok (.iload_n 1, 1) := by decide +kernel
theorem dX9_lacks_19 : decode cX9_lacks 19 = .ok (.iaload, 1) := by decide +kernel
theorem dX9_lacks_20 : decode cX9_lacks 20 = .ok (.if_icmp .lt 8, 3) := by decide +kernel
theorem dX9_lacks_23 : decode cX9_lacks 23 = .ok (.bipush (-3), 2) := by decide +kernel
theorem dX9_lacks_25 : decode cX9_lacks 25 = .ok (.goto 4, 3) := by decide +kernel
theorem dX9_lacks_28 : decode cX9_lacks 28 = .ok (.iconst 0, 1) := by decide +kernel
theorem dX9_lacks_29 : decode cX9_lacks 29 = .ok (.ireturn, 1) := by decide +kernel
theorem dX9_packed_0 : decode cX9_packed 0 = .ok (.iload_n 0, 1) := by decide +kernel
theorem dX9_packed_1 : decode cX9_packed 1 = .ok (.iconst 1, 1) := by decide +kernel
theorem dX9_packed_2 : decode cX9_packed 2 = .ok (.if_icmp .ne 8, 3) := by decide +kernel
theorem dX9_packed_5 : decode cX9_packed 5 = .ok (.iload_n 1, 1) := by decide +kernel
theorem dX9_packed_6 : decode cX9_packed 6 = .ok (.ldc 66, 2) := by decide +kernel
theorem dX9_packed_8 : decode cX9_packed 8 = .ok (.iand, 1) := by decide +kernel
theorem dX9_packed_9 : decode cX9_packed 9 = .ok (.ireturn, 1) := by decide +kernel
theorem dX9_packed_10 : decode cX9_packed 10 = .ok (.iload_n 0, 1) := by decide +kernel
theorem dX9_packed_11 : decode cX9_packed 11 = .ok (.iconst 2, 1) := by decide +kernel
theorem dX9_packed_12 : decode cX9_packed 12 = .ok (.if_icmp .ne 11, 3) := by decide +kernel
theorem dX9_packed_15 : decode cX9_packed 15 = .ok (.iload_n 1, 1) := by decide +kernel
theorem dX9_packed_16 : decode cX9_packed 16 = .ok (.bipush 16, 2) := by decide +kernel
theorem dX9_packed_18 : decode cX9_packed 18 = .ok (.ishl, 1) := by decide +kernel
theorem dX9_packed_19 : decode cX9_packed 19 = .ok (.bipush 16, 2) := by decide +kernel
theorem dX9_packed_21 : decode cX9_packed 21 = .ok (.ishr, 1) := by decide +kernel
theorem dX9_packed_22 : decode cX9_packed 22 = .ok (.ireturn, 1) := by decide +kernel
theorem dX9_packed_23 : decode cX9_packed 23 = .ok (.iload_n 1, 1) := by decide +kernel
theorem dX9_packed_24 : decode cX9_packed 24 = .ok (.bipush 24, 2) := by decide +kernel
theorem dX9_packed_26 : decode cX9_packed 26 = .ok (.ishl, 1) := by decide +kernel
theorem dX9_packed_27 : decode cX9_packed 27 = .ok (.bipush 24, 2) := by decide +kernel
theorem dX9_packed_29 : decode cX9_packed 29 = .ok (.ishr, 1) := by decide +kernel
theorem dX9_packed_30 : decode cX9_packed 30 = .ok (.ireturn, 1) := by decide +kernel
theorem dX9_writes_0 : decode cX9_writes 0 = .ok (.aload_n 0, 1) := by decide +kernel
theorem dX9_writes_1 : decode cX9_writes 1 = .ok (.iload_n 2, 1) := by decide +kernel
theorem dX9_writes_2 : decode cX9_writes 2 = .ok (.iload_n 3, 1) := by decide +kernel
theorem dX9_writes_3 : decode cX9_writes 3 = .ok (.invokevirtual 67, 3) := by decide +kernel
theorem dX9_writes_6 : decode cX9_writes 6 = .ok (.istore 5, 2) := by decide +kernel
theorem dX9_writes_8 : decode cX9_writes 8 = .ok (.iload 5, 2) := by decide +kernel
theorem dX9_writes_10 : decode cX9_writes 10 = .ok (.ifCond .ge 6, 3) := by decide +kernel
theorem dX9_writes_13 : decode cX9_writes 13 = .ok (.iload 5, 2) := by decide +kernel
theorem dX9_writes_15 : decode cX9_writes 15 = .ok (.ireturn, 1) := by decide +kernel
theorem dX9_writes_16 : decode cX9_writes 16 = .ok (.sipush 300, 3) := by decide +kernel
theorem dX9_writes_19 : decode cX9_writes 19 = .ok (.iload_n 2, 1) := by decide +kernel
theorem dX9_writes_20 : decode cX9_writes 20 = .ok (.imul, 1) := by decide +kernel
theorem dX9_writes_21 : decode cX9_writes 21 = .ok (.iload_n 3, 1) := by decide +kernel
theorem dX9_writes_22 : decode cX9_writes 22 = .ok (.iadd, 1) := by decide +kernel
theorem dX9_writes_23 : decode cX9_writes 23 = .ok (.istore 6, 2) := by decide +kernel
theorem dX9_writes_25 : decode cX9_writes 25 = .ok (.iload_n 1, 1) := by decide +kernel
theorem dX9_writes_26 : decode cX9_writes 26 = .ok (.ifCond .ne 23, 3) := by decide +kernel
theorem dX9_writes_29 : decode cX9_writes 29 = .ok (.aload_n 0, 1) := by decide +kernel
theorem dX9_writes_30 : decode cX9_writes 30 = .ok (.getfield 8, 3) := by decide +kernel
theorem dX9_writes_33 : decode cX9_writes 33 = .ok (.iload 6, 2) := by decide +kernel
theorem dX9_writes_35 : decode cX9_writes 35 = .ok (.iload 4, 2) := by decide +kernel
theorem dX9_writes_37 : decode cX9_writes 37 = .ok (.ifCond .ne 7, 3) := by decide +kernel
theorem dX9_writes_40 : decode cX9_writes 40 = .ok (.iconst 0, 1) := by decide +kernel
theorem dX9_writes_41 : decode cX9_writes 41 = .ok (.goto 4, 3) := by decide +kernel
theorem dX9_writes_44 : decode cX9_writes 44 = .ok (.iconst 1, 1) := by decide +kernel
theorem dX9_writes_45 : decode cX9_writes 45 = .ok (.iastore, 1) := by decide +kernel
theorem dX9_writes_46 : decode cX9_writes 46 = .ok (.goto 55, 3) := by decide +kernel
theorem dX9_writes_49 : decode cX9_writes 49 = .ok (.iload_n 1, 1) := by decide +kernel
theorem dX9_writes_50 : decode cX9_writes 50 = .ok (.iconst 3, 1) := by decide +kernel
theorem dX9_writes_51 : decode cX9_writes 51 = .ok (.if_icmp .ne 37, 3) := by decide +kernel
theorem dX9_writes_54 : decode cX9_writes 54 = .ok (.iload 4, 2) := by decide +kernel
theorem dX9_writes_56 : decode cX9_writes 56 = .ok (.ldc 71, 2) := by decide +kernel
theorem dX9_writes_58 : decode cX9_writes 58 = .ok (.ldc 72, 2) := by decide +kernel
theorem dX9_writes_60 : decode cX9_writes 60 = .ok (.invokestatic 58, 3) := by decide +kernel
theorem dX9_writes_63 : decode cX9_writes 63 = .ok (.ifCond .ne 6, 3) := by decide +kernel
theorem dX9_writes_66 : decode cX9_writes 66 = .ok (.bipush (-5), 2) := by decide +kernel
theorem dX9_writes_68 : decode cX9_writes 68 = .ok (.ireturn, 1) := by decide +kernel
theorem dX9_writes_69 : decode cX9_writes 69 = .ok (.aload_n 0, 1) := by decide +kernel
theorem dX9_writes_70 : decode cX9_writes 70 = .ok (.getfield 8, 3) := by decide +kernel
theorem dX9_writes_73 : decode cX9_writes 73 = .ok (.iload 6, 2) := by decide +kernel
theorem dX9_writes_75 : decode cX9_writes 75 = .ok (.iload 4, 2) := by decide +kernel
theorem dX9_writes_77 : decode cX9_writes 77 = .ok (.i2f, 1) := by decide +kernel
theorem dX9_writes_78 : decode cX9_writes 78 = .ok (.ldc 73, 2) := by decide +kernel
theorem dX9_writes_80 : decode cX9_writes 80 = .ok (.fmul, 1) := by decide +kernel
theorem dX9_writes_81 : decode cX9_writes 81 = .ok (.invokestatic 74, 3) := by decide +kernel
theorem dX9_writes_84 : decode cX9_writes 84 = .ok (.iastore, 1) := by decide +kernel
theorem dX9_writes_85 : decode cX9_writes 85 = .ok (.goto 16, 3) := by decide +kernel
theorem dX9_writes_88 : decode cX9_writes 88 = .ok (.aload_n 0, 1) := by decide +kernel
theorem dX9_writes_89 : decode cX9_writes 89 = .ok (.getfield 8, 3) := by decide +kernel
theorem dX9_writes_92 : decode cX9_writes 92 = .ok (.iload 6, 2) := by decide +kernel
theorem dX9_writes_94 : decode cX9_writes 94 = .ok (.iload_n 1, 1) := by decide +kernel
theorem dX9_writes_95 : decode cX9_writes 95 = .ok (.iload 4, 2) := by decide +kernel
theorem dX9_writes_97 : decode cX9_writes 97 = .ok (.invokestatic 80, 3) := by decide +kernel
theorem dX9_writes_100 : decode cX9_writes 100 = .ok (.iastore, 1) := by decide +kernel
theorem dX9_writes_101 : decode cX9_writes 101 = .ok (.iconst 0, 1) := by decide +kernel
theorem dX9_writes_102 : decode cX9_writes 102 = .ok (.ireturn, 1) := by decide +kernel
theorem dX9_turns_0 : decode cX9_turns 0 = .ok (.aload_n 0, 1) := by decide +kernel
theorem dX9_turns_1 : decode cX9_turns 1 = .ok (.iload_n 2, 1) := by decide +kernel
theorem dX9_turns_2 : decode cX9_turns 2 = .ok (.iload_n 3, 1) := by decide +kernel
theorem dX9_turns_3 : decode cX9_turns 3 = .ok (.invokevirtual 67, 3) := by decide +kernel
theorem dX9_turns_6 : decode cX9_turns 6 = .ok (.istore 5, 2) := by decide +kernel
theorem dX9_turns_8 : decode cX9_turns 8 = .ok (.iload 5, 2) := by decide +kernel
theorem dX9_turns_10 : decode cX9_turns 10 = .ok (.ifCond .ge 6, 3) := by decide +kernel
theorem dX9_turns_13 : decode cX9_turns 13 = .ok (.iload 5, 2) := by decide +kernel
theorem dX9_turns_15 : decode cX9_turns 15 = .ok (.ireturn, 1) := by decide +kernel
theorem dX9_turns_16 : decode cX9_turns 16 = .ok (.sipush 300, 3) := by decide +kernel
theorem dX9_turns_19 : decode cX9_turns 19 = .ok (.iload_n 2, 1) := by decide +kernel
theorem dX9_turns_20 : decode cX9_turns 20 = .ok (.imul, 1) := by decide +kernel
theorem dX9_turns_21 : decode cX9_turns 21 = .ok (.iload_n 3, 1) := by decide +kernel
theorem dX9_turns_22 : decode cX9_turns 22 = .ok (.iadd, 1) := by decide +kernel
theorem dX9_turns_23 : decode cX9_turns 23 = .ok (.istore 6, 2) := by decide +kernel
theorem dX9_turns_25 : decode cX9_turns 25 = .ok (.aload_n 0, 1) := by decide +kernel
theorem dX9_turns_26 : decode cX9_turns 26 = .ok (.getfield 8, 3) := by decide +kernel
theorem dX9_turns_29 : decode cX9_turns 29 = .ok (.iload 6, 2) := by decide +kernel
theorem dX9_turns_31 : decode cX9_turns 31 = .ok (.iaload, 1) := by decide +kernel
theorem dX9_turns_32 : decode cX9_turns 32 = .ok (.istore 7, 2) := by decide +kernel
theorem dX9_turns_34 : decode cX9_turns 34 = .ok (.iload_n 1, 1) := by decide +kernel
theorem dX9_turns_35 : decode cX9_turns 35 = .ok (.ifCond .ne 29, 3) := by decide +kernel
theorem dX9_turns_38 : decode cX9_turns 38 = .ok (.aload_n 0, 1) := by decide +kernel
theorem dX9_turns_39 : decode cX9_turns 39 = .ok (.getfield 8, 3) := by decide +kernel
theorem dX9_turns_42 : decode cX9_turns 42 = .ok (.iload 6, 2) := by decide +kernel
theorem dX9_turns_44 : decode cX9_turns 44 = .ok (.iload 4, 2) := by decide +kernel
theorem dX9_turns_46 : decode cX9_turns 46 = .ok (.iconst 1, 1) := by decide +kernel
theorem dX9_turns_47 : decode cX9_turns 47 = .ok (.iand, 1) := by decide +kernel
theorem dX9_turns_48 : decode cX9_turns 48 = .ok (.ifCond .ne 8, 3) := by decide +kernel
theorem dX9_turns_51 : decode cX9_turns 51 = .ok (.iload 7, 2) := by decide +kernel
theorem dX9_turns_53 : decode cX9_turns 53 = .ok (.goto 7, 3) := by decide +kernel
theorem dX9_turns_56 : decode cX9_turns 56 = .ok (.iconst 1, 1) := by decide +kernel
theorem dX9_turns_57 : decode cX9_turns 57 = .ok (.iload 7, 2) := by decide +kernel
theorem dX9_turns_59 : decode cX9_turns 59 = .ok (.isub, 1) := by decide +kernel
theorem dX9_turns_60 : decode cX9_turns 60 = .ok (.iastore, 1) := by decide +kernel
theorem dX9_turns_61 : decode cX9_turns 61 = .ok (.goto 115, 3) := by decide +kernel
theorem dX9_turns_64 : decode cX9_turns 64 = .ok (.iload_n 1, 1) := by decide +kernel
theorem dX9_turns_65 : decode cX9_turns 65 = .ok (.iconst 3, 1) := by decide +kernel
theorem dX9_turns_66 : decode cX9_turns 66 = .ok (.if_icmp .ne 68, 3) := by decide +kernel
theorem dX9_turns_69 : decode cX9_turns 69 = .ok (.iload 4, 2) := by decide +kernel
theorem dX9_turns_71 : decode cX9_turns 71 = .ok (.sipush (-4000), 3) := by decide +kernel
theorem dX9_turns_74 : decode cX9_turns 74 = .ok (.sipush 4000, 3) := by decide +kernel
theorem dX9_turns_77 : decode cX9_turns 77 = .ok (.invokestatic 58, 3) := by decide +kernel
theorem dX9_turns_80 : decode cX9_turns 80 = .ok (.ifCond .ne 6, 3) := by decide +kernel
theorem dX9_turns_83 : decode cX9_turns 83 = .ok (.bipush (-5), 2) := by decide +kernel
theorem dX9_turns_85 : decode cX9_turns 85 = .ok (.ireturn, 1) := by decide +kernel
theorem dX9_turns_86 : decode cX9_turns 86 = .ok (.iload 7, 2) := by decide +kernel
theorem dX9_turns_88 : decode cX9_turns 88 = .ok (.invokestatic 83, 3) := by decide +kernel
theorem dX9_turns_91 : decode cX9_turns 91 = .ok (.iload 4, 2) := by decide +kernel
theorem dX9_turns_93 : decode cX9_turns 93 = .ok (.i2f, 1) := by decide +kernel
theorem dX9_turns_94 : decode cX9_turns 94 = .ok (.ldc 87, 2) := by decide +kernel
theorem dX9_turns_96 : decode cX9_turns 96 = .ok (.fmul, 1) := by decide +kernel
theorem dX9_turns_97 : decode cX9_turns 97 = .ok (.fmul, 1) := by decide +kernel
theorem dX9_turns_98 : decode cX9_turns 98 = .ok (.fstore 8, 2) := by decide +kernel
theorem dX9_turns_100 : decode cX9_turns 100 = .ok (.fload 8, 2) := by decide +kernel
theorem dX9_turns_102 : decode cX9_turns 102 = .ok (.ldc 88, 2) := by decide +kernel
theorem dX9_turns_104 : decode cX9_turns 104 = .ok (.fcmp .g, 1) := by decide +kernel
theorem dX9_turns_105 : decode cX9_turns 105 = .ok (.ifCond .lt 11, 3) := by decide +kernel
theorem dX9_turns_108 : decode cX9_turns 108 = .ok (.fload 8, 2) := by decide +kernel
theorem dX9_turns_110 : decode cX9_turns 110 = .ok (.ldc 89, 2) := by decide +kernel
theorem dX9_turns_112 : decode cX9_turns 112 = .ok (.fcmp .l, 1) := by decide +kernel
theorem dX9_turns_113 : decode cX9_turns 113 = .ok (.ifCond .le 6, 3) := by decide +kernel
theorem dX9_turns_116 : decode cX9_turns 116 = .ok (.bipush (-5), 2) := by decide +kernel
theorem dX9_turns_118 : decode cX9_turns 118 = .ok (.ireturn, 1) := by decide +kernel
theorem dX9_turns_119 : decode cX9_turns 119 = .ok (.aload_n 0, 1) := by decide +kernel
theorem dX9_turns_120 : decode cX9_turns 120 = .ok (.getfield 8, 3) := by decide +kernel
theorem dX9_turns_123 : decode cX9_turns 123 = .ok (.iload 6, 2) := by decide +kernel
theorem dX9_turns_125 : decode cX9_turns 125 = .ok (.fload 8, 2) := by decide +kernel
theorem dX9_turns_127 : decode cX9_turns 127 = .ok (.invokestatic 74, 3) := by decide +kernel
theorem dX9_turns_130 : decode cX9_turns 130 = .ok (.iastore, 1) := by decide +kernel
theorem dX9_turns_131 : decode cX9_turns 131 = .ok (.goto 45, 3) := by decide +kernel
theorem dX9_turns_134 : decode cX9_turns 134 = .ok (.aload_n 0, 1) := by decide +kernel
theorem dX9_turns_135 : decode cX9_turns 135 = .ok (.getfield 8, 3) := by decide +kernel
theorem dX9_turns_138 : decode cX9_turns 138 = .ok (.iload 6, 2) := by decide +kernel
theorem dX9_turns_140 : decode cX9_turns 140 = .ok (.iload_n 1, 1) := by decide +kernel
theorem dX9_turns_141 : decode cX9_turns 141 = .ok (.iload_n 1, 1) := by decide +kernel
theorem dX9_turns_142 : decode cX9_turns 142 = .ok (.iconst 1, 1) := by decide +kernel
theorem dX9_turns_143 : decode cX9_turns 143 = .ok (.if_icmp .ne 11, 3) := by decide +kernel
theorem dX9_turns_146 : decode cX9_turns 146 = .ok (.iload 7, 2) := by decide +kernel
theorem dX9_turns_148 : decode cX9_turns 148 = .ok (.iload 4, 2) := by decide +kernel
theorem dX9_turns_150 : decode cX9_turns 150 = .ok (.iadd, 1) := by decide +kernel
theorem dX9_turns_151 : decode cX9_turns 151 = .ok (.goto 21, 3) := by decide +kernel
theorem dX9_turns_154 : decode cX9_turns 154 = .ok (.iload_n 1, 1) := by decide +kernel
theorem dX9_turns_155 : decode cX9_turns 155 = .ok (.iconst 2, 1) := by decide +kernel
theorem dX9_turns_156 : decode cX9_turns 156 = .ok (.if_icmp .ne 11, 3) := by decide +kernel
theorem dX9_turns_159 : decode cX9_turns 159 = .ok (.iload 7, 2) := by decide +kernel
theorem dX9_turns_161 : decode cX9_turns 161 = .ok (.iload 4, 2) := by decide +kernel
theorem dX9_turns_163 : decode cX9_turns 163 = .ok (.imul, 1) := by decide +kernel
theorem dX9_turns_164 : decode cX9_turns 164 = .ok (.goto 8, 3) := by decide +kernel
theorem dX9_turns_167 : decode cX9_turns 167 = .ok (.iload 7, 2) := by decide +kernel
theorem dX9_turns_169 : decode cX9_turns 169 = .ok (.iload 4, 2) := by decide +kernel
theorem dX9_turns_171 : decode cX9_turns 171 = .ok (.isub, 1) := by decide +kernel
theorem dX9_turns_172 : decode cX9_turns 172 = .ok (.invokestatic 80, 3) := by decide +kernel
theorem dX9_turns_175 : decode cX9_turns 175 = .ok (.iastore, 1) := by decide +kernel
theorem dX9_turns_176 : decode cX9_turns 176 = .ok (.iconst 0, 1) := by decide +kernel
theorem dX9_turns_177 : decode cX9_turns 177 = .ok (.ireturn, 1) := by decide +kernel
theorem dX9_reads_0 : decode cX9_reads 0 = .ok (.aload_n 0, 1) := by decide +kernel
theorem dX9_reads_1 : decode cX9_reads 1 = .ok (.iload_n 1, 1) := by decide +kernel
theorem dX9_reads_2 : decode cX9_reads 2 = .ok (.iload_n 2, 1) := by decide +kernel
theorem dX9_reads_3 : decode cX9_reads 3 = .ok (.invokevirtual 67, 3) := by decide +kernel
theorem dX9_reads_6 : decode cX9_reads 6 = .ok (.istore_n 3, 1) := by decide +kernel
theorem dX9_reads_7 : decode cX9_reads 7 = .ok (.aload_n 0, 1) := by decide +kernel
theorem dX9_reads_8 : decode cX9_reads 8 = .ok (.iload_n 3, 1) := by decide +kernel
theorem dX9_reads_9 : decode cX9_reads 9 = .ok (.putfield 54, 3) := by decide +kernel
theorem dX9_reads_12 : decode cX9_reads 12 = .ok (.iload_n 3, 1) := by decide +kernel
theorem dX9_reads_13 : decode cX9_reads 13 = .ok (.ifCond .ge 7, 3) := by decide +kernel
theorem dX9_reads_16 : decode cX9_reads 16 = .ok (.iconst 0, 1) := by decide +kernel
theorem dX9_reads_17 : decode cX9_reads 17 = .ok (.goto 15, 3) := by decide +kernel
theorem dX9_reads_20 : decode cX9_reads 20 = .ok (.aload_n 0, 1) := by decide +kernel
theorem dX9_reads_21 : decode cX9_reads 21 = .ok (.getfield 8, 3) := by decide +kernel
theorem dX9_reads_24 : decode cX9_reads 24 = .ok (.sipush 300, 3) := by decide +kernel
theorem dX9_reads_27 : decode cX9_reads 27 = .ok (.iload_n 1, 1) := by decide +kernel
theorem dX9_reads_28 : decode cX9_reads 28 = .ok (.imul, 1) := by decide +kernel
theorem dX9_reads_29 : decode cX9_reads 29 = .ok (.iload_n 2, 1) := by decide +kernel
theorem dX9_reads_30 : decode cX9_reads 30 = .ok (.iadd, 1) := by decide +kernel
theorem dX9_reads_31 : decode cX9_reads 31 = .ok (.iaload, 1) := by decide +kernel
theorem dX9_reads_32 : decode cX9_reads 32 = .ok (.ireturn, 1) := by decide +kernel
theorem dX9_cut_0 : decode cX9_cut 0 = .ok (.iload_n 1, 1) := by decide +kernel
theorem dX9_cut_1 : decode cX9_cut 1 = .ok (.invokestatic 90, 3) := by decide +kernel
theorem dX9_cut_4 : decode cX9_cut 4 = .ok (.ifCond .eq 10, 3) := by decide +kernel
theorem dX9_cut_7 : decode cX9_cut 7 = .ok (.iload_n 2, 1) := by decide +kernel
theorem dX9_cut_8 : decode cX9_cut 8 = .ok (.invokestatic 93, 3) := by decide +kernel
theorem dX9_cut_11 : decode cX9_cut 11 = .ok (.ifCond .ne 9, 3) := by decide +kernel
theorem dX9_cut_14 : decode cX9_cut 14 = .ok (.aload_n 0, 1) := by decide +kernel
theorem dX9_cut_15 : decode cX9_cut 15 = .ok (.iconst (-1), 1) := by decide +kernel
theorem dX9_cut_16 : decode cX9_cut 16 = .ok (.invokevirtual 96, 3) := by decide +kernel
theorem dX9_cut_19 : decode cX9_cut 19 = .ok (.ireturn, 1) := by decide +kernel
theorem dX9_cut_20 : decode cX9_cut 20 = .ok (.iload_n 3, 1) := by decide +kernel
theorem dX9_cut_21 : decode cX9_cut 21 = .ok (.iconst 0, 1) := by decide +kernel
theorem dX9_cut_22 : decode cX9_cut 22 = .ok (.sipush 300, 3) := by decide +kernel
theorem dX9_cut_25 : decode cX9_cut 25 = .ok (.invokestatic 58, 3) := by decide +kernel
theorem dX9_cut_28 : decode cX9_cut 28 = .ok (.ifCond .ne 10, 3) := by decide +kernel
theorem dX9_cut_31 : decode cX9_cut 31 = .ok (.aload_n 0, 1) := by decide +kernel
theorem dX9_cut_32 : decode cX9_cut 32 = .ok (.bipush (-4), 2) := by decide +kernel
theorem dX9_cut_34 : decode cX9_cut 34 = .ok (.invokevirtual 96, 3) := by decide +kernel
theorem dX9_cut_37 : decode cX9_cut 37 = .ok (.ireturn, 1) := by decide +kernel
theorem dX9_cut_38 : decode cX9_cut 38 = .ok (.aload_n 0, 1) := by decide +kernel
theorem dX9_cut_39 : decode cX9_cut 39 = .ok (.iload_n 1, 1) := by decide +kernel
theorem dX9_cut_40 : decode cX9_cut 40 = .ok (.iload_n 2, 1) := by decide +kernel
theorem dX9_cut_41 : decode cX9_cut 41 = .ok (.aload_n 0, 1) := by decide +kernel
theorem dX9_cut_42 : decode cX9_cut 42 = .ok (.iload_n 3, 1) := by decide +kernel
theorem dX9_cut_43 : decode cX9_cut 43 = .ok (.invokevirtual 100, 3) := by decide +kernel
theorem dX9_cut_46 : decode cX9_cut 46 = .ok (.invokevirtual 103, 3) := by decide +kernel
theorem dX9_cut_49 : decode cX9_cut 49 = .ok (.aload_n 0, 1) := by decide +kernel
theorem dX9_cut_50 : decode cX9_cut 50 = .ok (.iload_n 3, 1) := by decide +kernel
theorem dX9_cut_51 : decode cX9_cut 51 = .ok (.invokevirtual 96, 3) := by decide +kernel
theorem dX9_cut_54 : decode cX9_cut 54 = .ok (.ireturn, 1) := by decide +kernel
theorem dX9_strip_0 : decode cX9_strip 0 = .ok (.iload_n 1, 1) := by decide +kernel
theorem dX9_strip_1 : decode cX9_strip 1 = .ok (.invokestatic 90, 3) := by decide +kernel
theorem dX9_strip_4 : decode cX9_strip 4 = .ok (.ifCond .eq 10, 3) := by decide +kernel
theorem dX9_strip_7 : decode cX9_strip 7 = .ok (.iload_n 2, 1) := by decide +kernel
theorem dX9_strip_8 : decode cX9_strip 8 = .ok (.invokestatic 93, 3) := by decide +kernel
theorem dX9_strip_11 : decode cX9_strip 11 = .ok (.ifCond .ne 9, 3) := by decide +kernel
theorem dX9_strip_14 : decode cX9_strip 14 = .ok (.aload_n 0, 1) := by decide +kernel
theorem dX9_strip_15 : decode cX9_strip 15 = .ok (.iconst (-1), 1) := by decide +kernel
theorem dX9_strip_16 : decode cX9_strip 16 = .ok (.invokevirtual 96, 3) := by decide +kernel
theorem dX9_strip_19 : decode cX9_strip 19 = .ok (.ireturn, 1) := by decide +kernel
theorem dX9_strip_20 : decode cX9_strip 20 = .ok (.aload_n 0, 1) := by decide +kernel
theorem dX9_strip_21 : decode cX9_strip 21 = .ok (.getfield 20, 3) := by decide +kernel
theorem dX9_strip_24 : decode cX9_strip 24 = .ok (.iconst 5, 1) := by decide +kernel
theorem dX9_strip_25 : decode cX9_strip 25 = .ok (.iload_n 1, 1) := by decide +kernel
theorem dX9_strip_26 : decode cX9_strip 26 = .ok (.imul, 1) := by decide +kernel
theorem dX9_strip_27 : decode cX9_strip 27 = .ok (.iload_n 2, 1) := by decide +kernel
theorem dX9_strip_28 : decode cX9_strip 28 = .ok (.iadd, 1) := by decide +kernel
theorem dX9_strip_29 : decode cX9_strip 29 = .ok (.iaload, 1) := by decide +kernel
theorem dX9_strip_30 : decode cX9_strip 30 = .ok (.istore_n 3, 1) := by decide +kernel
theorem dX9_strip_31 : decode cX9_strip 31 = .ok (.iload_n 3, 1) := by decide +kernel
theorem dX9_strip_32 : decode cX9_strip 32 = .ok (.ifCond .ge 10, 3) := by decide +kernel
theorem dX9_strip_35 : decode cX9_strip 35 = .ok (.aload_n 0, 1) := by decide +kernel
theorem dX9_strip_36 : decode cX9_strip 36 = .ok (.bipush (-2), 2) := by decide +kernel
theorem dX9_strip_38 : decode cX9_strip 38 = .ok (.invokevirtual 96, 3) := by decide +kernel
theorem dX9_strip_41 : decode cX9_strip 41 = .ok (.ireturn, 1) := by decide +kernel
theorem dX9_strip_42 : decode cX9_strip 42 = .ok (.aload_n 0, 1) := by decide +kernel
theorem dX9_strip_43 : decode cX9_strip 43 = .ok (.iload_n 1, 1) := by decide +kernel
theorem dX9_strip_44 : decode cX9_strip 44 = .ok (.iload_n 2, 1) := by decide +kernel
theorem dX9_strip_45 : decode cX9_strip 45 = .ok (.iconst (-1), 1) := by decide +kernel
theorem dX9_strip_46 : decode cX9_strip 46 = .ok (.invokevirtual 103, 3) := by decide +kernel
theorem dX9_strip_49 : decode cX9_strip 49 = .ok (.aload_n 0, 1) := by decide +kernel
theorem dX9_strip_50 : decode cX9_strip 50 = .ok (.aload_n 0, 1) := by decide +kernel
theorem dX9_strip_51 : decode cX9_strip 51 = .ok (.getfield 14, 3) := by decide +kernel
theorem dX9_strip_54 : decode cX9_strip 54 = .ok (.iload_n 3, 1) := by decide +kernel
theorem dX9_strip_55 : decode cX9_strip 55 = .ok (.iaload, 1) := by decide +kernel
theorem dX9_strip_56 : decode cX9_strip 56 = .ok (.invokevirtual 96, 3) := by decide +kernel
theorem dX9_strip_59 : decode cX9_strip 59 = .ok (.ireturn, 1) := by decide +kernel
theorem dX9_share_0 : decode cX9_share 0 = .ok (.iload_n 1, 1) := by decide +kernel
theorem dX9_share_1 : decode cX9_share 1 = .ok (.invokestatic 90, 3) := by decide +kernel
theorem dX9_share_4 : decode cX9_share 4 = .ok (.ifCond .eq 17, 3) := by decide +kernel
theorem dX9_share_7 : decode cX9_share 7 = .ok (.iload_n 2, 1) := by decide +kernel
theorem dX9_share_8 : decode cX9_share 8 = .ok (.invokestatic 90, 3) := by decide +kernel
theorem dX9_share_11 : decode cX9_share 11 = .ok (.ifCond .eq 10, 3) := by decide +kernel
theorem dX9_share_14 : decode cX9_share 14 = .ok (.iload_n 3, 1) := by decide +kernel
theorem dX9_share_15 : decode cX9_share 15 = .ok (.invokestatic 93, 3) := by decide +kernel
theorem dX9_share_18 : decode cX9_share 18 = .ok (.ifCond .ne 9, 3) := by decide +kernel
theorem dX9_share_21 : decode cX9_share 21 = .ok (.aload_n 0, 1) := by decide +kernel
theorem dX9_share_22 : decode cX9_share 22 = .ok (.iconst (-1), 1) := by decide +kernel
theorem dX9_share_23 : decode cX9_share 23 = .ok (.invokevirtual 96, 3) := by decide +kernel
theorem dX9_share_26 : decode cX9_share 26 = .ok (.ireturn, 1) := by decide +kernel
theorem dX9_share_27 : decode cX9_share 27 = .ok (.aload_n 0, 1) := by decide +kernel
theorem dX9_share_28 : decode cX9_share 28 = .ok (.getfield 20, 3) := by decide +kernel
theorem dX9_share_31 : decode cX9_share 31 = .ok (.iconst 5, 1) := by decide +kernel
theorem dX9_share_32 : decode cX9_share 32 = .ok (.iload_n 1, 1) := by decide +kernel
theorem dX9_share_33 : decode cX9_share 33 = .ok (.imul, 1) := by decide +kernel
theorem dX9_share_34 : decode cX9_share 34 = .ok (.iload_n 3, 1) := by decide +kernel
theorem dX9_share_35 : decode cX9_share 35 = .ok (.iadd, 1) := by decide +kernel
theorem dX9_share_36 : decode cX9_share 36 = .ok (.iaload, 1) := by decide +kernel
theorem dX9_share_37 : decode cX9_share 37 = .ok (.istore 4, 2) := by decide +kernel
theorem dX9_share_39 : decode cX9_share 39 = .ok (.iload 4, 2) := by decide +kernel
theorem dX9_share_41 : decode cX9_share 41 = .ok (.ifCond .ge 10, 3) := by decide +kernel
theorem dX9_share_44 : decode cX9_share 44 = .ok (.aload_n 0, 1) := by decide +kernel
theorem dX9_share_45 : decode cX9_share 45 = .ok (.bipush (-2), 2) := by decide +kernel
theorem dX9_share_47 : decode cX9_share 47 = .ok (.invokevirtual 96, 3) := by decide +kernel
theorem dX9_share_50 : decode cX9_share 50 = .ok (.ireturn, 1) := by decide +kernel
theorem dX9_share_51 : decode cX9_share 51 = .ok (.aload_n 0, 1) := by decide +kernel
theorem dX9_share_52 : decode cX9_share 52 = .ok (.iload_n 2, 1) := by decide +kernel
theorem dX9_share_53 : decode cX9_share 53 = .ok (.iload_n 3, 1) := by decide +kernel
theorem dX9_share_54 : decode cX9_share 54 = .ok (.iload 4, 2) := by decide +kernel
theorem dX9_share_56 : decode cX9_share 56 = .ok (.invokevirtual 103, 3) := by decide +kernel
theorem dX9_share_59 : decode cX9_share 59 = .ok (.aload_n 0, 1) := by decide +kernel
theorem dX9_share_60 : decode cX9_share 60 = .ok (.aload_n 0, 1) := by decide +kernel
theorem dX9_share_61 : decode cX9_share 61 = .ok (.getfield 14, 3) := by decide +kernel
theorem dX9_share_64 : decode cX9_share 64 = .ok (.iload 4, 2) := by decide +kernel
theorem dX9_share_66 : decode cX9_share 66 = .ok (.iaload, 1) := by decide +kernel
theorem dX9_share_67 : decode cX9_share 67 = .ok (.invokevirtual 96, 3) := by decide +kernel
theorem dX9_share_70 : decode cX9_share 70 = .ok (.ireturn, 1) := by decide +kernel
theorem dX9_places_0 : decode cX9_places 0 = .ok (.iload_n 1, 1) := by decide +kernel
theorem dX9_places_1 : decode cX9_places 1 = .ok (.invokestatic 90, 3) := by decide +kernel
theorem dX9_places_4 : decode cX9_places 4 = .ok (.ifCond .eq 10, 3) := by decide +kernel
theorem dX9_places_7 : decode cX9_places 7 = .ok (.iload_n 2, 1) := by decide +kernel
theorem dX9_places_8 : decode cX9_places 8 = .ok (.invokestatic 93, 3) := by decide +kernel
theorem dX9_places_11 : decode cX9_places 11 = .ok (.ifCond .ne 9, 3) := by decide +kernel
theorem dX9_places_14 : decode cX9_places 14 = .ok (.aload_n 0, 1) := by decide +kernel
theorem dX9_places_15 : decode cX9_places 15 = .ok (.iconst (-1), 1) := by decide +kernel
theorem dX9_places_16 : decode cX9_places 16 = .ok (.invokevirtual 96, 3) := by decide +kernel
theorem dX9_places_19 : decode cX9_places 19 = .ok (.ireturn, 1) := by decide +kernel
theorem dX9_places_20 : decode cX9_places 20 = .ok (.aload_n 0, 1) := by decide +kernel
theorem dX9_places_21 : decode cX9_places 21 = .ok (.getfield 20, 3) := by decide +kernel
theorem dX9_places_24 : decode cX9_places 24 = .ok (.iconst 5, 1) := by decide +kernel
theorem dX9_places_25 : decode cX9_places 25 = .ok (.iload_n 1, 1) := by decide +kernel
theorem dX9_places_26 : decode cX9_places 26 = .ok (.imul, 1) := by decide +kernel
theorem dX9_places_27 : decode cX9_places 27 = .ok (.iload_n 2, 1) := by decide +kernel
theorem dX9_places_28 : decode cX9_places 28 = .ok (.iadd, 1) := by decide +kernel
theorem dX9_places_29 : decode cX9_places 29 = .ok (.iaload, 1) := by decide +kernel
theorem dX9_places_30 : decode cX9_places 30 = .ok (.istore_n 3, 1) := by decide +kernel
theorem dX9_places_31 : decode cX9_places 31 = .ok (.aload_n 0, 1) := by decide +kernel
theorem dX9_places_32 : decode cX9_places 32 = .ok (.iload_n 3, 1) := by decide +kernel
theorem dX9_places_33 : decode cX9_places 33 = .ok (.ifCond .ge 8, 3) := by decide +kernel
theorem dX9_places_36 : decode cX9_places 36 = .ok (.bipush (-2), 2) := by decide +kernel
theorem dX9_places_38 : decode cX9_places 38 = .ok (.goto 9, 3) := by decide +kernel
theorem dX9_places_41 : decode cX9_places 41 = .ok (.aload_n 0, 1) := by decide +kernel
theorem dX9_places_42 : decode cX9_places 42 = .ok (.getfield 14, 3) := by decide +kernel
theorem dX9_places_45 : decode cX9_places 45 = .ok (.iload_n 3, 1) := by decide +kernel
theorem dX9_places_46 : decode cX9_places 46 = .ok (.iaload, 1) := by decide +kernel
theorem dX9_places_47 : decode cX9_places 47 = .ok (.invokevirtual 96, 3) := by decide +kernel
theorem dX9_places_50 : decode cX9_places 50 = .ok (.ireturn, 1) := by decide +kernel
theorem dX9_read_0 : decode cX9_read 0 = .ok (.iload_n 1, 1) := by decide +kernel
theorem dX9_read_1 : decode cX9_read 1 = .ok (.invokestatic 90, 3) := by decide +kernel
theorem dX9_read_4 : decode cX9_read 4 = .ok (.ifCond .eq 10, 3) := by decide +kernel
theorem dX9_read_7 : decode cX9_read 7 = .ok (.iload_n 2, 1) := by decide +kernel
theorem dX9_read_8 : decode cX9_read 8 = .ok (.invokestatic 93, 3) := by decide +kernel
theorem dX9_read_11 : decode cX9_read 11 = .ok (.ifCond .ne 10, 3) := by decide +kernel
theorem dX9_read_14 : decode cX9_read 14 = .ok (.aload_n 0, 1) := by decide +kernel
theorem dX9_read_15 : decode cX9_read 15 = .ok (.iconst (-1), 1) := by decide +kernel
theorem dX9_read_16 : decode cX9_read 16 = .ok (.putfield 54, 3) := by decide +kernel
theorem dX9_read_19 : decode cX9_read 19 = .ok (.iconst 0, 1) := by decide +kernel
theorem dX9_read_20 : decode cX9_read 20 = .ok (.ireturn, 1) := by decide +kernel
theorem dX9_read_21 : decode cX9_read 21 = .ok (.aload_n 0, 1) := by decide +kernel
theorem dX9_read_22 : decode cX9_read 22 = .ok (.aload_n 0, 1) := by decide +kernel
theorem dX9_read_23 : decode cX9_read 23 = .ok (.getfield 20, 3) := by decide +kernel
theorem dX9_read_26 : decode cX9_read 26 = .ok (.iconst 5, 1) := by decide +kernel
theorem dX9_read_27 : decode cX9_read 27 = .ok (.iload_n 1, 1) := by decide +kernel
theorem dX9_read_28 : decode cX9_read 28 = .ok (.imul, 1) := by decide +kernel
theorem dX9_read_29 : decode cX9_read 29 = .ok (.iload_n 2, 1) := by decide +kernel
theorem dX9_read_30 : decode cX9_read 30 = .ok (.iadd, 1) := by decide +kernel
theorem dX9_read_31 : decode cX9_read 31 = .ok (.iaload, 1) := by decide +kernel
theorem dX9_read_32 : decode cX9_read 32 = .ok (.iload_n 3, 1) := by decide +kernel
theorem dX9_read_33 : decode cX9_read 33 = .ok (.invokevirtual 107, 3) := by decide +kernel
theorem dX9_read_36 : decode cX9_read 36 = .ok (.ireturn, 1) := by decide +kernel
theorem dX9_write_0 : decode cX9_write 0 = .ok (.iload_n 1, 1) := by decide +kernel
theorem dX9_write_1 : decode cX9_write 1 = .ok (.invokestatic 90, 3) := by decide +kernel
theorem dX9_write_4 : decode cX9_write 4 = .ok (.ifCond .eq 10, 3) := by decide +kernel
theorem dX9_write_7 : decode cX9_write 7 = .ok (.iload_n 2, 1) := by decide +kernel
theorem dX9_write_8 : decode cX9_write 8 = .ok (.invokestatic 93, 3) := by decide +kernel
theorem dX9_write_11 : decode cX9_write 11 = .ok (.ifCond .ne 9, 3) := by decide +kernel
theorem dX9_write_14 : decode cX9_write 14 = .ok (.aload_n 0, 1) := by decide +kernel
theorem dX9_write_15 : decode cX9_write 15 = .ok (.iconst (-1), 1) := by decide +kernel
theorem dX9_write_16 : decode cX9_write 16 = .ok (.invokevirtual 96, 3) := by decide +kernel
theorem dX9_write_19 : decode cX9_write 19 = .ok (.ireturn, 1) := by decide +kernel
theorem dX9_write_20 : decode cX9_write 20 = .ok (.aload_n 0, 1) := by decide +kernel
theorem dX9_write_21 : decode cX9_write 21 = .ok (.aload_n 0, 1) := by decide +kernel
theorem dX9_write_22 : decode cX9_write 22 = .ok (.iload_n 2, 1) := by decide +kernel
theorem dX9_write_23 : decode cX9_write 23 = .ok (.aload_n 0, 1) := by decide +kernel
theorem dX9_write_24 : decode cX9_write 24 = .ok (.getfield 20, 3) := by decide +kernel
theorem dX9_write_27 : decode cX9_write 27 = .ok (.iconst 5, 1) := by decide +kernel
theorem dX9_write_28 : decode cX9_write 28 = .ok (.iload_n 1, 1) := by decide +kernel
theorem dX9_write_29 : decode cX9_write 29 = .ok (.imul, 1) := by decide +kernel
theorem dX9_write_30 : decode cX9_write 30 = .ok (.iload_n 2, 1) := by decide +kernel
theorem dX9_write_31 : decode cX9_write 31 = .ok (.iadd, 1) := by decide +kernel
theorem dX9_write_32 : decode cX9_write 32 = .ok (.iaload, 1) := by decide +kernel
theorem dX9_write_33 : decode cX9_write 33 = .ok (.iload_n 3, 1) := by decide +kernel
theorem dX9_write_34 : decode cX9_write 34 = .ok (.iload 4, 2) := by decide +kernel
theorem dX9_write_36 : decode cX9_write 36 = .ok (.invokevirtual 110, 3) := by decide +kernel
theorem dX9_write_39 : decode cX9_write 39 = .ok (.invokevirtual 96, 3) := by decide +kernel
theorem dX9_write_42 : decode cX9_write 42 = .ok (.ireturn, 1) := by decide +kernel
theorem dX9_turn_0 : decode cX9_turn 0 = .ok (.iload_n 1, 1) := by decide +kernel
theorem dX9_turn_1 : decode cX9_turn 1 = .ok (.invokestatic 90, 3) := by decide +kernel
theorem dX9_turn_4 : decode cX9_turn 4 = .ok (.ifCond .eq 10, 3) := by decide +kernel
theorem dX9_turn_7 : decode cX9_turn 7 = .ok (.iload_n 2, 1) := by decide +kernel
theorem dX9_turn_8 : decode cX9_turn 8 = .ok (.invokestatic 93, 3) := by decide +kernel
theorem dX9_turn_11 : decode cX9_turn 11 = .ok (.ifCond .ne 9, 3) := by decide +kernel
theorem dX9_turn_14 : decode cX9_turn 14 = .ok (.aload_n 0, 1) := by decide +kernel
theorem dX9_turn_15 : decode cX9_turn 15 = .ok (.iconst (-1), 1) := by decide +kernel
theorem dX9_turn_16 : decode cX9_turn 16 = .ok (.invokevirtual 96, 3) := by decide +kernel
theorem dX9_turn_19 : decode cX9_turn 19 = .ok (.ireturn, 1) := by decide +kernel
theorem dX9_turn_20 : decode cX9_turn 20 = .ok (.aload_n 0, 1) := by decide +kernel
theorem dX9_turn_21 : decode cX9_turn 21 = .ok (.aload_n 0, 1) := by decide +kernel
theorem dX9_turn_22 : decode cX9_turn 22 = .ok (.iload_n 2, 1) := by decide +kernel
theorem dX9_turn_23 : decode cX9_turn 23 = .ok (.aload_n 0, 1) := by decide +kernel
theorem dX9_turn_24 : decode cX9_turn 24 = .ok (.getfield 20, 3) := by decide +kernel
theorem dX9_turn_27 : decode cX9_turn 27 = .ok (.iconst 5, 1) := by decide +kernel
theorem dX9_turn_28 : decode cX9_turn 28 = .ok (.iload_n 1, 1) := by decide +kernel
theorem dX9_turn_29 : decode cX9_turn 29 = .ok (.imul, 1) := by decide +kernel
theorem dX9_turn_30 : decode cX9_turn 30 = .ok (.iload_n 2, 1) := by decide +kernel
theorem dX9_turn_31 : decode cX9_turn 31 = .ok (.iadd, 1) := by decide +kernel
theorem dX9_turn_32 : decode cX9_turn 32 = .ok (.iaload, 1) := by decide +kernel
theorem dX9_turn_33 : decode cX9_turn 33 = .ok (.iload_n 3, 1) := by decide +kernel
theorem dX9_turn_34 : decode cX9_turn 34 = .ok (.iload 4, 2) := by decide +kernel
theorem dX9_turn_36 : decode cX9_turn 36 = .ok (.invokevirtual 114, 3) := by decide +kernel
theorem dX9_turn_39 : decode cX9_turn 39 = .ok (.invokevirtual 96, 3) := by decide +kernel
theorem dX9_turn_42 : decode cX9_turn 42 = .ok (.ireturn, 1) := by decide +kernel
theorem dX9_head_0 : decode cX9_head 0 = .ok (.iload_n 1, 1) := by decide +kernel
theorem dX9_head_1 : decode cX9_head 1 = .ok (.invokestatic 90, 3) := by decide +kernel
theorem dX9_head_4 : decode cX9_head 4 = .ok (.ifCond .ne 9, 3) := by decide +kernel
theorem dX9_head_7 : decode cX9_head 7 = .ok (.aload_n 0, 1) := by decide +kernel
theorem dX9_head_8 : decode cX9_head 8 = .ok (.iconst (-1), 1) := by decide +kernel
theorem dX9_head_9 : decode cX9_head 9 = .ok (.invokevirtual 96, 3) := by decide +kernel
theorem dX9_head_12 : decode cX9_head 12 = .ok (.ireturn, 1) := by decide +kernel
theorem dX9_head_13 : decode cX9_head 13 = .ok (.iload_n 2, 1) := by decide +kernel
theorem dX9_head_14 : decode cX9_head 14 = .ok (.iconst 0, 1) := by decide +kernel
theorem dX9_head_15 : decode cX9_head 15 = .ok (.sipush 300, 3) := by decide +kernel
theorem dX9_head_18 : decode cX9_head 18 = .ok (.invokestatic 58, 3) := by decide +kernel
theorem dX9_head_21 : decode cX9_head 21 = .ok (.ifCond .ne 10, 3) := by decide +kernel
theorem dX9_head_24 : decode cX9_head 24 = .ok (.aload_n 0, 1) := by decide +kernel
theorem dX9_head_25 : decode cX9_head 25 = .ok (.bipush (-4), 2) := by decide +kernel
theorem dX9_head_27 : decode cX9_head 27 = .ok (.invokevirtual 96, 3) := by decide +kernel
theorem dX9_head_30 : decode cX9_head 30 = .ok (.ireturn, 1) := by decide +kernel
theorem dX9_head_31 : decode cX9_head 31 = .ok (.aload_n 0, 1) := by decide +kernel
theorem dX9_head_32 : decode cX9_head 32 = .ok (.getfield 32, 3) := by decide +kernel
theorem dX9_head_35 : decode cX9_head 35 = .ok (.iload_n 1, 1) := by decide +kernel
theorem dX9_head_36 : decode cX9_head 36 = .ok (.iaload, 1) := by decide +kernel
theorem dX9_head_37 : decode cX9_head 37 = .ok (.istore_n 3, 1) := by decide +kernel
theorem dX9_head_38 : decode cX9_head 38 = .ok (.aload_n 0, 1) := by decide +kernel
theorem dX9_head_39 : decode cX9_head 39 = .ok (.getfield 32, 3) := by decide +kernel
theorem dX9_head_42 : decode cX9_head 42 = .ok (.iload_n 1, 1) := by decide +kernel
theorem dX9_head_43 : decode cX9_head 43 = .ok (.iload_n 2, 1) := by decide +kernel
theorem dX9_head_44 : decode cX9_head 44 = .ok (.iastore, 1) := by decide +kernel
theorem dX9_head_45 : decode cX9_head 45 = .ok (.aload_n 0, 1) := by decide +kernel
theorem dX9_head_46 : decode cX9_head 46 = .ok (.iload_n 3, 1) := by decide +kernel
theorem dX9_head_47 : decode cX9_head 47 = .ok (.invokevirtual 96, 3) := by decide +kernel
theorem dX9_head_50 : decode cX9_head 50 = .ok (.ireturn, 1) := by decide +kernel
theorem dX9_isThere_0 : decode cX9_isThere 0 = .ok (.aload_n 0, 1) := by decide +kernel
theorem dX9_isThere_1 : decode cX9_isThere 1 = .ok (.aload_n 0, 1) := by decide +kernel
theorem dX9_isThere_2 : decode cX9_isThere 2 = .ok (.getfield 20, 3) := by decide +kernel
theorem dX9_isThere_5 : decode cX9_isThere 5 = .ok (.iconst 5, 1) := by decide +kernel
theorem dX9_isThere_6 : decode cX9_isThere 6 = .ok (.iload_n 1, 1) := by decide +kernel
theorem dX9_isThere_7 : decode cX9_isThere 7 = .ok (.imul, 1) := by decide +kernel
theorem dX9_isThere_8 : decode cX9_isThere 8 = .ok (.iload_n 2, 1) := by decide +kernel
theorem dX9_isThere_9 : decode cX9_isThere 9 = .ok (.iadd, 1) := by decide +kernel
theorem dX9_isThere_10 : decode cX9_isThere 10 = .ok (.iaload, 1) := by decide +kernel
theorem dX9_isThere_11 : decode cX9_isThere 11 = .ok (.iload_n 3, 1) := by decide +kernel
theorem dX9_isThere_12 : decode cX9_isThere 12 = .ok (.invokevirtual 67, 3) := by decide +kernel
theorem dX9_isThere_15 : decode cX9_isThere 15 = .ok (.ifCond .ne 7, 3) := by decide +kernel
theorem dX9_isThere_18 : decode cX9_isThere 18 = .ok (.iconst 1, 1) := by decide +kernel
theorem dX9_isThere_19 : decode cX9_isThere 19 = .ok (.goto 4, 3) := by decide +kernel
theorem dX9_isThere_22 : decode cX9_isThere 22 = .ok (.iconst 0, 1) := by decide +kernel
theorem dX9_isThere_23 : decode cX9_isThere 23 = .ok (.ireturn, 1) := by decide +kernel
theorem dX9_at_0 : decode cX9_at 0 = .ok (.aload_n 0, 1) := by decide +kernel
theorem dX9_at_1 : decode cX9_at 1 = .ok (.iload_n 1, 1) := by decide +kernel
theorem dX9_at_2 : decode cX9_at 2 = .ok (.iload_n 2, 1) := by decide +kernel
theorem dX9_at_3 : decode cX9_at 3 = .ok (.iload_n 3, 1) := by decide +kernel
theorem dX9_at_4 : decode cX9_at 4 = .ok (.invokevirtual 117, 3) := by decide +kernel
theorem dX9_at_7 : decode cX9_at 7 = .ok (.ifCond .eq 25, 3) := by decide +kernel
theorem dX9_at_10 : decode cX9_at 10 = .ok (.aload_n 0, 1) := by decide +kernel
theorem dX9_at_11 : decode cX9_at 11 = .ok (.getfield 8, 3) := by decide +kernel
theorem dX9_at_14 : decode cX9_at 14 = .ok (.sipush 300, 3) := by decide +kernel
theorem dX9_at_17 : decode cX9_at 17 = .ok (.aload_n 0, 1) := by decide +kernel
theorem dX9_at_18 : decode cX9_at 18 = .ok (.getfield 20, 3) := by decide +kernel
end
section
theorem dX9_at_21 : decode cX9_at 21 = .ok (.iconst 5, 1) := by decide +kernel
theorem dX9_at_22 : decode cX9_at 22 = .ok (.iload_n 1, 1) := by decide +kernel
theorem dX9_at_23 : decode cX9_at 23 = .ok (.imul, 1) := by decide +kernel
theorem dX9_at_24 : decode cX9_at 24 = .ok (.iload_n 2, 1) := by decide +kernel
theorem dX9_at_25 : decode cX9_at 25 = .ok (.iadd, 1) := by decide +kernel
theorem dX9_at_26 : decode cX9_at 26 = .ok (.iaload, 1) := by decide +kernel
theorem dX9_at_27 : decode cX9_at 27 = .ok (.imul, 1) := by decide +kernel
theorem dX9_at_28 : decode cX9_at 28 = .ok (.iload_n 3, 1) := by decide +kernel
theorem dX9_at_29 : decode cX9_at 29 = .ok (.iadd, 1) := by decide +kernel
theorem dX9_at_30 : decode cX9_at 30 = .ok (.iaload, 1) := by decide +kernel
theorem dX9_at_31 : decode cX9_at 31 = .ok (.ireturn, 1) := by decide +kernel
theorem dX9_at_32 : decode cX9_at 32 = .ok (.aload_n 0, 1) := by decide +kernel
theorem dX9_at_33 : decode cX9_at 33 = .ok (.getfield 41, 3) := by decide +kernel
theorem dX9_at_36 : decode cX9_at 36 = .ok (.iload_n 1, 1) := by decide +kernel
theorem dX9_at_37 : decode cX9_at 37 = .ok (.dup2, 1) := by decide +kernel
theorem dX9_at_38 : decode cX9_at 38 = .ok (.iaload, 1) := by decide +kernel
theorem dX9_at_39 : decode cX9_at 39 = .ok (.iconst 1, 1) := by decide +kernel
theorem dX9_at_40 : decode cX9_at 40 = .ok (.iadd, 1) := by decide +kernel
theorem dX9_at_41 : decode cX9_at 41 = .ok (.iastore, 1) := by decide +kernel
theorem dX9_at_42 : decode cX9_at 42 = .ok (.iload_n 2, 1) := by decide +kernel
theorem dX9_at_43 : decode cX9_at 43 = .ok (.ifCond .eq 8, 3) := by decide +kernel
theorem dX9_at_46 : decode cX9_at 46 = .ok (.iload_n 2, 1) := by decide +kernel
theorem dX9_at_47 : decode cX9_at 47 = .ok (.iconst 2, 1) := by decide +kernel
theorem dX9_at_48 : decode cX9_at 48 = .ok (.if_icmp .ne 7, 3) := by decide +kernel
theorem dX9_at_51 : decode cX9_at 51 = .ok (.iconst 1, 1) := by decide +kernel
theorem dX9_at_52 : decode cX9_at 52 = .ok (.goto 26, 3) := by decide +kernel
theorem dX9_at_55 : decode cX9_at 55 = .ok (.iload_n 2, 1) := by decide +kernel
theorem dX9_at_56 : decode cX9_at 56 = .ok (.iconst 1, 1) := by decide +kernel
theorem dX9_at_57 : decode cX9_at 57 = .ok (.if_icmp .ne 8, 3) := by decide +kernel
theorem dX9_at_60 : decode cX9_at 60 = .ok (.bipush 60, 2) := by decide +kernel
theorem dX9_at_62 : decode cX9_at 62 = .ok (.goto 16, 3) := by decide +kernel
theorem dX9_at_65 : decode cX9_at 65 = .ok (.iload_n 2, 1) := by decide +kernel
theorem dX9_at_66 : decode cX9_at 66 = .ok (.iconst 3, 1) := by decide +kernel
theorem dX9_at_67 : decode cX9_at 67 = .ok (.if_icmp .ne 10, 3) := by decide +kernel
theorem dX9_at_70 : decode cX9_at 70 = .ok (.fconst 1, 1) := by decide +kernel
theorem dX9_at_71 : decode cX9_at 71 = .ok (.invokestatic 74, 3) := by decide +kernel
theorem dX9_at_74 : decode cX9_at 74 = .ok (.goto 4, 3) := by decide +kernel
theorem dX9_at_77 : decode cX9_at 77 = .ok (.iconst 0, 1) := by decide +kernel
theorem dX9_at_78 : decode cX9_at 78 = .ok (.ireturn, 1) := by decide +kernel
theorem dX9_sounds_0 : decode cX9_sounds 0 = .ok (.aload_n 0, 1) := by decide +kernel
theorem dX9_sounds_1 : decode cX9_sounds 1 = .ok (.iload_n 1, 1) := by decide +kernel
theorem dX9_sounds_2 : decode cX9_sounds 2 = .ok (.iconst 0, 1) := by decide +kernel
theorem dX9_sounds_3 : decode cX9_sounds 3 = .ok (.iload_n 2, 1) := by decide +kernel
theorem dX9_sounds_4 : decode cX9_sounds 4 = .ok (.invokevirtual 120, 3) := by decide +kernel
theorem dX9_sounds_7 : decode cX9_sounds 7 = .ok (.istore_n 3, 1) := by decide +kernel
theorem dX9_sounds_8 : decode cX9_sounds 8 = .ok (.aload_n 0, 1) := by decide +kernel
theorem dX9_sounds_9 : decode cX9_sounds 9 = .ok (.iload_n 1, 1) := by decide +kernel
theorem dX9_sounds_10 : decode cX9_sounds 10 = .ok (.iconst 1, 1) := by decide +kernel
theorem dX9_sounds_11 : decode cX9_sounds 11 = .ok (.iload_n 2, 1) := by decide +kernel
theorem dX9_sounds_12 : decode cX9_sounds 12 = .ok (.invokevirtual 120, 3) := by decide +kernel
theorem dX9_sounds_15 : decode cX9_sounds 15 = .ok (.istore 4, 2) := by decide +kernel
theorem dX9_sounds_17 : decode cX9_sounds 17 = .ok (.aload_n 0, 1) := by decide +kernel
theorem dX9_sounds_18 : decode cX9_sounds 18 = .ok (.iload_n 1, 1) := by decide +kernel
theorem dX9_sounds_19 : decode cX9_sounds 19 = .ok (.iconst 2, 1) := by decide +kernel
theorem dX9_sounds_20 : decode cX9_sounds 20 = .ok (.iload_n 2, 1) := by decide +kernel
theorem dX9_sounds_21 : decode cX9_sounds 21 = .ok (.invokevirtual 120, 3) := by decide +kernel
theorem dX9_sounds_24 : decode cX9_sounds 24 = .ok (.istore 5, 2) := by decide +kernel
theorem dX9_sounds_26 : decode cX9_sounds 26 = .ok (.aload_n 0, 1) := by decide +kernel
theorem dX9_sounds_27 : decode cX9_sounds 27 = .ok (.iload_n 1, 1) := by decide +kernel
theorem dX9_sounds_28 : decode cX9_sounds 28 = .ok (.iconst 3, 1) := by decide +kernel
theorem dX9_sounds_29 : decode cX9_sounds 29 = .ok (.iload_n 2, 1) := by decide +kernel
theorem dX9_sounds_30 : decode cX9_sounds 30 = .ok (.invokevirtual 120, 3) := by decide +kernel
theorem dX9_sounds_33 : decode cX9_sounds 33 = .ok (.istore 6, 2) := by decide +kernel
theorem dX9_sounds_35 : decode cX9_sounds 35 = .ok (.iload 4, 2) := by decide +kernel
theorem dX9_sounds_37 : decode cX9_sounds 37 = .ok (.aload_n 0, 1) := by decide +kernel
theorem dX9_sounds_38 : decode cX9_sounds 38 = .ok (.iload_n 1, 1) := by decide +kernel
theorem dX9_sounds_39 : decode cX9_sounds 39 = .ok (.iconst 4, 1) := by decide +kernel
theorem dX9_sounds_40 : decode cX9_sounds 40 = .ok (.iload_n 2, 1) := by decide +kernel
theorem dX9_sounds_41 : decode cX9_sounds 41 = .ok (.invokevirtual 120, 3) := by decide +kernel
theorem dX9_sounds_44 : decode cX9_sounds 44 = .ok (.iadd, 1) := by decide +kernel
theorem dX9_sounds_45 : decode cX9_sounds 45 = .ok (.istore 7, 2) := by decide +kernel
theorem dX9_sounds_47 : decode cX9_sounds 47 = .ok (.aload_n 0, 1) := by decide +kernel
theorem dX9_sounds_48 : decode cX9_sounds 48 = .ok (.getfield 38, 3) := by decide +kernel
theorem dX9_sounds_51 : decode cX9_sounds 51 = .ok (.iload_n 1, 1) := by decide +kernel
theorem dX9_sounds_52 : decode cX9_sounds 52 = .ok (.dup2, 1) := by decide +kernel
theorem dX9_sounds_53 : decode cX9_sounds 53 = .ok (.iaload, 1) := by decide +kernel
theorem dX9_sounds_54 : decode cX9_sounds 54 = .ok (.iconst 1, 1) := by decide +kernel
theorem dX9_sounds_55 : decode cX9_sounds 55 = .ok (.iadd, 1) := by decide +kernel
theorem dX9_sounds_56 : decode cX9_sounds 56 = .ok (.iastore, 1) := by decide +kernel
theorem dX9_sounds_57 : decode cX9_sounds 57 = .ok (.iload_n 3, 1) := by decide +kernel
theorem dX9_sounds_58 : decode cX9_sounds 58 = .ok (.ifCond .ne 5, 3) := by decide +kernel
theorem dX9_sounds_61 : decode cX9_sounds 61 = .ok (.iconst 0, 1) := by decide +kernel
theorem dX9_sounds_62 : decode cX9_sounds 62 = .ok (.ireturn, 1) := by decide +kernel
theorem dX9_sounds_63 : decode cX9_sounds 63 = .ok (.aload_n 0, 1) := by decide +kernel
theorem dX9_sounds_64 : decode cX9_sounds 64 = .ok (.getfield 44, 3) := by decide +kernel
theorem dX9_sounds_67 : decode cX9_sounds 67 = .ok (.iload_n 1, 1) := by decide +kernel
theorem dX9_sounds_68 : decode cX9_sounds 68 = .ok (.dup2, 1) := by decide +kernel
theorem dX9_sounds_69 : decode cX9_sounds 69 = .ok (.laload, 1) := by decide +kernel
theorem dX9_sounds_70 : decode cX9_sounds 70 = .ok (.iload 7, 2) := by decide +kernel
theorem dX9_sounds_72 : decode cX9_sounds 72 = .ok (.i2l, 1) := by decide +kernel
theorem dX9_sounds_73 : decode cX9_sounds 73 = .ok (.iload 5, 2) := by decide +kernel
theorem dX9_sounds_75 : decode cX9_sounds 75 = .ok (.i2l, 1) := by decide +kernel
theorem dX9_sounds_76 : decode cX9_sounds 76 = .ok (.lmul, 1) := by decide +kernel
theorem dX9_sounds_77 : decode cX9_sounds 77 = .ok (.ladd, 1) := by decide +kernel
theorem dX9_sounds_78 : decode cX9_sounds 78 = .ok (.lastore, 1) := by decide +kernel
theorem dX9_sounds_79 : decode cX9_sounds 79 = .ok (.aload_n 0, 1) := by decide +kernel
theorem dX9_sounds_80 : decode cX9_sounds 80 = .ok (.getfield 35, 3) := by decide +kernel
theorem dX9_sounds_83 : decode cX9_sounds 83 = .ok (.iload_n 1, 1) := by decide +kernel
theorem dX9_sounds_84 : decode cX9_sounds 84 = .ok (.iaload, 1) := by decide +kernel
theorem dX9_sounds_85 : decode cX9_sounds 85 = .ok (.ifCond .eq 14, 3) := by decide +kernel
theorem dX9_sounds_88 : decode cX9_sounds 88 = .ok (.iload 7, 2) := by decide +kernel
theorem dX9_sounds_90 : decode cX9_sounds 90 = .ok (.aload_n 0, 1) := by decide +kernel
theorem dX9_sounds_91 : decode cX9_sounds 91 = .ok (.getfield 48, 3) := by decide +kernel
theorem dX9_sounds_94 : decode cX9_sounds 94 = .ok (.iload_n 1, 1) := by decide +kernel
theorem dX9_sounds_95 : decode cX9_sounds 95 = .ok (.iaload, 1) := by decide +kernel
theorem dX9_sounds_96 : decode cX9_sounds 96 = .ok (.if_icmp .le 11, 3) := by decide +kernel
theorem dX9_sounds_99 : decode cX9_sounds 99 = .ok (.aload_n 0, 1) := by decide +kernel
theorem dX9_sounds_100 : decode cX9_sounds 100 = .ok (.getfield 48, 3) := by decide +kernel
theorem dX9_sounds_103 : decode cX9_sounds 103 = .ok (.iload_n 1, 1) := by decide +kernel
theorem dX9_sounds_104 : decode cX9_sounds 104 = .ok (.iload 7, 2) := by decide +kernel
theorem dX9_sounds_106 : decode cX9_sounds 106 = .ok (.iastore, 1) := by decide +kernel
theorem dX9_sounds_107 : decode cX9_sounds 107 = .ok (.aload_n 0, 1) := by decide +kernel
theorem dX9_sounds_108 : decode cX9_sounds 108 = .ok (.getfield 35, 3) := by decide +kernel
theorem dX9_sounds_111 : decode cX9_sounds 111 = .ok (.iload_n 1, 1) := by decide +kernel
theorem dX9_sounds_112 : decode cX9_sounds 112 = .ok (.iaload, 1) := by decide +kernel
theorem dX9_sounds_113 : decode cX9_sounds 113 = .ok (.ifCond .eq 21, 3) := by decide +kernel
theorem dX9_sounds_116 : decode cX9_sounds 116 = .ok (.iload 6, 2) := by decide +kernel
theorem dX9_sounds_118 : decode cX9_sounds 118 = .ok (.invokestatic 83, 3) := by decide +kernel
theorem dX9_sounds_121 : decode cX9_sounds 121 = .ok (.aload_n 0, 1) := by decide +kernel
theorem dX9_sounds_122 : decode cX9_sounds 122 = .ok (.getfield 51, 3) := by decide +kernel
theorem dX9_sounds_125 : decode cX9_sounds 125 = .ok (.iload_n 1, 1) := by decide +kernel
theorem dX9_sounds_126 : decode cX9_sounds 126 = .ok (.iaload, 1) := by decide +kernel
theorem dX9_sounds_127 : decode cX9_sounds 127 = .ok (.invokestatic 83, 3) := by decide +kernel
theorem dX9_sounds_130 : decode cX9_sounds 130 = .ok (.fcmp .l, 1) := by decide +kernel
theorem dX9_sounds_131 : decode cX9_sounds 131 = .ok (.ifCond .le 11, 3) := by decide +kernel
theorem dX9_sounds_134 : decode cX9_sounds 134 = .ok (.aload_n 0, 1) := by decide +kernel
theorem dX9_sounds_135 : decode cX9_sounds 135 = .ok (.getfield 51, 3) := by decide +kernel
theorem dX9_sounds_138 : decode cX9_sounds 138 = .ok (.iload_n 1, 1) := by decide +kernel
theorem dX9_sounds_139 : decode cX9_sounds 139 = .ok (.iload 6, 2) := by decide +kernel
theorem dX9_sounds_141 : decode cX9_sounds 141 = .ok (.iastore, 1) := by decide +kernel
theorem dX9_sounds_142 : decode cX9_sounds 142 = .ok (.aload_n 0, 1) := by decide +kernel
theorem dX9_sounds_143 : decode cX9_sounds 143 = .ok (.getfield 35, 3) := by decide +kernel
theorem dX9_sounds_146 : decode cX9_sounds 146 = .ok (.iload_n 1, 1) := by decide +kernel
theorem dX9_sounds_147 : decode cX9_sounds 147 = .ok (.dup2, 1) := by decide +kernel
theorem dX9_sounds_148 : decode cX9_sounds 148 = .ok (.iaload, 1) := by decide +kernel
theorem dX9_sounds_149 : decode cX9_sounds 149 = .ok (.iconst 1, 1) := by decide +kernel
theorem dX9_sounds_150 : decode cX9_sounds 150 = .ok (.iadd, 1) := by decide +kernel
theorem dX9_sounds_151 : decode cX9_sounds 151 = .ok (.iastore, 1) := by decide +kernel
theorem dX9_sounds_152 : decode cX9_sounds 152 = .ok (.iconst 1, 1) := by decide +kernel
theorem dX9_sounds_153 : decode cX9_sounds 153 = .ok (.ireturn, 1) := by decide +kernel
theorem dX9_play_0 : decode cX9_play 0 = .ok (.iload_n 1, 1) := by decide +kernel
theorem dX9_play_1 : decode cX9_play 1 = .ok (.invokestatic 90, 3) := by decide +kernel
theorem dX9_play_4 : decode cX9_play 4 = .ok (.ifCond .ne 9, 3) := by decide +kernel
theorem dX9_play_7 : decode cX9_play 7 = .ok (.aload_n 0, 1) := by decide +kernel
theorem dX9_play_8 : decode cX9_play 8 = .ok (.iconst (-1), 1) := by decide +kernel
theorem dX9_play_9 : decode cX9_play 9 = .ok (.invokevirtual 96, 3) := by decide +kernel
theorem dX9_play_12 : decode cX9_play 12 = .ok (.ireturn, 1) := by decide +kernel
theorem dX9_play_13 : decode cX9_play 13 = .ok (.iload_n 2, 1) := by decide +kernel
theorem dX9_play_14 : decode cX9_play 14 = .ok (.iconst 0, 1) := by decide +kernel
theorem dX9_play_15 : decode cX9_play 15 = .ok (.bipush 20, 2) := by decide +kernel
theorem dX9_play_17 : decode cX9_play 17 = .ok (.invokestatic 58, 3) := by decide +kernel
theorem dX9_play_20 : decode cX9_play 20 = .ok (.ifCond .ne 10, 3) := by decide +kernel
theorem dX9_play_23 : decode cX9_play 23 = .ok (.aload_n 0, 1) := by decide +kernel
theorem dX9_play_24 : decode cX9_play 24 = .ok (.bipush (-4), 2) := by decide +kernel
theorem dX9_play_26 : decode cX9_play 26 = .ok (.invokevirtual 96, 3) := by decide +kernel
theorem dX9_play_29 : decode cX9_play 29 = .ok (.ireturn, 1) := by decide +kernel
theorem dX9_play_30 : decode cX9_play 30 = .ok (.iconst 0, 1) := by decide +kernel
theorem dX9_play_31 : decode cX9_play 31 = .ok (.istore_n 3, 1) := by decide +kernel
theorem dX9_play_32 : decode cX9_play 32 = .ok (.iconst 1, 1) := by decide +kernel
theorem dX9_play_33 : decode cX9_play 33 = .ok (.istore 4, 2) := by decide +kernel
theorem dX9_play_35 : decode cX9_play 35 = .ok (.iconst 0, 1) := by decide +kernel
theorem dX9_play_36 : decode cX9_play 36 = .ok (.istore 5, 2) := by decide +kernel
theorem dX9_play_38 : decode cX9_play 38 = .ok (.iload 5, 2) := by decide +kernel
theorem dX9_play_40 : decode cX9_play 40 = .ok (.iload_n 2, 1) := by decide +kernel
theorem dX9_play_41 : decode cX9_play 41 = .ok (.if_icmp .ge 100, 3) := by decide +kernel
theorem dX9_play_44 : decode cX9_play 44 = .ok (.iload 4, 2) := by decide +kernel
theorem dX9_play_46 : decode cX9_play 46 = .ok (.ifCond .eq 95, 3) := by decide +kernel
theorem dX9_play_49 : decode cX9_play 49 = .ok (.aload_n 0, 1) := by decide +kernel
theorem dX9_play_50 : decode cX9_play 50 = .ok (.getfield 32, 3) := by decide +kernel
theorem dX9_play_53 : decode cX9_play 53 = .ok (.iload_n 1, 1) := by decide +kernel
theorem dX9_play_54 : decode cX9_play 54 = .ok (.iaload, 1) := by decide +kernel
theorem dX9_play_55 : decode cX9_play 55 = .ok (.istore 6, 2) := by decide +kernel
theorem dX9_play_57 : decode cX9_play 57 = .ok (.iconst 0, 1) := by decide +kernel
theorem dX9_play_58 : decode cX9_play 58 = .ok (.istore 4, 2) := by decide +kernel
theorem dX9_play_60 : decode cX9_play 60 = .ok (.iconst 0, 1) := by decide +kernel
theorem dX9_play_61 : decode cX9_play 61 = .ok (.istore 7, 2) := by decide +kernel
theorem dX9_play_63 : decode cX9_play 63 = .ok (.iload 7, 2) := by decide +kernel
theorem dX9_play_65 : decode cX9_play 65 = .ok (.iconst 5, 1) := by decide +kernel
theorem dX9_play_66 : decode cX9_play 66 = .ok (.if_icmp .ge 33, 3) := by decide +kernel
theorem dX9_play_69 : decode cX9_play 69 = .ok (.iload 4, 2) := by decide +kernel
theorem dX9_play_71 : decode cX9_play 71 = .ok (.ifCond .ne 15, 3) := by decide +kernel
theorem dX9_play_74 : decode cX9_play 74 = .ok (.aload_n 0, 1) := by decide +kernel
theorem dX9_play_75 : decode cX9_play 75 = .ok (.iload_n 1, 1) := by decide +kernel
theorem dX9_play_76 : decode cX9_play 76 = .ok (.iload 7, 2) := by decide +kernel
theorem dX9_play_78 : decode cX9_play 78 = .ok (.iload 6, 2) := by decide +kernel
theorem dX9_play_80 : decode cX9_play 80 = .ok (.invokevirtual 117, 3) := by decide +kernel
theorem dX9_play_83 : decode cX9_play 83 = .ok (.ifCond .eq 7, 3) := by decide +kernel
theorem dX9_play_86 : decode cX9_play 86 = .ok (.iconst 1, 1) := by decide +kernel
theorem dX9_play_87 : decode cX9_play 87 = .ok (.goto 4, 3) := by decide +kernel
theorem dX9_play_90 : decode cX9_play 90 = .ok (.iconst 0, 1) := by decide +kernel
theorem dX9_play_91 : decode cX9_play 91 = .ok (.istore 4, 2) := by decide +kernel
theorem dX9_play_93 : decode cX9_play 93 = .ok (.iinc 7 1, 3) := by decide +kernel
theorem dX9_play_96 : decode cX9_play 96 = .ok (.goto (-33), 3) := by decide +kernel
theorem dX9_play_99 : decode cX9_play 99 = .ok (.iload 4, 2) := by decide +kernel
theorem dX9_play_101 : decode cX9_play 101 = .ok (.ifCond .ne 6, 3) := by decide +kernel
theorem dX9_play_104 : decode cX9_play 104 = .ok (.goto 31, 3) := by decide +kernel
theorem dX9_play_107 : decode cX9_play 107 = .ok (.iload_n 3, 1) := by decide +kernel
theorem dX9_play_108 : decode cX9_play 108 = .ok (.aload_n 0, 1) := by decide +kernel
theorem dX9_play_109 : decode cX9_play 109 = .ok (.iload_n 1, 1) := by decide +kernel
theorem dX9_play_110 : decode cX9_play 110 = .ok (.iload 6, 2) := by decide +kernel
theorem dX9_play_112 : decode cX9_play 112 = .ok (.invokevirtual 124, 3) := by decide +kernel
theorem dX9_play_115 : decode cX9_play 115 = .ok (.ifCond .eq 7, 3) := by decide +kernel
theorem dX9_play_118 : decode cX9_play 118 = .ok (.iconst 1, 1) := by decide +kernel
theorem dX9_play_119 : decode cX9_play 119 = .ok (.goto 4, 3) := by decide +kernel
theorem dX9_play_122 : decode cX9_play 122 = .ok (.iconst 0, 1) := by decide +kernel
theorem dX9_play_123 : decode cX9_play 123 = .ok (.iadd, 1) := by decide +kernel
theorem dX9_play_124 : decode cX9_play 124 = .ok (.istore_n 3, 1) := by decide +kernel
theorem dX9_play_125 : decode cX9_play 125 = .ok (.aload_n 0, 1) := by decide +kernel
theorem dX9_play_126 : decode cX9_play 126 = .ok (.getfield 32, 3) := by decide +kernel
theorem dX9_play_129 : decode cX9_play 129 = .ok (.iload_n 1, 1) := by decide +kernel
theorem dX9_play_130 : decode cX9_play 130 = .ok (.dup2, 1) := by decide +kernel
theorem dX9_play_131 : decode cX9_play 131 = .ok (.iaload, 1) := by decide +kernel
theorem dX9_play_132 : decode cX9_play 132 = .ok (.iconst 1, 1) := by decide +kernel
theorem dX9_play_133 : decode cX9_play 133 = .ok (.iadd, 1) := by decide +kernel
theorem dX9_play_134 : decode cX9_play 134 = .ok (.iastore, 1) := by decide +kernel
theorem dX9_play_135 : decode cX9_play 135 = .ok (.iinc 5 1, 3) := by decide +kernel
theorem dX9_play_138 : decode cX9_play 138 = .ok (.goto (-100), 3) := by decide +kernel
theorem dX9_play_141 : decode cX9_play 141 = .ok (.aload_n 0, 1) := by decide +kernel
theorem dX9_play_142 : decode cX9_play 142 = .ok (.iload_n 3, 1) := by decide +kernel
theorem dX9_play_143 : decode cX9_play 143 = .ok (.invokevirtual 96, 3) := by decide +kernel
theorem dX9_play_146 : decode cX9_play 146 = .ok (.ireturn, 1) := by decide +kernel
theorem dX9_heard_0 : decode cX9_heard 0 = .ok (.iload_n 1, 1) := by decide +kernel
theorem dX9_heard_1 : decode cX9_heard 1 = .ok (.invokestatic 90, 3) := by decide +kernel
theorem dX9_heard_4 : decode cX9_heard 4 = .ok (.ifCond .eq 13, 3) := by decide +kernel
theorem dX9_heard_7 : decode cX9_heard 7 = .ok (.iload_n 2, 1) := by decide +kernel
theorem dX9_heard_8 : decode cX9_heard 8 = .ok (.iconst 0, 1) := by decide +kernel
theorem dX9_heard_9 : decode cX9_heard 9 = .ok (.bipush 6, 2) := by decide +kernel
theorem dX9_heard_11 : decode cX9_heard 11 = .ok (.invokestatic 58, 3) := by decide +kernel
theorem dX9_heard_14 : decode cX9_heard 14 = .ok (.ifCond .ne 10, 3) := by decide +kernel
theorem dX9_heard_17 : decode cX9_heard 17 = .ok (.aload_n 0, 1) := by decide +kernel
theorem dX9_heard_18 : decode cX9_heard 18 = .ok (.iconst (-1), 1) := by decide +kernel
theorem dX9_heard_19 : decode cX9_heard 19 = .ok (.putfield 54, 3) := by decide +kernel
theorem dX9_heard_22 : decode cX9_heard 22 = .ok (.lconst 0, 1) := by decide +kernel
theorem dX9_heard_23 : decode cX9_heard 23 = .ok (.lreturn, 1) := by decide +kernel
theorem dX9_heard_24 : decode cX9_heard 24 = .ok (.aload_n 0, 1) := by decide +kernel
theorem dX9_heard_25 : decode cX9_heard 25 = .ok (.iconst 0, 1) := by decide +kernel
theorem dX9_heard_26 : decode cX9_heard 26 = .ok (.putfield 54, 3) := by decide +kernel
theorem dX9_heard_29 : decode cX9_heard 29 = .ok (.iload_n 2, 1) := by decide +kernel
theorem dX9_heard_30 : decode cX9_heard 30 = .ok (.tableswitch 111 0 5 #[38, 46, 54, 62, 69, 90], 38) := by decide +kernel
theorem dX9_heard_68 : decode cX9_heard 68 = .ok (.aload_n 0, 1) := by decide +kernel
theorem dX9_heard_69 : decode cX9_heard 69 = .ok (.getfield 35, 3) := by decide +kernel
theorem dX9_heard_72 : decode cX9_heard 72 = .ok (.iload_n 1, 1) := by decide +kernel
theorem dX9_heard_73 : decode cX9_heard 73 = .ok (.iaload, 1) := by decide +kernel
theorem dX9_heard_74 : decode cX9_heard 74 = .ok (.i2l, 1) := by decide +kernel
theorem dX9_heard_75 : decode cX9_heard 75 = .ok (.lreturn, 1) := by decide +kernel
theorem dX9_heard_76 : decode cX9_heard 76 = .ok (.aload_n 0, 1) := by decide +kernel
theorem dX9_heard_77 : decode cX9_heard 77 = .ok (.getfield 38, 3) := by decide +kernel
theorem dX9_heard_80 : decode cX9_heard 80 = .ok (.iload_n 1, 1) := by decide +kernel
theorem dX9_heard_81 : decode cX9_heard 81 = .ok (.iaload, 1) := by decide +kernel
theorem dX9_heard_82 : decode cX9_heard 82 = .ok (.i2l, 1) := by decide +kernel
theorem dX9_heard_83 : decode cX9_heard 83 = .ok (.lreturn, 1) := by decide +kernel
theorem dX9_heard_84 : decode cX9_heard 84 = .ok (.aload_n 0, 1) := by decide +kernel
theorem dX9_heard_85 : decode cX9_heard 85 = .ok (.getfield 41, 3) := by decide +kernel
theorem dX9_heard_88 : decode cX9_heard 88 = .ok (.iload_n 1, 1) := by decide +kernel
theorem dX9_heard_89 : decode cX9_heard 89 = .ok (.iaload, 1) := by decide +kernel
theorem dX9_heard_90 : decode cX9_heard 90 = .ok (.i2l, 1) := by decide +kernel
theorem dX9_heard_91 : decode cX9_heard 91 = .ok (.lreturn, 1) := by decide +kernel
theorem dX9_heard_92 : decode cX9_heard 92 = .ok (.aload_n 0, 1) := by decide +kernel
theorem dX9_heard_93 : decode cX9_heard 93 = .ok (.getfield 44, 3) := by decide +kernel
theorem dX9_heard_96 : decode cX9_heard 96 = .ok (.iload_n 1, 1) := by decide +kernel
theorem dX9_heard_97 : decode cX9_heard 97 = .ok (.laload, 1) := by decide +kernel
theorem dX9_heard_98 : decode cX9_heard 98 = .ok (.lreturn, 1) := by decide +kernel
theorem dX9_heard_99 : decode cX9_heard 99 = .ok (.aload_n 0, 1) := by decide +kernel
theorem dX9_heard_100 : decode cX9_heard 100 = .ok (.getfield 35, 3) := by decide +kernel
theorem dX9_heard_103 : decode cX9_heard 103 = .ok (.iload_n 1, 1) := by decide +kernel
theorem dX9_heard_104 : decode cX9_heard 104 = .ok (.iaload, 1) := by decide +kernel
theorem dX9_heard_105 : decode cX9_heard 105 = .ok (.ifCond .ne 7, 3) := by decide +kernel
theorem dX9_heard_108 : decode cX9_heard 108 = .ok (.lconst 0, 1) := by decide +kernel
theorem dX9_heard_109 : decode cX9_heard 109 = .ok (.goto 10, 3) := by decide +kernel
theorem dX9_heard_112 : decode cX9_heard 112 = .ok (.aload_n 0, 1) := by decide +kernel
theorem dX9_heard_113 : decode cX9_heard 113 = .ok (.getfield 48, 3) := by decide +kernel
theorem dX9_heard_116 : decode cX9_heard 116 = .ok (.iload_n 1, 1) := by decide +kernel
theorem dX9_heard_117 : decode cX9_heard 117 = .ok (.iaload, 1) := by decide +kernel
theorem dX9_heard_118 : decode cX9_heard 118 = .ok (.i2l, 1) := by decide +kernel
theorem dX9_heard_119 : decode cX9_heard 119 = .ok (.lreturn, 1) := by decide +kernel
theorem dX9_heard_120 : decode cX9_heard 120 = .ok (.aload_n 0, 1) := by decide +kernel
theorem dX9_heard_121 : decode cX9_heard 121 = .ok (.getfield 35, 3) := by decide +kernel
theorem dX9_heard_124 : decode cX9_heard 124 = .ok (.iload_n 1, 1) := by decide +kernel
theorem dX9_heard_125 : decode cX9_heard 125 = .ok (.iaload, 1) := by decide +kernel
theorem dX9_heard_126 : decode cX9_heard 126 = .ok (.ifCond .ne 7, 3) := by decide +kernel
theorem dX9_heard_129 : decode cX9_heard 129 = .ok (.lconst 0, 1) := by decide +kernel
theorem dX9_heard_130 : decode cX9_heard 130 = .ok (.goto 10, 3) := by decide +kernel
theorem dX9_heard_133 : decode cX9_heard 133 = .ok (.aload_n 0, 1) := by decide +kernel
theorem dX9_heard_134 : decode cX9_heard 134 = .ok (.getfield 51, 3) := by decide +kernel
theorem dX9_heard_137 : decode cX9_heard 137 = .ok (.iload_n 1, 1) := by decide +kernel
theorem dX9_heard_138 : decode cX9_heard 138 = .ok (.iaload, 1) := by decide +kernel
theorem dX9_heard_139 : decode cX9_heard 139 = .ok (.i2l, 1) := by decide +kernel
theorem dX9_heard_140 : decode cX9_heard 140 = .ok (.lreturn, 1) := by decide +kernel
theorem dX9_heard_141 : decode cX9_heard 141 = .ok (.aload_n 0, 1) := by decide +kernel
theorem dX9_heard_142 : decode cX9_heard 142 = .ok (.getfield 32, 3) := by decide +kernel
theorem dX9_heard_145 : decode cX9_heard 145 = .ok (.iload_n 1, 1) := by decide +kernel
theorem dX9_heard_146 : decode cX9_heard 146 = .ok (.iaload, 1) := by decide +kernel
theorem dX9_heard_147 : decode cX9_heard 147 = .ok (.i2l, 1) := by decide +kernel
theorem dX9_heard_148 : decode cX9_heard 148 = .ok (.lreturn, 1) := by decide +kernel
theorem dX9_quiet_0 : decode cX9_quiet 0 = .ok (.iload_n 1, 1) := by decide +kernel
theorem dX9_quiet_1 : decode cX9_quiet 1 = .ok (.invokestatic 90, 3) := by decide +kernel
theorem dX9_quiet_4 : decode cX9_quiet 4 = .ok (.ifCond .ne 9, 3) := by decide +kernel
theorem dX9_quiet_7 : decode cX9_quiet 7 = .ok (.aload_n 0, 1) := by decide +kernel
theorem dX9_quiet_8 : decode cX9_quiet 8 = .ok (.iconst (-1), 1) := by decide +kernel
theorem dX9_quiet_9 : decode cX9_quiet 9 = .ok (.invokevirtual 96, 3) := by decide +kernel
theorem dX9_quiet_12 : decode cX9_quiet 12 = .ok (.ireturn, 1) := by decide +kernel
theorem dX9_quiet_13 : decode cX9_quiet 13 = .ok (.aload_n 0, 1) := by decide +kernel
theorem dX9_quiet_14 : decode cX9_quiet 14 = .ok (.getfield 35, 3) := by decide +kernel
theorem dX9_quiet_17 : decode cX9_quiet 17 = .ok (.iload_n 1, 1) := by decide +kernel
theorem dX9_quiet_18 : decode cX9_quiet 18 = .ok (.iaload, 1) := by decide +kernel
theorem dX9_quiet_19 : decode cX9_quiet 19 = .ok (.istore_n 2, 1) := by decide +kernel
theorem dX9_quiet_20 : decode cX9_quiet 20 = .ok (.aload_n 0, 1) := by decide +kernel
theorem dX9_quiet_21 : decode cX9_quiet 21 = .ok (.getfield 35, 3) := by decide +kernel
theorem dX9_quiet_24 : decode cX9_quiet 24 = .ok (.iload_n 1, 1) := by decide +kernel
theorem dX9_quiet_25 : decode cX9_quiet 25 = .ok (.iconst 0, 1) := by decide +kernel
theorem dX9_quiet_26 : decode cX9_quiet 26 = .ok (.iastore, 1) := by decide +kernel
theorem dX9_quiet_27 : decode cX9_quiet 27 = .ok (.aload_n 0, 1) := by decide +kernel
theorem dX9_quiet_28 : decode cX9_quiet 28 = .ok (.getfield 38, 3) := by decide +kernel
theorem dX9_quiet_31 : decode cX9_quiet 31 = .ok (.iload_n 1, 1) := by decide +kernel
theorem dX9_quiet_32 : decode cX9_quiet 32 = .ok (.iconst 0, 1) := by decide +kernel
theorem dX9_quiet_33 : decode cX9_quiet 33 = .ok (.iastore, 1) := by decide +kernel
theorem dX9_quiet_34 : decode cX9_quiet 34 = .ok (.aload_n 0, 1) := by decide +kernel
theorem dX9_quiet_35 : decode cX9_quiet 35 = .ok (.getfield 41, 3) := by decide +kernel
theorem dX9_quiet_38 : decode cX9_quiet 38 = .ok (.iload_n 1, 1) := by decide +kernel
theorem dX9_quiet_39 : decode cX9_quiet 39 = .ok (.iconst 0, 1) := by decide +kernel
theorem dX9_quiet_40 : decode cX9_quiet 40 = .ok (.iastore, 1) := by decide +kernel
theorem dX9_quiet_41 : decode cX9_quiet 41 = .ok (.aload_n 0, 1) := by decide +kernel
theorem dX9_quiet_42 : decode cX9_quiet 42 = .ok (.getfield 44, 3) := by decide +kernel
theorem dX9_quiet_45 : decode cX9_quiet 45 = .ok (.iload_n 1, 1) := by decide +kernel
theorem dX9_quiet_46 : decode cX9_quiet 46 = .ok (.lconst 0, 1) := by decide +kernel
theorem dX9_quiet_47 : decode cX9_quiet 47 = .ok (.lastore, 1) := by decide +kernel
theorem dX9_quiet_48 : decode cX9_quiet 48 = .ok (.aload_n 0, 1) := by decide +kernel
theorem dX9_quiet_49 : decode cX9_quiet 49 = .ok (.iload_n 2, 1) := by decide +kernel
theorem dX9_quiet_50 : decode cX9_quiet 50 = .ok (.invokevirtual 96, 3) := by decide +kernel
theorem dX9_quiet_53 : decode cX9_quiet 53 = .ok (.ireturn, 1) := by decide +kernel
theorem dX9_empties_0 : decode cX9_empties 0 = .ok (.aload_n 0, 1) := by decide +kernel
theorem dX9_empties_1 : decode cX9_empties 1 = .ok (.getfield 29, 3) := by decide +kernel
theorem dX9_empties_4 : decode cX9_empties 4 = .ok (.iload_n 1, 1) := by decide +kernel
theorem dX9_empties_5 : decode cX9_empties 5 = .ok (.iaload, 1) := by decide +kernel
theorem dX9_empties_6 : decode cX9_empties 6 = .ok (.istore_n 2, 1) := by decide +kernel
theorem dX9_empties_7 : decode cX9_empties 7 = .ok (.iconst 0, 1) := by decide +kernel
theorem dX9_empties_8 : decode cX9_empties 8 = .ok (.istore_n 3, 1) := by decide +kernel
theorem dX9_empties_9 : decode cX9_empties 9 = .ok (.iload_n 3, 1) := by decide +kernel
theorem dX9_empties_10 : decode cX9_empties 10 = .ok (.iload_n 2, 1) := by decide +kernel
theorem dX9_empties_11 : decode cX9_empties 11 = .ok (.if_icmp .ge 16, 3) := by decide +kernel
theorem dX9_empties_14 : decode cX9_empties 14 = .ok (.aload_n 0, 1) := by decide +kernel
theorem dX9_empties_15 : decode cX9_empties 15 = .ok (.iload_n 1, 1) := by decide +kernel
theorem dX9_empties_16 : decode cX9_empties 16 = .ok (.iload_n 3, 1) := by decide +kernel
theorem dX9_empties_17 : decode cX9_empties 17 = .ok (.iconst (-1), 1) := by decide +kernel
theorem dX9_empties_18 : decode cX9_empties 18 = .ok (.invokevirtual 128, 3) := by decide +kernel
theorem dX9_empties_21 : decode cX9_empties 21 = .ok (.iinc 3 1, 3) := by decide +kernel
theorem dX9_empties_24 : decode cX9_empties 24 = .ok (.goto (-15), 3) := by decide +kernel
theorem dX9_empties_27 : decode cX9_empties 27 = .ok (.aload_n 0, 1) := by decide +kernel
theorem dX9_empties_28 : decode cX9_empties 28 = .ok (.getfield 29, 3) := by decide +kernel
theorem dX9_empties_31 : decode cX9_empties 31 = .ok (.iload_n 1, 1) := by decide +kernel
theorem dX9_empties_32 : decode cX9_empties 32 = .ok (.iconst 0, 1) := by decide +kernel
theorem dX9_empties_33 : decode cX9_empties 33 = .ok (.iastore, 1) := by decide +kernel
theorem dX9_empties_34 : decode cX9_empties 34 = .ok (.aload_n 0, 1) := by decide +kernel
theorem dX9_empties_35 : decode cX9_empties 35 = .ok (.getfield 26, 3) := by decide +kernel
theorem dX9_empties_38 : decode cX9_empties 38 = .ok (.iload_n 1, 1) := by decide +kernel
theorem dX9_empties_39 : decode cX9_empties 39 = .ok (.iconst (-1), 1) := by decide +kernel
theorem dX9_empties_40 : decode cX9_empties 40 = .ok (.iastore, 1) := by decide +kernel
theorem dX9_empties_41 : decode cX9_empties 41 = .ok (.iload_n 2, 1) := by decide +kernel
theorem dX9_empties_42 : decode cX9_empties 42 = .ok (.ireturn, 1) := by decide +kernel
theorem dX9_comb_0 : decode cX9_comb 0 = .ok (.iload_n 1, 1) := by decide +kernel
theorem dX9_comb_1 : decode cX9_comb 1 = .ok (.iconst 0, 1) := by decide +kernel
theorem dX9_comb_2 : decode cX9_comb 2 = .ok (.iconst 3, 1) := by decide +kernel
theorem dX9_comb_3 : decode cX9_comb 3 = .ok (.invokestatic 58, 3) := by decide +kernel
theorem dX9_comb_6 : decode cX9_comb 6 = .ok (.ifCond .eq 10, 3) := by decide +kernel
theorem dX9_comb_9 : decode cX9_comb 9 = .ok (.iload_n 2, 1) := by decide +kernel
theorem dX9_comb_10 : decode cX9_comb 10 = .ok (.invokestatic 93, 3) := by decide +kernel
theorem dX9_comb_13 : decode cX9_comb 13 = .ok (.ifCond .ne 9, 3) := by decide +kernel
theorem dX9_comb_16 : decode cX9_comb 16 = .ok (.aload_n 0, 1) := by decide +kernel
theorem dX9_comb_17 : decode cX9_comb 17 = .ok (.iconst (-1), 1) := by decide +kernel
theorem dX9_comb_18 : decode cX9_comb 18 = .ok (.invokevirtual 96, 3) := by decide +kernel
theorem dX9_comb_21 : decode cX9_comb 21 = .ok (.ireturn, 1) := by decide +kernel
theorem dX9_comb_22 : decode cX9_comb 22 = .ok (.iload_n 3, 1) := by decide +kernel
theorem dX9_comb_23 : decode cX9_comb 23 = .ok (.iconst 0, 1) := by decide +kernel
theorem dX9_comb_24 : decode cX9_comb 24 = .ok (.bipush 40, 2) := by decide +kernel
theorem dX9_comb_26 : decode cX9_comb 26 = .ok (.invokestatic 58, 3) := by decide +kernel
theorem dX9_comb_29 : decode cX9_comb 29 = .ok (.ifCond .eq 14, 3) := by decide +kernel
theorem dX9_comb_32 : decode cX9_comb 32 = .ok (.iload 4, 2) := by decide +kernel
theorem dX9_comb_34 : decode cX9_comb 34 = .ok (.iconst 0, 1) := by decide +kernel
theorem dX9_comb_35 : decode cX9_comb 35 = .ok (.bipush 40, 2) := by decide +kernel
theorem dX9_comb_37 : decode cX9_comb 37 = .ok (.invokestatic 58, 3) := by decide +kernel
theorem dX9_comb_40 : decode cX9_comb 40 = .ok (.ifCond .ne 10, 3) := by decide +kernel
theorem dX9_comb_43 : decode cX9_comb 43 = .ok (.aload_n 0, 1) := by decide +kernel
theorem dX9_comb_44 : decode cX9_comb 44 = .ok (.bipush (-4), 2) := by decide +kernel
theorem dX9_comb_46 : decode cX9_comb 46 = .ok (.invokevirtual 96, 3) := by decide +kernel
theorem dX9_comb_49 : decode cX9_comb 49 = .ok (.ireturn, 1) := by decide +kernel
theorem dX9_comb_50 : decode cX9_comb 50 = .ok (.aload_n 0, 1) := by decide +kernel
theorem dX9_comb_51 : decode cX9_comb 51 = .ok (.iload_n 1, 1) := by decide +kernel
theorem dX9_comb_52 : decode cX9_comb 52 = .ok (.invokevirtual 131, 3) := by decide +kernel
theorem dX9_comb_55 : decode cX9_comb 55 = .ok (.istore 5, 2) := by decide +kernel
theorem dX9_comb_57 : decode cX9_comb 57 = .ok (.aload_n 0, 1) := by decide +kernel
theorem dX9_comb_58 : decode cX9_comb 58 = .ok (.getfield 26, 3) := by decide +kernel
theorem dX9_comb_61 : decode cX9_comb 61 = .ok (.iload_n 1, 1) := by decide +kernel
theorem dX9_comb_62 : decode cX9_comb 62 = .ok (.iload_n 2, 1) := by decide +kernel
theorem dX9_comb_63 : decode cX9_comb 63 = .ok (.iastore, 1) := by decide +kernel
theorem dX9_comb_64 : decode cX9_comb 64 = .ok (.aload_n 0, 1) := by decide +kernel
theorem dX9_comb_65 : decode cX9_comb 65 = .ok (.getfield 29, 3) := by decide +kernel
theorem dX9_comb_68 : decode cX9_comb 68 = .ok (.iload_n 1, 1) := by decide +kernel
theorem dX9_comb_69 : decode cX9_comb 69 = .ok (.iload_n 3, 1) := by decide +kernel
theorem dX9_comb_70 : decode cX9_comb 70 = .ok (.iastore, 1) := by decide +kernel
theorem dX9_comb_71 : decode cX9_comb 71 = .ok (.iconst 0, 1) := by decide +kernel
theorem dX9_comb_72 : decode cX9_comb 72 = .ok (.istore 6, 2) := by decide +kernel
theorem dX9_comb_74 : decode cX9_comb 74 = .ok (.iload 6, 2) := by decide +kernel
theorem dX9_comb_76 : decode cX9_comb 76 = .ok (.iload_n 3, 1) := by decide +kernel
theorem dX9_comb_77 : decode cX9_comb 77 = .ok (.if_icmp .ge 22, 3) := by decide +kernel
theorem dX9_comb_80 : decode cX9_comb 80 = .ok (.aload_n 0, 1) := by decide +kernel
theorem dX9_comb_81 : decode cX9_comb 81 = .ok (.iload_n 1, 1) := by decide +kernel
theorem dX9_comb_82 : decode cX9_comb 82 = .ok (.iload 6, 2) := by decide +kernel
theorem dX9_comb_84 : decode cX9_comb 84 = .ok (.aload_n 0, 1) := by decide +kernel
theorem dX9_comb_85 : decode cX9_comb 85 = .ok (.iload 4, 2) := by decide +kernel
theorem dX9_comb_87 : decode cX9_comb 87 = .ok (.invokevirtual 100, 3) := by decide +kernel
theorem dX9_comb_90 : decode cX9_comb 90 = .ok (.invokevirtual 128, 3) := by decide +kernel
theorem dX9_comb_93 : decode cX9_comb 93 = .ok (.iinc 6 1, 3) := by decide +kernel
theorem dX9_comb_96 : decode cX9_comb 96 = .ok (.goto (-22), 3) := by decide +kernel
theorem dX9_comb_99 : decode cX9_comb 99 = .ok (.aload_n 0, 1) := by decide +kernel
theorem dX9_comb_100 : decode cX9_comb 100 = .ok (.iload_n 3, 1) := by decide +kernel
theorem dX9_comb_101 : decode cX9_comb 101 = .ok (.invokevirtual 96, 3) := by decide +kernel
theorem dX9_comb_104 : decode cX9_comb 104 = .ok (.ireturn, 1) := by decide +kernel
theorem dX9_drop_0 : decode cX9_drop 0 = .ok (.aload_n 0, 1) := by decide +kernel
theorem dX9_drop_1 : decode cX9_drop 1 = .ok (.aload_n 0, 1) := by decide +kernel
theorem dX9_drop_2 : decode cX9_drop 2 = .ok (.iload_n 1, 1) := by decide +kernel
theorem dX9_drop_3 : decode cX9_drop 3 = .ok (.invokevirtual 62, 3) := by decide +kernel
theorem dX9_drop_6 : decode cX9_drop 6 = .ok (.ifCond .eq 11, 3) := by decide +kernel
theorem dX9_drop_9 : decode cX9_drop 9 = .ok (.aload_n 0, 1) := by decide +kernel
theorem dX9_drop_10 : decode cX9_drop 10 = .ok (.iload_n 1, 1) := by decide +kernel
theorem dX9_drop_11 : decode cX9_drop 11 = .ok (.invokevirtual 131, 3) := by decide +kernel
theorem dX9_drop_14 : decode cX9_drop 14 = .ok (.goto 4, 3) := by decide +kernel
theorem dX9_drop_17 : decode cX9_drop 17 = .ok (.iconst (-1), 1) := by decide +kernel
theorem dX9_drop_18 : decode cX9_drop 18 = .ok (.invokevirtual 96, 3) := by decide +kernel
theorem dX9_drop_21 : decode cX9_drop 21 = .ok (.ireturn, 1) := by decide +kernel
theorem dX9_about_0 : decode cX9_about 0 = .ok (.aload_n 0, 1) := by decide +kernel
theorem dX9_about_1 : decode cX9_about 1 = .ok (.iload_n 1, 1) := by decide +kernel
theorem dX9_about_2 : decode cX9_about 2 = .ok (.invokevirtual 62, 3) := by decide +kernel
theorem dX9_about_5 : decode cX9_about 5 = .ok (.ifCond .eq 12, 3) := by decide +kernel
theorem dX9_about_8 : decode cX9_about 8 = .ok (.iload_n 2, 1) := by decide +kernel
theorem dX9_about_9 : decode cX9_about 9 = .ok (.iconst 0, 1) := by decide +kernel
theorem dX9_about_10 : decode cX9_about 10 = .ok (.iconst 3, 1) := by decide +kernel
theorem dX9_about_11 : decode cX9_about 11 = .ok (.invokestatic 58, 3) := by decide +kernel
theorem dX9_about_14 : decode cX9_about 14 = .ok (.ifCond .ne 9, 3) := by decide +kernel
theorem dX9_about_17 : decode cX9_about 17 = .ok (.aload_n 0, 1) := by decide +kernel
theorem dX9_about_18 : decode cX9_about 18 = .ok (.iconst (-1), 1) := by decide +kernel
theorem dX9_about_19 : decode cX9_about 19 = .ok (.invokevirtual 96, 3) := by decide +kernel
theorem dX9_about_22 : decode cX9_about 22 = .ok (.ireturn, 1) := by decide +kernel
theorem dX9_about_23 : decode cX9_about 23 = .ok (.iconst 0, 1) := by decide +kernel
theorem dX9_about_24 : decode cX9_about 24 = .ok (.istore_n 3, 1) := by decide +kernel
theorem dX9_about_25 : decode cX9_about 25 = .ok (.iconst 0, 1) := by decide +kernel
theorem dX9_about_26 : decode cX9_about 26 = .ok (.istore 4, 2) := by decide +kernel
theorem dX9_about_28 : decode cX9_about 28 = .ok (.iconst 0, 1) := by decide +kernel
theorem dX9_about_29 : decode cX9_about 29 = .ok (.istore 5, 2) := by decide +kernel
theorem dX9_about_31 : decode cX9_about 31 = .ok (.iload 5, 2) := by decide +kernel
theorem dX9_about_33 : decode cX9_about 33 = .ok (.aload_n 0, 1) := by decide +kernel
theorem dX9_about_34 : decode cX9_about 34 = .ok (.getfield 29, 3) := by decide +kernel
theorem dX9_about_37 : decode cX9_about 37 = .ok (.iload_n 1, 1) := by decide +kernel
theorem dX9_about_38 : decode cX9_about 38 = .ok (.iaload, 1) := by decide +kernel
theorem dX9_about_39 : decode cX9_about 39 = .ok (.if_icmp .ge 57, 3) := by decide +kernel
theorem dX9_about_42 : decode cX9_about 42 = .ok (.aload_n 0, 1) := by decide +kernel
theorem dX9_about_43 : decode cX9_about 43 = .ok (.getfield 23, 3) := by decide +kernel
theorem dX9_about_46 : decode cX9_about 46 = .ok (.bipush 40, 2) := by decide +kernel
theorem dX9_about_48 : decode cX9_about 48 = .ok (.iload_n 1, 1) := by decide +kernel
theorem dX9_about_49 : decode cX9_about 49 = .ok (.imul, 1) := by decide +kernel
theorem dX9_about_50 : decode cX9_about 50 = .ok (.iload 5, 2) := by decide +kernel
theorem dX9_about_52 : decode cX9_about 52 = .ok (.iadd, 1) := by decide +kernel
theorem dX9_about_53 : decode cX9_about 53 = .ok (.iaload, 1) := by decide +kernel
theorem dX9_about_54 : decode cX9_about 54 = .ok (.istore 6, 2) := by decide +kernel
theorem dX9_about_56 : decode cX9_about 56 = .ok (.iload_n 3, 1) := by decide +kernel
theorem dX9_about_57 : decode cX9_about 57 = .ok (.iload 6, 2) := by decide +kernel
theorem dX9_about_59 : decode cX9_about 59 = .ok (.ifCond .ge 7, 3) := by decide +kernel
theorem dX9_about_62 : decode cX9_about 62 = .ok (.iconst 1, 1) := by decide +kernel
theorem dX9_about_63 : decode cX9_about 63 = .ok (.goto 4, 3) := by decide +kernel
theorem dX9_about_66 : decode cX9_about 66 = .ok (.iconst 0, 1) := by decide +kernel
theorem dX9_about_67 : decode cX9_about 67 = .ok (.iadd, 1) := by decide +kernel
theorem dX9_about_68 : decode cX9_about 68 = .ok (.istore_n 3, 1) := by decide +kernel
theorem dX9_about_69 : decode cX9_about 69 = .ok (.iload 4, 2) := by decide +kernel
theorem dX9_about_71 : decode cX9_about 71 = .ok (.iload 6, 2) := by decide +kernel
theorem dX9_about_73 : decode cX9_about 73 = .ok (.ifCond .ge 7, 3) := by decide +kernel
theorem dX9_about_76 : decode cX9_about 76 = .ok (.iconst 0, 1) := by decide +kernel
theorem dX9_about_77 : decode cX9_about 77 = .ok (.goto 10, 3) := by decide +kernel
theorem dX9_about_80 : decode cX9_about 80 = .ok (.aload_n 0, 1) := by decide +kernel
theorem dX9_about_81 : decode cX9_about 81 = .ok (.getfield 14, 3) := by decide +kernel
theorem dX9_about_84 : decode cX9_about 84 = .ok (.iload 6, 2) := by decide +kernel
theorem dX9_about_86 : decode cX9_about 86 = .ok (.iaload, 1) := by decide +kernel
theorem dX9_about_87 : decode cX9_about 87 = .ok (.iadd, 1) := by decide +kernel
theorem dX9_about_88 : decode cX9_about 88 = .ok (.istore 4, 2) := by decide +kernel
theorem dX9_about_90 : decode cX9_about 90 = .ok (.iinc 5 1, 3) := by decide +kernel
theorem dX9_about_93 : decode cX9_about 93 = .ok (.goto (-62), 3) := by decide +kernel
theorem dX9_about_96 : decode cX9_about 96 = .ok (.aload_n 0, 1) := by decide +kernel
theorem dX9_about_97 : decode cX9_about 97 = .ok (.iload_n 2, 1) := by decide +kernel
theorem dX9_about_98 : decode cX9_about 98 = .ok (.ifCond .ne 12, 3) := by decide +kernel
theorem dX9_about_101 : decode cX9_about 101 = .ok (.aload_n 0, 1) := by decide +kernel
theorem dX9_about_102 : decode cX9_about 102 = .ok (.getfield 26, 3) := by decide +kernel
theorem dX9_about_105 : decode cX9_about 105 = .ok (.iload_n 1, 1) := by decide +kernel
theorem dX9_about_106 : decode cX9_about 106 = .ok (.iaload, 1) := by decide +kernel
theorem dX9_about_107 : decode cX9_about 107 = .ok (.goto 28, 3) := by decide +kernel
theorem dX9_about_110 : decode cX9_about 110 = .ok (.iload_n 2, 1) := by decide +kernel
theorem dX9_about_111 : decode cX9_about 111 = .ok (.iconst 1, 1) := by decide +kernel
theorem dX9_about_112 : decode cX9_about 112 = .ok (.if_icmp .ne 12, 3) := by decide +kernel
theorem dX9_about_115 : decode cX9_about 115 = .ok (.aload_n 0, 1) := by decide +kernel
theorem dX9_about_116 : decode cX9_about 116 = .ok (.getfield 29, 3) := by decide +kernel
theorem dX9_about_119 : decode cX9_about 119 = .ok (.iload_n 1, 1) := by decide +kernel
theorem dX9_about_120 : decode cX9_about 120 = .ok (.iaload, 1) := by decide +kernel
theorem dX9_about_121 : decode cX9_about 121 = .ok (.goto 14, 3) := by decide +kernel
theorem dX9_about_124 : decode cX9_about 124 = .ok (.iload_n 2, 1) := by decide +kernel
theorem dX9_about_125 : decode cX9_about 125 = .ok (.iconst 2, 1) := by decide +kernel
theorem dX9_about_126 : decode cX9_about 126 = .ok (.if_icmp .ne 7, 3) := by decide +kernel
theorem dX9_about_129 : decode cX9_about 129 = .ok (.iload_n 3, 1) := by decide +kernel
theorem dX9_about_130 : decode cX9_about 130 = .ok (.goto 5, 3) := by decide +kernel
theorem dX9_about_133 : decode cX9_about 133 = .ok (.iload 4, 2) := by decide +kernel
theorem dX9_about_135 : decode cX9_about 135 = .ok (.invokevirtual 96, 3) := by decide +kernel
theorem dX9_about_138 : decode cX9_about 138 = .ok (.ireturn, 1) := by decide +kernel
theorem dX9_loosen_0 : decode cX9_loosen 0 = .ok (.aload_n 0, 1) := by decide +kernel
theorem dX9_loosen_1 : decode cX9_loosen 1 = .ok (.iload_n 1, 1) := by decide +kernel
theorem dX9_loosen_2 : decode cX9_loosen 2 = .ok (.iload_n 2, 1) := by decide +kernel
theorem dX9_loosen_3 : decode cX9_loosen 3 = .ok (.invokevirtual 134, 3) := by decide +kernel
theorem dX9_loosen_6 : decode cX9_loosen 6 = .ok (.ifCond .ne 9, 3) := by decide +kernel
theorem dX9_loosen_9 : decode cX9_loosen 9 = .ok (.aload_n 0, 1) := by decide +kernel
theorem dX9_loosen_10 : decode cX9_loosen 10 = .ok (.iconst (-1), 1) := by decide +kernel
theorem dX9_loosen_11 : decode cX9_loosen 11 = .ok (.invokevirtual 96, 3) := by decide +kernel
theorem dX9_loosen_14 : decode cX9_loosen 14 = .ok (.ireturn, 1) := by decide +kernel
theorem dX9_loosen_15 : decode cX9_loosen 15 = .ok (.aload_n 0, 1) := by decide +kernel
theorem dX9_loosen_16 : decode cX9_loosen 16 = .ok (.getfield 23, 3) := by decide +kernel
theorem dX9_loosen_19 : decode cX9_loosen 19 = .ok (.bipush 40, 2) := by decide +kernel
theorem dX9_loosen_21 : decode cX9_loosen 21 = .ok (.iload_n 1, 1) := by decide +kernel
theorem dX9_loosen_22 : decode cX9_loosen 22 = .ok (.imul, 1) := by decide +kernel
theorem dX9_loosen_23 : decode cX9_loosen 23 = .ok (.iload_n 2, 1) := by decide +kernel
theorem dX9_loosen_24 : decode cX9_loosen 24 = .ok (.iadd, 1) := by decide +kernel
theorem dX9_loosen_25 : decode cX9_loosen 25 = .ok (.iaload, 1) := by decide +kernel
theorem dX9_loosen_26 : decode cX9_loosen 26 = .ok (.istore_n 3, 1) := by decide +kernel
theorem dX9_loosen_27 : decode cX9_loosen 27 = .ok (.iload_n 3, 1) := by decide +kernel
theorem dX9_loosen_28 : decode cX9_loosen 28 = .ok (.ifCond .ge 10, 3) := by decide +kernel
theorem dX9_loosen_31 : decode cX9_loosen 31 = .ok (.aload_n 0, 1) := by decide +kernel
theorem dX9_loosen_32 : decode cX9_loosen 32 = .ok (.bipush (-2), 2) := by decide +kernel
theorem dX9_loosen_34 : decode cX9_loosen 34 = .ok (.invokevirtual 96, 3) := by decide +kernel
theorem dX9_loosen_37 : decode cX9_loosen 37 = .ok (.ireturn, 1) := by decide +kernel
theorem dX9_loosen_38 : decode cX9_loosen 38 = .ok (.aload_n 0, 1) := by decide +kernel
theorem dX9_loosen_39 : decode cX9_loosen 39 = .ok (.iload_n 1, 1) := by decide +kernel
theorem dX9_loosen_40 : decode cX9_loosen 40 = .ok (.iload_n 2, 1) := by decide +kernel
theorem dX9_loosen_41 : decode cX9_loosen 41 = .ok (.iconst (-1), 1) := by decide +kernel
theorem dX9_loosen_42 : decode cX9_loosen 42 = .ok (.invokevirtual 128, 3) := by decide +kernel
theorem dX9_loosen_45 : decode cX9_loosen 45 = .ok (.aload_n 0, 1) := by decide +kernel
theorem dX9_loosen_46 : decode cX9_loosen 46 = .ok (.aload_n 0, 1) := by decide +kernel
theorem dX9_loosen_47 : decode cX9_loosen 47 = .ok (.getfield 14, 3) := by decide +kernel
theorem dX9_loosen_50 : decode cX9_loosen 50 = .ok (.iload_n 3, 1) := by decide +kernel
theorem dX9_loosen_51 : decode cX9_loosen 51 = .ok (.iaload, 1) := by decide +kernel
theorem dX9_loosen_52 : decode cX9_loosen 52 = .ok (.invokevirtual 96, 3) := by decide +kernel
theorem dX9_loosen_55 : decode cX9_loosen 55 = .ok (.ireturn, 1) := by decide +kernel
theorem dX9_hang_0 : decode cX9_hang 0 = .ok (.aload_n 0, 1) := by decide +kernel
theorem dX9_hang_1 : decode cX9_hang 1 = .ok (.iload_n 1, 1) := by decide +kernel
theorem dX9_hang_2 : decode cX9_hang 2 = .ok (.iload_n 2, 1) := by decide +kernel
theorem dX9_hang_3 : decode cX9_hang 3 = .ok (.invokevirtual 134, 3) := by decide +kernel
theorem dX9_hang_6 : decode cX9_hang 6 = .ok (.ifCond .eq 10, 3) := by decide +kernel
theorem dX9_hang_9 : decode cX9_hang 9 = .ok (.iload_n 3, 1) := by decide +kernel
theorem dX9_hang_10 : decode cX9_hang 10 = .ok (.invokestatic 90, 3) := by decide +kernel
theorem dX9_hang_13 : decode cX9_hang 13 = .ok (.ifCond .ne 9, 3) := by decide +kernel
theorem dX9_hang_16 : decode cX9_hang 16 = .ok (.aload_n 0, 1) := by decide +kernel
theorem dX9_hang_17 : decode cX9_hang 17 = .ok (.iconst (-1), 1) := by decide +kernel
theorem dX9_hang_18 : decode cX9_hang 18 = .ok (.invokevirtual 96, 3) := by decide +kernel
theorem dX9_hang_21 : decode cX9_hang 21 = .ok (.ireturn, 1) := by decide +kernel
theorem dX9_hang_22 : decode cX9_hang 22 = .ok (.aload_n 0, 1) := by decide +kernel
theorem dX9_hang_23 : decode cX9_hang 23 = .ok (.getfield 20, 3) := by decide +kernel
theorem dX9_hang_26 : decode cX9_hang 26 = .ok (.iconst 5, 1) := by decide +kernel
theorem dX9_hang_27 : decode cX9_hang 27 = .ok (.iload_n 3, 1) := by decide +kernel
theorem dX9_hang_28 : decode cX9_hang 28 = .ok (.imul, 1) := by decide +kernel
theorem dX9_hang_29 : decode cX9_hang 29 = .ok (.aload_n 0, 1) := by decide +kernel
theorem dX9_hang_30 : decode cX9_hang 30 = .ok (.getfield 26, 3) := by decide +kernel
theorem dX9_hang_33 : decode cX9_hang 33 = .ok (.iload_n 1, 1) := by decide +kernel
theorem dX9_hang_34 : decode cX9_hang 34 = .ok (.iaload, 1) := by decide +kernel
theorem dX9_hang_35 : decode cX9_hang 35 = .ok (.iadd, 1) := by decide +kernel
theorem dX9_hang_36 : decode cX9_hang 36 = .ok (.iaload, 1) := by decide +kernel
theorem dX9_hang_37 : decode cX9_hang 37 = .ok (.istore 4, 2) := by decide +kernel
theorem dX9_hang_39 : decode cX9_hang 39 = .ok (.iload 4, 2) := by decide +kernel
theorem dX9_hang_41 : decode cX9_hang 41 = .ok (.ifCond .ge 10, 3) := by decide +kernel
theorem dX9_hang_44 : decode cX9_hang 44 = .ok (.aload_n 0, 1) := by decide +kernel
theorem dX9_hang_45 : decode cX9_hang 45 = .ok (.bipush (-2), 2) := by decide +kernel
theorem dX9_hang_47 : decode cX9_hang 47 = .ok (.invokevirtual 96, 3) := by decide +kernel
theorem dX9_hang_50 : decode cX9_hang 50 = .ok (.ireturn, 1) := by decide +kernel
theorem dX9_hang_51 : decode cX9_hang 51 = .ok (.aload_n 0, 1) := by decide +kernel
theorem dX9_hang_52 : decode cX9_hang 52 = .ok (.iload_n 1, 1) := by decide +kernel
theorem dX9_hang_53 : decode cX9_hang 53 = .ok (.iload_n 2, 1) := by decide +kernel
theorem dX9_hang_54 : decode cX9_hang 54 = .ok (.iload 4, 2) := by decide +kernel
theorem dX9_hang_56 : decode cX9_hang 56 = .ok (.invokevirtual 128, 3) := by decide +kernel
theorem dX9_hang_59 : decode cX9_hang 59 = .ok (.aload_n 0, 1) := by decide +kernel
theorem dX9_hang_60 : decode cX9_hang 60 = .ok (.aload_n 0, 1) := by decide +kernel
theorem dX9_hang_61 : decode cX9_hang 61 = .ok (.getfield 14, 3) := by decide +kernel
theorem dX9_hang_64 : decode cX9_hang 64 = .ok (.iload 4, 2) := by decide +kernel
theorem dX9_hang_66 : decode cX9_hang 66 = .ok (.iaload, 1) := by decide +kernel
theorem dX9_hang_67 : decode cX9_hang 67 = .ok (.invokevirtual 96, 3) := by decide +kernel
theorem dX9_hang_70 : decode cX9_hang 70 = .ok (.ireturn, 1) := by decide +kernel
theorem dX9_fit_0 : decode cX9_fit 0 = .ok (.aload_n 0, 1) := by decide +kernel
theorem dX9_fit_1 : decode cX9_fit 1 = .ok (.iload_n 1, 1) := by decide +kernel
theorem dX9_fit_2 : decode cX9_fit 2 = .ok (.iload_n 2, 1) := by decide +kernel
theorem dX9_fit_3 : decode cX9_fit 3 = .ok (.invokevirtual 134, 3) := by decide +kernel
theorem dX9_fit_6 : decode cX9_fit 6 = .ok (.ifCond .eq 10, 3) := by decide +kernel
theorem dX9_fit_9 : decode cX9_fit 9 = .ok (.iload_n 3, 1) := by decide +kernel
theorem dX9_fit_10 : decode cX9_fit 10 = .ok (.invokestatic 90, 3) := by decide +kernel
theorem dX9_fit_13 : decode cX9_fit 13 = .ok (.ifCond .ne 9, 3) := by decide +kernel
theorem dX9_fit_16 : decode cX9_fit 16 = .ok (.aload_n 0, 1) := by decide +kernel
theorem dX9_fit_17 : decode cX9_fit 17 = .ok (.iconst (-1), 1) := by decide +kernel
theorem dX9_fit_18 : decode cX9_fit 18 = .ok (.invokevirtual 96, 3) := by decide +kernel
theorem dX9_fit_21 : decode cX9_fit 21 = .ok (.ireturn, 1) := by decide +kernel
theorem dX9_fit_22 : decode cX9_fit 22 = .ok (.aload_n 0, 1) := by decide +kernel
theorem dX9_fit_23 : decode cX9_fit 23 = .ok (.getfield 23, 3) := by decide +kernel
theorem dX9_fit_26 : decode cX9_fit 26 = .ok (.bipush 40, 2) := by decide +kernel
theorem dX9_fit_28 : decode cX9_fit 28 = .ok (.iload_n 1, 1) := by decide +kernel
theorem dX9_fit_29 : decode cX9_fit 29 = .ok (.imul, 1) := by decide +kernel
theorem dX9_fit_30 : decode cX9_fit 30 = .ok (.iload_n 2, 1) := by decide +kernel
theorem dX9_fit_31 : decode cX9_fit 31 = .ok (.iadd, 1) := by decide +kernel
theorem dX9_fit_32 : decode cX9_fit 32 = .ok (.iaload, 1) := by decide +kernel
theorem dX9_fit_33 : decode cX9_fit 33 = .ok (.istore 4, 2) := by decide +kernel
theorem dX9_fit_35 : decode cX9_fit 35 = .ok (.iload 4, 2) := by decide +kernel
theorem dX9_fit_37 : decode cX9_fit 37 = .ok (.ifCond .ge 10, 3) := by decide +kernel
theorem dX9_fit_40 : decode cX9_fit 40 = .ok (.aload_n 0, 1) := by decide +kernel
theorem dX9_fit_41 : decode cX9_fit 41 = .ok (.bipush (-2), 2) := by decide +kernel
theorem dX9_fit_43 : decode cX9_fit 43 = .ok (.invokevirtual 96, 3) := by decide +kernel
theorem dX9_fit_46 : decode cX9_fit 46 = .ok (.ireturn, 1) := by decide +kernel
theorem dX9_fit_47 : decode cX9_fit 47 = .ok (.aload_n 0, 1) := by decide +kernel
theorem dX9_fit_48 : decode cX9_fit 48 = .ok (.iload_n 3, 1) := by decide +kernel
theorem dX9_fit_49 : decode cX9_fit 49 = .ok (.aload_n 0, 1) := by decide +kernel
theorem dX9_fit_50 : decode cX9_fit 50 = .ok (.getfield 26, 3) := by decide +kernel
theorem dX9_fit_53 : decode cX9_fit 53 = .ok (.iload_n 1, 1) := by decide +kernel
theorem dX9_fit_54 : decode cX9_fit 54 = .ok (.iaload, 1) := by decide +kernel
theorem dX9_fit_55 : decode cX9_fit 55 = .ok (.iload 4, 2) := by decide +kernel
theorem dX9_fit_57 : decode cX9_fit 57 = .ok (.invokevirtual 103, 3) := by decide +kernel
theorem dX9_fit_60 : decode cX9_fit 60 = .ok (.aload_n 0, 1) := by decide +kernel
theorem dX9_fit_61 : decode cX9_fit 61 = .ok (.aload_n 0, 1) := by decide +kernel
theorem dX9_fit_62 : decode cX9_fit 62 = .ok (.getfield 14, 3) := by decide +kernel
theorem dX9_fit_65 : decode cX9_fit 65 = .ok (.iload 4, 2) := by decide +kernel
theorem dX9_fit_67 : decode cX9_fit 67 = .ok (.iaload, 1) := by decide +kernel
theorem dX9_fit_68 : decode cX9_fit 68 = .ok (.invokevirtual 96, 3) := by decide +kernel
theorem dX9_fit_71 : decode cX9_fit 71 = .ok (.ireturn, 1) := by decide +kernel
theorem dX9_cell_0 : decode cX9_cell 0 = .ok (.aload_n 0, 1) := by decide +kernel
theorem dX9_cell_1 : decode cX9_cell 1 = .ok (.iload_n 1, 1) := by decide +kernel
theorem dX9_cell_2 : decode cX9_cell 2 = .ok (.iload_n 2, 1) := by decide +kernel
theorem dX9_cell_3 : decode cX9_cell 3 = .ok (.invokevirtual 134, 3) := by decide +kernel
theorem dX9_cell_6 : decode cX9_cell 6 = .ok (.ifCond .ne 10, 3) := by decide +kernel
theorem dX9_cell_9 : decode cX9_cell 9 = .ok (.aload_n 0, 1) := by decide +kernel
theorem dX9_cell_10 : decode cX9_cell 10 = .ok (.iconst (-1), 1) := by decide +kernel
theorem dX9_cell_11 : decode cX9_cell 11 = .ok (.putfield 54, 3) := by decide +kernel
theorem dX9_cell_14 : decode cX9_cell 14 = .ok (.iconst 0, 1) := by decide +kernel
theorem dX9_cell_15 : decode cX9_cell 15 = .ok (.ireturn, 1) := by decide +kernel
theorem dX9_cell_16 : decode cX9_cell 16 = .ok (.aload_n 0, 1) := by decide +kernel
theorem dX9_cell_17 : decode cX9_cell 17 = .ok (.aload_n 0, 1) := by decide +kernel
theorem dX9_cell_18 : decode cX9_cell 18 = .ok (.getfield 23, 3) := by decide +kernel
theorem dX9_cell_21 : decode cX9_cell 21 = .ok (.bipush 40, 2) := by decide +kernel
theorem dX9_cell_23 : decode cX9_cell 23 = .ok (.iload_n 1, 1) := by decide +kernel
theorem dX9_cell_24 : decode cX9_cell 24 = .ok (.imul, 1) := by decide +kernel
theorem dX9_cell_25 : decode cX9_cell 25 = .ok (.iload_n 2, 1) := by decide +kernel
theorem dX9_cell_26 : decode cX9_cell 26 = .ok (.iadd, 1) := by decide +kernel
theorem dX9_cell_27 : decode cX9_cell 27 = .ok (.iaload, 1) := by decide +kernel
theorem dX9_cell_28 : decode cX9_cell 28 = .ok (.iload_n 3, 1) := by decide +kernel
theorem dX9_cell_29 : decode cX9_cell 29 = .ok (.invokevirtual 107, 3) := by decide +kernel
theorem dX9_cell_32 : decode cX9_cell 32 = .ok (.ireturn, 1) := by decide +kernel
theorem dX9_set_0 : decode cX9_set 0 = .ok (.aload_n 0, 1) := by decide +kernel
theorem dX9_set_1 : decode cX9_set 1 = .ok (.iload_n 1, 1) := by decide +kernel
theorem dX9_set_2 : decode cX9_set 2 = .ok (.iload_n 2, 1) := by decide +kernel
theorem dX9_set_3 : decode cX9_set 3 = .ok (.invokevirtual 134, 3) := by decide +kernel
theorem dX9_set_6 : decode cX9_set 6 = .ok (.ifCond .ne 9, 3) := by decide +kernel
theorem dX9_set_9 : decode cX9_set 9 = .ok (.aload_n 0, 1) := by decide +kernel
theorem dX9_set_10 : decode cX9_set 10 = .ok (.iconst (-1), 1) := by decide +kernel
theorem dX9_set_11 : decode cX9_set 11 = .ok (.invokevirtual 96, 3) := by decide +kernel
theorem dX9_set_14 : decode cX9_set 14 = .ok (.ireturn, 1) := by decide +kernel
theorem dX9_set_15 : decode cX9_set 15 = .ok (.aload_n 0, 1) := by decide +kernel
theorem dX9_set_16 : decode cX9_set 16 = .ok (.aload_n 0, 1) := by decide +kernel
theorem dX9_set_17 : decode cX9_set 17 = .ok (.aload_n 0, 1) := by decide +kernel
theorem dX9_set_18 : decode cX9_set 18 = .ok (.getfield 26, 3) := by decide +kernel
theorem dX9_set_21 : decode cX9_set 21 = .ok (.iload_n 1, 1) := by decide +kernel
theorem dX9_set_22 : decode cX9_set 22 = .ok (.iaload, 1) := by decide +kernel
theorem dX9_set_23 : decode cX9_set 23 = .ok (.aload_n 0, 1) := by decide +kernel
theorem dX9_set_24 : decode cX9_set 24 = .ok (.getfield 23, 3) := by decide +kernel
theorem dX9_set_27 : decode cX9_set 27 = .ok (.bipush 40, 2) := by decide +kernel
theorem dX9_set_29 : decode cX9_set 29 = .ok (.iload_n 1, 1) := by decide +kernel
theorem dX9_set_30 : decode cX9_set 30 = .ok (.imul, 1) := by decide +kernel
theorem dX9_set_31 : decode cX9_set 31 = .ok (.iload_n 2, 1) := by decide +kernel
theorem dX9_set_32 : decode cX9_set 32 = .ok (.iadd, 1) := by decide +kernel
theorem dX9_set_33 : decode cX9_set 33 = .ok (.iaload, 1) := by decide +kernel
theorem dX9_set_34 : decode cX9_set 34 = .ok (.iload_n 3, 1) := by decide +kernel
theorem dX9_set_35 : decode cX9_set 35 = .ok (.iload 4, 2) := by decide +kernel
theorem dX9_set_37 : decode cX9_set 37 = .ok (.invokevirtual 110, 3) := by decide +kernel
theorem dX9_set_40 : decode cX9_set 40 = .ok (.invokevirtual 96, 3) := by decide +kernel
theorem dX9_set_43 : decode cX9_set 43 = .ok (.ireturn, 1) := by decide +kernel
theorem dX9_twist_0 : decode cX9_twist 0 = .ok (.aload_n 0, 1) := by decide +kernel
theorem dX9_twist_1 : decode cX9_twist 1 = .ok (.iload_n 1, 1) := by decide +kernel
theorem dX9_twist_2 : decode cX9_twist 2 = .ok (.iload_n 2, 1) := by decide +kernel
theorem dX9_twist_3 : decode cX9_twist 3 = .ok (.invokevirtual 134, 3) := by decide +kernel
theorem dX9_twist_6 : decode cX9_twist 6 = .ok (.ifCond .ne 9, 3) := by decide +kernel
theorem dX9_twist_9 : decode cX9_twist 9 = .ok (.aload_n 0, 1) := by decide +kernel
theorem dX9_twist_10 : decode cX9_twist 10 = .ok (.iconst (-1), 1) := by decide +kernel
theorem dX9_twist_11 : decode cX9_twist 11 = .ok (.invokevirtual 96, 3) := by decide +kernel
theorem dX9_twist_14 : decode cX9_twist 14 = .ok (.ireturn, 1) := by decide +kernel
theorem dX9_twist_15 : decode cX9_twist 15 = .ok (.aload_n 0, 1) := by decide +kernel
theorem dX9_twist_16 : decode cX9_twist 16 = .ok (.aload_n 0, 1) := by decide +kernel
theorem dX9_twist_17 : decode cX9_twist 17 = .ok (.aload_n 0, 1) := by decide +kernel
theorem dX9_twist_18 : decode cX9_twist 18 = .ok (.getfield 26, 3) := by decide +kernel
theorem dX9_twist_21 : decode cX9_twist 21 = .ok (.iload_n 1, 1) := by decide +kernel
theorem dX9_twist_22 : decode cX9_twist 22 = .ok (.iaload, 1) := by decide +kernel
theorem dX9_twist_23 : decode cX9_twist 23 = .ok (.aload_n 0, 1) := by decide +kernel
theorem dX9_twist_24 : decode cX9_twist 24 = .ok (.getfield 23, 3) := by decide +kernel
theorem dX9_twist_27 : decode cX9_twist 27 = .ok (.bipush 40, 2) := by decide +kernel
theorem dX9_twist_29 : decode cX9_twist 29 = .ok (.iload_n 1, 1) := by decide +kernel
theorem dX9_twist_30 : decode cX9_twist 30 = .ok (.imul, 1) := by decide +kernel
theorem dX9_twist_31 : decode cX9_twist 31 = .ok (.iload_n 2, 1) := by decide +kernel
theorem dX9_twist_32 : decode cX9_twist 32 = .ok (.iadd, 1) := by decide +kernel
theorem dX9_twist_33 : decode cX9_twist 33 = .ok (.iaload, 1) := by decide +kernel
theorem dX9_twist_34 : decode cX9_twist 34 = .ok (.iload_n 3, 1) := by decide +kernel
theorem dX9_twist_35 : decode cX9_twist 35 = .ok (.iload 4, 2) := by decide +kernel
theorem dX9_twist_37 : decode cX9_twist 37 = .ok (.invokevirtual 114, 3) := by decide +kernel
theorem dX9_twist_40 : decode cX9_twist 40 = .ok (.invokevirtual 96, 3) := by decide +kernel
theorem dX9_twist_43 : decode cX9_twist 43 = .ok (.ireturn, 1) := by decide +kernel
theorem dX9_state_0 : decode cX9_state 0 = .ok (.aload_n 0, 1) := by decide +kernel
theorem dX9_state_1 : decode cX9_state 1 = .ok (.getfield 54, 3) := by decide +kernel
theorem dX9_state_4 : decode cX9_state 4 = .ok (.ireturn, 1) := by decide +kernel
end
section
theorem dL_law_0 : decode cL_law 0 = .ok (.new 7, 3) := by decide +kernel
theorem dL_law_3 : decode cL_law 3 = .ok (.dup, 1) := by decide +kernel
theorem dL_law_4 : decode cL_law 4 = .ok (.invokespecial 9, 3) := by decide +kernel
theorem dL_law_7 : decode cL_law 7 = .ok (.astore_n 1, 1) := by decide +kernel
theorem dL_law_8 : decode cL_law 8 = .ok (.new 10, 3) := by decide +kernel
theorem dL_law_11 : decode cL_law 11 = .ok (.dup, 1) := by decide +kernel
theorem dL_law_12 : decode cL_law 12 = .ok (.invokespecial 12, 3) := by decide +kernel
theorem dL_law_15 : decode cL_law 15 = .ok (.astore_n 2, 1) := by decide +kernel
theorem dL_law_16 : decode cL_law 16 = .ok (.iconst 0, 1) := by decide +kernel
theorem dL_law_17 : decode cL_law 17 = .ok (.istore_n 3, 1) := by decide +kernel
theorem dL_law_18 : decode cL_law 18 = .ok (.iload_n 3, 1) := by decide +kernel
theorem dL_law_19 : decode cL_law 19 = .ok (.aload_n 0, 1) := by decide +kernel
theorem dL_law_20 : decode cL_law 20 = .ok (.arraylength, 1) := by decide +kernel
theorem dL_law_21 : decode cL_law 21 = .ok (.iconst 5, 1) := by decide +kernel
theorem dL_law_22 : decode cL_law 22 = .ok (.isub, 1) := by decide +kernel
theorem dL_law_23 : decode cL_law 23 = .ok (.if_icmp .gt 929, 3) := by decide +kernel
theorem dL_law_26 : decode cL_law 26 = .ok (.aload_n 0, 1) := by decide +kernel
theorem dL_law_27 : decode cL_law 27 = .ok (.iload_n 3, 1) := by decide +kernel
theorem dL_law_28 : decode cL_law 28 = .ok (.iaload, 1) := by decide +kernel
theorem dL_law_29 : decode cL_law 29 = .ok (.bipush 31, 2) := by decide +kernel
theorem dL_law_31 : decode cL_law 31 = .ok (.iand, 1) := by decide +kernel
theorem dL_law_32 : decode cL_law 32 = .ok (.tableswitch 914 0 20 #[100, 143, 176, 219, 252, 295, 348, 401, 434, 467, 501, 524, 577, 600, 633, 666, 709, 752, 795, 848, 901], 100) := by decide +kernel
theorem dL_law_132 : decode cL_law 132 = .ok (.aload_n 1, 1) := by decide +kernel
theorem dL_law_133 : decode cL_law 133 = .ok (.aload_n 0, 1) := by decide +kernel
theorem dL_law_134 : decode cL_law 134 = .ok (.iload_n 3, 1) := by decide +kernel
theorem dL_law_135 : decode cL_law 135 = .ok (.iconst 1, 1) := by decide +kernel
theorem dL_law_136 : decode cL_law 136 = .ok (.iadd, 1) := by decide +kernel
theorem dL_law_137 : decode cL_law 137 = .ok (.iaload, 1) := by decide +kernel
theorem dL_law_138 : decode cL_law 138 = .ok (.aload_n 0, 1) := by decide +kernel
theorem dL_law_139 : decode cL_law 139 = .ok (.iload_n 3, 1) := by decide +kernel
theorem dL_law_140 : decode cL_law 140 = .ok (.iconst 2, 1) := by decide +kernel
theorem dL_law_141 : decode cL_law 141 = .ok (.iadd, 1) := by decide +kernel
theorem dL_law_142 : decode cL_law 142 = .ok (.iaload, 1) := by decide +kernel
theorem dL_law_143 : decode cL_law 143 = .ok (.aload_n 0, 1) := by decide +kernel
theorem dL_law_144 : decode cL_law 144 = .ok (.iload_n 3, 1) := by decide +kernel
theorem dL_law_145 : decode cL_law 145 = .ok (.iconst 3, 1) := by decide +kernel
theorem dL_law_146 : decode cL_law 146 = .ok (.iadd, 1) := by decide +kernel
theorem dL_law_147 : decode cL_law 147 = .ok (.iaload, 1) := by decide +kernel
theorem dL_law_148 : decode cL_law 148 = .ok (.invokevirtual 13, 3) := by decide +kernel
theorem dL_law_151 : decode cL_law 151 = .ok (.aload_n 2, 1) := by decide +kernel
theorem dL_law_152 : decode cL_law 152 = .ok (.aload_n 0, 1) := by decide +kernel
theorem dL_law_153 : decode cL_law 153 = .ok (.iload_n 3, 1) := by decide +kernel
theorem dL_law_154 : decode cL_law 154 = .ok (.iconst 1, 1) := by decide +kernel
theorem dL_law_155 : decode cL_law 155 = .ok (.iadd, 1) := by decide +kernel
theorem dL_law_156 : decode cL_law 156 = .ok (.iaload, 1) := by decide +kernel
theorem dL_law_157 : decode cL_law 157 = .ok (.aload_n 0, 1) := by decide +kernel
theorem dL_law_158 : decode cL_law 158 = .ok (.iload_n 3, 1) := by decide +kernel
theorem dL_law_159 : decode cL_law 159 = .ok (.iconst 2, 1) := by decide +kernel
theorem dL_law_160 : decode cL_law 160 = .ok (.iadd, 1) := by decide +kernel
theorem dL_law_161 : decode cL_law 161 = .ok (.iaload, 1) := by decide +kernel
theorem dL_law_162 : decode cL_law 162 = .ok (.aload_n 0, 1) := by decide +kernel
theorem dL_law_163 : decode cL_law 163 = .ok (.iload_n 3, 1) := by decide +kernel
theorem dL_law_164 : decode cL_law 164 = .ok (.iconst 3, 1) := by decide +kernel
theorem dL_law_165 : decode cL_law 165 = .ok (.iadd, 1) := by decide +kernel
theorem dL_law_166 : decode cL_law 166 = .ok (.iaload, 1) := by decide +kernel
theorem dL_law_167 : decode cL_law 167 = .ok (.invokevirtual 17, 3) := by decide +kernel
theorem dL_law_170 : decode cL_law 170 = .ok (.if_icmp .eq 776, 3) := by decide +kernel
theorem dL_law_173 : decode cL_law 173 = .ok (.iconst 0, 1) := by decide +kernel
theorem dL_law_174 : decode cL_law 174 = .ok (.ireturn, 1) := by decide +kernel
theorem dL_law_175 : decode cL_law 175 = .ok (.aload_n 1, 1) := by decide +kernel
theorem dL_law_176 : decode cL_law 176 = .ok (.aload_n 0, 1) := by decide +kernel
theorem dL_law_177 : decode cL_law 177 = .ok (.iload_n 3, 1) := by decide +kernel
theorem dL_law_178 : decode cL_law 178 = .ok (.iconst 1, 1) := by decide +kernel
theorem dL_law_179 : decode cL_law 179 = .ok (.iadd, 1) := by decide +kernel
theorem dL_law_180 : decode cL_law 180 = .ok (.iaload, 1) := by decide +kernel
theorem dL_law_181 : decode cL_law 181 = .ok (.aload_n 0, 1) := by decide +kernel
theorem dL_law_182 : decode cL_law 182 = .ok (.iload_n 3, 1) := by decide +kernel
theorem dL_law_183 : decode cL_law 183 = .ok (.iconst 2, 1) := by decide +kernel
theorem dL_law_184 : decode cL_law 184 = .ok (.iadd, 1) := by decide +kernel
theorem dL_law_185 : decode cL_law 185 = .ok (.iaload, 1) := by decide +kernel
theorem dL_law_186 : decode cL_law 186 = .ok (.invokevirtual 18, 3) := by decide +kernel
theorem dL_law_189 : decode cL_law 189 = .ok (.aload_n 2, 1) := by decide +kernel
theorem dL_law_190 : decode cL_law 190 = .ok (.aload_n 0, 1) := by decide +kernel
theorem dL_law_191 : decode cL_law 191 = .ok (.iload_n 3, 1) := by decide +kernel
theorem dL_law_192 : decode cL_law 192 = .ok (.iconst 1, 1) := by decide +kernel
theorem dL_law_193 : decode cL_law 193 = .ok (.iadd, 1) := by decide +kernel
theorem dL_law_194 : decode cL_law 194 = .ok (.iaload, 1) := by decide +kernel
theorem dL_law_195 : decode cL_law 195 = .ok (.aload_n 0, 1) := by decide +kernel
theorem dL_law_196 : decode cL_law 196 = .ok (.iload_n 3, 1) := by decide +kernel
theorem dL_law_197 : decode cL_law 197 = .ok (.iconst 2, 1) := by decide +kernel
theorem dL_law_198 : decode cL_law 198 = .ok (.iadd, 1) := by decide +kernel
theorem dL_law_199 : decode cL_law 199 = .ok (.iaload, 1) := by decide +kernel
theorem dL_law_200 : decode cL_law 200 = .ok (.invokevirtual 22, 3) := by decide +kernel
theorem dL_law_203 : decode cL_law 203 = .ok (.if_icmp .eq 743, 3) := by decide +kernel
theorem dL_law_206 : decode cL_law 206 = .ok (.iconst 0, 1) := by decide +kernel
theorem dL_law_207 : decode cL_law 207 = .ok (.ireturn, 1) := by decide +kernel
theorem dL_law_208 : decode cL_law 208 = .ok (.aload_n 1, 1) := by decide +kernel
theorem dL_law_209 : decode cL_law 209 = .ok (.aload_n 0, 1) := by decide +kernel
theorem dL_law_210 : decode cL_law 210 = .ok (.iload_n 3, 1) := by decide +kernel
theorem dL_law_211 : decode cL_law 211 = .ok (.iconst 1, 1) := by decide +kernel
theorem dL_law_212 : decode cL_law 212 = .ok (.iadd, 1) := by decide +kernel
theorem dL_law_213 : decode cL_law 213 = .ok (.iaload, 1) := by decide +kernel
theorem dL_law_214 : decode cL_law 214 = .ok (.aload_n 0, 1) := by decide +kernel
theorem dL_law_215 : decode cL_law 215 = .ok (.iload_n 3, 1) := by decide +kernel
theorem dL_law_216 : decode cL_law 216 = .ok (.iconst 2, 1) := by decide +kernel
theorem dL_law_217 : decode cL_law 217 = .ok (.iadd, 1) := by decide +kernel
theorem dL_law_218 : decode cL_law 218 = .ok (.iaload, 1) := by decide +kernel
theorem dL_law_219 : decode cL_law 219 = .ok (.aload_n 0, 1) := by decide +kernel
theorem dL_law_220 : decode cL_law 220 = .ok (.iload_n 3, 1) := by decide +kernel
theorem dL_law_221 : decode cL_law 221 = .ok (.iconst 3, 1) := by decide +kernel
theorem dL_law_222 : decode cL_law 222 = .ok (.iadd, 1) := by decide +kernel
theorem dL_law_223 : decode cL_law 223 = .ok (.iaload, 1) := by decide +kernel
theorem dL_law_224 : decode cL_law 224 = .ok (.invokevirtual 23, 3) := by decide +kernel
theorem dL_law_227 : decode cL_law 227 = .ok (.aload_n 2, 1) := by decide +kernel
theorem dL_law_228 : decode cL_law 228 = .ok (.aload_n 0, 1) := by decide +kernel
theorem dL_law_229 : decode cL_law 229 = .ok (.iload_n 3, 1) := by decide +kernel
theorem dL_law_230 : decode cL_law 230 = .ok (.iconst 1, 1) := by decide +kernel
theorem dL_law_231 : decode cL_law 231 = .ok (.iadd, 1) := by decide +kernel
theorem dL_law_232 : decode cL_law 232 = .ok (.iaload, 1) := by decide +kernel
theorem dL_law_233 : decode cL_law 233 = .ok (.aload_n 0, 1) := by decide +kernel
theorem dL_law_234 : decode cL_law 234 = .ok (.iload_n 3, 1) := by decide +kernel
theorem dL_law_235 : decode cL_law 235 = .ok (.iconst 2, 1) := by decide +kernel
theorem dL_law_236 : decode cL_law 236 = .ok (.iadd, 1) := by decide +kernel
theorem dL_law_237 : decode cL_law 237 = .ok (.iaload, 1) := by decide +kernel
theorem dL_law_238 : decode cL_law 238 = .ok (.aload_n 0, 1) := by decide +kernel
theorem dL_law_239 : decode cL_law 239 = .ok (.iload_n 3, 1) := by decide +kernel
theorem dL_law_240 : decode cL_law 240 = .ok (.iconst 3, 1) := by decide +kernel
theorem dL_law_241 : decode cL_law 241 = .ok (.iadd, 1) := by decide +kernel
theorem dL_law_242 : decode cL_law 242 = .ok (.iaload, 1) := by decide +kernel
theorem dL_law_243 : decode cL_law 243 = .ok (.invokevirtual 26, 3) := by decide +kernel
theorem dL_law_246 : decode cL_law 246 = .ok (.if_icmp .eq 700, 3) := by decide +kernel
theorem dL_law_249 : decode cL_law 249 = .ok (.iconst 0, 1) := by decide +kernel
theorem dL_law_250 : decode cL_law 250 = .ok (.ireturn, 1) := by decide +kernel
theorem dL_law_251 : decode cL_law 251 = .ok (.aload_n 1, 1) := by decide +kernel
theorem dL_law_252 : decode cL_law 252 = .ok (.aload_n 0, 1) := by decide +kernel
theorem dL_law_253 : decode cL_law 253 = .ok (.iload_n 3, 1) := by decide +kernel
theorem dL_law_254 : decode cL_law 254 = .ok (.iconst 1, 1) := by decide +kernel
theorem dL_law_255 : decode cL_law 255 = .ok (.iadd, 1) := by decide +kernel
theorem dL_law_256 : decode cL_law 256 = .ok (.iaload, 1) := by decide +kernel
theorem dL_law_257 : decode cL_law 257 = .ok (.aload_n 0, 1) := by decide +kernel
theorem dL_law_258 : decode cL_law 258 = .ok (.iload_n 3, 1) := by decide +kernel
theorem dL_law_259 : decode cL_law 259 = .ok (.iconst 2, 1) := by decide +kernel
theorem dL_law_260 : decode cL_law 260 = .ok (.iadd, 1) := by decide +kernel
theorem dL_law_261 : decode cL_law 261 = .ok (.iaload, 1) := by decide +kernel
theorem dL_law_262 : decode cL_law 262 = .ok (.invokevirtual 27, 3) := by decide +kernel
theorem dL_law_265 : decode cL_law 265 = .ok (.aload_n 2, 1) := by decide +kernel
theorem dL_law_266 : decode cL_law 266 = .ok (.aload_n 0, 1) := by decide +kernel
theorem dL_law_267 : decode cL_law 267 = .ok (.iload_n 3, 1) := by decide +kernel
theorem dL_law_268 : decode cL_law 268 = .ok (.iconst 1, 1) := by decide +kernel
theorem dL_law_269 : decode cL_law 269 = .ok (.iadd, 1) := by decide +kernel
theorem dL_law_270 : decode cL_law 270 = .ok (.iaload, 1) := by decide +kernel
theorem dL_law_271 : decode cL_law 271 = .ok (.aload_n 0, 1) := by decide +kernel
theorem dL_law_272 : decode cL_law 272 = .ok (.iload_n 3, 1) := by decide +kernel
theorem dL_law_273 : decode cL_law 273 = .ok (.iconst 2, 1) := by decide +kernel
theorem dL_law_274 : decode cL_law 274 = .ok (.iadd, 1) := by decide +kernel
theorem dL_law_275 : decode cL_law 275 = .ok (.iaload, 1) := by decide +kernel
theorem dL_law_276 : decode cL_law 276 = .ok (.invokevirtual 30, 3) := by decide +kernel
theorem dL_law_279 : decode cL_law 279 = .ok (.if_icmp .eq 667, 3) := by decide +kernel
theorem dL_law_282 : decode cL_law 282 = .ok (.iconst 0, 1) := by decide +kernel
theorem dL_law_283 : decode cL_law 283 = .ok (.ireturn, 1) := by decide +kernel
theorem dL_law_284 : decode cL_law 284 = .ok (.aload_n 1, 1) := by decide +kernel
theorem dL_law_285 : decode cL_law 285 = .ok (.aload_n 0, 1) := by decide +kernel
theorem dL_law_286 : decode cL_law 286 = .ok (.iload_n 3, 1) := by decide +kernel
theorem dL_law_287 : decode cL_law 287 = .ok (.iconst 1, 1) := by decide +kernel
theorem dL_law_288 : decode cL_law 288 = .ok (.iadd, 1) := by decide +kernel
theorem dL_law_289 : decode cL_law 289 = .ok (.iaload, 1) := by decide +kernel
theorem dL_law_290 : decode cL_law 290 = .ok (.aload_n 0, 1) := by decide +kernel
theorem dL_law_291 : decode cL_law 291 = .ok (.iload_n 3, 1) := by decide +kernel
theorem dL_law_292 : decode cL_law 292 = .ok (.iconst 2, 1) := by decide +kernel
theorem dL_law_293 : decode cL_law 293 = .ok (.iadd, 1) := by decide +kernel
theorem dL_law_294 : decode cL_law 294 = .ok (.iaload, 1) := by decide +kernel
theorem dL_law_295 : decode cL_law 295 = .ok (.aload_n 0, 1) := by decide +kernel
theorem dL_law_296 : decode cL_law 296 = .ok (.iload_n 3, 1) := by decide +kernel
theorem dL_law_297 : decode cL_law 297 = .ok (.iconst 3, 1) := by decide +kernel
theorem dL_law_298 : decode cL_law 298 = .ok (.iadd, 1) := by decide +kernel
theorem dL_law_299 : decode cL_law 299 = .ok (.iaload, 1) := by decide +kernel
theorem dL_law_300 : decode cL_law 300 = .ok (.invokevirtual 31, 3) := by decide +kernel
theorem dL_law_303 : decode cL_law 303 = .ok (.aload_n 2, 1) := by decide +kernel
theorem dL_law_304 : decode cL_law 304 = .ok (.aload_n 0, 1) := by decide +kernel
theorem dL_law_305 : decode cL_law 305 = .ok (.iload_n 3, 1) := by decide +kernel
theorem dL_law_306 : decode cL_law 306 = .ok (.iconst 1, 1) := by decide +kernel
theorem dL_law_307 : decode cL_law 307 = .ok (.iadd, 1) := by decide +kernel
theorem dL_law_308 : decode cL_law 308 = .ok (.iaload, 1) := by decide +kernel
theorem dL_law_309 : decode cL_law 309 = .ok (.aload_n 0, 1) := by decide +kernel
theorem dL_law_310 : decode cL_law 310 = .ok (.iload_n 3, 1) := by decide +kernel
theorem dL_law_311 : decode cL_law 311 = .ok (.iconst 2, 1) := by decide +kernel
theorem dL_law_312 : decode cL_law 312 = .ok (.iadd, 1) := by decide +kernel
theorem dL_law_313 : decode cL_law 313 = .ok (.iaload, 1) := by decide +kernel
theorem dL_law_314 : decode cL_law 314 = .ok (.aload_n 0, 1) := by decide +kernel
theorem dL_law_315 : decode cL_law 315 = .ok (.iload_n 3, 1) := by decide +kernel
theorem dL_law_316 : decode cL_law 316 = .ok (.iconst 3, 1) := by decide +kernel
theorem dL_law_317 : decode cL_law 317 = .ok (.iadd, 1) := by decide +kernel
theorem dL_law_318 : decode cL_law 318 = .ok (.iaload, 1) := by decide +kernel
theorem dL_law_319 : decode cL_law 319 = .ok (.invokevirtual 34, 3) := by decide +kernel
theorem dL_law_322 : decode cL_law 322 = .ok (.if_icmp .eq 624, 3) := by decide +kernel
theorem dL_law_325 : decode cL_law 325 = .ok (.iconst 0, 1) := by decide +kernel
theorem dL_law_326 : decode cL_law 326 = .ok (.ireturn, 1) := by decide +kernel
theorem dL_law_327 : decode cL_law 327 = .ok (.aload_n 1, 1) := by decide +kernel
theorem dL_law_328 : decode cL_law 328 = .ok (.aload_n 0, 1) := by decide +kernel
theorem dL_law_329 : decode cL_law 329 = .ok (.iload_n 3, 1) := by decide +kernel
theorem dL_law_330 : decode cL_law 330 = .ok (.iconst 1, 1) := by decide +kernel
theorem dL_law_331 : decode cL_law 331 = .ok (.iadd, 1) := by decide +kernel
theorem dL_law_332 : decode cL_law 332 = .ok (.iaload, 1) := by decide +kernel
theorem dL_law_333 : decode cL_law 333 = .ok (.aload_n 0, 1) := by decide +kernel
theorem dL_law_334 : decode cL_law 334 = .ok (.iload_n 3, 1) := by decide +kernel
theorem dL_law_335 : decode cL_law 335 = .ok (.iconst 2, 1) := by decide +kernel
theorem dL_law_336 : decode cL_law 336 = .ok (.iadd, 1) := by decide +kernel
theorem dL_law_337 : decode cL_law 337 = .ok (.iaload, 1) := by decide +kernel
theorem dL_law_338 : decode cL_law 338 = .ok (.aload_n 0, 1) := by decide +kernel
theorem dL_law_339 : decode cL_law 339 = .ok (.iload_n 3, 1) := by decide +kernel
theorem dL_law_340 : decode cL_law 340 = .ok (.iconst 3, 1) := by decide +kernel
theorem dL_law_341 : decode cL_law 341 = .ok (.iadd, 1) := by decide +kernel
theorem dL_law_342 : decode cL_law 342 = .ok (.iaload, 1) := by decide +kernel
theorem dL_law_343 : decode cL_law 343 = .ok (.aload_n 0, 1) := by decide +kernel
theorem dL_law_344 : decode cL_law 344 = .ok (.iload_n 3, 1) := by decide +kernel
theorem dL_law_345 : decode cL_law 345 = .ok (.iconst 4, 1) := by decide +kernel
theorem dL_law_346 : decode cL_law 346 = .ok (.iadd, 1) := by decide +kernel
theorem dL_law_347 : decode cL_law 347 = .ok (.iaload, 1) := by decide +kernel
theorem dL_law_348 : decode cL_law 348 = .ok (.invokevirtual 35, 3) := by decide +kernel
theorem dL_law_351 : decode cL_law 351 = .ok (.aload_n 2, 1) := by decide +kernel
theorem dL_law_352 : decode cL_law 352 = .ok (.aload_n 0, 1) := by decide +kernel
theorem dL_law_353 : decode cL_law 353 = .ok (.iload_n 3, 1) := by decide +kernel
theorem dL_law_354 : decode cL_law 354 = .ok (.iconst 1, 1) := by decide +kernel
theorem dL_law_355 : decode cL_law 355 = .ok (.iadd, 1) := by decide +kernel
theorem dL_law_356 : decode cL_law 356 = .ok (.iaload, 1) := by decide +kernel
theorem dL_law_357 : decode cL_law 357 = .ok (.aload_n 0, 1) := by decide +kernel
theorem dL_law_358 : decode cL_law 358 = .ok (.iload_n 3, 1) := by decide +kernel
theorem dL_law_359 : decode cL_law 359 = .ok (.iconst 2, 1) := by decide +kernel
theorem dL_law_360 : decode cL_law 360 = .ok (.iadd, 1) := by decide +kernel
theorem dL_law_361 : decode cL_law 361 = .ok (.iaload, 1) := by decide +kernel
theorem dL_law_362 : decode cL_law 362 = .ok (.aload_n 0, 1) := by decide +kernel
theorem dL_law_363 : decode cL_law 363 = .ok (.iload_n 3, 1) := by decide +kernel
theorem dL_law_364 : decode cL_law 364 = .ok (.iconst 3, 1) := by decide +kernel
theorem dL_law_365 : decode cL_law 365 = .ok (.iadd, 1) := by decide +kernel
theorem dL_law_366 : decode cL_law 366 = .ok (.iaload, 1) := by decide +kernel
theorem dL_law_367 : decode cL_law 367 = .ok (.aload_n 0, 1) := by decide +kernel
theorem dL_law_368 : decode cL_law 368 = .ok (.iload_n 3, 1) := by decide +kernel
theorem dL_law_369 : decode cL_law 369 = .ok (.iconst 4, 1) := by decide +kernel
theorem dL_law_370 : decode cL_law 370 = .ok (.iadd, 1) := by decide +kernel
theorem dL_law_371 : decode cL_law 371 = .ok (.iaload, 1) := by decide +kernel
theorem dL_law_372 : decode cL_law 372 = .ok (.invokevirtual 39, 3) := by decide +kernel
theorem dL_law_375 : decode cL_law 375 = .ok (.if_icmp .eq 571, 3) := by decide +kernel
theorem dL_law_378 : decode cL_law 378 = .ok (.iconst 0, 1) := by decide +kernel
theorem dL_law_379 : decode cL_law 379 = .ok (.ireturn, 1) := by decide +kernel
theorem dL_law_380 : decode cL_law 380 = .ok (.aload_n 1, 1) := by decide +kernel
theorem dL_law_381 : decode cL_law 381 = .ok (.aload_n 0, 1) := by decide +kernel
theorem dL_law_382 : decode cL_law 382 = .ok (.iload_n 3, 1) := by decide +kernel
theorem dL_law_383 : decode cL_law 383 = .ok (.iconst 1, 1) := by decide +kernel
theorem dL_law_384 : decode cL_law 384 = .ok (.iadd, 1) := by decide +kernel
theorem dL_law_385 : decode cL_law 385 = .ok (.iaload, 1) := by decide +kernel
theorem dL_law_386 : decode cL_law 386 = .ok (.aload_n 0, 1) := by decide +kernel
theorem dL_law_387 : decode cL_law 387 = .ok (.iload_n 3, 1) := by decide +kernel
theorem dL_law_388 : decode cL_law 388 = .ok (.iconst 2, 1) := by decide +kernel
theorem dL_law_389 : decode cL_law 389 = .ok (.iadd, 1) := by decide +kernel
theorem dL_law_390 : decode cL_law 390 = .ok (.iaload, 1) := by decide +kernel
theorem dL_law_391 : decode cL_law 391 = .ok (.aload_n 0, 1) := by decide +kernel
theorem dL_law_392 : decode cL_law 392 = .ok (.iload_n 3, 1) := by decide +kernel
theorem dL_law_393 : decode cL_law 393 = .ok (.iconst 3, 1) := by decide +kernel
theorem dL_law_394 : decode cL_law 394 = .ok (.iadd, 1) := by decide +kernel
theorem dL_law_395 : decode cL_law 395 = .ok (.iaload, 1) := by decide +kernel
theorem dL_law_396 : decode cL_law 396 = .ok (.aload_n 0, 1) := by decide +kernel
theorem dL_law_397 : decode cL_law 397 = .ok (.iload_n 3, 1) := by decide +kernel
theorem dL_law_398 : decode cL_law 398 = .ok (.iconst 4, 1) := by decide +kernel
theorem dL_law_399 : decode cL_law 399 = .ok (.iadd, 1) := by decide +kernel
theorem dL_law_400 : decode cL_law 400 = .ok (.iaload, 1) := by decide +kernel
theorem dL_law_401 : decode cL_law 401 = .ok (.invokevirtual 40, 3) := by decide +kernel
theorem dL_law_404 : decode cL_law 404 = .ok (.aload_n 2, 1) := by decide +kernel
theorem dL_law_405 : decode cL_law 405 = .ok (.aload_n 0, 1) := by decide +kernel
theorem dL_law_406 : decode cL_law 406 = .ok (.iload_n 3, 1) := by decide +kernel
theorem dL_law_407 : decode cL_law 407 = .ok (.iconst 1, 1) := by decide +kernel
theorem dL_law_408 : decode cL_law 408 = .ok (.iadd, 1) := by decide +kernel
theorem dL_law_409 : decode cL_law 409 = .ok (.iaload, 1) := by decide +kernel
theorem dL_law_410 : decode cL_law 410 = .ok (.aload_n 0, 1) := by decide +kernel
theorem dL_law_411 : decode cL_law 411 = .ok (.iload_n 3, 1) := by decide +kernel
theorem dL_law_412 : decode cL_law 412 = .ok (.iconst 2, 1) := by decide +kernel
theorem dL_law_413 : decode cL_law 413 = .ok (.iadd, 1) := by decide +kernel
theorem dL_law_414 : decode cL_law 414 = .ok (.iaload, 1) := by decide +kernel
theorem dL_law_415 : decode cL_law 415 = .ok (.aload_n 0, 1) := by decide +kernel
theorem dL_law_416 : decode cL_law 416 = .ok (.iload_n 3, 1) := by decide +kernel
theorem dL_law_417 : decode cL_law 417 = .ok (.iconst 3, 1) := by decide +kernel
theorem dL_law_418 : decode cL_law 418 = .ok (.iadd, 1) := by decide +kernel
theorem dL_law_419 : decode cL_law 419 = .ok (.iaload, 1) := by decide +kernel
theorem dL_law_420 : decode cL_law 420 = .ok (.aload_n 0, 1) := by decide +kernel
theorem dL_law_421 : decode cL_law 421 = .ok (.iload_n 3, 1) := by decide +kernel
theorem dL_law_422 : decode cL_law 422 = .ok (.iconst 4, 1) := by decide +kernel
theorem dL_law_423 : decode cL_law 423 = .ok (.iadd, 1) := by decide +kernel
theorem dL_law_424 : decode cL_law 424 = .ok (.iaload, 1) := by decide +kernel
theorem dL_law_425 : decode cL_law 425 = .ok (.invokevirtual 43, 3) := by decide +kernel
theorem dL_law_428 : decode cL_law 428 = .ok (.if_icmp .eq 518, 3) := by decide +kernel
theorem dL_law_431 : decode cL_law 431 = .ok (.iconst 0, 1) := by decide +kernel
theorem dL_law_432 : decode cL_law 432 = .ok (.ireturn, 1) := by decide +kernel
theorem dL_law_433 : decode cL_law 433 = .ok (.aload_n 1, 1) := by decide +kernel
theorem dL_law_434 : decode cL_law 434 = .ok (.aload_n 0, 1) := by decide +kernel
theorem dL_law_435 : decode cL_law 435 = .ok (.iload_n 3, 1) := by decide +kernel
theorem dL_law_436 : decode cL_law 436 = .ok (.iconst 1, 1) := by decide +kernel
theorem dL_law_437 : decode cL_law 437 = .ok (.iadd, 1) := by decide +kernel
theorem dL_law_438 : decode cL_law 438 = .ok (.iaload, 1) := by decide +kernel
theorem dL_law_439 : decode cL_law 439 = .ok (.aload_n 0, 1) := by decide +kernel
theorem dL_law_440 : decode cL_law 440 = .ok (.iload_n 3, 1) := by decide +kernel
theorem dL_law_441 : decode cL_law 441 = .ok (.iconst 2, 1) := by decide +kernel
theorem dL_law_442 : decode cL_law 442 = .ok (.iadd, 1) := by decide +kernel
theorem dL_law_443 : decode cL_law 443 = .ok (.iaload, 1) := by decide +kernel
theorem dL_law_444 : decode cL_law 444 = .ok (.invokevirtual 44, 3) := by decide +kernel
theorem dL_law_447 : decode cL_law 447 = .ok (.aload_n 2, 1) := by decide +kernel
theorem dL_law_448 : decode cL_law 448 = .ok (.aload_n 0, 1) := by decide +kernel
theorem dL_law_449 : decode cL_law 449 = .ok (.iload_n 3, 1) := by decide +kernel
theorem dL_law_450 : decode cL_law 450 = .ok (.iconst 1, 1) := by decide +kernel
theorem dL_law_451 : decode cL_law 451 = .ok (.iadd, 1) := by decide +kernel
theorem dL_law_452 : decode cL_law 452 = .ok (.iaload, 1) := by decide +kernel
theorem dL_law_453 : decode cL_law 453 = .ok (.aload_n 0, 1) := by decide +kernel
theorem dL_law_454 : decode cL_law 454 = .ok (.iload_n 3, 1) := by decide +kernel
theorem dL_law_455 : decode cL_law 455 = .ok (.iconst 2, 1) := by decide +kernel
theorem dL_law_456 : decode cL_law 456 = .ok (.iadd, 1) := by decide +kernel
theorem dL_law_457 : decode cL_law 457 = .ok (.iaload, 1) := by decide +kernel
theorem dL_law_458 : decode cL_law 458 = .ok (.invokevirtual 47, 3) := by decide +kernel
theorem dL_law_461 : decode cL_law 461 = .ok (.if_icmp .eq 485, 3) := by decide +kernel
theorem dL_law_464 : decode cL_law 464 = .ok (.iconst 0, 1) := by decide +kernel
theorem dL_law_465 : decode cL_law 465 = .ok (.ireturn, 1) := by decide +kernel
theorem dL_law_466 : decode cL_law 466 = .ok (.aload_n 1, 1) := by decide +kernel
theorem dL_law_467 : decode cL_law 467 = .ok (.aload_n 0, 1) := by decide +kernel
theorem dL_law_468 : decode cL_law 468 = .ok (.iload_n 3, 1) := by decide +kernel
theorem dL_law_469 : decode cL_law 469 = .ok (.iconst 1, 1) := by decide +kernel
theorem dL_law_470 : decode cL_law 470 = .ok (.iadd, 1) := by decide +kernel
theorem dL_law_471 : decode cL_law 471 = .ok (.iaload, 1) := by decide +kernel
theorem dL_law_472 : decode cL_law 472 = .ok (.aload_n 0, 1) := by decide +kernel
theorem dL_law_473 : decode cL_law 473 = .ok (.iload_n 3, 1) := by decide +kernel
theorem dL_law_474 : decode cL_law 474 = .ok (.iconst 2, 1) := by decide +kernel
theorem dL_law_475 : decode cL_law 475 = .ok (.iadd, 1) := by decide +kernel
theorem dL_law_476 : decode cL_law 476 = .ok (.iaload, 1) := by decide +kernel
theorem dL_law_477 : decode cL_law 477 = .ok (.invokevirtual 48, 3) := by decide +kernel
theorem dL_law_480 : decode cL_law 480 = .ok (.aload_n 2, 1) := by decide +kernel
theorem dL_law_481 : decode cL_law 481 = .ok (.aload_n 0, 1) := by decide +kernel
theorem dL_law_482 : decode cL_law 482 = .ok (.iload_n 3, 1) := by decide +kernel
theorem dL_law_483 : decode cL_law 483 = .ok (.iconst 1, 1) := by decide +kernel
theorem dL_law_484 : decode cL_law 484 = .ok (.iadd, 1) := by decide +kernel
theorem dL_law_485 : decode cL_law 485 = .ok (.iaload, 1) := by decide +kernel
theorem dL_law_486 : decode cL_law 486 = .ok (.aload_n 0, 1) := by decide +kernel
theorem dL_law_487 : decode cL_law 487 = .ok (.iload_n 3, 1) := by decide +kernel
theorem dL_law_488 : decode cL_law 488 = .ok (.iconst 2, 1) := by decide +kernel
theorem dL_law_489 : decode cL_law 489 = .ok (.iadd, 1) := by decide +kernel
theorem dL_law_490 : decode cL_law 490 = .ok (.iaload, 1) := by decide +kernel
theorem dL_law_491 : decode cL_law 491 = .ok (.invokevirtual 51, 3) := by decide +kernel
theorem dL_law_494 : decode cL_law 494 = .ok (.if_icmp .eq 452, 3) := by decide +kernel
theorem dL_law_497 : decode cL_law 497 = .ok (.iconst 0, 1) := by decide +kernel
theorem dL_law_498 : decode cL_law 498 = .ok (.ireturn, 1) := by decide +kernel
theorem dL_law_499 : decode cL_law 499 = .ok (.aload_n 1, 1) := by decide +kernel
theorem dL_law_500 : decode cL_law 500 = .ok (.aload_n 0, 1) := by decide +kernel
theorem dL_law_501 : decode cL_law 501 = .ok (.iload_n 3, 1) := by decide +kernel
theorem dL_law_502 : decode cL_law 502 = .ok (.iconst 1, 1) := by decide +kernel
theorem dL_law_503 : decode cL_law 503 = .ok (.iadd, 1) := by decide +kernel
theorem dL_law_504 : decode cL_law 504 = .ok (.iaload, 1) := by decide +kernel
theorem dL_law_505 : decode cL_law 505 = .ok (.aload_n 0, 1) := by decide +kernel
theorem dL_law_506 : decode cL_law 506 = .ok (.iload_n 3, 1) := by decide +kernel
theorem dL_law_507 : decode cL_law 507 = .ok (.iconst 2, 1) := by decide +kernel
theorem dL_law_508 : decode cL_law 508 = .ok (.iadd, 1) := by decide +kernel
theorem dL_law_509 : decode cL_law 509 = .ok (.iaload, 1) := by decide +kernel
theorem dL_law_510 : decode cL_law 510 = .ok (.invokevirtual 52, 3) := by decide +kernel
theorem dL_law_513 : decode cL_law 513 = .ok (.aload_n 2, 1) := by decide +kernel
theorem dL_law_514 : decode cL_law 514 = .ok (.aload_n 0, 1) := by decide +kernel
theorem dL_law_515 : decode cL_law 515 = .ok (.iload_n 3, 1) := by decide +kernel
theorem dL_law_516 : decode cL_law 516 = .ok (.iconst 1, 1) := by decide +kernel
theorem dL_law_517 : decode cL_law 517 = .ok (.iadd, 1) := by decide +kernel
theorem dL_law_518 : decode cL_law 518 = .ok (.iaload, 1) := by decide +kernel
theorem dL_law_519 : decode cL_law 519 = .ok (.aload_n 0, 1) := by decide +kernel
theorem dL_law_520 : decode cL_law 520 = .ok (.iload_n 3, 1) := by decide +kernel
theorem dL_law_521 : decode cL_law 521 = .ok (.iconst 2, 1) := by decide +kernel
theorem dL_law_522 : decode cL_law 522 = .ok (.iadd, 1) := by decide +kernel
theorem dL_law_523 : decode cL_law 523 = .ok (.iaload, 1) := by decide +kernel
theorem dL_law_524 : decode cL_law 524 = .ok (.invokevirtual 56, 3) := by decide +kernel
theorem dL_law_527 : decode cL_law 527 = .ok (.lcmp, 1) := by decide +kernel
theorem dL_law_528 : decode cL_law 528 = .ok (.ifCond .eq 418, 3) := by decide +kernel
theorem dL_law_531 : decode cL_law 531 = .ok (.iconst 0, 1) := by decide +kernel
theorem dL_law_532 : decode cL_law 532 = .ok (.ireturn, 1) := by decide +kernel
theorem dL_law_533 : decode cL_law 533 = .ok (.aload_n 1, 1) := by decide +kernel
theorem dL_law_534 : decode cL_law 534 = .ok (.aload_n 0, 1) := by decide +kernel
theorem dL_law_535 : decode cL_law 535 = .ok (.iload_n 3, 1) := by decide +kernel
theorem dL_law_536 : decode cL_law 536 = .ok (.iconst 1, 1) := by decide +kernel
theorem dL_law_537 : decode cL_law 537 = .ok (.iadd, 1) := by decide +kernel
theorem dL_law_538 : decode cL_law 538 = .ok (.iaload, 1) := by decide +kernel
theorem dL_law_539 : decode cL_law 539 = .ok (.invokevirtual 57, 3) := by decide +kernel
theorem dL_law_542 : decode cL_law 542 = .ok (.aload_n 2, 1) := by decide +kernel
theorem dL_law_543 : decode cL_law 543 = .ok (.aload_n 0, 1) := by decide +kernel
theorem dL_law_544 : decode cL_law 544 = .ok (.iload_n 3, 1) := by decide +kernel
theorem dL_law_545 : decode cL_law 545 = .ok (.iconst 1, 1) := by decide +kernel
theorem dL_law_546 : decode cL_law 546 = .ok (.iadd, 1) := by decide +kernel
theorem dL_law_547 : decode cL_law 547 = .ok (.iaload, 1) := by decide +kernel
theorem dL_law_548 : decode cL_law 548 = .ok (.invokevirtual 61, 3) := by decide +kernel
theorem dL_law_551 : decode cL_law 551 = .ok (.if_icmp .eq 395, 3) := by decide +kernel
theorem dL_law_554 : decode cL_law 554 = .ok (.iconst 0, 1) := by decide +kernel
theorem dL_law_555 : decode cL_law 555 = .ok (.ireturn, 1) := by decide +kernel
theorem dL_law_556 : decode cL_law 556 = .ok (.aload_n 1, 1) := by decide +kernel
theorem dL_law_557 : decode cL_law 557 = .ok (.aload_n 0, 1) := by decide +kernel
theorem dL_law_558 : decode cL_law 558 = .ok (.iload_n 3, 1) := by decide +kernel
theorem dL_law_559 : decode cL_law 559 = .ok (.iconst 1, 1) := by decide +kernel
theorem dL_law_560 : decode cL_law 560 = .ok (.iadd, 1) := by decide +kernel
theorem dL_law_561 : decode cL_law 561 = .ok (.iaload, 1) := by decide +kernel
theorem dL_law_562 : decode cL_law 562 = .ok (.aload_n 0, 1) := by decide +kernel
theorem dL_law_563 : decode cL_law 563 = .ok (.iload_n 3, 1) := by decide +kernel
theorem dL_law_564 : decode cL_law 564 = .ok (.iconst 2, 1) := by decide +kernel
theorem dL_law_565 : decode cL_law 565 = .ok (.iadd, 1) := by decide +kernel
theorem dL_law_566 : decode cL_law 566 = .ok (.iaload, 1) := by decide +kernel
theorem dL_law_567 : decode cL_law 567 = .ok (.aload_n 0, 1) := by decide +kernel
theorem dL_law_568 : decode cL_law 568 = .ok (.iload_n 3, 1) := by decide +kernel
theorem dL_law_569 : decode cL_law 569 = .ok (.iconst 3, 1) := by decide +kernel
theorem dL_law_570 : decode cL_law 570 = .ok (.iadd, 1) := by decide +kernel
theorem dL_law_571 : decode cL_law 571 = .ok (.iaload, 1) := by decide +kernel
theorem dL_law_572 : decode cL_law 572 = .ok (.aload_n 0, 1) := by decide +kernel
theorem dL_law_573 : decode cL_law 573 = .ok (.iload_n 3, 1) := by decide +kernel
theorem dL_law_574 : decode cL_law 574 = .ok (.iconst 4, 1) := by decide +kernel
theorem dL_law_575 : decode cL_law 575 = .ok (.iadd, 1) := by decide +kernel
theorem dL_law_576 : decode cL_law 576 = .ok (.iaload, 1) := by decide +kernel
theorem dL_law_577 : decode cL_law 577 = .ok (.invokevirtual 62, 3) := by decide +kernel
theorem dL_law_580 : decode cL_law 580 = .ok (.aload_n 2, 1) := by decide +kernel
theorem dL_law_581 : decode cL_law 581 = .ok (.aload_n 0, 1) := by decide +kernel
theorem dL_law_582 : decode cL_law 582 = .ok (.iload_n 3, 1) := by decide +kernel
theorem dL_law_583 : decode cL_law 583 = .ok (.iconst 1, 1) := by decide +kernel
theorem dL_law_584 : decode cL_law 584 = .ok (.iadd, 1) := by decide +kernel
theorem dL_law_585 : decode cL_law 585 = .ok (.iaload, 1) := by decide +kernel
theorem dL_law_586 : decode cL_law 586 = .ok (.aload_n 0, 1) := by decide +kernel
theorem dL_law_587 : decode cL_law 587 = .ok (.iload_n 3, 1) := by decide +kernel
theorem dL_law_588 : decode cL_law 588 = .ok (.iconst 2, 1) := by decide +kernel
theorem dL_law_589 : decode cL_law 589 = .ok (.iadd, 1) := by decide +kernel
theorem dL_law_590 : decode cL_law 590 = .ok (.iaload, 1) := by decide +kernel
theorem dL_law_591 : decode cL_law 591 = .ok (.aload_n 0, 1) := by decide +kernel
theorem dL_law_592 : decode cL_law 592 = .ok (.iload_n 3, 1) := by decide +kernel
theorem dL_law_593 : decode cL_law 593 = .ok (.iconst 3, 1) := by decide +kernel
theorem dL_law_594 : decode cL_law 594 = .ok (.iadd, 1) := by decide +kernel
theorem dL_law_595 : decode cL_law 595 = .ok (.iaload, 1) := by decide +kernel
theorem dL_law_596 : decode cL_law 596 = .ok (.aload_n 0, 1) := by decide +kernel
theorem dL_law_597 : decode cL_law 597 = .ok (.iload_n 3, 1) := by decide +kernel
theorem dL_law_598 : decode cL_law 598 = .ok (.iconst 4, 1) := by decide +kernel
theorem dL_law_599 : decode cL_law 599 = .ok (.iadd, 1) := by decide +kernel
theorem dL_law_600 : decode cL_law 600 = .ok (.iaload, 1) := by decide +kernel
theorem dL_law_601 : decode cL_law 601 = .ok (.invokevirtual 65, 3) := by decide +kernel
theorem dL_law_604 : decode cL_law 604 = .ok (.if_icmp .eq 342, 3) := by decide +kernel
theorem dL_law_607 : decode cL_law 607 = .ok (.iconst 0, 1) := by decide +kernel
theorem dL_law_608 : decode cL_law 608 = .ok (.ireturn, 1) := by decide +kernel
theorem dL_law_609 : decode cL_law 609 = .ok (.aload_n 1, 1) := by decide +kernel
theorem dL_law_610 : decode cL_law 610 = .ok (.aload_n 0, 1) := by decide +kernel
theorem dL_law_611 : decode cL_law 611 = .ok (.iload_n 3, 1) := by decide +kernel
theorem dL_law_612 : decode cL_law 612 = .ok (.iconst 1, 1) := by decide +kernel
theorem dL_law_613 : decode cL_law 613 = .ok (.iadd, 1) := by decide +kernel
theorem dL_law_614 : decode cL_law 614 = .ok (.iaload, 1) := by decide +kernel
theorem dL_law_615 : decode cL_law 615 = .ok (.invokevirtual 66, 3) := by decide +kernel
theorem dL_law_618 : decode cL_law 618 = .ok (.aload_n 2, 1) := by decide +kernel
theorem dL_law_619 : decode cL_law 619 = .ok (.aload_n 0, 1) := by decide +kernel
theorem dL_law_620 : decode cL_law 620 = .ok (.iload_n 3, 1) := by decide +kernel
theorem dL_law_621 : decode cL_law 621 = .ok (.iconst 1, 1) := by decide +kernel
theorem dL_law_622 : decode cL_law 622 = .ok (.iadd, 1) := by decide +kernel
theorem dL_law_623 : decode cL_law 623 = .ok (.iaload, 1) := by decide +kernel
theorem dL_law_624 : decode cL_law 624 = .ok (.invokevirtual 69, 3) := by decide +kernel
theorem dL_law_627 : decode cL_law 627 = .ok (.if_icmp .eq 319, 3) := by decide +kernel
theorem dL_law_630 : decode cL_law 630 = .ok (.iconst 0, 1) := by decide +kernel
theorem dL_law_631 : decode cL_law 631 = .ok (.ireturn, 1) := by decide +kernel
theorem dL_law_632 : decode cL_law 632 = .ok (.aload_n 1, 1) := by decide +kernel
theorem dL_law_633 : decode cL_law 633 = .ok (.aload_n 0, 1) := by decide +kernel
theorem dL_law_634 : decode cL_law 634 = .ok (.iload_n 3, 1) := by decide +kernel
theorem dL_law_635 : decode cL_law 635 = .ok (.iconst 1, 1) := by decide +kernel
theorem dL_law_636 : decode cL_law 636 = .ok (.iadd, 1) := by decide +kernel
theorem dL_law_637 : decode cL_law 637 = .ok (.iaload, 1) := by decide +kernel
theorem dL_law_638 : decode cL_law 638 = .ok (.aload_n 0, 1) := by decide +kernel
theorem dL_law_639 : decode cL_law 639 = .ok (.iload_n 3, 1) := by decide +kernel
theorem dL_law_640 : decode cL_law 640 = .ok (.iconst 2, 1) := by decide +kernel
theorem dL_law_641 : decode cL_law 641 = .ok (.iadd, 1) := by decide +kernel
theorem dL_law_642 : decode cL_law 642 = .ok (.iaload, 1) := by decide +kernel
theorem dL_law_643 : decode cL_law 643 = .ok (.invokevirtual 70, 3) := by decide +kernel
theorem dL_law_646 : decode cL_law 646 = .ok (.aload_n 2, 1) := by decide +kernel
theorem dL_law_647 : decode cL_law 647 = .ok (.aload_n 0, 1) := by decide +kernel
theorem dL_law_648 : decode cL_law 648 = .ok (.iload_n 3, 1) := by decide +kernel
theorem dL_law_649 : decode cL_law 649 = .ok (.iconst 1, 1) := by decide +kernel
theorem dL_law_650 : decode cL_law 650 = .ok (.iadd, 1) := by decide +kernel
theorem dL_law_651 : decode cL_law 651 = .ok (.iaload, 1) := by decide +kernel
theorem dL_law_652 : decode cL_law 652 = .ok (.aload_n 0, 1) := by decide +kernel
theorem dL_law_653 : decode cL_law 653 = .ok (.iload_n 3, 1) := by decide +kernel
theorem dL_law_654 : decode cL_law 654 = .ok (.iconst 2, 1) := by decide +kernel
theorem dL_law_655 : decode cL_law 655 = .ok (.iadd, 1) := by decide +kernel
theorem dL_law_656 : decode cL_law 656 = .ok (.iaload, 1) := by decide +kernel
theorem dL_law_657 : decode cL_law 657 = .ok (.invokevirtual 73, 3) := by decide +kernel
theorem dL_law_660 : decode cL_law 660 = .ok (.if_icmp .eq 286, 3) := by decide +kernel
theorem dL_law_663 : decode cL_law 663 = .ok (.iconst 0, 1) := by decide +kernel
theorem dL_law_664 : decode cL_law 664 = .ok (.ireturn, 1) := by decide +kernel
theorem dL_law_665 : decode cL_law 665 = .ok (.aload_n 1, 1) := by decide +kernel
theorem dL_law_666 : decode cL_law 666 = .ok (.aload_n 0, 1) := by decide +kernel
theorem dL_law_667 : decode cL_law 667 = .ok (.iload_n 3, 1) := by decide +kernel
theorem dL_law_668 : decode cL_law 668 = .ok (.iconst 1, 1) := by decide +kernel
theorem dL_law_669 : decode cL_law 669 = .ok (.iadd, 1) := by decide +kernel
theorem dL_law_670 : decode cL_law 670 = .ok (.iaload, 1) := by decide +kernel
theorem dL_law_671 : decode cL_law 671 = .ok (.aload_n 0, 1) := by decide +kernel
theorem dL_law_672 : decode cL_law 672 = .ok (.iload_n 3, 1) := by decide +kernel
theorem dL_law_673 : decode cL_law 673 = .ok (.iconst 2, 1) := by decide +kernel
theorem dL_law_674 : decode cL_law 674 = .ok (.iadd, 1) := by decide +kernel
theorem dL_law_675 : decode cL_law 675 = .ok (.iaload, 1) := by decide +kernel
theorem dL_law_676 : decode cL_law 676 = .ok (.invokevirtual 74, 3) := by decide +kernel
theorem dL_law_679 : decode cL_law 679 = .ok (.aload_n 2, 1) := by decide +kernel
theorem dL_law_680 : decode cL_law 680 = .ok (.aload_n 0, 1) := by decide +kernel
theorem dL_law_681 : decode cL_law 681 = .ok (.iload_n 3, 1) := by decide +kernel
theorem dL_law_682 : decode cL_law 682 = .ok (.iconst 1, 1) := by decide +kernel
theorem dL_law_683 : decode cL_law 683 = .ok (.iadd, 1) := by decide +kernel
theorem dL_law_684 : decode cL_law 684 = .ok (.iaload, 1) := by decide +kernel
theorem dL_law_685 : decode cL_law 685 = .ok (.aload_n 0, 1) := by decide +kernel
theorem dL_law_686 : decode cL_law 686 = .ok (.iload_n 3, 1) := by decide +kernel
theorem dL_law_687 : decode cL_law 687 = .ok (.iconst 2, 1) := by decide +kernel
theorem dL_law_688 : decode cL_law 688 = .ok (.iadd, 1) := by decide +kernel
theorem dL_law_689 : decode cL_law 689 = .ok (.iaload, 1) := by decide +kernel
theorem dL_law_690 : decode cL_law 690 = .ok (.invokevirtual 77, 3) := by decide +kernel
theorem dL_law_693 : decode cL_law 693 = .ok (.if_icmp .eq 253, 3) := by decide +kernel
theorem dL_law_696 : decode cL_law 696 = .ok (.iconst 0, 1) := by decide +kernel
theorem dL_law_697 : decode cL_law 697 = .ok (.ireturn, 1) := by decide +kernel
theorem dL_law_698 : decode cL_law 698 = .ok (.aload_n 1, 1) := by decide +kernel
theorem dL_law_699 : decode cL_law 699 = .ok (.aload_n 0, 1) := by decide +kernel
theorem dL_law_700 : decode cL_law 700 = .ok (.iload_n 3, 1) := by decide +kernel
theorem dL_law_701 : decode cL_law 701 = .ok (.iconst 1, 1) := by decide +kernel
theorem dL_law_702 : decode cL_law 702 = .ok (.iadd, 1) := by decide +kernel
theorem dL_law_703 : decode cL_law 703 = .ok (.iaload, 1) := by decide +kernel
theorem dL_law_704 : decode cL_law 704 = .ok (.aload_n 0, 1) := by decide +kernel
theorem dL_law_705 : decode cL_law 705 = .ok (.iload_n 3, 1) := by decide +kernel
theorem dL_law_706 : decode cL_law 706 = .ok (.iconst 2, 1) := by decide +kernel
theorem dL_law_707 : decode cL_law 707 = .ok (.iadd, 1) := by decide +kernel
theorem dL_law_708 : decode cL_law 708 = .ok (.iaload, 1) := by decide +kernel
theorem dL_law_709 : decode cL_law 709 = .ok (.aload_n 0, 1) := by decide +kernel
theorem dL_law_710 : decode cL_law 710 = .ok (.iload_n 3, 1) := by decide +kernel
theorem dL_law_711 : decode cL_law 711 = .ok (.iconst 3, 1) := by decide +kernel
theorem dL_law_712 : decode cL_law 712 = .ok (.iadd, 1) := by decide +kernel
theorem dL_law_713 : decode cL_law 713 = .ok (.iaload, 1) := by decide +kernel
theorem dL_law_714 : decode cL_law 714 = .ok (.invokevirtual 78, 3) := by decide +kernel
theorem dL_law_717 : decode cL_law 717 = .ok (.aload_n 2, 1) := by decide +kernel
theorem dL_law_718 : decode cL_law 718 = .ok (.aload_n 0, 1) := by decide +kernel
theorem dL_law_719 : decode cL_law 719 = .ok (.iload_n 3, 1) := by decide +kernel
theorem dL_law_720 : decode cL_law 720 = .ok (.iconst 1, 1) := by decide +kernel
theorem dL_law_721 : decode cL_law 721 = .ok (.iadd, 1) := by decide +kernel
theorem dL_law_722 : decode cL_law 722 = .ok (.iaload, 1) := by decide +kernel
theorem dL_law_723 : decode cL_law 723 = .ok (.aload_n 0, 1) := by decide +kernel
theorem dL_law_724 : decode cL_law 724 = .ok (.iload_n 3, 1) := by decide +kernel
theorem dL_law_725 : decode cL_law 725 = .ok (.iconst 2, 1) := by decide +kernel
theorem dL_law_726 : decode cL_law 726 = .ok (.iadd, 1) := by decide +kernel
theorem dL_law_727 : decode cL_law 727 = .ok (.iaload, 1) := by decide +kernel
theorem dL_law_728 : decode cL_law 728 = .ok (.aload_n 0, 1) := by decide +kernel
theorem dL_law_729 : decode cL_law 729 = .ok (.iload_n 3, 1) := by decide +kernel
theorem dL_law_730 : decode cL_law 730 = .ok (.iconst 3, 1) := by decide +kernel
theorem dL_law_731 : decode cL_law 731 = .ok (.iadd, 1) := by decide +kernel
theorem dL_law_732 : decode cL_law 732 = .ok (.iaload, 1) := by decide +kernel
theorem dL_law_733 : decode cL_law 733 = .ok (.invokevirtual 81, 3) := by decide +kernel
theorem dL_law_736 : decode cL_law 736 = .ok (.if_icmp .eq 210, 3) := by decide +kernel
theorem dL_law_739 : decode cL_law 739 = .ok (.iconst 0, 1) := by decide +kernel
theorem dL_law_740 : decode cL_law 740 = .ok (.ireturn, 1) := by decide +kernel
theorem dL_law_741 : decode cL_law 741 = .ok (.aload_n 1, 1) := by decide +kernel
theorem dL_law_742 : decode cL_law 742 = .ok (.aload_n 0, 1) := by decide +kernel
theorem dL_law_743 : decode cL_law 743 = .ok (.iload_n 3, 1) := by decide +kernel
theorem dL_law_744 : decode cL_law 744 = .ok (.iconst 1, 1) := by decide +kernel
theorem dL_law_745 : decode cL_law 745 = .ok (.iadd, 1) := by decide +kernel
theorem dL_law_746 : decode cL_law 746 = .ok (.iaload, 1) := by decide +kernel
theorem dL_law_747 : decode cL_law 747 = .ok (.aload_n 0, 1) := by decide +kernel
theorem dL_law_748 : decode cL_law 748 = .ok (.iload_n 3, 1) := by decide +kernel
theorem dL_law_749 : decode cL_law 749 = .ok (.iconst 2, 1) := by decide +kernel
theorem dL_law_750 : decode cL_law 750 = .ok (.iadd, 1) := by decide +kernel
theorem dL_law_751 : decode cL_law 751 = .ok (.iaload, 1) := by decide +kernel
theorem dL_law_752 : decode cL_law 752 = .ok (.aload_n 0, 1) := by decide +kernel
theorem dL_law_753 : decode cL_law 753 = .ok (.iload_n 3, 1) := by decide +kernel
theorem dL_law_754 : decode cL_law 754 = .ok (.iconst 3, 1) := by decide +kernel
theorem dL_law_755 : decode cL_law 755 = .ok (.iadd, 1) := by decide +kernel
theorem dL_law_756 : decode cL_law 756 = .ok (.iaload, 1) := by decide +kernel
theorem dL_law_757 : decode cL_law 757 = .ok (.invokevirtual 82, 3) := by decide +kernel
theorem dL_law_760 : decode cL_law 760 = .ok (.aload_n 2, 1) := by decide +kernel
theorem dL_law_761 : decode cL_law 761 = .ok (.aload_n 0, 1) := by decide +kernel
theorem dL_law_762 : decode cL_law 762 = .ok (.iload_n 3, 1) := by decide +kernel
theorem dL_law_763 : decode cL_law 763 = .ok (.iconst 1, 1) := by decide +kernel
theorem dL_law_764 : decode cL_law 764 = .ok (.iadd, 1) := by decide +kernel
theorem dL_law_765 : decode cL_law 765 = .ok (.iaload, 1) := by decide +kernel
theorem dL_law_766 : decode cL_law 766 = .ok (.aload_n 0, 1) := by decide +kernel
theorem dL_law_767 : decode cL_law 767 = .ok (.iload_n 3, 1) := by decide +kernel
theorem dL_law_768 : decode cL_law 768 = .ok (.iconst 2, 1) := by decide +kernel
theorem dL_law_769 : decode cL_law 769 = .ok (.iadd, 1) := by decide +kernel
theorem dL_law_770 : decode cL_law 770 = .ok (.iaload, 1) := by decide +kernel
theorem dL_law_771 : decode cL_law 771 = .ok (.aload_n 0, 1) := by decide +kernel
theorem dL_law_772 : decode cL_law 772 = .ok (.iload_n 3, 1) := by decide +kernel
theorem dL_law_773 : decode cL_law 773 = .ok (.iconst 3, 1) := by decide +kernel
theorem dL_law_774 : decode cL_law 774 = .ok (.iadd, 1) := by decide +kernel
theorem dL_law_775 : decode cL_law 775 = .ok (.iaload, 1) := by decide +kernel
theorem dL_law_776 : decode cL_law 776 = .ok (.invokevirtual 85, 3) := by decide +kernel
theorem dL_law_779 : decode cL_law 779 = .ok (.if_icmp .eq 167, 3) := by decide +kernel
theorem dL_law_782 : decode cL_law 782 = .ok (.iconst 0, 1) := by decide +kernel
theorem dL_law_783 : decode cL_law 783 = .ok (.ireturn, 1) := by decide +kernel
theorem dL_law_784 : decode cL_law 784 = .ok (.aload_n 1, 1) := by decide +kernel
theorem dL_law_785 : decode cL_law 785 = .ok (.aload_n 0, 1) := by decide +kernel
theorem dL_law_786 : decode cL_law 786 = .ok (.iload_n 3, 1) := by decide +kernel
theorem dL_law_787 : decode cL_law 787 = .ok (.iconst 1, 1) := by decide +kernel
theorem dL_law_788 : decode cL_law 788 = .ok (.iadd, 1) := by decide +kernel
theorem dL_law_789 : decode cL_law 789 = .ok (.iaload, 1) := by decide +kernel
theorem dL_law_790 : decode cL_law 790 = .ok (.aload_n 0, 1) := by decide +kernel
theorem dL_law_791 : decode cL_law 791 = .ok (.iload_n 3, 1) := by decide +kernel
theorem dL_law_792 : decode cL_law 792 = .ok (.iconst 2, 1) := by decide +kernel
theorem dL_law_793 : decode cL_law 793 = .ok (.iadd, 1) := by decide +kernel
theorem dL_law_794 : decode cL_law 794 = .ok (.iaload, 1) := by decide +kernel
theorem dL_law_795 : decode cL_law 795 = .ok (.aload_n 0, 1) := by decide +kernel
theorem dL_law_796 : decode cL_law 796 = .ok (.iload_n 3, 1) := by decide +kernel
theorem dL_law_797 : decode cL_law 797 = .ok (.iconst 3, 1) := by decide +kernel
theorem dL_law_798 : decode cL_law 798 = .ok (.iadd, 1) := by decide +kernel
theorem dL_law_799 : decode cL_law 799 = .ok (.iaload, 1) := by decide +kernel
theorem dL_law_800 : decode cL_law 800 = .ok (.invokevirtual 86, 3) := by decide +kernel
theorem dL_law_803 : decode cL_law 803 = .ok (.aload_n 2, 1) := by decide +kernel
theorem dL_law_804 : decode cL_law 804 = .ok (.aload_n 0, 1) := by decide +kernel
theorem dL_law_805 : decode cL_law 805 = .ok (.iload_n 3, 1) := by decide +kernel
theorem dL_law_806 : decode cL_law 806 = .ok (.iconst 1, 1) := by decide +kernel
theorem dL_law_807 : decode cL_law 807 = .ok (.iadd, 1) := by decide +kernel
theorem dL_law_808 : decode cL_law 808 = .ok (.iaload, 1) := by decide +kernel
theorem dL_law_809 : decode cL_law 809 = .ok (.aload_n 0, 1) := by decide +kernel
theorem dL_law_810 : decode cL_law 810 = .ok (.iload_n 3, 1) := by decide +kernel
theorem dL_law_811 : decode cL_law 811 = .ok (.iconst 2, 1) := by decide +kernel
theorem dL_law_812 : decode cL_law 812 = .ok (.iadd, 1) := by decide +kernel
theorem dL_law_813 : decode cL_law 813 = .ok (.iaload, 1) := by decide +kernel
theorem dL_law_814 : decode cL_law 814 = .ok (.aload_n 0, 1) := by decide +kernel
theorem dL_law_815 : decode cL_law 815 = .ok (.iload_n 3, 1) := by decide +kernel
theorem dL_law_816 : decode cL_law 816 = .ok (.iconst 3, 1) := by decide +kernel
theorem dL_law_817 : decode cL_law 817 = .ok (.iadd, 1) := by decide +kernel
theorem dL_law_818 : decode cL_law 818 = .ok (.iaload, 1) := by decide +kernel
theorem dL_law_819 : decode cL_law 819 = .ok (.invokevirtual 89, 3) := by decide +kernel
theorem dL_law_822 : decode cL_law 822 = .ok (.if_icmp .eq 124, 3) := by decide +kernel
theorem dL_law_825 : decode cL_law 825 = .ok (.iconst 0, 1) := by decide +kernel
theorem dL_law_826 : decode cL_law 826 = .ok (.ireturn, 1) := by decide +kernel
theorem dL_law_827 : decode cL_law 827 = .ok (.aload_n 1, 1) := by decide +kernel
theorem dL_law_828 : decode cL_law 828 = .ok (.aload_n 0, 1) := by decide +kernel
theorem dL_law_829 : decode cL_law 829 = .ok (.iload_n 3, 1) := by decide +kernel
theorem dL_law_830 : decode cL_law 830 = .ok (.iconst 1, 1) := by decide +kernel
theorem dL_law_831 : decode cL_law 831 = .ok (.iadd, 1) := by decide +kernel
theorem dL_law_832 : decode cL_law 832 = .ok (.iaload, 1) := by decide +kernel
theorem dL_law_833 : decode cL_law 833 = .ok (.aload_n 0, 1) := by decide +kernel
theorem dL_law_834 : decode cL_law 834 = .ok (.iload_n 3, 1) := by decide +kernel
theorem dL_law_835 : decode cL_law 835 = .ok (.iconst 2, 1) := by decide +kernel
theorem dL_law_836 : decode cL_law 836 = .ok (.iadd, 1) := by decide +kernel
theorem dL_law_837 : decode cL_law 837 = .ok (.iaload, 1) := by decide +kernel
theorem dL_law_838 : decode cL_law 838 = .ok (.aload_n 0, 1) := by decide +kernel
theorem dL_law_839 : decode cL_law 839 = .ok (.iload_n 3, 1) := by decide +kernel
theorem dL_law_840 : decode cL_law 840 = .ok (.iconst 3, 1) := by decide +kernel
theorem dL_law_841 : decode cL_law 841 = .ok (.iadd, 1) := by decide +kernel
theorem dL_law_842 : decode cL_law 842 = .ok (.iaload, 1) := by decide +kernel
theorem dL_law_843 : decode cL_law 843 = .ok (.aload_n 0, 1) := by decide +kernel
theorem dL_law_844 : decode cL_law 844 = .ok (.iload_n 3, 1) := by decide +kernel
theorem dL_law_845 : decode cL_law 845 = .ok (.iconst 4, 1) := by decide +kernel
theorem dL_law_846 : decode cL_law 846 = .ok (.iadd, 1) := by decide +kernel
theorem dL_law_847 : decode cL_law 847 = .ok (.iaload, 1) := by decide +kernel
theorem dL_law_848 : decode cL_law 848 = .ok (.invokevirtual 90, 3) := by decide +kernel
theorem dL_law_851 : decode cL_law 851 = .ok (.aload_n 2, 1) := by decide +kernel
theorem dL_law_852 : decode cL_law 852 = .ok (.aload_n 0, 1) := by decide +kernel
theorem dL_law_853 : decode cL_law 853 = .ok (.iload_n 3, 1) := by decide +kernel
theorem dL_law_854 : decode cL_law 854 = .ok (.iconst 1, 1) := by decide +kernel
theorem dL_law_855 : decode cL_law 855 = .ok (.iadd, 1) := by decide +kernel
theorem dL_law_856 : decode cL_law 856 = .ok (.iaload, 1) := by decide +kernel
theorem dL_law_857 : decode cL_law 857 = .ok (.aload_n 0, 1) := by decide +kernel
theorem dL_law_858 : decode cL_law 858 = .ok (.iload_n 3, 1) := by decide +kernel
theorem dL_law_859 : decode cL_law 859 = .ok (.iconst 2, 1) := by decide +kernel
theorem dL_law_860 : decode cL_law 860 = .ok (.iadd, 1) := by decide +kernel
theorem dL_law_861 : decode cL_law 861 = .ok (.iaload, 1) := by decide +kernel
theorem dL_law_862 : decode cL_law 862 = .ok (.aload_n 0, 1) := by decide +kernel
theorem dL_law_863 : decode cL_law 863 = .ok (.iload_n 3, 1) := by decide +kernel
theorem dL_law_864 : decode cL_law 864 = .ok (.iconst 3, 1) := by decide +kernel
theorem dL_law_865 : decode cL_law 865 = .ok (.iadd, 1) := by decide +kernel
theorem dL_law_866 : decode cL_law 866 = .ok (.iaload, 1) := by decide +kernel
theorem dL_law_867 : decode cL_law 867 = .ok (.aload_n 0, 1) := by decide +kernel
theorem dL_law_868 : decode cL_law 868 = .ok (.iload_n 3, 1) := by decide +kernel
theorem dL_law_869 : decode cL_law 869 = .ok (.iconst 4, 1) := by decide +kernel
theorem dL_law_870 : decode cL_law 870 = .ok (.iadd, 1) := by decide +kernel
theorem dL_law_871 : decode cL_law 871 = .ok (.iaload, 1) := by decide +kernel
theorem dL_law_872 : decode cL_law 872 = .ok (.invokevirtual 93, 3) := by decide +kernel
theorem dL_law_875 : decode cL_law 875 = .ok (.if_icmp .eq 71, 3) := by decide +kernel
theorem dL_law_878 : decode cL_law 878 = .ok (.iconst 0, 1) := by decide +kernel
theorem dL_law_879 : decode cL_law 879 = .ok (.ireturn, 1) := by decide +kernel
theorem dL_law_880 : decode cL_law 880 = .ok (.aload_n 1, 1) := by decide +kernel
theorem dL_law_881 : decode cL_law 881 = .ok (.aload_n 0, 1) := by decide +kernel
theorem dL_law_882 : decode cL_law 882 = .ok (.iload_n 3, 1) := by decide +kernel
theorem dL_law_883 : decode cL_law 883 = .ok (.iconst 1, 1) := by decide +kernel
theorem dL_law_884 : decode cL_law 884 = .ok (.iadd, 1) := by decide +kernel
theorem dL_law_885 : decode cL_law 885 = .ok (.iaload, 1) := by decide +kernel
theorem dL_law_886 : decode cL_law 886 = .ok (.aload_n 0, 1) := by decide +kernel
theorem dL_law_887 : decode cL_law 887 = .ok (.iload_n 3, 1) := by decide +kernel
theorem dL_law_888 : decode cL_law 888 = .ok (.iconst 2, 1) := by decide +kernel
theorem dL_law_889 : decode cL_law 889 = .ok (.iadd, 1) := by decide +kernel
theorem dL_law_890 : decode cL_law 890 = .ok (.iaload, 1) := by decide +kernel
theorem dL_law_891 : decode cL_law 891 = .ok (.aload_n 0, 1) := by decide +kernel
theorem dL_law_892 : decode cL_law 892 = .ok (.iload_n 3, 1) := by decide +kernel
theorem dL_law_893 : decode cL_law 893 = .ok (.iconst 3, 1) := by decide +kernel
theorem dL_law_894 : decode cL_law 894 = .ok (.iadd, 1) := by decide +kernel
theorem dL_law_895 : decode cL_law 895 = .ok (.iaload, 1) := by decide +kernel
theorem dL_law_896 : decode cL_law 896 = .ok (.aload_n 0, 1) := by decide +kernel
theorem dL_law_897 : decode cL_law 897 = .ok (.iload_n 3, 1) := by decide +kernel
theorem dL_law_898 : decode cL_law 898 = .ok (.iconst 4, 1) := by decide +kernel
theorem dL_law_899 : decode cL_law 899 = .ok (.iadd, 1) := by decide +kernel
theorem dL_law_900 : decode cL_law 900 = .ok (.iaload, 1) := by decide +kernel
theorem dL_law_901 : decode cL_law 901 = .ok (.invokevirtual 94, 3) := by decide +kernel
theorem dL_law_904 : decode cL_law 904 = .ok (.aload_n 2, 1) := by decide +kernel
theorem dL_law_905 : decode cL_law 905 = .ok (.aload_n 0, 1) := by decide +kernel
theorem dL_law_906 : decode cL_law 906 = .ok (.iload_n 3, 1) := by decide +kernel
theorem dL_law_907 : decode cL_law 907 = .ok (.iconst 1, 1) := by decide +kernel
theorem dL_law_908 : decode cL_law 908 = .ok (.iadd, 1) := by decide +kernel
theorem dL_law_909 : decode cL_law 909 = .ok (.iaload, 1) := by decide +kernel
theorem dL_law_910 : decode cL_law 910 = .ok (.aload_n 0, 1) := by decide +kernel
theorem dL_law_911 : decode cL_law 911 = .ok (.iload_n 3, 1) := by decide +kernel
theorem dL_law_912 : decode cL_law 912 = .ok (.iconst 2, 1) := by decide +kernel
theorem dL_law_913 : decode cL_law 913 = .ok (.iadd, 1) := by decide +kernel
theorem dL_law_914 : decode cL_law 914 = .ok (.iaload, 1) := by decide +kernel
theorem dL_law_915 : decode cL_law 915 = .ok (.aload_n 0, 1) := by decide +kernel
theorem dL_law_916 : decode cL_law 916 = .ok (.iload_n 3, 1) := by decide +kernel
theorem dL_law_917 : decode cL_law 917 = .ok (.iconst 3, 1) := by decide +kernel
theorem dL_law_918 : decode cL_law 918 = .ok (.iadd, 1) := by decide +kernel
theorem dL_law_919 : decode cL_law 919 = .ok (.iaload, 1) := by decide +kernel
theorem dL_law_920 : decode cL_law 920 = .ok (.aload_n 0, 1) := by decide +kernel
theorem dL_law_921 : decode cL_law 921 = .ok (.iload_n 3, 1) := by decide +kernel
theorem dL_law_922 : decode cL_law 922 = .ok (.iconst 4, 1) := by decide +kernel
theorem dL_law_923 : decode cL_law 923 = .ok (.iadd, 1) := by decide +kernel
theorem dL_law_924 : decode cL_law 924 = .ok (.iaload, 1) := by decide +kernel
theorem dL_law_925 : decode cL_law 925 = .ok (.invokevirtual 97, 3) := by decide +kernel
theorem dL_law_928 : decode cL_law 928 = .ok (.if_icmp .eq 18, 3) := by decide +kernel
theorem dL_law_931 : decode cL_law 931 = .ok (.iconst 0, 1) := by decide +kernel
theorem dL_law_932 : decode cL_law 932 = .ok (.ireturn, 1) := by decide +kernel
theorem dL_law_933 : decode cL_law 933 = .ok (.aload_n 1, 1) := by decide +kernel
theorem dL_law_934 : decode cL_law 934 = .ok (.invokevirtual 98, 3) := by decide +kernel
theorem dL_law_937 : decode cL_law 937 = .ok (.aload_n 2, 1) := by decide +kernel
theorem dL_law_938 : decode cL_law 938 = .ok (.invokevirtual 102, 3) := by decide +kernel
theorem dL_law_941 : decode cL_law 941 = .ok (.if_icmp .eq 5, 3) := by decide +kernel
theorem dL_law_944 : decode cL_law 944 = .ok (.iconst 0, 1) := by decide +kernel
theorem dL_law_945 : decode cL_law 945 = .ok (.ireturn, 1) := by decide +kernel
theorem dL_law_946 : decode cL_law 946 = .ok (.iinc 3 5, 3) := by decide +kernel
theorem dL_law_949 : decode cL_law 949 = .ok (.goto (-931), 3) := by decide +kernel
theorem dL_law_952 : decode cL_law 952 = .ok (.iconst 1, 1) := by decide +kernel
theorem dL_law_953 : decode cL_law 953 = .ok (.ireturn, 1) := by decide +kernel
end
section
/-! ===== the base: words, worlds, contracts, calls ===== -/
set_option maxRecDepth 20000 in
theorem inX0 : ∀ w ∈ u_ws RX0 TX0 2, w ∈ lw_ok := by decide +kernel
set_option maxRecDepth 20000 in
theorem inX1 : ∀ w ∈ u_ws RX1 TX1 2, w ∈ lw_ok := by decide +kernel
set_option maxRecDepth 20000 in
theorem inX2 : ∀ w ∈ u_ws RX2 TX2 8, w ∈ lw_ok := by decide +kernel
set_option maxRecDepth 20000 in
theorem inX3 : ∀ w ∈ u_ws RX3 TX3 2, w ∈ lw_ok := by decide +kernel
set_option maxRecDepth 20000 in
theorem inX4 : ∀ w ∈ u_ws RX4 TX4 2, w ∈ lw_ok := by decide +kernel
set_option maxRecDepth 20000 in
theorem inX5 : ∀ w ∈ u_ws RX5 TX5 2, w ∈ lw_ok := by decide +kernel
set_option maxRecDepth 20000 in
theorem inX6 : ∀ w ∈ u_ws RX6 TX6 2, w ∈ lw_ok := by decide +kernel
set_option maxRecDepth 20000 in
theorem inX8 : ∀ w ∈ u_ws RX8 TX8 3, w ∈ lw_ok := by decide +kernel
set_option maxRecDepth 20000 in
theorem inX9 : ∀ w ∈ u_ws RX9 TX9 15, w ∈ lw_ok := by decide +kernel
abbrev WS (y : MethodName) (c : ByteArray) (n : Nat) (r : Option FieldType) : List Cond := Cond.code y c n r :: lw_ok
theorem ws_good {y : MethodName} {c : ByteArray} {n : Nat} {r : Option FieldType} (h : Cond.code y c n r ∈ lw_ok) : GoodIn lw_ok (WS y c n r) := fun w hw => by
  rcases List.mem_cons.mp hw with rfl | hw
  · exact ⟨h, lw_good _ h⟩
  · exact ⟨hw, lw_good _ hw⟩
/-- the classes of the arrays, by number -/
abbrev AC : Type := Nat → ClassId
abbrev tysOf (d : AC) : List (ClassId × FieldType) := [(d 0, .boolean), (d 1, .char), (d 2, .short), (d 3, .float), (d 4, .byte), (d 5, .object "MusicBoxes$Track"), (d 6, .object "MusicBoxes$Drum"), (d 7, .object "MusicBoxes$Comb"), (d 8, .int), (d 9, .long)]
/-- what the tables say, in the form that goes along -/
def KK (D : va_G) (d : AC) (U : State) : Prop :=
  va_K D vwCl (tysOf d) U ∧ (va_AO "MusicBoxes$Track" U ∧ va_AO "MusicBoxes$Drum" U ∧ va_AO "MusicBoxes$Comb" U) ∧
  (va_Nw (.castable RX5 "MusicBoxes$Track") U ∧ va_Nw (.castable RX6 "MusicBoxes$Track") U ∧ va_Nw (.castable RX3 "MusicBoxes$Track") U ∧ va_Nw (.castable RX4 "MusicBoxes$Track") U ∧ va_Nw (.castable RX0 "MusicBoxes$Track") U) ∧
  (va_Nw (.declares ⟨"MusicBoxes$Track", "valueAt", "(I)I"⟩) U ∧ va_Nw (.declares ⟨"MusicBoxes$Track", "put", "(II)Z"⟩) U ∧ va_Nw (.declares ⟨"MusicBoxes$Track", "alter", "(II)Z"⟩) U ∧ va_Nw (.declares ⟨"MusicBoxes$Track", "hasPlace", "(I)Z"⟩) U)
theorem KK.moved {D : va_G} {d : AC} {s U : State} (hW : s.WarmedH U.vm) (h : KK D d s) : KK D d U := by
  obtain ⟨h1, ⟨a1, a2, a3⟩, ⟨b1, b2, b3, b4, b5⟩, ⟨c1, c2, c3, c4⟩⟩ := h
  exact ⟨va_K.moved hW.alike h1, ⟨va_AO.moved hW.alike a1, va_AO.moved hW.alike a2, va_AO.moved hW.alike a3⟩, ⟨va_Nw.warmC hW b1, va_Nw.warmC hW b2, va_Nw.warmC hW b3, va_Nw.warmC hW b4, va_Nw.warmC hW b5⟩, ⟨va_Nw.warmD hW c1, va_Nw.warmD hW c2, va_Nw.warmD hW c3, va_Nw.warmD hW c4⟩⟩
theorem KK.calling {D : va_G} {d : AC} {U : State} (g : JFrame) (mk : MethodId) (a : Array Value) (h : KK D d U) : KK D d (U.calling g mk a) := by
  obtain ⟨h1, ⟨a1, a2, a3⟩, ⟨b1, b2, b3, b4, b5⟩, ⟨c1, c2, c3, c4⟩⟩ := h
  exact ⟨va_K.moved (u := U) (U := U.calling g mk a) (Vm.Alike.refl U.vm) h1, ⟨va_AO.moved (u := U) (U := U.calling g mk a) (Vm.Alike.refl U.vm) a1, va_AO.moved (u := U) (U := U.calling g mk a) (Vm.Alike.refl U.vm) a2, va_AO.moved (u := U) (U := U.calling g mk a) (Vm.Alike.refl U.vm) a3⟩, ⟨va_Nw.same (u := U) rfl rfl b1, va_Nw.same (u := U) rfl rfl b2, va_Nw.same (u := U) rfl rfl b3, va_Nw.same (u := U) rfl rfl b4, va_Nw.same (u := U) rfl rfl b5⟩, ⟨va_Nw.same (u := U) rfl rfl c1, va_Nw.same (u := U) rfl rfl c2, va_Nw.same (u := U) rfl rfl c3, va_Nw.same (u := U) rfl rfl c4⟩⟩
/-- which cells a method may change: F's, and those that it makes -/
def AF (F : Nat → Prop) (sz : Nat) : Nat → Prop := fun q => F q ∨ sz ≤ q
def Qo {S : Type} (post : Option Value → S → Prop) (B : S → State → Prop) (A : Nat → Prop) : Array Value → State → Outcome → State → Prop := fun _ st oc t => (∃ (r : Option Value) (u : S), oc = .returned r ∧ post r u ∧ B u t) ∧ va_F A st t
abbrev Wld (S : Type) : Type := (Nat → Prop) → S → Heap → Prop
/-- a world stays one if its cells may be more -/
def Mono {S : Type} (Ω : Wld S) : Prop := ∀ (F F' : Nat → Prop) (v : S) (H : Heap), (∀ q, F q → F' q) → Ω F v H → Ω F' v H
/-- THE CONTRACT: from the world u, whatever lies beside it, y returns r and the world u', as Q says; nothing changes but F's cells and new ones -/
def MT {S : Type} (D : va_G) (d : AC) (Ω : Wld S) (l : Launch) (y : MethodName) (ws : List Cond) (rm : Room) (av : List Value) (u : S) (Q : Option Value → S → Prop) : Prop :=
  ∀ (F : Nat → Prop) (sz : Nat), Met l y ws rm (va_Pc av (fun U => U.heap.size = sz ∧ KK D d U ∧ Ω F u U.heap)) (Qo Q (fun u' t => Ω (AF F sz) u' t.heap) (AF F sz)) rm.cells rm.slots (AF F sz)
theorem mt_of {S : Type} {D : va_G} {d : AC} {Ω : Wld S} {l : Launch} {y : MethodName} {rm : Room} {av : List Value} {u : S} {Q : Option Value → S → Prop} {cc : ByteArray} {maxL : Nat} {ret : Option FieldType}
    (hΩ : Mono Ω) (hy : plainName y.cls = true) (hn : (lg_sl av).length ≤ maxL)
    (body : ∀ (p : Program) (e : Env) (s : State) (m : MethodId) (below : List Frame) (meth : Method) (c : Code) (A : Nat → Prop) (ls : Array Slot), p.tables.exec = Jvm.exec → c.code = cc → meth.sig.returnType = ret → c.maxLocals = maxL → s.vm.findClass y.cls = some m.cls → (∀ w ∈ lw_ok, w.before av.toArray s = true) → meth.locks = false → meth.name = y.name → KK D d s → (∀ q, s.heap.size ≤ q → A q) → Ω A u s.heap → va_S A s.heap s.heap [] → lv_has ls maxL (lv_args 0 av) →
      W p l e rm s m av.toArray below meth c s.heap [] 0 0 (MQ below (Qo Q (fun u' t => Ω A u' t.heap) A) av.toArray s rm.cells rm.slots A) (F0 m 0 ls [])) : MT D d Ω l y (WS y cc maxL ret) rm av u Q := by
  intro F sz
  refine Met.ofW (cc := cc) (maxL := maxL) (ret := ret) hy rfl ?_
  intro p e s m args below meth c s₁ B hml hv
  obtain ⟨rfl, hsz, hK, hw⟩ := hv
  subst hsz
  have hts := atoms_spec (ws := WS y cc maxL ret) B.pre
  rw [lg_entry_eq]
  exact body p e s m below meth c (AF F s.heap.size) _ B.exec B.bytes B.returns hml (findClass_of_methodNamed B.named) (fun w h => hts w (List.mem_cons_of_mem _ h)) B.notSynchronized (name_of_methodNamed B.named B.method).1 hK (fun q h => Or.inr h) (hΩ _ _ _ _ (fun q h => Or.inl h) hw) va_S.rf (lv_entry av hn)
section BASE
variable {p : Program} {l : Launch} {e : Env} {R : Room} {s : State} {m : MethodId} {args : Array Value} {below : List Frame} {meth : Method} {c : Code} {H : Heap} {locs : List Loc} {cells slots : Nat} {Qw : State → Prop}
variable {cc : ByteArray} {pc : Nat} {ls : Array Slot} {rest st0 : List Value} {D : va_G} {d : AC} {A : Nat → Prop} {mc ms : Nat}
theorem mt_reti {S : Type} {Ω : Wld S} {u : S} {Q : Option Value → S → Prop} {v : Int32} (hx : p.tables.exec = Jvm.exec) (hb : c.code = cc) (hr : meth.sig.returnType = some .int) (hlocks : meth.locks = false) (hw : Ω A u H) (hS : va_S A s.heap H locs) (h1 : cells ≤ mc) (h2 : slots ≤ ms) (hdg : decode cc pc = .ok (.ireturn, 1)) (hq : Q (some (.int v)) u) : W p l e R s m args below meth c H locs cells slots (MQ below (Qo Q (fun u' t => Ω A u' t.heap) A) args s mc ms A) (F0 m pc ls [.int v]) :=
  W.widen h1 h2 (W.iret (v := v) hx hb hr (fun t ht hW => ⟨⟨_, u, rfl, hq, (by show Ω A u t.heap; rw [ht]; exact hw)⟩, hS.F ht⟩) hS.2.2 hdg hlocks)
theorem mt_retz {S : Type} {Ω : Wld S} {u : S} {Q : Option Value → S → Prop} {v : Int32} (hx : p.tables.exec = Jvm.exec) (hb : c.code = cc) (hr : meth.sig.returnType = some .boolean) (hlocks : meth.locks = false) (hw : Ω A u H) (hS : va_S A s.heap H locs) (h1 : cells ≤ mc) (h2 : slots ≤ ms) (hdg : decode cc pc = .ok (.ireturn, 1)) (hn : narrow .boolean (.int v) = .int v) (hq : Q (some (.int v)) u) : W p l e R s m args below meth c H locs cells slots (MQ below (Qo Q (fun u' t => Ω A u' t.heap) A) args s mc ms A) (F0 m pc ls [.int v]) :=
  W.widen h1 h2 (W.zret (v := v) hx hb hr hn (fun t ht hW => ⟨⟨_, u, rfl, hq, (by show Ω A u t.heap; rw [ht]; exact hw)⟩, hS.F ht⟩) hS.2.2 hdg hlocks)
theorem mt_retl {S : Type} {Ω : Wld S} {u : S} {Q : Option Value → S → Prop} {v : Int64} (hx : p.tables.exec = Jvm.exec) (hb : c.code = cc) (hr : meth.sig.returnType = some .long) (hlocks : meth.locks = false) (hw : Ω A u H) (hS : va_S A s.heap H locs) (h1 : cells ≤ mc) (h2 : slots ≤ ms) (hdg : decode cc pc = .ok (.lreturn, 1)) (hq : Q (some (.long v)) u) : W p l e R s m args below meth c H locs cells slots (MQ below (Qo Q (fun u' t => Ω A u' t.heap) A) args s mc ms A) (F0 m pc ls [.long v]) :=
  W.widen h1 h2 (W.lret (v := v) hx hb hr (fun t ht hW => ⟨⟨_, u, rfl, hq, (by show Ω A u t.heap; rw [ht]; exact hw)⟩, hS.F ht⟩) hS.2.2 hdg)
theorem mt_retf {S : Type} {Ω : Wld S} {u : S} {Q : Option Value → S → Prop} {v : UInt32} (hx : p.tables.exec = Jvm.exec) (hb : c.code = cc) (hr : meth.sig.returnType = some .float) (hlocks : meth.locks = false) (hw : Ω A u H) (hS : va_S A s.heap H locs) (h1 : cells ≤ mc) (h2 : slots ≤ ms) (hdg : decode cc pc = .ok (.freturn, 1)) (hq : Q (some (.float v)) u) : W p l e R s m args below meth c H locs cells slots (MQ below (Qo Q (fun u' t => Ω A u' t.heap) A) args s mc ms A) (F0 m pc ls [.float v]) :=
  W.widen h1 h2 (W.fret (v := v) hx hb hr (fun t ht hW => ⟨⟨_, u, rfl, hq, (by show Ω A u t.heap; rw [ht]; exact hw)⟩, hS.F ht⟩) hS.2.2 hdg hlocks)
theorem mt_retv {S : Type} {Ω : Wld S} {u : S} {Q : Option Value → S → Prop} (hx : p.tables.exec = Jvm.exec) (hb : c.code = cc) (hr : meth.sig.returnType = none) (hlocks : meth.locks = false) (hw : Ω A u H) (hS : va_S A s.heap H locs) (h1 : cells ≤ mc) (h2 : slots ≤ ms) (hdg : decode cc pc = .ok (.return_, 1)) (hq : Q none u) : W p l e R s m args below meth c H locs cells slots (MQ below (Qo Q (fun u' t => Ω A u' t.heap) A) args s mc ms A) (F0 m pc ls []) :=
  W.widen h1 h2 (W.vret hx hb hr (fun t ht hW => ⟨⟨_, u, rfl, hq, (by show Ω A u t.heap; rw [ht]; exact hw)⟩, hS.F ht⟩) hS.2.2 hdg hlocks)
theorem mt_reta {S : Type} {Ω : Wld S} {u : S} {Q : Option Value → S → Prop} {o : Option Nat} {rt : String} (hx : p.tables.exec = Jvm.exec) (hb : c.code = cc) (hr : meth.sig.returnType = some (.object rt)) (hlocks : meth.locks = false) (hw : Ω A u H) (hS : va_S A s.heap H locs) (h1 : cells ≤ mc) (h2 : slots ≤ ms) (hdg : decode cc pc = .ok (.areturn, 1)) (hq : Q (some (va_rf o)) u) : W p l e R s m args below meth c H locs cells slots (MQ below (Qo Q (fun u' t => Ω A u' t.heap) A) args s mc ms A) (F0 m pc ls [va_rf o]) :=
  W.widen h1 h2 (W.aret (v := va_rf o) hx hb hr (Or.inl ⟨rt, rfl⟩) (va_rf_or o) (fun t ht hW => ⟨⟨_, u, rfl, hq, (by show Ω A u t.heap; rw [ht]; exact hw)⟩, hS.F ht⟩) hS.2.2 hdg hlocks)
theorem mt_go {S : Type} {Ω : Wld S} {Q : Option Value → S → Prop} {a : Array Value} (hΩ : Mono Ω) (hr : va_Run p l e R s m args below meth c H locs cells slots mc ms (F0 m pc ls st0) rest (Qo Q (fun u' t => Ω (AF A H.size) u' t.heap) (AF A H.size) a) (AF A H.size)) (hA : ∀ q, s.heap.size ≤ q → A q) (hS : va_S A s.heap H locs)
    (kk : ∀ (r : Option Value) (u' : S) (H1 : Heap) (locs1 : List Loc), Q r u' → Ω A u' H1 → va_S A s.heap H1 locs1 → W p l e R s m args below meth c H1 locs1 (cells + mc) (slots + ms) Qw (F0 m (pc + 3) ls (r.toList ++ rest))) : W p l e R s m args below meth c H locs cells slots Qw (F0 m pc ls st0) := by
  have hAA : ∀ q, AF A H.size q → A q := fun q h => h.elim id (fun h => hA q (Nat.le_trans hS.1 h))
  intro T hT X
  obtain ⟨v, st₀, t, T', L, h0, X', hL, e1, e2, ⟨⟨r, u, hv, hp, hb⟩, hz, hk⟩, st⟩ := hr T hT X
  cases hv
  rw [h0] at hz hk
  obtain ⟨t2, a1, b1⟩ := kk v u T'.heap (locs ++ L) hp (by rw [e1]; exact hΩ _ _ _ _ hAA hb)
    ⟨Nat.le_trans hS.1 (by rw [e1]; exact hz), fun q h1 h2 => by rw [e1, hk q (Nat.lt_of_lt_of_le h1 hS.1) (fun z => h2 (hAA q z))]; exact hS.2.1 q h1 h2, fun q hq => by
      rcases List.mem_append.mp hq with h | h
      · exact hS.2.2 q h
      · exact hAA _ (hL q h)⟩ T' rfl X'
  exact ⟨t2, st t2 a1, b1⟩
theorem mt_blind {S : Type} {Ω : Wld S} {F : Nat → Prop} {sz : Nat} {u : S} {av : List Value} : FrameBlind (va_Pc av (fun U => U.heap.size = sz ∧ KK D d U ∧ Ω F u U.heap)) := fun a U g mk q => by
  obtain ⟨q0, q1, qK, qW⟩ := q
  exact ⟨q0, q1, qK.calling g mk a, qW⟩
variable {y : MethodName} {bytes : ByteArray} {maxL nL index : Nat} {ret : Option FieldType} {rm : Room} {As : List Value} {own C : String} {b : Nat}
abbrev NoMH (y : MethodName) (n : Nat) : Prop := y.cls ≠ "java/lang/invoke/MethodHandle" ∧ y.cls ≠ "java/lang/invoke/VarHandle" ∧ (parseMethodDescriptor y.desc).map (fun d => d.parameters.length) = some n
abbrev Fits (rm R : Room) (maxL cells slots : Nat) : Prop := (rm.frames + 1 ≤ R.frames ∧ 8 + (maxL + 11) + rm.locals ≤ R.locals) ∧ (cells + rm.cells ≤ R.cells ∧ slots + rm.slots ≤ R.slots)
theorem mt_callS {S : Type} {Ω : Wld S} {u : S} {Q : Option Value → S → Prop} (hx : p.tables.exec = Jvm.exec) (hb : c.code = cc) (hml : c.maxLocals = nL) (hown : s.vm.findClass own = some m.cls) (hts : ∀ w ∈ lw_ok, w.before args s = true) (hK : KK D d s) (hΩ : Mono Ω) (hA : ∀ q, s.heap.size ≤ q → A q) (hw : Ω A u H) (hS : va_S A s.heap H locs) (hlz : ls.size = nL)
    (hM : MT D d Ω l y (WS y bytes maxL ret) rm As u Q) (hc : Cond.code y bytes maxL ret ∈ lw_ok) (hi : Cond.initialized y.cls ∈ lw_ok) (hl : Cond.methodLink own index y ∈ lw_ok) (hst : Cond.static y ∈ lw_ok) (hd : NoMH y As.length) (hf : Fits rm R maxL cells slots) (hstack : st0 = As.reverse ++ rest) (hW : (rest.map fun v => v.category).sum ≤ 8) (hdg : decode cc pc = .ok (.invokestatic index, 3))
    (kk : ∀ (r : Option Value) (u' : S) (H1 : Heap) (locs1 : List Loc), Q r u' → Ω A u' H1 → va_S A s.heap H1 locs1 → W p l e R s m args below meth c H1 locs1 (cells + rm.cells) (slots + rm.slots) Qw (F0 m (pc + 3) ls (r.toList ++ rest))) : W p l e R s m args below meth c H locs cells slots Qw (F0 m pc ls st0) :=
  mt_go hΩ (va_runS (As := As) (rest := rest) ⟨hx, hb, hml, hown, hts⟩ (hM A H.size) ⟨callB_of As.length hts (ws_good hc) rfl rfl rfl (hts _ hi) (hts _ hl) hd hf.1, hts _ hst⟩ ⟨mt_blind, fun U hU hW => ⟨rfl, by rw [hU], hK.moved hW, by rw [hU]; exact hw⟩⟩ rfl rfl hlz hstack (lv_room hW) hdg hf.2) hA hS kk
theorem mt_callV {S : Type} {Ω : Wld S} {u : S} {Q : Option Value → S → Prop} (hx : p.tables.exec = Jvm.exec) (hb : c.code = cc) (hml : c.maxLocals = nL) (hown : s.vm.findClass own = some m.cls) (hts : ∀ w ∈ lw_ok, w.before args s = true) (hK : KK D d s) (hΩ : Mono Ω) (hA : ∀ q, s.heap.size ≤ q → A q) (hw : Ω A u H) (hS : va_S A s.heap H locs) (hlz : ls.size = nL)
    (hM : MT D d Ω l y (WS y bytes maxL ret) rm (.ref b :: As) u Q) (hrc : ∃ cellB : Cell, H[b]? = some cellB ∧ cellB.vm.isStatics = false ∧ s.vm.findClass C = some cellB.cls) (hc : Cond.code y bytes maxL ret ∈ lw_ok) (hi : Cond.initialized y.cls ∈ lw_ok) (hl : Cond.methodLink own index y ∈ lw_ok) (hin : Cond.instanceMethod y ∈ lw_ok) (hse : Cond.selects C y y ∈ lw_ok) (hd : NoMH y As.length) (hf : Fits rm R maxL cells slots) (hstack : st0 = As.reverse ++ .ref b :: rest) (hW : (rest.map fun v => v.category).sum ≤ 8) (hdg : decode cc pc = .ok (.invokevirtual index, 3))
    (kk : ∀ (r : Option Value) (u' : S) (H1 : Heap) (locs1 : List Loc), Q r u' → Ω A u' H1 → va_S A s.heap H1 locs1 → W p l e R s m args below meth c H1 locs1 (cells + rm.cells) (slots + rm.slots) Qw (F0 m (pc + 3) ls (r.toList ++ rest))) : W p l e R s m args below meth c H locs cells slots Qw (F0 m pc ls st0) :=
  mt_go hΩ (va_runV (As := As) (rest := rest) ⟨hx, hb, hml, hown, hts⟩ (hM A H.size) ⟨callB_of As.length hts (ws_good hc) rfl rfl rfl (hts _ hi) (hts _ hl) hd hf.1, hts _ hin, hts _ hse⟩ ⟨mt_blind, hrc, fun U hU hW => ⟨rfl, by rw [hU], hK.moved hW, by rw [hU]; exact hw⟩⟩ rfl rfl hlz hstack (lv_room hW) hdg hf.2) hA hS kk
theorem mt_callI {S : Type} {Ω : Wld S} {u : S} {Q : Option Value → S → Prop} (hx : p.tables.exec = Jvm.exec) (hb : c.code = cc) (hml : c.maxLocals = nL) (hown : s.vm.findClass own = some m.cls) (hts : ∀ w ∈ lw_ok, w.before args s = true) (hK : KK D d s) (hΩ : Mono Ω) (hA : ∀ q, s.heap.size ≤ q → A q) (hw : Ω A u H) (hS : va_S A s.heap H locs) (hlz : ls.size = nL)
    (hM : MT D d Ω l y (WS y bytes maxL none) rm (.ref b :: As) u Q) (hc : Cond.code y bytes maxL none ∈ lw_ok) (hi : Cond.initialized y.cls ∈ lw_ok) (hl : Cond.methodLink own index y ∈ lw_ok) (hin : Cond.instanceMethod y ∈ lw_ok) (hy1 : y.name = "<init>") (hd : NoMH y As.length) (hf : Fits rm R maxL cells slots) (hstack : st0 = As.reverse ++ .ref b :: rest) (hW : (rest.map fun v => v.category).sum ≤ 8) (hdg : decode cc pc = .ok (.invokespecial index, 3))
    (kk : ∀ (r : Option Value) (u' : S) (H1 : Heap) (locs1 : List Loc), Q r u' → Ω A u' H1 → va_S A s.heap H1 locs1 → W p l e R s m args below meth c H1 locs1 (cells + rm.cells) (slots + rm.slots) Qw (F0 m (pc + 3) ls (r.toList ++ rest))) : W p l e R s m args below meth c H locs cells slots Qw (F0 m pc ls st0) :=
  mt_go hΩ (va_runI (As := As) (rest := rest) ⟨hx, hb, hml, hown, hts⟩ (hM A H.size) ⟨callB_of As.length hts (ws_good hc) rfl rfl rfl (hts _ hi) (hts _ hl) hd hf.1, hy1, hts _ hin⟩ ⟨mt_blind, fun U hU hW => ⟨rfl, by rw [hU], hK.moved hW, by rw [hU]; exact hw⟩⟩ rfl rfl hlz hstack (lv_room hW) hdg hf.2) hA hS kk
/-- a method that is declared in owner, named x there or below, and found as y in the class C of the receiver -/
theorem mt_callA {S : Type} {Ω : Wld S} {u : S} {Q : Option Value → S → Prop} {owner : String} {x : MethodName} (hx : p.tables.exec = Jvm.exec) (hb : c.code = cc) (hml : c.maxLocals = nL) (hown : s.vm.findClass own = some m.cls) (hts : ∀ w ∈ lw_ok, w.before args s = true) (hK : KK D d s) (hΩ : Mono Ω) (hA : ∀ q, s.heap.size ≤ q → A q) (hw : Ω A u H) (hS : va_S A s.heap H locs) (hlz : ls.size = nL)
    (hM : MT D d Ω l y (WS y bytes maxL ret) rm (.ref b :: As) u Q) (hrc : ∃ cellB : Cell, H[b]? = some cellB ∧ cellB.vm.isStatics = false ∧ s.vm.findClass C = some cellB.cls) (hc : Cond.code y bytes maxL ret ∈ lw_ok) (hi : Cond.initialized y.cls ∈ lw_ok) (hl : Cond.methodLink own index x ∈ lw_ok) (hsm : Cond.sameMethod x.cls owner x.name x.desc ∈ lw_ok) (hin : Cond.instanceMethod y ∈ lw_ok) (hse : Cond.selects C x y ∈ lw_ok) (hz : va_Nw (.declares ⟨owner, x.name, x.desc⟩) s) (hd : owner ≠ "java/lang/invoke/MethodHandle" ∧ owner ≠ "java/lang/invoke/VarHandle" ∧ (parseMethodDescriptor x.desc).map (fun d => d.parameters.length) = some As.length) (hf : Fits rm R maxL cells slots) (hstack : st0 = As.reverse ++ .ref b :: rest) (hW : (rest.map fun v => v.category).sum ≤ 8) (hdg : decode cc pc = .ok (.invokevirtual index, 3))
    (kk : ∀ (r : Option Value) (u' : S) (H1 : Heap) (locs1 : List Loc), Q r u' → Ω A u' H1 → va_S A s.heap H1 locs1 → W p l e R s m args below meth c H1 locs1 (cells + rm.cells) (slots + rm.slots) Qw (F0 m (pc + 3) ls (r.toList ++ rest))) : W p l e R s m args below meth c H locs cells slots Qw (F0 m pc ls st0) := by
  have h2 : ∀ sig, parseMethodDescriptor x.desc = some sig → As.length = sig.parameters.length := fun sig h => by
    have h2 := hd.2.2
    rw [h] at h2
    exact (Option.some.inj h2).symm
  exact mt_go hΩ (va_runU (As := As) (rest := rest) (C := C) (owner := owner) (x := x) ⟨hx, hb, hml, hown, hts⟩ (hM A H.size) ⟨⟨rfl, rfl, hf.1.1, hf.1.2, pay_in hts (ws_good hc), List.mem_cons_self⟩, hts _ hc, hts _ hi, ⟨hd.1, hd.2.1⟩, h2, hts _ hl, hts _ hsm, va_Decl.abs hz, hts _ hse, hts _ hin⟩ ⟨mt_blind, hrc, fun U hU hW => ⟨rfl, by rw [hU], hK.moved hW, by rw [hU]; exact hw⟩⟩ rfl rfl hlz hstack (lv_room hW) hdg hf.2) hA hS kk
end BASE
end
section
/-! ===== pictures: what lies at each address; the rules of the heap over them ===== -/
abbrev Pic : Type := Nat → Option va_E
def pset (G : Pic) (a : Nat) (e : va_E) : Pic := fun b => if b = a then some e else G b
theorem pset_self {G : Pic} {a : Nat} {e : va_E} : pset G a e a = some e := by simp [pset]
theorem pset_ne {G : Pic} {a b : Nat} {e : va_E} (h : b ≠ a) : pset G a e b = G b := by simp [pset, h]
def GP (D : va_G) (G : Pic) (H : Heap) : Prop := ∀ (a : Nat) (e : va_E), G a = some e → va_at D vwCl (a, e) H
theorem GP.lt {D : va_G} {G : Pic} {H : Heap} (h : GP D G H) {a : Nat} {e : va_E} (ha : G a = some e) : a < H.size := (h a e ha).lt
theorem GP.fresh {D : va_G} {G : Pic} {H : Heap} (h : GP D G H) {q : Nat} (hq : H.size ≤ q) : G q = none := by
  cases hg : G q with
  | none => rfl
  | some e => have := h.lt hg; omega
theorem GP.one {D : va_G} {G : Pic} {H : Heap} (h : GP D G H) {a : Nat} {e : va_E} (ha : G a = some e) : va_P D vwCl [(a, e)] H := fun k q hk => by
  match k, hk with
  | 0, hk => cases hk; exact h a e ha
  | k + 1, hk => simp at hk
/-- the picture as a list of cells -/
theorem gp_ws {D : va_G} {G : Pic} {H : Heap} {A : Nat → Prop} (hG : GP D G H) (hA : ∀ (a : Nat) (e : va_E), G a = some e → A a) : ∃ ws : va_W, va_P D vwCl ws H ∧ va_D A ws ∧ ∀ (a : Nat) (e : va_E), G a = some e → ∃ k : Nat, ws[k]? = some (a, e) := by
  have mem : ∀ q : Nat × va_E, q ∈ (List.range H.size).filterMap (fun a => (G a).map (fun e => (a, e))) ↔ G q.1 = some q.2 := by
    intro q
    rw [List.mem_filterMap]
    constructor
    · rintro ⟨a, -, h⟩
      cases hg : G a with
      | none => rw [hg] at h; cases h
      | some e => rw [hg] at h; cases h; exact hg
    · intro h
      exact ⟨q.1, List.mem_range.mpr (hG.lt h), by rw [h]; rfl⟩
  have pw : List.Pairwise (fun p q : Nat × va_E => p.1 ≠ q.1) ((List.range H.size).filterMap (fun a => (G a).map (fun e => (a, e)))) := by
    have h0 : List.Pairwise (fun a b : Nat => a ≠ b) (List.range H.size) := List.nodup_range
    refine List.Pairwise.filterMap _ ?_ h0
    intro a a' hne b hb b' hb'
    cases hg : G a with
    | none => simp [hg] at hb
    | some e =>
      cases hg' : G a' with
      | none => simp [hg'] at hb'
      | some e' =>
        simp [hg] at hb
        simp [hg'] at hb'
        subst hb
        subst hb'
        exact hne
  refine ⟨_, fun k q hk => hG q.1 q.2 ((mem q).mp (List.mem_of_getElem? hk)), ⟨fun i j x y hi hj hxy => ?_, fun k q hk => hA q.1 q.2 ((mem q).mp (List.mem_of_getElem? hk))⟩, fun a e h => List.getElem?_of_mem ((mem (a, e)).mpr h)⟩
  obtain ⟨li, ei⟩ := List.getElem?_eq_some_iff.mp hi
  obtain ⟨lj, ej⟩ := List.getElem?_eq_some_iff.mp hj
  rcases Nat.lt_trichotomy i j with h | h | h
  · exact absurd (by rw [ei, ej]; exact hxy) (List.pairwise_iff_getElem.mp pw i j li lj h)
  · exact h
  · exact absurd (by rw [ei, ej]; exact hxy.symm) (List.pairwise_iff_getElem.mp pw j i lj li h)
theorem gp_set {D : va_G} {G : Pic} {H1 : Heap} {ws : va_W} {k a : Nat} {e0 e : va_E} (hws : ∀ (a : Nat) (e : va_E), G a = some e → ∃ k : Nat, ws[k]? = some (a, e)) (hk : ws[k]? = some (a, e0)) (h : va_P D vwCl (ws.set k (a, e)) H1) : GP D (pset G a e) H1 := by
  intro b eb hb
  have hl := (List.getElem?_eq_some_iff.mp hk).1
  by_cases hba : b = a
  · subst hba
    rw [pset_self] at hb
    cases hb
    exact h k _ (List.getElem?_set_self hl)
  · rw [pset_ne hba] at hb
    obtain ⟨j, hj⟩ := hws b eb hb
    refine h j _ ?_
    rw [List.getElem?_set_ne (fun e => ?_)]
    · exact hj
    · subst e
      rw [hk] at hj
      cases hj
      exact hba rfl
theorem gp_push {D : va_G} {G : Pic} {H1 : Heap} {ws : va_W} {q : Nat} {e : va_E} (hws : ∀ (a : Nat) (e : va_E), G a = some e → ∃ k : Nat, ws[k]? = some (a, e)) (h : va_P D vwCl (ws ++ [(q, e)]) H1) : GP D (pset G q e) H1 := by
  intro b eb hb
  by_cases hba : b = q
  · subst hba
    rw [pset_self] at hb
    cases hb
    exact h ws.length _ (by simp)
  · rw [pset_ne hba] at hb
    obtain ⟨j, hj⟩ := hws b eb hb
    exact h j _ (by rw [List.getElem?_append_left (List.getElem?_eq_some_iff.mp hj).1]; exact hj)
/-- the world of a picture -/
def ΩG (D : va_G) : Wld Pic := fun F G H => GP D G H ∧ ∀ (a : Nat) (e : va_E), G a = some e → F a
theorem ΩG.mono (D : va_G) : Mono (ΩG D) := fun _ _ _ _ h hw => ⟨hw.1, fun a e ha => h a (hw.2 a e ha)⟩
theorem dom_set {G : Pic} {A : Nat → Prop} {a : Nat} {e : va_E} (h : ∀ (a : Nat) (e : va_E), G a = some e → A a) (ha : A a) : ∀ (b : Nat) (e' : va_E), pset G a e b = some e' → A b := fun b e' hb => by
  by_cases hba : b = a
  · rw [hba]; exact ha
  · rw [pset_ne hba] at hb; exact h b e' hb
section PICS
variable {p : Program} {l : Launch} {e : Env} {R : Room} {s : State} {m : MethodId} {args : Array Value} {below : List Frame} {meth : Method} {c : Code} {H : Heap} {locs : List Loc} {cells slots : Nat} {Q : State → Prop}
variable {cc : ByteArray} {pc : Nat} {ls : Array Slot} {rest : List Value} {D : va_G} {d : AC} {A : Nat → Prop} {a : Nat} {G : Pic}
theorem g_recv (hK : KK D d s) (hw : ΩG D A G H) {ci : Nat} {q : vw_C} {fs : List Value} (hc : vwCl[ci]? = some q) (he : G a = some (.inr (ci, fs))) : ∃ cell : Cell, H[a]? = some cell ∧ cell.vm.isStatics = false ∧ s.vm.findClass q.1 = some cell.cls := va_recv hK.1 (hw.1.one he) hc (q0 := 0) rfl
theorem g_get (hx : p.tables.exec = Jvm.exec) (hb : c.code = cc) {own ref C : String} {T : u_T} {N ci index : Nat} (hts : ∀ w ∈ lw_ok, w.before args s = true) (hin : ∀ w ∈ u_ws C T N, w ∈ lw_ok) (hown : s.vm.findClass own = some m.cls) (hK : KK D d s) (hw : ΩG D A G H) {fs : List Value} (he : G a = some (.inr (ci, fs))) (hc : vwCl[ci]? = some (C, T, N)) (k : Nat) (hk : k < N) (hlink : (Cond.fieldLink own index ref (T k).2.1 (T k).2.2.1).before args s = true) (hsame : ∀ x, s.fieldFound? (T k).1 (T k).2.1 (T k).2.2.1 = some x → s.fieldFound? ref (T k).2.1 (T k).2.2.1 = some x) {v : Value} (hv : fs[k]? = some v) (hdg : decode cc pc = .ok (.getfield index, 3))
    (kk : W p l e R s m args below meth c H locs cells slots Q (F0 m (pc + 3) ls (v :: rest))) : W p l e R s m args below meth c H locs cells slots Q (F0 m pc ls (.ref a :: rest)) :=
  va_get hx hb hts hin hown hK.1 (hw.1.one he) 0 rfl hc k hk hlink hsame hv hdg kk
theorem g_put (hx : p.tables.exec = Jvm.exec) (hb : c.code = cc) {own ref C : String} {T : u_T} {N ci index : Nat} (hts : ∀ w ∈ lw_ok, w.before args s = true) (hin : ∀ w ∈ u_ws C T N, w ∈ lw_ok) (ty0 : Nat → FieldType) (hty : ∀ k, k < N → parseFieldDescriptor (T k).2.2.1 = some (ty0 k)) (hnm : ∀ a, a < N → ∀ b, b < N → a ≠ b → (T a).2.1 ≠ (T b).2.1) (hown : s.vm.findClass own = some m.cls) (hK : KK D d s) (hw : ΩG D A G H) (hS : va_S A s.heap H locs) {fs : List Value} (he : G a = some (.inr (ci, fs))) (hc : vwCl[ci]? = some (C, T, N)) (k : Nat) (hk : k < N) (hlink : (Cond.fieldLink own index ref (T k).2.1 (T k).2.2.1).before args s = true) (hsame : ∀ x, s.fieldFound? (T k).1 (T k).2.1 (T k).2.2.1 = some x → s.fieldFound? ref (T k).2.1 (T k).2.2.1 = some x) (hfin : (T k).2.2.2 = false) {ty : FieldType} {v : Value} (hd : parseFieldDescriptor (T k).2.2.1 = some ty) (hn : narrow ty v = v) (hfit : fits ty v = true) (hl : k < fs.length)
    (hdg : decode cc pc = .ok (.putfield index, 3)) (kk : ∀ (H1 : Heap) (locs1 : List Loc), ΩG D A (pset G a (.inr (ci, fs.set k v))) H1 → va_S A s.heap H1 locs1 → W p l e R s m args below meth c H1 locs1 cells slots Q (F0 m (pc + 3) ls rest)) : W p l e R s m args below meth c H locs cells slots Q (F0 m pc ls (v :: .ref a :: rest)) := by
  obtain ⟨ws, hP, hD, hws⟩ := gp_ws hw.1 hw.2
  obtain ⟨q0, hq⟩ := hws _ _ he
  exact va_put hx hb hts hin ty0 hty hnm hown hK.1 hP hD hS q0 hq hc k hk hlink hsame hfin hd hn hfit hl hdg (fun H1 locs1 hP1 _ hS1 => kk H1 locs1 ⟨gp_set hws hq hP1, dom_set hw.2 (hw.2 _ _ he)⟩ hS1)
theorem g_putF (hx : p.tables.exec = Jvm.exec) (hb : c.code = cc) {own ref C : String} {T : u_T} {N ci index : Nat} (hts : ∀ w ∈ lw_ok, w.before args s = true) (hin : ∀ w ∈ u_ws C T N, w ∈ lw_ok) (ty0 : Nat → FieldType) (hty : ∀ k, k < N → parseFieldDescriptor (T k).2.2.1 = some (ty0 k)) (hnm : ∀ a, a < N → ∀ b, b < N → a ≠ b → (T a).2.1 ≠ (T b).2.1) (hown : s.vm.findClass own = some m.cls) (hK : KK D d s) (hw : ΩG D A G H) (hS : va_S A s.heap H locs) {fs : List Value} (he : G a = some (.inr (ci, fs))) (hc : vwCl[ci]? = some (C, T, N)) (k : Nat) (hk : k < N) (hlink : (Cond.fieldLink own index ref (T k).2.1 (T k).2.2.1).before args s = true) (hsame : ∀ x, s.fieldFound? (T k).1 (T k).2.1 (T k).2.2.1 = some x → s.fieldFound? ref (T k).2.1 (T k).2.2.1 = some x) (hfin : (T k).2.2.2 = true) (hin2 : meth.name = "<init>") (hdecl : (T k).1 = own) {ty : FieldType} {v : Value} (hd : parseFieldDescriptor (T k).2.2.1 = some ty) (hn : narrow ty v = v) (hfit : fits ty v = true) (hl : k < fs.length)
    (hdg : decode cc pc = .ok (.putfield index, 3)) (kk : ∀ (H1 : Heap) (locs1 : List Loc), ΩG D A (pset G a (.inr (ci, fs.set k v))) H1 → va_S A s.heap H1 locs1 → W p l e R s m args below meth c H1 locs1 cells slots Q (F0 m (pc + 3) ls rest)) : W p l e R s m args below meth c H locs cells slots Q (F0 m pc ls (v :: .ref a :: rest)) := by
  obtain ⟨ws, hP, hD, hws⟩ := gp_ws hw.1 hw.2
  obtain ⟨q0, hq⟩ := hws _ _ he
  exact va_putF hx hb hts hin ty0 hty hnm hown hK.1 hP hD hS q0 hq hc k hk hlink hsame hfin hin2 hdecl hd hn hfit hl hdg (fun H1 locs1 hP1 _ hS1 => kk H1 locs1 ⟨gp_set hws hq hP1, dom_set hw.2 (hw.2 _ _ he)⟩ hS1)
theorem g_new (hx : p.tables.exec = Jvm.exec) (hb : c.code = cc) {own C : String} {T : u_T} {N ci index : Nat} (hts : ∀ w ∈ lw_ok, w.before args s = true) (hin : ∀ w ∈ u_ws C T N, w ∈ lw_ok) (ty : Nat → FieldType) (hty : ∀ k, k < N → parseFieldDescriptor (T k).2.2.1 = some (ty k)) (hown : s.vm.findClass own = some m.cls) (hcl : (Cond.classLink own index C).before args s = true) (hinst : (Cond.instantiable C N).before args s = true) (hini : (Cond.initialized C).before args s = true)
    (hK : KK D d s) (hw : ΩG D A G H) (hS : va_S A s.heap H locs) (hA : ∀ q, s.heap.size ≤ q → A q) (hc : vwCl[ci]? = some (C, T, N)) {fs : List Value} (hfs : ∀ j, j < N → defaultValue (ty j) = vp_V fs j) (hcells : cells + 1 ≤ R.cells) (hslots : slots + N ≤ R.slots) (hdg : decode cc pc = .ok (.new index, 3))
    (kk : ∀ (q : Nat) (H1 : Heap), G q = none → ΩG D A (pset G q (.inr (ci, fs))) H1 → va_S A s.heap H1 locs →
      W p l e R s m args below meth c H1 locs (cells + 1) (slots + N) Q (F0 m (pc + 3) ls (.ref q :: rest))) : W p l e R s m args below meth c H locs cells slots Q (F0 m pc ls rest) := by
  obtain ⟨ws, hP, hD, hws⟩ := gp_ws hw.1 hw.2
  refine va_new hx hb hts hin ty hty hown hcl hinst hini hK.1 hP hD hS hA hc hfs hcells hslots hdg (fun q H1 hP1 hD1 hS1 => ?_)
  have hqn : G q = none := by
    cases hg : G q with
    | none => rfl
    | some e0 =>
      obtain ⟨k, hk⟩ := hws _ _ hg
      have hl := (List.getElem?_eq_some_iff.mp hk).1
      have := hD1.1 k ws.length (q, e0) (q, .inr (ci, fs)) (by rw [List.getElem?_append_left hl]; exact hk) (by simp) rfl
      omega
  exact kk q H1 hqn ⟨gp_push hws hP1, dom_set hw.2 (hD1.2 ws.length (q, .inr (ci, fs)) (by simp))⟩ hS1
theorem va_K.uniq {tys : List (ClassId × FieldType)} {ty : FieldType} {cA cB : ClassId} {t0 : Nat} (h : va_K D vwCl (tys ++ [(cA, ty)]) s) (ht : tys[t0]? = some (cB, ty)) : cA = cB := by
  have h1 := (h.2 tys.length (cA, ty) (by simp)).2
  have h2 := (h.2 t0 (cB, ty) (by rw [List.getElem?_append_left (List.getElem?_eq_some_iff.mp ht).1]; exact ht)).2
  cases ty with
  | object C =>
    obtain ⟨_, _, -, -, -, e1⟩ := h1
    obtain ⟨_, _, -, -, -, e2⟩ := h2
    exact Option.some.inj (e1.symm.trans e2)
  | _ => exact Option.some.inj (h1.symm.trans h2)
theorem g_newa (hx : p.tables.exec = Jvm.exec) (hb : c.code = cc) {atype : ArrayType} (harr : (Cond.arrayClass (newarray.typeOf atype)).before args s = true) {ty : FieldType} (hty : newarray.typeOf atype = ty) (hK : KK D d s) (hw : ΩG D A G H) (hS : va_S A s.heap H locs) (hA : ∀ q, s.heap.size ≤ q → A q) {cA : ClassId} (t0 : Nat) (ht : (tysOf d)[t0]? = some (cA, ty))
    {n : Int32} {N' : Nat} {a0 : vp_A} (ha : ∀ cA : ClassId, vp_cell cA a0 = arrV cA N' (fun _ => defaultValue ty)) (hn : ¬ n < 0) (hN : n.toNatClampNeg = N') (hbytes : N' * componentBytes ty ≤ 536870912) (hcells : cells + 1 ≤ R.cells) (hslots : slots + N' ≤ R.slots) (hdg : decode cc pc = .ok (.newarray atype, 2))
    (kk : ∀ (q : Nat) (H1 : Heap), G q = none → ΩG D A (pset G q (.inl (cA, a0))) H1 → va_S A s.heap H1 locs →
      W p l e R s m args below meth c H1 locs (cells + 1) (slots + N') Q (F0 m (pc + 2) ls (.ref q :: rest))) : W p l e R s m args below meth c H locs cells slots Q (F0 m pc ls (.int n :: rest)) := by
  obtain ⟨ws, hP, hD, hws⟩ := gp_ws hw.1 hw.2
  refine va_newa hx hb harr hty hK.1 hP hD hS hA ha hn hN hbytes hcells hslots hdg (fun q cB H1 hK1 hP1 hD1 hS1 => ?_)
  cases va_K.uniq hK1 ht
  have hqn : G q = none := by
    cases hg : G q with
    | none => rfl
    | some e0 =>
      obtain ⟨k, hk⟩ := hws _ _ hg
      have hl := (List.getElem?_eq_some_iff.mp hk).1
      have := hD1.1 k ws.length (q, e0) (q, .inl (cA, a0)) (by rw [List.getElem?_append_left hl]; exact hk) (by simp) rfl
      omega
  exact kk q H1 hqn ⟨gp_push hws hP1, dom_set hw.2 (hD1.2 ws.length (q, .inl (cA, a0)) (by simp))⟩ hS1
theorem g_newq (hx : p.tables.exec = Jvm.exec) (hb : c.code = cc) {own C : String} {index : Nat} (hown : s.vm.findClass own = some m.cls) (hclink : (Cond.classLink own index C).before args s = true) (hover : va_AO C s) (hK : KK D d s) (hw : ΩG D A G H) (hS : va_S A s.heap H locs) (hA : ∀ q, s.heap.size ≤ q → A q) {cA : ClassId} (t0 : Nat) (ht : (tysOf d)[t0]? = some (cA, .object C))
    {n : Int32} {N' : Nat} (hn : ¬ n < 0) (hN : n.toNatClampNeg = N') (hbytes : N' * 4 ≤ 536870912) (hcells : cells + 1 ≤ R.cells) (hslots : slots + N' ≤ R.slots) (hdg : decode cc pc = .ok (.anewarray index, 3))
    (kk : ∀ (q : Nat) (H1 : Heap), G q = none → ΩG D A (pset G q (.inl (cA, N', .inr (.inr (.inr (.inr (fun _ => none))))))) H1 → va_S A s.heap H1 locs →
      W p l e R s m args below meth c H1 locs (cells + 1) (slots + N') Q (F0 m (pc + 3) ls (.ref q :: rest))) : W p l e R s m args below meth c H locs cells slots Q (F0 m pc ls (.int n :: rest)) := by
  obtain ⟨ws, hP, hD, hws⟩ := gp_ws hw.1 hw.2
  refine va_newq hx hb hown hclink hover hK.1 hP hD hS hA hn hN hbytes hcells hslots hdg (fun q cB H1 hK1 hP1 hD1 hS1 => ?_)
  cases va_K.uniq hK1 ht
  have hqn : G q = none := by
    cases hg : G q with
    | none => rfl
    | some e0 =>
      obtain ⟨k, hk⟩ := hws _ _ hg
      have hl := (List.getElem?_eq_some_iff.mp hk).1
      have := hD1.1 k ws.length (q, e0) (q, .inl (cA, N', .inr (.inr (.inr (.inr (fun _ => none)))))) (by rw [List.getElem?_append_left hl]; exact hk) (by simp) rfl
      omega
  exact kk q H1 hqn ⟨gp_push hws hP1, dom_set hw.2 (hD1.2 ws.length (q, .inl (cA, N', .inr (.inr (.inr (.inr (fun _ => none)))))) (by simp))⟩ hS1
theorem g_aldq (hx : p.tables.exec = Jvm.exec) (hb : c.code = cc) (hK : KK D d s) (hw : ΩG D A G H) (t0 : Nat) {cA : ClassId} {C : String} {n : Nat} {f : Nat → Option Nat} (ha : G a = some (.inl (cA, n, .inr (.inr (.inr (.inr f)))))) (ht : (tysOf d)[t0]? = some (cA, .object C)) {i : Int32} (hin : vp_in i n) (hdg : decode cc pc = .ok (.aaload, 1))
    (kk : W p l e R s m args below meth c H locs cells slots Q (F0 m (pc + 1) ls (va_rf (f i.toNatClampNeg) :: rest))) : W p l e R s m args below meth c H locs cells slots Q (F0 m pc ls (.int i :: .ref a :: rest)) :=
  va_aldq hx hb hK.1 (hw.1.one ha) 0 t0 rfl ht hin hdg kk
theorem g_astqN (hx : p.tables.exec = Jvm.exec) (hb : c.code = cc) (hK : KK D d s) (hw : ΩG D A G H) (hS : va_S A s.heap H locs) (t0 : Nat) {cA : ClassId} {C : String} {n : Nat} {f : Nat → Option Nat} (ha : G a = some (.inl (cA, n, .inr (.inr (.inr (.inr f)))))) (ht : (tysOf d)[t0]? = some (cA, .object C)) {i : Int32} (hin : vp_in i n) (hdg : decode cc pc = .ok (.aastore, 1))
    (kk : ∀ (H1 : Heap) (locs1 : List Loc), ΩG D A (pset G a (.inl (cA, n, .inr (.inr (.inr (.inr (va_up f i.toNatClampNeg none))))))) H1 → va_S A s.heap H1 locs1 → W p l e R s m args below meth c H1 locs1 cells slots Q (F0 m (pc + 1) ls rest)) : W p l e R s m args below meth c H locs cells slots Q (F0 m pc ls (.null :: .int i :: .ref a :: rest)) := by
  obtain ⟨ws, hP, hD, hws⟩ := gp_ws hw.1 hw.2
  obtain ⟨q0, hq⟩ := hws _ _ ha
  exact va_astqN hx hb hK.1 hP hD hS q0 t0 hq ht hin hdg (fun H1 locs1 hP1 _ hS1 => kk H1 locs1 ⟨gp_set hws hq hP1, dom_set hw.2 (hw.2 _ _ ha)⟩ hS1)
theorem g_astqO (hx : p.tables.exec = Jvm.exec) (hb : c.code = cc) (hK : KK D d s) (hw : ΩG D A G H) (hS : va_S A s.heap H locs) (t0 : Nat) {cA : ClassId} {E : String} {n v ci : Nat} {vs : List Value} {r : vw_C} {f : Nat → Option Nat} (ha : G a = some (.inl (cA, n, .inr (.inr (.inr (.inr f)))))) (ht : (tysOf d)[t0]? = some (cA, .object E)) (hca : va_Nw (.castable r.1 E) s) (hv : G v = some (.inr (ci, vs))) (hc : vwCl[ci]? = some r) {i : Int32} (hin : vp_in i n) (hdg : decode cc pc = .ok (.aastore, 1))
    (kk : ∀ (H1 : Heap) (locs1 : List Loc), ΩG D A (pset G a (.inl (cA, n, .inr (.inr (.inr (.inr (va_up f i.toNatClampNeg (some v)))))))) H1 → va_S A s.heap H1 locs1 → W p l e R s m args below meth c H1 locs1 cells slots Q (F0 m (pc + 1) ls rest)) : W p l e R s m args below meth c H locs cells slots Q (F0 m pc ls (.ref v :: .int i :: .ref a :: rest)) := by
  obtain ⟨ws, hP, hD, hws⟩ := gp_ws hw.1 hw.2
  obtain ⟨q0, hq⟩ := hws _ _ ha
  obtain ⟨q1, hq1⟩ := hws _ _ hv
  exact va_astqO hx hb hK.1 hP hD hS q0 t0 q1 ci hq ht hca hq1 hc hin hdg (fun H1 locs1 hP1 _ hS1 => kk H1 locs1 ⟨gp_set hws hq hP1, dom_set hw.2 (hw.2 _ _ ha)⟩ hS1)
theorem g_astq (hx : p.tables.exec = Jvm.exec) (hb : c.code = cc) (hK : KK D d s) (hw : ΩG D A G H) (hS : va_S A s.heap H locs) (t0 : Nat) {cA : ClassId} {n v ci : Nat} {vs : List Value} {r : vw_C} {f : Nat → Option Nat} (ha : G a = some (.inl (cA, n, .inr (.inr (.inr (.inr f)))))) (ht : (tysOf d)[t0]? = some (cA, .object r.1)) (hv : G v = some (.inr (ci, vs))) (hc : vwCl[ci]? = some r) {i : Int32} (hin : vp_in i n) (hdg : decode cc pc = .ok (.aastore, 1))
    (kk : ∀ (H1 : Heap) (locs1 : List Loc), ΩG D A (pset G a (.inl (cA, n, .inr (.inr (.inr (.inr (va_up f i.toNatClampNeg (some v)))))))) H1 → va_S A s.heap H1 locs1 → W p l e R s m args below meth c H1 locs1 cells slots Q (F0 m (pc + 1) ls rest)) : W p l e R s m args below meth c H locs cells slots Q (F0 m pc ls (.ref v :: .int i :: .ref a :: rest)) := by
  obtain ⟨ws, hP, hD, hws⟩ := gp_ws hw.1 hw.2
  obtain ⟨q0, hq⟩ := hws _ _ ha
  obtain ⟨q1, hq1⟩ := hws _ _ hv
  exact va_astq hx hb hK.1 hP hD hS q0 t0 q1 ci hq ht hq1 hc hin hdg (fun H1 locs1 hP1 _ hS1 => kk H1 locs1 ⟨gp_set hws hq hP1, dom_set hw.2 (hw.2 _ _ ha)⟩ hS1)
/-! references that may be null, in locals and on the stack -/
theorem lv_aloadq_n (hx : p.tables.exec = Jvm.exec) (hb : c.code = cc) {k : Fin 4} {i : Nat} {o : Option Nat} (hdg : decode cc pc = .ok (.aload_n k, 1)) (hi : (k : Nat) = i) (hl : ls[i]? = some (.val (va_rf o)))
    (kk : W p l e R s m args below meth c H locs cells slots Q (F0 m (pc + 1) ls (va_rf o :: rest))) : W p l e R s m args below meth c H locs cells slots Q (F0 m pc ls rest) := by
  cases o with
  | none => exact lv_aload_nN hx hb hdg hi hl kk
  | some a => exact lv_aload_n hx hb hdg hi hl kk
theorem lv_aloadq (hx : p.tables.exec = Jvm.exec) (hb : c.code = cc) {i : Nat} {o : Option Nat} (hdg : decode cc pc = .ok (.aload i, 2)) (hl : ls[i]? = some (.val (va_rf o)))
    (kk : W p l e R s m args below meth c H locs cells slots Q (F0 m (pc + 2) ls (va_rf o :: rest))) : W p l e R s m args below meth c H locs cells slots Q (F0 m pc ls rest) := by
  cases o with
  | none => exact lv_aloadN hx hb hdg hl kk
  | some a => exact lv_aload hx hb hdg hl kk
theorem lv_astoreq_n (hx : p.tables.exec = Jvm.exec) (hb : c.code = cc) {k : Fin 4} {i nL : Nat} {o : Option Nat} {lv lv' : List (Nat × Value)} (hdg : decode cc pc = .ok (.astore_n k, 1)) (hi : (k : Nat) = i) (h : lv_has ls nL lv) (hn : i < nL) (hl : (i, va_rf o) :: lv.filter (fun q => !(q.1 == i) && !(q.1 + 1 == i && q.2.category == 2)) = lv')
    (kk : ∀ ls' : Array Slot, lv_has ls' nL lv' → W p l e R s m args below meth c H locs cells slots Q (F0 m (pc + 1) ls' rest)) : W p l e R s m args below meth c H locs cells slots Q (F0 m pc ls (va_rf o :: rest)) := by
  cases o with
  | none => exact lv_astore_nN hx hb hdg hi h hn hl kk
  | some a => exact lv_astore_n hx hb hdg hi h hn hl kk
theorem lv_astoreq (hx : p.tables.exec = Jvm.exec) (hb : c.code = cc) {i nL : Nat} {o : Option Nat} {lv lv' : List (Nat × Value)} (hdg : decode cc pc = .ok (.astore i, 2)) (h : lv_has ls nL lv) (hn : i < nL) (hl : (i, va_rf o) :: lv.filter (fun q => !(q.1 == i) && !(q.1 + 1 == i && q.2.category == 2)) = lv')
    (kk : ∀ ls' : Array Slot, lv_has ls' nL lv' → W p l e R s m args below meth c H locs cells slots Q (F0 m (pc + 2) ls' rest)) : W p l e R s m args below meth c H locs cells slots Q (F0 m pc ls (va_rf o :: rest)) := by
  cases o with
  | none => exact lv_astoreN hx hb hdg h hn hl kk
  | some a => exact lv_astore hx hb hdg h hn hl kk
theorem lv_topq {o : Option Nat} (kk : ∀ y : Option Nat, y = o → W p l e R s m args below meth c H locs cells slots Q (F0 m pc ls (va_rf y :: rest))) : W p l e R s m args below meth c H locs cells slots Q (F0 m pc ls (va_rf o :: rest)) := kk o rfl
theorem lv_ifnullq (hx : p.tables.exec = Jvm.exec) (hb : c.code = cc) {off : Int} {tgt : Nat} {o : Option Nat} (hdg : decode cc pc = .ok (.ifnull off, 3)) (ht : (pc : Int) + off = (tgt : Int)) (kt : o = none → W p l e R s m args below meth c H locs cells slots Q (F0 m tgt ls rest)) (kf : ∀ a : Nat, o = some a → W p l e R s m args below meth c H locs cells slots Q (F0 m (pc + 3) ls rest)) : W p l e R s m args below meth c H locs cells slots Q (F0 m pc ls (va_rf o :: rest)) := by
  cases o with
  | none => exact lv_ifnullN hx hb hdg ht (kt rfl)
  | some a => exact lv_ifnull hx hb hdg (kf a rfl)
theorem lv_ifnonnullq (hx : p.tables.exec = Jvm.exec) (hb : c.code = cc) {off : Int} {tgt : Nat} {o : Option Nat} (hdg : decode cc pc = .ok (.ifnonnull off, 3)) (ht : (pc : Int) + off = (tgt : Int)) (kt : ∀ a : Nat, o = some a → W p l e R s m args below meth c H locs cells slots Q (F0 m tgt ls rest)) (kf : o = none → W p l e R s m args below meth c H locs cells slots Q (F0 m (pc + 3) ls rest)) : W p l e R s m args below meth c H locs cells slots Q (F0 m pc ls (va_rf o :: rest)) := by
  cases o with
  | none => exact lv_ifnonnullN hx hb hdg (kf rfl)
  | some a => exact lv_ifnonnull hx hb hdg ht (kt a rfl)
theorem va_rf_cat (o : Option Nat) : (va_rf o).category = 1 := by cases o <;> rfl
end PICS
end
section
/-! ===== the world of the reference: its object and its fourteen arrays ===== -/
abbrev MS : Type := (Nat → Int32) × (Nat → Int32) × (Nat → Int32) × (Nat → Int32) × (Nat → Int32) × (Nat → Int32) × (Nat → Int32) × (Nat → Int32) × (Nat → Int32) × (Nat → Int32) × (Nat → Int32) × (Nat → Int64) × (Nat → Int32) × (Nat → Int32) × Int32
abbrev mCell (μ : MS) : (Nat → Int32) := μ.1
abbrev mSize (μ : MS) : (Nat → Int32) := μ.2.1
abbrev mUses (μ : MS) : (Nat → Int32) := μ.2.2.1
abbrev mDrums (μ : MS) : (Nat → Int32) := μ.2.2.2.1
abbrev mTeeth (μ : MS) : (Nat → Int32) := μ.2.2.2.2.1
abbrev mCK (μ : MS) : (Nat → Int32) := μ.2.2.2.2.2.1
abbrev mCT (μ : MS) : (Nat → Int32) := μ.2.2.2.2.2.2.1
abbrev mHeads (μ : MS) : (Nat → Int32) := μ.2.2.2.2.2.2.2.1
abbrev mNotes (μ : MS) : (Nat → Int32) := μ.2.2.2.2.2.2.2.2.1
abbrev mPlayed (μ : MS) : (Nat → Int32) := μ.2.2.2.2.2.2.2.2.2.1
abbrev mGaps (μ : MS) : (Nat → Int32) := μ.2.2.2.2.2.2.2.2.2.2.1
abbrev mWts (μ : MS) : (Nat → Int64) := μ.2.2.2.2.2.2.2.2.2.2.2.1
abbrev mHigh (μ : MS) : (Nat → Int32) := μ.2.2.2.2.2.2.2.2.2.2.2.2.1
abbrev mLoud (μ : MS) : (Nat → Int32) := μ.2.2.2.2.2.2.2.2.2.2.2.2.2.1
abbrev mState (μ : MS) : Int32 := μ.2.2.2.2.2.2.2.2.2.2.2.2.2.2
abbrev nCell (μ : MS) (v : (Nat → Int32)) : MS := (v, μ.2)
abbrev nSize (μ : MS) (v : (Nat → Int32)) : MS := (μ.1, v, μ.2.2)
abbrev nUses (μ : MS) (v : (Nat → Int32)) : MS := (μ.1, μ.2.1, v, μ.2.2.2)
abbrev nDrums (μ : MS) (v : (Nat → Int32)) : MS := (μ.1, μ.2.1, μ.2.2.1, v, μ.2.2.2.2)
abbrev nTeeth (μ : MS) (v : (Nat → Int32)) : MS := (μ.1, μ.2.1, μ.2.2.1, μ.2.2.2.1, v, μ.2.2.2.2.2)
abbrev nCK (μ : MS) (v : (Nat → Int32)) : MS := (μ.1, μ.2.1, μ.2.2.1, μ.2.2.2.1, μ.2.2.2.2.1, v, μ.2.2.2.2.2.2)
abbrev nCT (μ : MS) (v : (Nat → Int32)) : MS := (μ.1, μ.2.1, μ.2.2.1, μ.2.2.2.1, μ.2.2.2.2.1, μ.2.2.2.2.2.1, v, μ.2.2.2.2.2.2.2)
abbrev nHeads (μ : MS) (v : (Nat → Int32)) : MS := (μ.1, μ.2.1, μ.2.2.1, μ.2.2.2.1, μ.2.2.2.2.1, μ.2.2.2.2.2.1, μ.2.2.2.2.2.2.1, v, μ.2.2.2.2.2.2.2.2)
abbrev nNotes (μ : MS) (v : (Nat → Int32)) : MS := (μ.1, μ.2.1, μ.2.2.1, μ.2.2.2.1, μ.2.2.2.2.1, μ.2.2.2.2.2.1, μ.2.2.2.2.2.2.1, μ.2.2.2.2.2.2.2.1, v, μ.2.2.2.2.2.2.2.2.2)
abbrev nPlayed (μ : MS) (v : (Nat → Int32)) : MS := (μ.1, μ.2.1, μ.2.2.1, μ.2.2.2.1, μ.2.2.2.2.1, μ.2.2.2.2.2.1, μ.2.2.2.2.2.2.1, μ.2.2.2.2.2.2.2.1, μ.2.2.2.2.2.2.2.2.1, v, μ.2.2.2.2.2.2.2.2.2.2)
abbrev nGaps (μ : MS) (v : (Nat → Int32)) : MS := (μ.1, μ.2.1, μ.2.2.1, μ.2.2.2.1, μ.2.2.2.2.1, μ.2.2.2.2.2.1, μ.2.2.2.2.2.2.1, μ.2.2.2.2.2.2.2.1, μ.2.2.2.2.2.2.2.2.1, μ.2.2.2.2.2.2.2.2.2.1, v, μ.2.2.2.2.2.2.2.2.2.2.2)
abbrev nWts (μ : MS) (v : (Nat → Int64)) : MS := (μ.1, μ.2.1, μ.2.2.1, μ.2.2.2.1, μ.2.2.2.2.1, μ.2.2.2.2.2.1, μ.2.2.2.2.2.2.1, μ.2.2.2.2.2.2.2.1, μ.2.2.2.2.2.2.2.2.1, μ.2.2.2.2.2.2.2.2.2.1, μ.2.2.2.2.2.2.2.2.2.2.1, v, μ.2.2.2.2.2.2.2.2.2.2.2.2)
abbrev nHigh (μ : MS) (v : (Nat → Int32)) : MS := (μ.1, μ.2.1, μ.2.2.1, μ.2.2.2.1, μ.2.2.2.2.1, μ.2.2.2.2.2.1, μ.2.2.2.2.2.2.1, μ.2.2.2.2.2.2.2.1, μ.2.2.2.2.2.2.2.2.1, μ.2.2.2.2.2.2.2.2.2.1, μ.2.2.2.2.2.2.2.2.2.2.1, μ.2.2.2.2.2.2.2.2.2.2.2.1, v, μ.2.2.2.2.2.2.2.2.2.2.2.2.2)
abbrev nLoud (μ : MS) (v : (Nat → Int32)) : MS := (μ.1, μ.2.1, μ.2.2.1, μ.2.2.2.1, μ.2.2.2.2.1, μ.2.2.2.2.2.1, μ.2.2.2.2.2.2.1, μ.2.2.2.2.2.2.2.1, μ.2.2.2.2.2.2.2.2.1, μ.2.2.2.2.2.2.2.2.2.1, μ.2.2.2.2.2.2.2.2.2.2.1, μ.2.2.2.2.2.2.2.2.2.2.2.1, μ.2.2.2.2.2.2.2.2.2.2.2.2.1, v, μ.2.2.2.2.2.2.2.2.2.2.2.2.2.2)
abbrev nState (μ : MS) (v : Int32) : MS := (μ.1, μ.2.1, μ.2.2.1, μ.2.2.2.1, μ.2.2.2.2.1, μ.2.2.2.2.2.1, μ.2.2.2.2.2.2.1, μ.2.2.2.2.2.2.2.1, μ.2.2.2.2.2.2.2.2.1, μ.2.2.2.2.2.2.2.2.2.1, μ.2.2.2.2.2.2.2.2.2.2.1, μ.2.2.2.2.2.2.2.2.2.2.2.1, μ.2.2.2.2.2.2.2.2.2.2.2.2.1, μ.2.2.2.2.2.2.2.2.2.2.2.2.2.1, v)
abbrev mw (d : AC) (mp : Nat → Nat) (μ : MS) : va_W := [(mp 0, .inr (8, [.ref (mp 1), .ref (mp 2), .ref (mp 3), .ref (mp 4), .ref (mp 5), .ref (mp 6), .ref (mp 7), .ref (mp 8), .ref (mp 9), .ref (mp 10), .ref (mp 11), .ref (mp 12), .ref (mp 13), .ref (mp 14), .int (mState μ)])), (mp 1, .inl (d 8, 60600, .inl (mCell μ))), (mp 2, .inl (d 8, 202, .inl (mSize μ))), (mp 3, .inl (d 8, 202, .inl (mUses μ))), (mp 4, .inl (d 8, 40, .inl (mDrums μ))), (mp 5, .inl (d 8, 160, .inl (mTeeth μ))), (mp 6, .inl (d 8, 4, .inl (mCK μ))), (mp 7, .inl (d 8, 4, .inl (mCT μ))), (mp 8, .inl (d 8, 8, .inl (mHeads μ))), (mp 9, .inl (d 8, 8, .inl (mNotes μ))), (mp 10, .inl (d 8, 8, .inl (mPlayed μ))), (mp 11, .inl (d 8, 8, .inl (mGaps μ))), (mp 12, .inl (d 9, 8, .inr (.inl (mWts μ)))), (mp 13, .inl (d 8, 8, .inl (mHigh μ))), (mp 14, .inl (d 8, 8, .inl (mLoud μ)))]
def ΩM (D : va_G) (d : AC) (mp : Nat → Nat) : Wld MS := fun F μ H => va_P D vwCl (mw d mp μ) H ∧ va_D F (mw d mp μ)
theorem ΩM.mono (D : va_G) (d : AC) (mp : Nat → Nat) : Mono (ΩM D d mp) := fun _ _ _ _ h hw => ⟨hw.1, hw.2.weaken (fun _ q _ hq => h q.1 hq)⟩
theorem ΩM.recv {D : va_G} {d : AC} {mp : Nat → Nat} {A : Nat → Prop} {μ : MS} {H : Heap} {s : State} (hK : KK D d s) (hw : ΩM D d mp A μ H) : ∃ cell : Cell, H[mp 0]? = some cell ∧ cell.vm.isStatics = false ∧ s.vm.findClass RX9 = some cell.cls := va_recv hK.1 hw.1 (ci := 8) (q := (RX9, TX9, 15)) (q0 := 0) rfl rfl
/-- the answers of a contract, by their types -/
abbrev qI {S : Type} (Q : Int32 → S → Prop) : Option Value → S → Prop := fun o u => ∃ r : Int32, o = some (.int r) ∧ Q r u
abbrev qZ {S : Type} (Q : Int32 → S → Prop) : Option Value → S → Prop := fun o u => ∃ r : Int32, o = some (.int r) ∧ (r = 0 ∨ r = 1) ∧ Q r u
abbrev qL {S : Type} (Q : Int64 → S → Prop) : Option Value → S → Prop := fun o u => ∃ r : Int64, o = some (.long r) ∧ Q r u
abbrev qF {S : Type} (Q : UInt32 → S → Prop) : Option Value → S → Prop := fun o u => ∃ r : UInt32, o = some (.float r) ∧ Q r u
abbrev qA {S : Type} (Q : Option Nat → S → Prop) : Option Value → S → Prop := fun o u => ∃ r : Option Nat, o = some (va_rf r) ∧ Q r u
abbrev qV {S : Type} (Q : S → Prop) : Option Value → S → Prop := fun o u => o = none ∧ Q u
theorem mt_ofF {S : Type} {D : va_G} {d : AC} {Ω : Wld S} {l : Launch} {y : MethodName} {rm : Room} {av : List Value} {u : S} {Q : Option Value → S → Prop} {cc : ByteArray} {maxL : Nat} {ret : Option FieldType}
    (hΩ : Mono Ω) (hy : plainFor y = true) (hn : (lg_sl av).length ≤ maxL)
    (body : ∀ (p : Program) (e : Env) (s : State) (m : MethodId) (below : List Frame) (meth : Method) (c : Code) (A : Nat → Prop) (ls : Array Slot), p.tables.exec = Jvm.exec → c.code = cc → meth.sig.returnType = ret → c.maxLocals = maxL → s.vm.findClass y.cls = some m.cls → (∀ w ∈ lw_ok, w.before av.toArray s = true) → meth.locks = false → meth.name = y.name → KK D d s → (∀ q, s.heap.size ≤ q → A q) → Ω A u s.heap → va_S A s.heap s.heap [] → lv_has ls maxL (lv_args 0 av) →
      W p l e rm s m av.toArray below meth c s.heap [] 0 0 (MQ below (Qo Q (fun u' t => Ω A u' t.heap) A) av.toArray s rm.cells rm.slots A) (F0 m 0 ls [])) : MT D d Ω l y (WS y cc maxL ret) rm av u Q := by
  intro F sz
  refine va_MetF (cc := cc) (maxL := maxL) (ret := ret) hy rfl ?_
  intro p e s m args below meth c s₁ B hml hv
  obtain ⟨rfl, hsz, hK, hw⟩ := hv
  subst hsz
  have hts := atoms_spec (ws := WS y cc maxL ret) B.pre
  rw [lg_entry_eq]
  exact body p e s m below meth c (AF F s.heap.size) _ B.exec B.bytes B.returns hml (findClass_of_methodNamed B.named) (fun w h => hts w (List.mem_cons_of_mem _ h)) B.notSynchronized (name_of_methodNamed B.named B.method).1 hK (fun q h => Or.inr h) (hΩ _ _ _ _ (fun q h => Or.inl h) hw) va_S.rf (lv_entry av hn)
end
section
abbrev rmJxf58ca_isNaN_12338 : Room := { frames := 0, cells := 0, slots := 0, locals := 0 }
theorem nmhJxf58ca_isNaN_12338 : NoMH yJxf58ca_isNaN_12338 1 := by decide +kernel
def wJxf58ca_isNaN_12338 (x0 : UInt32) (μ : MS) (Q : Int32 → MS → Prop) : Prop :=
    ((Op.cmpValue (FP.fcmp x0 x0) CmpOp.l) = 0 → Q (0 : Int32) μ) ∧ (¬ (Op.cmpValue (FP.fcmp x0 x0) CmpOp.l) = 0 → Q (1 : Int32) μ)
set_option maxHeartbeats 4000000 in
set_option maxRecDepth 100000 in
theorem tJxf58ca_isNaN_12338 (l : Launch) (D : va_G) (d : AC) (mp : Nat → Nat) (x0 : UInt32) (μ : MS) {Q : Int32 → MS → Prop} (hq : wJxf58ca_isNaN_12338 x0 μ Q) : MT D d (ΩM D d mp) l yJxf58ca_isNaN_12338 (WS yJxf58ca_isNaN_12338 cJxf58ca_isNaN_12338 1 (some (.boolean))) rmJxf58ca_isNaN_12338 [.float x0] μ (qZ Q) := by
  refine mt_ofF (ΩM.mono D d mp) (by decide +kernel) (Nat.le_of_ble_eq_true rfl) (fun p e s m below meth c A ls hx hb hr hml hown hts hlocks hnm hK hA hw hS hl => ?_)
  have hl : lv_has ls 1 [(0, .float x0)] := hl
  have hown : s.vm.findClass RJxf58ca = some m.cls := hown
  unfold wJxf58ca_isNaN_12338 at hq
  refine lv_fload_n hx hb dJxf58ca_isNaN_12338_0 rfl (lv_at hl 0 rfl) ?_
  refine lv_fload_n hx hb dJxf58ca_isNaN_12338_1 rfl (lv_at hl 0 rfl) ?_
  refine lv_fcmp hx hb dJxf58ca_isNaN_12338_2 ?_
  refine lv_if_eq (tgt := 10) hx hb dJxf58ca_isNaN_12338_3 (by decide) (fun hc => ?_) (fun hc => ?_)
  · have hq := hq.1 hc
    refine lv_iconst (v := 0) hx hb dJxf58ca_isNaN_12338_10 (by decide) ?_
    exact mt_retz hx hb hr hlocks hw hS (Nat.le_of_ble_eq_true rfl) (Nat.le_of_ble_eq_true rfl) dJxf58ca_isNaN_12338_11 rfl ⟨_, rfl, Or.inl rfl, hq⟩
  · have hq := hq.2 hc
    refine lv_iconst (v := 1) hx hb dJxf58ca_isNaN_12338_6 (by decide) ?_
    refine lv_goto (tgt := 11) hx hb dJxf58ca_isNaN_12338_7 (by decide) ?_
    exact mt_retz hx hb hr hlocks hw hS (Nat.le_of_ble_eq_true rfl) (Nat.le_of_ble_eq_true rfl) dJxf58ca_isNaN_12338_11 rfl ⟨_, rfl, Or.inr rfl, hq⟩
abbrev rmJxf58ca_floatToIntBits_5c35a : Room := { frames := 1, cells := 0, slots := 0, locals := 23 }
theorem nmhJxf58ca_floatToIntBits_5c35a : NoMH yJxf58ca_floatToIntBits_5c35a 1 := by decide +kernel
def wJxf58ca_floatToIntBits_5c35a (x0 : UInt32) (μ : MS) (Q : Int32 → MS → Prop) : Prop :=
    wJxf58ca_isNaN_12338 x0 μ (fun r3 u4 => (¬ r3 = 0 → Q (2143289344 : Int32) u4) ∧ (r3 = 0 → (Q x0.toInt32 u4)))
set_option maxHeartbeats 4000000 in
set_option maxRecDepth 100000 in
theorem tJxf58ca_floatToIntBits_5c35a (l : Launch) (D : va_G) (d : AC) (mp : Nat → Nat) (x0 : UInt32) (μ : MS) {Q : Int32 → MS → Prop} (hq : wJxf58ca_floatToIntBits_5c35a x0 μ Q) : MT D d (ΩM D d mp) l yJxf58ca_floatToIntBits_5c35a (WS yJxf58ca_floatToIntBits_5c35a cJxf58ca_floatToIntBits_5c35a 1 (some (.int))) rmJxf58ca_floatToIntBits_5c35a [.float x0] μ (qI Q) := by
  refine mt_ofF (ΩM.mono D d mp) (by decide +kernel) (Nat.le_of_ble_eq_true rfl) (fun p e s m below meth c A ls hx hb hr hml hown hts hlocks hnm hK hA hw hS hl => ?_)
  have hl : lv_has ls 1 [(0, .float x0)] := hl
  have hown : s.vm.findClass RJxf58ca = some m.cls := hown
  unfold wJxf58ca_floatToIntBits_5c35a at hq
  refine lv_fload_n hx hb dJxf58ca_floatToIntBits_5c35a_0 rfl (lv_at hl 0 rfl) ?_
  refine mt_callS (index := 59) hx hb hml hown hts hK (ΩM.mono D d mp) hA hw hS hl.1 (tJxf58ca_isNaN_12338 l D d mp x0 μ hq) q_574 q_41 q_572 q_573 nmhJxf58ca_isNaN_12338 ⟨⟨Nat.le_of_ble_eq_true rfl, Nat.le_of_ble_eq_true rfl⟩, ⟨Nat.le_of_ble_eq_true rfl, Nat.le_of_ble_eq_true rfl⟩⟩ rfl (Nat.le_of_ble_eq_true rfl) dJxf58ca_floatToIntBits_5c35a_1 (fun _ u4 H locs hq hw hS => ?_)
  obtain ⟨r3, rfl, hzr3, hq⟩ := hq
  refine W.eq (g2 := F0 m 4 ls [.int r3]) rfl ?_
  refine lv_if_ne (tgt := 12) hx hb dJxf58ca_floatToIntBits_5c35a_4 (by decide) (fun hc => ?_) (fun hc => ?_)
  · have hq := hq.1 hc
    refine lv_ldc (v := 2143289344) hx hb hown (hts _ q_578) dJxf58ca_floatToIntBits_5c35a_12 ?_
    exact mt_reti hx hb hr hlocks hw hS (Nat.le_of_ble_eq_true rfl) (Nat.le_of_ble_eq_true rfl) dJxf58ca_floatToIntBits_5c35a_14 ⟨_, rfl, hq⟩
  · have hq := hq.2 hc
    refine lv_fload_n hx hb dJxf58ca_floatToIntBits_5c35a_7 rfl (lv_at hl 0 rfl) ?_
    refine vn_f2i hx hb (hml.trans hl.1.symm) hown (hts _ q_575) (hts _ q_577) (hts _ q_576) (hts _ q_41) (Nat.le_of_ble_eq_true rfl) (Nat.le_of_ble_eq_true rfl) dJxf58ca_floatToIntBits_5c35a_8 ?_
    exact mt_reti hx hb hr hlocks hw hS (Nat.le_of_ble_eq_true rfl) (Nat.le_of_ble_eq_true rfl) dJxf58ca_floatToIntBits_5c35a_11 ⟨_, rfl, hq⟩
abbrev rmX9_told : Room := { frames := 0, cells := 0, slots := 0, locals := 0 }
theorem nmhX9_told : NoMH yX9_told 1 := by decide +kernel
def wX9_told (x1 : Int32) (μ : MS) (Q : Int32 → MS → Prop) : Prop :=
    (0 ≤ x1 → (Q x1 (nState μ (0 : Int32)))) ∧ (¬ 0 ≤ x1 → Q x1 (nState μ x1))
set_option maxHeartbeats 4000000 in
set_option maxRecDepth 100000 in
theorem tX9_told (l : Launch) (D : va_G) (d : AC) (mp : Nat → Nat) (x1 : Int32) (μ : MS) {Q : Int32 → MS → Prop} (hq : wX9_told x1 μ Q) : MT D d (ΩM D d mp) l yX9_told (WS yX9_told cX9_told 2 (some (.int))) rmX9_told [.ref (mp 0), .int x1] μ (qI Q) := by
  refine mt_of (ΩM.mono D d mp) (by decide +kernel) (Nat.le_of_ble_eq_true rfl) (fun p e s m below meth c A ls hx hb hr hml hown hts hlocks hnm hK hA hw hS hl => ?_)
  have hl : lv_has ls 2 [(0, .ref (mp 0)), (1, .int x1)] := hl
  have hown : s.vm.findClass RX9 = some m.cls := hown
  unfold wX9_told at hq
  refine lv_aload_n hx hb dX9_told_0 rfl (lv_at hl 0 rfl) ?_
  refine lv_iload_n hx hb dX9_told_1 rfl (lv_at hl 1 rfl) ?_
  refine lv_if_ge (tgt := 9) hx hb dX9_told_2 (by decide) (fun hc => ?_) (fun hc => ?_)
  · have hq := hq.1 hc
    refine lv_iconst (v := 0) hx hb dX9_told_9 (by decide) ?_
    refine va_put (D := D) (ci := 8) (v := .int (0 : Int32)) (ty := .int) (C := RX9) (T := TX9) (N := 15) hx hb hts inX9 tyX9 tyX9_ok nmX9 hown hK.1 hw.1 hw.2 hS 0 rfl rfl 14 (by decide) (hts _ q_475) (fun _ h9 => h9) rfl (by decide +kernel) rfl rfl (Nat.le_of_ble_eq_true rfl) dX9_told_10 (fun H locs hP hD hS => ?_)
    have hw : ΩM D d mp A (nState μ (0 : Int32)) H := ⟨hP, hD⟩
    refine lv_iload_n hx hb dX9_told_13 rfl (lv_at hl 1 rfl) ?_
    exact mt_reti hx hb hr hlocks hw hS (Nat.le_of_ble_eq_true rfl) (Nat.le_of_ble_eq_true rfl) dX9_told_14 ⟨_, rfl, hq⟩
  · have hq := hq.2 hc
    refine lv_iload_n hx hb dX9_told_5 rfl (lv_at hl 1 rfl) ?_
    refine lv_goto (tgt := 10) hx hb dX9_told_6 (by decide) ?_
    refine va_put (D := D) (ci := 8) (v := .int x1) (ty := .int) (C := RX9) (T := TX9) (N := 15) hx hb hts inX9 tyX9 tyX9_ok nmX9 hown hK.1 hw.1 hw.2 hS 0 rfl rfl 14 (by decide) (hts _ q_475) (fun _ h9 => h9) rfl (by decide +kernel) rfl rfl (Nat.le_of_ble_eq_true rfl) dX9_told_10 (fun H locs hP hD hS => ?_)
    have hw : ΩM D d mp A (nState μ x1) H := ⟨hP, hD⟩
    refine lv_iload_n hx hb dX9_told_13 rfl (lv_at hl 1 rfl) ?_
    exact mt_reti hx hb hr hlocks hw hS (Nat.le_of_ble_eq_true rfl) (Nat.le_of_ble_eq_true rfl) dX9_told_14 ⟨_, rfl, hq⟩
abbrev rmX9_in : Room := { frames := 0, cells := 0, slots := 0, locals := 0 }
theorem nmhX9_in : NoMH yX9_in 3 := by decide +kernel
def wX9_in (x0 : Int32) (x1 : Int32) (x2 : Int32) (μ : MS) (Q : Int32 → MS → Prop) : Prop :=
    (x0 < x1 → Q (0 : Int32) μ) ∧ (¬ x0 < x1 → ((x2 < x0 → Q (0 : Int32) μ) ∧ (¬ x2 < x0 → Q (1 : Int32) μ)))
set_option maxHeartbeats 4000000 in
set_option maxRecDepth 100000 in
theorem tX9_in (l : Launch) (D : va_G) (d : AC) (mp : Nat → Nat) (x0 : Int32) (x1 : Int32) (x2 : Int32) (μ : MS) {Q : Int32 → MS → Prop} (hq : wX9_in x0 x1 x2 μ Q) : MT D d (ΩM D d mp) l yX9_in (WS yX9_in cX9_in 3 (some (.boolean))) rmX9_in [.int x0, .int x1, .int x2] μ (qZ Q) := by
  refine mt_of (ΩM.mono D d mp) (by decide +kernel) (Nat.le_of_ble_eq_true rfl) (fun p e s m below meth c A ls hx hb hr hml hown hts hlocks hnm hK hA hw hS hl => ?_)
  have hl : lv_has ls 3 [(0, .int x0), (1, .int x1), (2, .int x2)] := hl
  have hown : s.vm.findClass RX9 = some m.cls := hown
  unfold wX9_in at hq
  refine lv_iload_n hx hb dX9_in_0 rfl (lv_at hl 0 rfl) ?_
  refine lv_iload_n hx hb dX9_in_1 rfl (lv_at hl 1 rfl) ?_
  refine lv_icmp_lt (tgt := 14) hx hb dX9_in_2 (by decide) (fun hc => ?_) (fun hc => ?_)
  · have hq := hq.1 hc
    refine lv_iconst (v := 0) hx hb dX9_in_14 (by decide) ?_
    exact mt_retz hx hb hr hlocks hw hS (Nat.le_of_ble_eq_true rfl) (Nat.le_of_ble_eq_true rfl) dX9_in_15 rfl ⟨_, rfl, Or.inl rfl, hq⟩
  · have hq := hq.2 hc
    refine lv_iload_n hx hb dX9_in_5 rfl (lv_at hl 0 rfl) ?_
    refine lv_iload_n hx hb dX9_in_6 rfl (lv_at hl 2 rfl) ?_
    refine lv_icmp_gt (tgt := 14) hx hb dX9_in_7 (by decide) (fun hc => ?_) (fun hc => ?_)
    · have hq := hq.1 hc
      refine lv_iconst (v := 0) hx hb dX9_in_14 (by decide) ?_
      exact mt_retz hx hb hr hlocks hw hS (Nat.le_of_ble_eq_true rfl) (Nat.le_of_ble_eq_true rfl) dX9_in_15 rfl ⟨_, rfl, Or.inl rfl, hq⟩
    · have hq := hq.2 hc
      refine lv_iconst (v := 1) hx hb dX9_in_10 (by decide) ?_
      refine lv_goto (tgt := 15) hx hb dX9_in_11 (by decide) ?_
      exact mt_retz hx hb hr hlocks hw hS (Nat.le_of_ble_eq_true rfl) (Nat.le_of_ble_eq_true rfl) dX9_in_15 rfl ⟨_, rfl, Or.inr rfl, hq⟩
abbrev rmX9_isDrum : Room := { frames := 1, cells := 0, slots := 0, locals := 22 }
theorem nmhX9_isDrum : NoMH yX9_isDrum 1 := by decide +kernel
def wX9_isDrum (x0 : Int32) (μ : MS) (Q : Int32 → MS → Prop) : Prop :=
    wX9_in x0 (0 : Int32) (7 : Int32) μ (fun r3 u4 => Q r3 u4)
set_option maxHeartbeats 4000000 in
set_option maxRecDepth 100000 in
theorem tX9_isDrum (l : Launch) (D : va_G) (d : AC) (mp : Nat → Nat) (x0 : Int32) (μ : MS) {Q : Int32 → MS → Prop} (hq : wX9_isDrum x0 μ Q) : MT D d (ΩM D d mp) l yX9_isDrum (WS yX9_isDrum cX9_isDrum 1 (some (.boolean))) rmX9_isDrum [.int x0] μ (qZ Q) := by
  refine mt_of (ΩM.mono D d mp) (by decide +kernel) (Nat.le_of_ble_eq_true rfl) (fun p e s m below meth c A ls hx hb hr hml hown hts hlocks hnm hK hA hw hS hl => ?_)
  have hl : lv_has ls 1 [(0, .int x0)] := hl
  have hown : s.vm.findClass RX9 = some m.cls := hown
  unfold wX9_isDrum at hq
  refine lv_iload_n hx hb dX9_isDrum_0 rfl (lv_at hl 0 rfl) ?_
  refine lv_iconst (v := 0) hx hb dX9_isDrum_1 (by decide) ?_
  refine lv_bipush (v := 7) hx hb dX9_isDrum_2 (by decide) ?_
  refine mt_callS (index := 58) hx hb hml hown hts hK (ΩM.mono D d mp) hA hw hS hl.1 (tX9_in l D d mp x0 (0 : Int32) (7 : Int32) μ hq) q_518 q_34 q_516 q_517 nmhX9_in ⟨⟨Nat.le_of_ble_eq_true rfl, Nat.le_of_ble_eq_true rfl⟩, ⟨Nat.le_of_ble_eq_true rfl, Nat.le_of_ble_eq_true rfl⟩⟩ rfl (Nat.le_of_ble_eq_true rfl) dX9_isDrum_4 (fun _ u4 H locs hq hw hS => ?_)
  obtain ⟨r3, rfl, hzr3, hq⟩ := hq
  refine W.eq (g2 := F0 m 7 ls [.int r3]) rfl ?_
  exact mt_retz hx hb hr hlocks hw hS (Nat.le_of_ble_eq_true rfl) (Nat.le_of_ble_eq_true rfl) dX9_isDrum_7 (by rcases hzr3 with rfl | rfl <;> rfl) ⟨_, rfl, hzr3, hq⟩
abbrev rmX9_isKind : Room := { frames := 1, cells := 0, slots := 0, locals := 22 }
theorem nmhX9_isKind : NoMH yX9_isKind 1 := by decide +kernel
def wX9_isKind (x0 : Int32) (μ : MS) (Q : Int32 → MS → Prop) : Prop :=
    wX9_in x0 (0 : Int32) (4 : Int32) μ (fun r3 u4 => Q r3 u4)
set_option maxHeartbeats 4000000 in
set_option maxRecDepth 100000 in
theorem tX9_isKind (l : Launch) (D : va_G) (d : AC) (mp : Nat → Nat) (x0 : Int32) (μ : MS) {Q : Int32 → MS → Prop} (hq : wX9_isKind x0 μ Q) : MT D d (ΩM D d mp) l yX9_isKind (WS yX9_isKind cX9_isKind 1 (some (.boolean))) rmX9_isKind [.int x0] μ (qZ Q) := by
  refine mt_of (ΩM.mono D d mp) (by decide +kernel) (Nat.le_of_ble_eq_true rfl) (fun p e s m below meth c A ls hx hb hr hml hown hts hlocks hnm hK hA hw hS hl => ?_)
  have hl : lv_has ls 1 [(0, .int x0)] := hl
  have hown : s.vm.findClass RX9 = some m.cls := hown
  unfold wX9_isKind at hq
  refine lv_iload_n hx hb dX9_isKind_0 rfl (lv_at hl 0 rfl) ?_
  refine lv_iconst (v := 0) hx hb dX9_isKind_1 (by decide) ?_
  refine lv_iconst (v := 4) hx hb dX9_isKind_2 (by decide) ?_
  refine mt_callS (index := 58) hx hb hml hown hts hK (ΩM.mono D d mp) hA hw hS hl.1 (tX9_in l D d mp x0 (0 : Int32) (4 : Int32) μ hq) q_518 q_34 q_516 q_517 nmhX9_in ⟨⟨Nat.le_of_ble_eq_true rfl, Nat.le_of_ble_eq_true rfl⟩, ⟨Nat.le_of_ble_eq_true rfl, Nat.le_of_ble_eq_true rfl⟩⟩ rfl (Nat.le_of_ble_eq_true rfl) dX9_isKind_3 (fun _ u4 H locs hq hw hS => ?_)
  obtain ⟨r3, rfl, hzr3, hq⟩ := hq
  refine W.eq (g2 := F0 m 6 ls [.int r3]) rfl ?_
  exact mt_retz hx hb hr hlocks hw hS (Nat.le_of_ble_eq_true rfl) (Nat.le_of_ble_eq_true rfl) dX9_isKind_6 (by rcases hzr3 with rfl | rfl <;> rfl) ⟨_, rfl, hzr3, hq⟩
abbrev rmX9_isComb : Room := { frames := 1, cells := 0, slots := 0, locals := 22 }
theorem nmhX9_isComb : NoMH yX9_isComb 1 := by decide +kernel
def wX9_isComb_b22 (x1 : Int32) (Q : Int32 → MS → Prop)  (μ : MS) : Prop :=
    vp_in (0 : Int32) 4 ∧ (((mCK μ (0 : Int32).toNatClampNeg) = (-1 : Int32) → Q (0 : Int32) μ) ∧ (¬ (mCK μ (0 : Int32).toNatClampNeg) = (-1 : Int32) → Q (1 : Int32) μ))
def wX9_isComb (x1 : Int32) (μ : MS) (Q : Int32 → MS → Prop) : Prop :=
    wX9_in x1 (0 : Int32) (3 : Int32) μ (fun r3 u4 => (r3 = 0 → Q (0 : Int32) u4) ∧ (¬ r3 = 0 → ((x1 < 0 → wX9_isComb_b22 x1 Q u4) ∧ (¬ x1 < 0 → ((x1 ≤ (3 : Int32) → (vp_in x1 4 ∧ (((mCK u4 x1.toNatClampNeg) = (-1 : Int32) → Q (0 : Int32) u4) ∧ (¬ (mCK u4 x1.toNatClampNeg) = (-1 : Int32) → Q (1 : Int32) u4)))) ∧ (¬ x1 ≤ (3 : Int32) → wX9_isComb_b22 x1 Q u4))))))
set_option maxHeartbeats 4000000 in
set_option maxRecDepth 100000 in
theorem tX9_isComb (l : Launch) (D : va_G) (d : AC) (mp : Nat → Nat) (x1 : Int32) (μ : MS) {Q : Int32 → MS → Prop} (hq : wX9_isComb x1 μ Q) : MT D d (ΩM D d mp) l yX9_isComb (WS yX9_isComb cX9_isComb 2 (some (.boolean))) rmX9_isComb [.ref (mp 0), .int x1] μ (qZ Q) := by
  refine mt_of (ΩM.mono D d mp) (by decide +kernel) (Nat.le_of_ble_eq_true rfl) (fun p e s m below meth c A ls hx hb hr hml hown hts hlocks hnm hK hA hw hS hl => ?_)
  have hl : lv_has ls 2 [(0, .ref (mp 0)), (1, .int x1)] := hl
  have hown : s.vm.findClass RX9 = some m.cls := hown
  have b22 : ∀  (μ : MS) (H : Heap) (locs : List Loc) (ls : Array Slot), wX9_isComb_b22 x1 Q  μ → (ΩM D d mp) A μ H → va_S A s.heap H locs → lv_has ls 2 [(0, .ref (mp 0)), (1, .int x1)] → W p l e rmX9_isComb s m [.ref (mp 0), .int x1].toArray below meth c H locs 0 0 (MQ below (Qo (qZ Q) (fun u' t => (ΩM D d mp) A u' t.heap) A) [.ref (mp 0), .int x1].toArray s rmX9_isComb.cells rmX9_isComb.slots A) (F0 m 22 ls [.ref (mp 6)]) := by
    intro  μ H locs ls hq hw hS hl
    unfold wX9_isComb_b22 at hq
    refine lv_iconst (v := 0) hx hb dX9_isComb_22 (by decide) ?_
    refine lv_goto (tgt := 27) hx hb dX9_isComb_23 (by decide) ?_
    refine va_iald hx hb hK.1 hw.1 6 8 rfl rfl hq.1 dX9_isComb_27 ?_
    have hq := hq.2
    refine lv_iconst (v := -1) hx hb dX9_isComb_28 (by decide) ?_
    refine lv_icmp_eq (tgt := 36) hx hb dX9_isComb_29 (by decide) (fun hc => ?_) (fun hc => ?_)
    · have hq := hq.1 hc
      refine lv_iconst (v := 0) hx hb dX9_isComb_36 (by decide) ?_
      exact mt_retz hx hb hr hlocks hw hS (Nat.le_of_ble_eq_true rfl) (Nat.le_of_ble_eq_true rfl) dX9_isComb_37 rfl ⟨_, rfl, Or.inl rfl, hq⟩
    · have hq := hq.2 hc
      refine lv_iconst (v := 1) hx hb dX9_isComb_32 (by decide) ?_
      refine lv_goto (tgt := 37) hx hb dX9_isComb_33 (by decide) ?_
      exact mt_retz hx hb hr hlocks hw hS (Nat.le_of_ble_eq_true rfl) (Nat.le_of_ble_eq_true rfl) dX9_isComb_37 rfl ⟨_, rfl, Or.inr rfl, hq⟩
  unfold wX9_isComb at hq
  refine lv_iload_n hx hb dX9_isComb_0 rfl (lv_at hl 1 rfl) ?_
  refine lv_iconst (v := 0) hx hb dX9_isComb_1 (by decide) ?_
  refine lv_iconst (v := 3) hx hb dX9_isComb_2 (by decide) ?_
  refine mt_callS (index := 58) hx hb hml hown hts hK (ΩM.mono D d mp) hA hw hS hl.1 (tX9_in l D d mp x1 (0 : Int32) (3 : Int32) μ hq) q_518 q_34 q_516 q_517 nmhX9_in ⟨⟨Nat.le_of_ble_eq_true rfl, Nat.le_of_ble_eq_true rfl⟩, ⟨Nat.le_of_ble_eq_true rfl, Nat.le_of_ble_eq_true rfl⟩⟩ rfl (Nat.le_of_ble_eq_true rfl) dX9_isComb_3 (fun _ u4 H locs hq hw hS => ?_)
  obtain ⟨r3, rfl, hzr3, hq⟩ := hq
  refine W.eq (g2 := F0 m 6 ls [.int r3]) rfl ?_
  refine lv_if_eq (tgt := 36) hx hb dX9_isComb_6 (by decide) (fun hc => ?_) (fun hc => ?_)
  · have hq := hq.1 hc
    refine lv_iconst (v := 0) hx hb dX9_isComb_36 (by decide) ?_
    exact mt_retz hx hb hr hlocks hw hS (Nat.le_of_ble_eq_true rfl) (Nat.le_of_ble_eq_true rfl) dX9_isComb_37 rfl ⟨_, rfl, Or.inl rfl, hq⟩
  · have hq := hq.2 hc
    refine lv_aload_n hx hb dX9_isComb_9 rfl (lv_at hl 0 rfl) ?_
    refine va_get (D := D) (ci := 8) (v := .ref (mp 6)) (C := RX9) (T := TX9) (N := 15) hx hb hts inX9 hown hK.1 hw.1 0 rfl rfl 5 (by decide) (hts _ q_466) (fun _ h9 => h9) rfl dX9_isComb_10 ?_
    refine lv_iload_n hx hb dX9_isComb_13 rfl (lv_at hl 1 rfl) ?_
    refine lv_if_lt (tgt := 22) hx hb dX9_isComb_14 (by decide) (fun hc => ?_) (fun hc => ?_)
    · have hq := hq.1 hc
      exact b22 u4 _ _ _ hq hw hS (lv_sub hl [0, 1] rfl)
    · have hq := hq.2 hc
      refine lv_iload_n hx hb dX9_isComb_17 rfl (lv_at hl 1 rfl) ?_
      refine lv_iconst (v := 3) hx hb dX9_isComb_18 (by decide) ?_
      refine lv_icmp_le (tgt := 26) hx hb dX9_isComb_19 (by decide) (fun hc => ?_) (fun hc => ?_)
      · have hq := hq.1 hc
        refine lv_iload_n hx hb dX9_isComb_26 rfl (lv_at hl 1 rfl) ?_
        refine va_iald hx hb hK.1 hw.1 6 8 rfl rfl hq.1 dX9_isComb_27 ?_
        have hq := hq.2
        refine lv_iconst (v := -1) hx hb dX9_isComb_28 (by decide) ?_
        refine lv_icmp_eq (tgt := 36) hx hb dX9_isComb_29 (by decide) (fun hc => ?_) (fun hc => ?_)
        · have hq := hq.1 hc
          refine lv_iconst (v := 0) hx hb dX9_isComb_36 (by decide) ?_
          exact mt_retz hx hb hr hlocks hw hS (Nat.le_of_ble_eq_true rfl) (Nat.le_of_ble_eq_true rfl) dX9_isComb_37 rfl ⟨_, rfl, Or.inl rfl, hq⟩
        · have hq := hq.2 hc
          refine lv_iconst (v := 1) hx hb dX9_isComb_32 (by decide) ?_
          refine lv_goto (tgt := 37) hx hb dX9_isComb_33 (by decide) ?_
          exact mt_retz hx hb hr hlocks hw hS (Nat.le_of_ble_eq_true rfl) (Nat.le_of_ble_eq_true rfl) dX9_isComb_37 rfl ⟨_, rfl, Or.inr rfl, hq⟩
      · have hq := hq.2 hc
        exact b22 u4 _ _ _ hq hw hS (lv_sub hl [0, 1] rfl)
abbrev rmX9_isTooth : Room := { frames := 2, cells := 0, slots := 0, locals := 43 }
theorem nmhX9_isTooth : NoMH yX9_isTooth 2 := by decide +kernel
def wX9_isTooth (x1 : Int32) (x2 : Int32) (μ : MS) (Q : Int32 → MS → Prop) : Prop :=
    wX9_isComb x1 μ (fun r3 u4 => (r3 = 0 → Q (0 : Int32) u4) ∧ (¬ r3 = 0 → ((x2 < 0 → Q (0 : Int32) u4) ∧ (¬ x2 < 0 → (vp_in x1 4 ∧ (((mCT u4 x1.toNatClampNeg) ≤ x2 → Q (0 : Int32) u4) ∧ (¬ (mCT u4 x1.toNatClampNeg) ≤ x2 → Q (1 : Int32) u4)))))))
set_option maxHeartbeats 4000000 in
set_option maxRecDepth 100000 in
theorem tX9_isTooth (l : Launch) (D : va_G) (d : AC) (mp : Nat → Nat) (x1 : Int32) (x2 : Int32) (μ : MS) {Q : Int32 → MS → Prop} (hq : wX9_isTooth x1 x2 μ Q) : MT D d (ΩM D d mp) l yX9_isTooth (WS yX9_isTooth cX9_isTooth 3 (some (.boolean))) rmX9_isTooth [.ref (mp 0), .int x1, .int x2] μ (qZ Q) := by
  refine mt_of (ΩM.mono D d mp) (by decide +kernel) (Nat.le_of_ble_eq_true rfl) (fun p e s m below meth c A ls hx hb hr hml hown hts hlocks hnm hK hA hw hS hl => ?_)
  have hl : lv_has ls 3 [(0, .ref (mp 0)), (1, .int x1), (2, .int x2)] := hl
  have hown : s.vm.findClass RX9 = some m.cls := hown
  unfold wX9_isTooth at hq
  refine lv_aload_n hx hb dX9_isTooth_0 rfl (lv_at hl 0 rfl) ?_
  refine lv_iload_n hx hb dX9_isTooth_1 rfl (lv_at hl 1 rfl) ?_
  refine mt_callV (index := 62) hx hb hml hown hts hK (ΩM.mono D d mp) hA hw hS hl.1 (tX9_isComb l D d mp x1 μ hq) (ΩM.recv hK hw) q_644 q_34 q_641 q_643 q_29 nmhX9_isComb ⟨⟨Nat.le_of_ble_eq_true rfl, Nat.le_of_ble_eq_true rfl⟩, ⟨Nat.le_of_ble_eq_true rfl, Nat.le_of_ble_eq_true rfl⟩⟩ rfl (Nat.le_of_ble_eq_true rfl) dX9_isTooth_2 (fun _ u4 H locs hq hw hS => ?_)
  obtain ⟨r3, rfl, hzr3, hq⟩ := hq
  refine W.eq (g2 := F0 m 5 ls [.int r3]) rfl ?_
  refine lv_if_eq (tgt := 26) hx hb dX9_isTooth_5 (by decide) (fun hc => ?_) (fun hc => ?_)
  · have hq := hq.1 hc
    refine lv_iconst (v := 0) hx hb dX9_isTooth_26 (by decide) ?_
    exact mt_retz hx hb hr hlocks hw hS (Nat.le_of_ble_eq_true rfl) (Nat.le_of_ble_eq_true rfl) dX9_isTooth_27 rfl ⟨_, rfl, Or.inl rfl, hq⟩
  · have hq := hq.2 hc
    refine lv_iload_n hx hb dX9_isTooth_8 rfl (lv_at hl 2 rfl) ?_
    refine lv_if_lt (tgt := 26) hx hb dX9_isTooth_9 (by decide) (fun hc => ?_) (fun hc => ?_)
    · have hq := hq.1 hc
      refine lv_iconst (v := 0) hx hb dX9_isTooth_26 (by decide) ?_
      exact mt_retz hx hb hr hlocks hw hS (Nat.le_of_ble_eq_true rfl) (Nat.le_of_ble_eq_true rfl) dX9_isTooth_27 rfl ⟨_, rfl, Or.inl rfl, hq⟩
    · have hq := hq.2 hc
      refine lv_iload_n hx hb dX9_isTooth_12 rfl (lv_at hl 2 rfl) ?_
      refine lv_aload_n hx hb dX9_isTooth_13 rfl (lv_at hl 0 rfl) ?_
      refine va_get (D := D) (ci := 8) (v := .ref (mp 7)) (C := RX9) (T := TX9) (N := 15) hx hb hts inX9 hown hK.1 hw.1 0 rfl rfl 6 (by decide) (hts _ q_467) (fun _ h9 => h9) rfl dX9_isTooth_14 ?_
      refine lv_iload_n hx hb dX9_isTooth_17 rfl (lv_at hl 1 rfl) ?_
      refine va_iald hx hb hK.1 hw.1 7 8 rfl rfl hq.1 dX9_isTooth_18 ?_
      have hq := hq.2
      refine lv_icmp_ge (tgt := 26) hx hb dX9_isTooth_19 (by decide) (fun hc => ?_) (fun hc => ?_)
      · have hq := hq.1 hc
        refine lv_iconst (v := 0) hx hb dX9_isTooth_26 (by decide) ?_
        exact mt_retz hx hb hr hlocks hw hS (Nat.le_of_ble_eq_true rfl) (Nat.le_of_ble_eq_true rfl) dX9_isTooth_27 rfl ⟨_, rfl, Or.inl rfl, hq⟩
      · have hq := hq.2 hc
        refine lv_iconst (v := 1) hx hb dX9_isTooth_22 (by decide) ?_
        refine lv_goto (tgt := 27) hx hb dX9_isTooth_23 (by decide) ?_
        exact mt_retz hx hb hr hlocks hw hS (Nat.le_of_ble_eq_true rfl) (Nat.le_of_ble_eq_true rfl) dX9_isTooth_27 rfl ⟨_, rfl, Or.inr rfl, hq⟩
abbrev rmX9_lacks : Room := { frames := 0, cells := 0, slots := 0, locals := 0 }
theorem nmhX9_lacks : NoMH yX9_lacks 2 := by decide +kernel
def wX9_lacks (x1 : Int32) (x2 : Int32) (μ : MS) (Q : Int32 → MS → Prop) : Prop :=
    (0 ≤ x1 → ((x2 < 0 → Q (-3 : Int32) μ) ∧ (¬ x2 < 0 → (vp_in x1 202 ∧ ((x2 < (mSize μ x1.toNatClampNeg) → Q (0 : Int32) μ) ∧ (¬ x2 < (mSize μ x1.toNatClampNeg) → Q (-3 : Int32) μ)))))) ∧ (¬ 0 ≤ x1 → Q (-2 : Int32) μ)
set_option maxHeartbeats 4000000 in
set_option maxRecDepth 100000 in
theorem tX9_lacks (l : Launch) (D : va_G) (d : AC) (mp : Nat → Nat) (x1 : Int32) (x2 : Int32) (μ : MS) {Q : Int32 → MS → Prop} (hq : wX9_lacks x1 x2 μ Q) : MT D d (ΩM D d mp) l yX9_lacks (WS yX9_lacks cX9_lacks 3 (some (.int))) rmX9_lacks [.ref (mp 0), .int x1, .int x2] μ (qI Q) := by
  refine mt_of (ΩM.mono D d mp) (by decide +kernel) (Nat.le_of_ble_eq_true rfl) (fun p e s m below meth c A ls hx hb hr hml hown hts hlocks hnm hK hA hw hS hl => ?_)
  have hl : lv_has ls 3 [(0, .ref (mp 0)), (1, .int x1), (2, .int x2)] := hl
  have hown : s.vm.findClass RX9 = some m.cls := hown
  unfold wX9_lacks at hq
  refine lv_iload_n hx hb dX9_lacks_0 rfl (lv_at hl 1 rfl) ?_
  refine lv_if_ge (tgt := 9) hx hb dX9_lacks_1 (by decide) (fun hc => ?_) (fun hc => ?_)
  · have hq := hq.1 hc
    refine lv_iload_n hx hb dX9_lacks_9 rfl (lv_at hl 2 rfl) ?_
    refine lv_if_lt (tgt := 23) hx hb dX9_lacks_10 (by decide) (fun hc => ?_) (fun hc => ?_)
    · have hq := hq.1 hc
      refine lv_bipush (v := -3) hx hb dX9_lacks_23 (by decide) ?_
      refine lv_goto (tgt := 29) hx hb dX9_lacks_25 (by decide) ?_
      exact mt_reti hx hb hr hlocks hw hS (Nat.le_of_ble_eq_true rfl) (Nat.le_of_ble_eq_true rfl) dX9_lacks_29 ⟨_, rfl, hq⟩
    · have hq := hq.2 hc
      refine lv_iload_n hx hb dX9_lacks_13 rfl (lv_at hl 2 rfl) ?_
      refine lv_aload_n hx hb dX9_lacks_14 rfl (lv_at hl 0 rfl) ?_
      refine va_get (D := D) (ci := 8) (v := .ref (mp 2)) (C := RX9) (T := TX9) (N := 15) hx hb hts inX9 hown hK.1 hw.1 0 rfl rfl 1 (by decide) (hts _ q_462) (fun _ h9 => h9) rfl dX9_lacks_15 ?_
      refine lv_iload_n hx hb dX9_lacks_18 rfl (lv_at hl 1 rfl) ?_
      refine va_iald hx hb hK.1 hw.1 2 8 rfl rfl hq.1 dX9_lacks_19 ?_
      have hq := hq.2
      refine lv_icmp_lt (tgt := 28) hx hb dX9_lacks_20 (by decide) (fun hc => ?_) (fun hc => ?_)
      · have hq := hq.1 hc
        refine lv_iconst (v := 0) hx hb dX9_lacks_28 (by decide) ?_
        exact mt_reti hx hb hr hlocks hw hS (Nat.le_of_ble_eq_true rfl) (Nat.le_of_ble_eq_true rfl) dX9_lacks_29 ⟨_, rfl, hq⟩
      · have hq := hq.2 hc
        refine lv_bipush (v := -3) hx hb dX9_lacks_23 (by decide) ?_
        refine lv_goto (tgt := 29) hx hb dX9_lacks_25 (by decide) ?_
        exact mt_reti hx hb hr hlocks hw hS (Nat.le_of_ble_eq_true rfl) (Nat.le_of_ble_eq_true rfl) dX9_lacks_29 ⟨_, rfl, hq⟩
  · have hq := hq.2 hc
    refine lv_bipush (v := -2) hx hb dX9_lacks_4 (by decide) ?_
    refine lv_goto (tgt := 29) hx hb dX9_lacks_6 (by decide) ?_
    exact mt_reti hx hb hr hlocks hw hS (Nat.le_of_ble_eq_true rfl) (Nat.le_of_ble_eq_true rfl) dX9_lacks_29 ⟨_, rfl, hq⟩
abbrev rmX9_packed : Room := { frames := 0, cells := 0, slots := 0, locals := 0 }
theorem nmhX9_packed : NoMH yX9_packed 2 := by decide +kernel
def wX9_packed (x0 : Int32) (x1 : Int32) (μ : MS) (Q : Int32 → MS → Prop) : Prop :=
    (¬ x0 = (1 : Int32) → ((¬ x0 = (2 : Int32) → (Q ((x1 <<< ((24 : Int32) &&& 31)) >>> ((24 : Int32) &&& 31)) μ)) ∧ (x0 = (2 : Int32) → (Q ((x1 <<< ((16 : Int32) &&& 31)) >>> ((16 : Int32) &&& 31)) μ)))) ∧ (x0 = (1 : Int32) → (Q (x1 &&& (65535 : Int32)) μ))
set_option maxHeartbeats 4000000 in
set_option maxRecDepth 100000 in
theorem tX9_packed (l : Launch) (D : va_G) (d : AC) (mp : Nat → Nat) (x0 : Int32) (x1 : Int32) (μ : MS) {Q : Int32 → MS → Prop} (hq : wX9_packed x0 x1 μ Q) : MT D d (ΩM D d mp) l yX9_packed (WS yX9_packed cX9_packed 2 (some (.int))) rmX9_packed [.int x0, .int x1] μ (qI Q) := by
  refine mt_of (ΩM.mono D d mp) (by decide +kernel) (Nat.le_of_ble_eq_true rfl) (fun p e s m below meth c A ls hx hb hr hml hown hts hlocks hnm hK hA hw hS hl => ?_)
  have hl : lv_has ls 2 [(0, .int x0), (1, .int x1)] := hl
  have hown : s.vm.findClass RX9 = some m.cls := hown
  unfold wX9_packed at hq
  refine lv_iload_n hx hb dX9_packed_0 rfl (lv_at hl 0 rfl) ?_
  refine lv_iconst (v := 1) hx hb dX9_packed_1 (by decide) ?_
  refine lv_icmp_ne (tgt := 10) hx hb dX9_packed_2 (by decide) (fun hc => ?_) (fun hc => ?_)
  · have hq := hq.1 hc
    refine lv_iload_n hx hb dX9_packed_10 rfl (lv_at hl 0 rfl) ?_
    refine lv_iconst (v := 2) hx hb dX9_packed_11 (by decide) ?_
    refine lv_icmp_ne (tgt := 23) hx hb dX9_packed_12 (by decide) (fun hc => ?_) (fun hc => ?_)
    · have hq := hq.1 hc
      refine lv_iload_n hx hb dX9_packed_23 rfl (lv_at hl 1 rfl) ?_
      refine lv_bipush (v := 24) hx hb dX9_packed_24 (by decide) ?_
      refine lv_ishl hx hb dX9_packed_26 ?_
      refine lv_bipush (v := 24) hx hb dX9_packed_27 (by decide) ?_
      refine lv_ishr hx hb dX9_packed_29 ?_
      exact mt_reti hx hb hr hlocks hw hS (Nat.le_of_ble_eq_true rfl) (Nat.le_of_ble_eq_true rfl) dX9_packed_30 ⟨_, rfl, hq⟩
    · have hq := hq.2 hc
      refine lv_iload_n hx hb dX9_packed_15 rfl (lv_at hl 1 rfl) ?_
      refine lv_bipush (v := 16) hx hb dX9_packed_16 (by decide) ?_
      refine lv_ishl hx hb dX9_packed_18 ?_
      refine lv_bipush (v := 16) hx hb dX9_packed_19 (by decide) ?_
      refine lv_ishr hx hb dX9_packed_21 ?_
      exact mt_reti hx hb hr hlocks hw hS (Nat.le_of_ble_eq_true rfl) (Nat.le_of_ble_eq_true rfl) dX9_packed_22 ⟨_, rfl, hq⟩
  · have hq := hq.2 hc
    refine lv_iload_n hx hb dX9_packed_5 rfl (lv_at hl 1 rfl) ?_
    refine lv_ldc (v := 65535) hx hb hown (hts _ q_582) dX9_packed_6 ?_
    refine lv_iand hx hb dX9_packed_8 ?_
    exact mt_reti hx hb hr hlocks hw hS (Nat.le_of_ble_eq_true rfl) (Nat.le_of_ble_eq_true rfl) dX9_packed_9 ⟨_, rfl, hq⟩
end
section
abbrev rmX9_newTrack : Room := { frames := 0, cells := 0, slots := 0, locals := 0 }
theorem nmhX9_newTrack : NoMH yX9_newTrack 1 := by decide +kernel
def wX9_newTrack_b26 (x1 : Int32) (Q : Int32 → MS → Prop) : Nat → Int32 → Int32 → MS → Prop
  | 0, _, _, _ => False
  | n + 1, v2, v3, μ =>
    (x1 ≤ v3 → Q v2 μ) ∧ (¬ x1 ≤ v3 → (vp_in (((300 : Int32) * v2) + v3) 60600 ∧ (∀ y6 : Int32, y6 = v3 + 1 → (wX9_newTrack_b26 x1 Q n v2 y6 (nCell μ (upd (mCell μ) (((300 : Int32) * v2) + v3).toNatClampNeg (0 : Int32)))))))
theorem wX9_newTrack_b26_s (x1 : Int32) (Q : Int32 → MS → Prop) (n : Nat) (v2 : Int32) (v3 : Int32) (μ : MS) : wX9_newTrack_b26 x1 Q (n + 1) v2 v3 μ = (
    (x1 ≤ v3 → Q v2 μ) ∧ (¬ x1 ≤ v3 → (vp_in (((300 : Int32) * v2) + v3) 60600 ∧ (∀ y6 : Int32, y6 = v3 + 1 → (wX9_newTrack_b26 x1 Q n v2 y6 (nCell μ (upd (mCell μ) (((300 : Int32) * v2) + v3).toNatClampNeg (0 : Int32)))))))) := rfl
def wX9_newTrack_b2 (x1 : Int32) (Q : Int32 → MS → Prop) : Nat → Int32 → MS → Prop
  | 0, _, _ => False
  | n + 1, v2, μ =>
    vp_in v2 202 ∧ (((mUses μ v2.toNatClampNeg) ≤ 0 → (vp_in v2 202 ∧ (∃ k26 : Nat, wX9_newTrack_b26 x1 Q k26 v2 (0 : Int32) (nSize μ (upd (mSize μ) v2.toNatClampNeg x1))))) ∧ (¬ (mUses μ v2.toNatClampNeg) ≤ 0 → (∀ y7 : Int32, y7 = v2 + 1 → (wX9_newTrack_b2 x1 Q n y7 μ))))
theorem wX9_newTrack_b2_s (x1 : Int32) (Q : Int32 → MS → Prop) (n : Nat) (v2 : Int32) (μ : MS) : wX9_newTrack_b2 x1 Q (n + 1) v2 μ = (
    vp_in v2 202 ∧ (((mUses μ v2.toNatClampNeg) ≤ 0 → (vp_in v2 202 ∧ (∃ k26 : Nat, wX9_newTrack_b26 x1 Q k26 v2 (0 : Int32) (nSize μ (upd (mSize μ) v2.toNatClampNeg x1))))) ∧ (¬ (mUses μ v2.toNatClampNeg) ≤ 0 → (∀ y7 : Int32, y7 = v2 + 1 → (wX9_newTrack_b2 x1 Q n y7 μ))))) := rfl
def wX9_newTrack (x1 : Int32) (μ : MS) (Q : Int32 → MS → Prop) : Prop :=
    ∃ k2 : Nat, wX9_newTrack_b2 x1 Q k2 (0 : Int32) μ
set_option maxHeartbeats 4000000 in
set_option maxRecDepth 100000 in
theorem tX9_newTrack (l : Launch) (D : va_G) (d : AC) (mp : Nat → Nat) (x1 : Int32) (μ : MS) {Q : Int32 → MS → Prop} (hq : wX9_newTrack x1 μ Q) : MT D d (ΩM D d mp) l yX9_newTrack (WS yX9_newTrack cX9_newTrack 4 (some (.int))) rmX9_newTrack [.ref (mp 0), .int x1] μ (qI Q) := by
  refine mt_of (ΩM.mono D d mp) (by decide +kernel) (Nat.le_of_ble_eq_true rfl) (fun p e s m below meth c A ls hx hb hr hml hown hts hlocks hnm hK hA hw hS hl => ?_)
  have hl : lv_has ls 4 [(0, .ref (mp 0)), (1, .int x1)] := hl
  have hown : s.vm.findClass RX9 = some m.cls := hown
  have b26 : ∀ (n : Nat) (v2 : Int32) (v3 : Int32) (μ : MS) (H : Heap) (locs : List Loc) (ls : Array Slot), wX9_newTrack_b26 x1 Q n v2 v3 μ → (ΩM D d mp) A μ H → va_S A s.heap H locs → lv_has ls 4 [(0, .ref (mp 0)), (1, .int x1), (2, .int v2), (3, .int v3)] → W p l e rmX9_newTrack s m [.ref (mp 0), .int x1].toArray below meth c H locs 0 0 (MQ below (Qo (qI Q) (fun u' t => (ΩM D d mp) A u' t.heap) A) [.ref (mp 0), .int x1].toArray s rmX9_newTrack.cells rmX9_newTrack.slots A) (F0 m 26 ls []) := by
    intro n
    induction n with
    | zero =>
      intro v2 v3 μ H locs ls hq
      exact absurd hq id
    | succ n ih =>
      intro v2 v3 μ H locs ls hq hw hS hl
      rw [wX9_newTrack_b26_s] at hq
      refine lv_iload_n hx hb dX9_newTrack_26 rfl (lv_at hl 3 rfl) ?_
      refine lv_iload_n hx hb dX9_newTrack_27 rfl (lv_at hl 1 rfl) ?_
      refine lv_icmp_ge (tgt := 50) hx hb dX9_newTrack_28 (by decide) (fun hc => ?_) (fun hc => ?_)
      · have hq := hq.1 hc
        refine lv_iload_n hx hb dX9_newTrack_50 rfl (lv_at hl 2 rfl) ?_
        exact mt_reti hx hb hr hlocks hw hS (Nat.le_of_ble_eq_true rfl) (Nat.le_of_ble_eq_true rfl) dX9_newTrack_51 ⟨_, rfl, hq⟩
      · have hq := hq.2 hc
        refine lv_aload_n hx hb dX9_newTrack_31 rfl (lv_at hl 0 rfl) ?_
        refine va_get (D := D) (ci := 8) (v := .ref (mp 1)) (C := RX9) (T := TX9) (N := 15) hx hb hts inX9 hown hK.1 hw.1 0 rfl rfl 0 (by decide) (hts _ q_461) (fun _ h9 => h9) rfl dX9_newTrack_32 ?_
        refine lv_sipush (v := 300) hx hb dX9_newTrack_35 (by decide) ?_
        refine lv_iload_n hx hb dX9_newTrack_38 rfl (lv_at hl 2 rfl) ?_
        refine lv_imul hx hb dX9_newTrack_39 ?_
        refine lv_iload_n hx hb dX9_newTrack_40 rfl (lv_at hl 3 rfl) ?_
        refine lv_iadd hx hb dX9_newTrack_41 ?_
        refine lv_iconst (v := 0) hx hb dX9_newTrack_42 (by decide) ?_
        refine va_iast hx hb hK.1 hw.1 hw.2 hS 1 8 rfl rfl hq.1 dX9_newTrack_43 (fun H locs hP hD hS => ?_)
        have hw : ΩM D d mp A (nCell μ (upd (mCell μ) (((300 : Int32) * v2) + v3).toNatClampNeg (0 : Int32))) H := ⟨hP, hD⟩
        have hq := hq.2
        obtain ⟨y6, ey6⟩ : ∃ z : Int32, z = v3 + 1 := ⟨_, rfl⟩
        have hq := hq y6 ey6
        refine lv_iinc (v := y6) (lv' := [(3, .int y6), (0, .ref (mp 0)), (1, .int x1), (2, .int v2)]) hx hb dX9_newTrack_44 hl (k := 3) rfl (by rw [ey6]; rfl) (by decide) rfl (fun ls hl => ?_)
        refine lv_goto (tgt := 26) hx hb dX9_newTrack_47 (by decide) ?_
        exact ih v2 y6 (nCell μ (upd (mCell μ) (((300 : Int32) * v2) + v3).toNatClampNeg (0 : Int32))) _ _ _ hq hw hS (lv_sub hl [1, 2, 3, 0] rfl)
  have b2 : ∀ (n : Nat) (v2 : Int32) (μ : MS) (H : Heap) (locs : List Loc) (ls : Array Slot), wX9_newTrack_b2 x1 Q n v2 μ → (ΩM D d mp) A μ H → va_S A s.heap H locs → lv_has ls 4 [(0, .ref (mp 0)), (1, .int x1), (2, .int v2)] → W p l e rmX9_newTrack s m [.ref (mp 0), .int x1].toArray below meth c H locs 0 0 (MQ below (Qo (qI Q) (fun u' t => (ΩM D d mp) A u' t.heap) A) [.ref (mp 0), .int x1].toArray s rmX9_newTrack.cells rmX9_newTrack.slots A) (F0 m 2 ls []) := by
    intro n
    induction n with
    | zero =>
      intro v2 μ H locs ls hq
      exact absurd hq id
    | succ n ih =>
      intro v2 μ H locs ls hq hw hS hl
      rw [wX9_newTrack_b2_s] at hq
      refine lv_aload_n hx hb dX9_newTrack_2 rfl (lv_at hl 0 rfl) ?_
      refine va_get (D := D) (ci := 8) (v := .ref (mp 3)) (C := RX9) (T := TX9) (N := 15) hx hb hts inX9 hown hK.1 hw.1 0 rfl rfl 2 (by decide) (hts _ q_463) (fun _ h9 => h9) rfl dX9_newTrack_3 ?_
      refine lv_iload_n hx hb dX9_newTrack_6 rfl (lv_at hl 2 rfl) ?_
      refine va_iald hx hb hK.1 hw.1 3 8 rfl rfl hq.1 dX9_newTrack_7 ?_
      have hq := hq.2
      refine lv_if_le (tgt := 17) hx hb dX9_newTrack_8 (by decide) (fun hc => ?_) (fun hc => ?_)
      · have hq := hq.1 hc
        refine lv_aload_n hx hb dX9_newTrack_17 rfl (lv_at hl 0 rfl) ?_
        refine va_get (D := D) (ci := 8) (v := .ref (mp 2)) (C := RX9) (T := TX9) (N := 15) hx hb hts inX9 hown hK.1 hw.1 0 rfl rfl 1 (by decide) (hts _ q_462) (fun _ h9 => h9) rfl dX9_newTrack_18 ?_
        refine lv_iload_n hx hb dX9_newTrack_21 rfl (lv_at hl 2 rfl) ?_
        refine lv_iload_n hx hb dX9_newTrack_22 rfl (lv_at hl 1 rfl) ?_
        refine va_iast hx hb hK.1 hw.1 hw.2 hS 2 8 rfl rfl hq.1 dX9_newTrack_23 (fun H locs hP hD hS => ?_)
        have hw : ΩM D d mp A (nSize μ (upd (mSize μ) v2.toNatClampNeg x1)) H := ⟨hP, hD⟩
        have hq := hq.2
        refine lv_iconst (v := 0) hx hb dX9_newTrack_24 (by decide) ?_
        refine lv_istore_n (lv' := [(3, .int (0 : Int32)), (0, .ref (mp 0)), (1, .int x1), (2, .int v2)]) hx hb dX9_newTrack_25 rfl hl (by decide) rfl (fun ls hl => ?_)
        obtain ⟨k26, hq⟩ := hq
        exact b26 k26 v2 (0 : Int32) (nSize μ (upd (mSize μ) v2.toNatClampNeg x1)) _ _ _ hq hw hS (lv_sub hl [1, 2, 3, 0] rfl)
      · have hq := hq.2 hc
        obtain ⟨y7, ey7⟩ : ∃ z : Int32, z = v2 + 1 := ⟨_, rfl⟩
        have hq := hq y7 ey7
        refine lv_iinc (v := y7) (lv' := [(2, .int y7), (0, .ref (mp 0)), (1, .int x1)]) hx hb dX9_newTrack_11 hl (k := 2) rfl (by rw [ey7]; rfl) (by decide) rfl (fun ls hl => ?_)
        refine lv_goto (tgt := 2) hx hb dX9_newTrack_14 (by decide) ?_
        exact ih y7 μ _ _ _ hq hw hS (lv_sub hl [1, 2, 0] rfl)
  unfold wX9_newTrack at hq
  refine lv_iconst (v := 0) hx hb dX9_newTrack_0 (by decide) ?_
  refine lv_istore_n (lv' := [(2, .int (0 : Int32)), (0, .ref (mp 0)), (1, .int x1)]) hx hb dX9_newTrack_1 rfl hl (by decide) rfl (fun ls hl => ?_)
  obtain ⟨k2, hq⟩ := hq
  exact b2 k2 (0 : Int32) μ _ _ _ hq hw hS (lv_sub hl [1, 2, 0] rfl)
abbrev rmX9_drumGets : Room := { frames := 0, cells := 0, slots := 0, locals := 0 }
theorem nmhX9_drumGets : NoMH yX9_drumGets 3 := by decide +kernel
def wX9_drumGets_b21 (x1 : Int32) (x2 : Int32) (x3 : Int32) (Q : MS → Prop) (v4 : Int32) (μ : MS) : Prop :=
    vp_in v4 40 ∧ (((mDrums μ v4.toNatClampNeg) < 0 → (vp_in v4 40 ∧ (Q (nDrums μ (upd (mDrums μ) v4.toNatClampNeg x3))))) ∧ (¬ (mDrums μ v4.toNatClampNeg) < 0 → (vp_in v4 40 ∧ (vp_in (mDrums μ v4.toNatClampNeg) 202 ∧ (vp_in (mDrums μ v4.toNatClampNeg) 202 ∧ (vp_in v4 40 ∧ (Q (nDrums (nUses μ (upd (mUses μ) (mDrums μ v4.toNatClampNeg).toNatClampNeg ((mUses μ (mDrums μ v4.toNatClampNeg).toNatClampNeg) - (1 : Int32)))) (upd (mDrums (nUses μ (upd (mUses μ) (mDrums μ v4.toNatClampNeg).toNatClampNeg ((mUses μ (mDrums μ v4.toNatClampNeg).toNatClampNeg) - (1 : Int32))))) v4.toNatClampNeg x3)))))))))
def wX9_drumGets (x1 : Int32) (x2 : Int32) (x3 : Int32) (μ : MS) (Q : MS → Prop) : Prop :=
    ∀ y2 : Int32, y2 = (((5 : Int32) * x1) + x2) → ((x3 < 0 → wX9_drumGets_b21 x1 x2 x3 Q y2 μ) ∧ (¬ x3 < 0 → (vp_in x3 202 ∧ (vp_in x3 202 ∧ (wX9_drumGets_b21 x1 x2 x3 Q y2 (nUses μ (upd (mUses μ) x3.toNatClampNeg ((mUses μ x3.toNatClampNeg) + (1 : Int32)))))))))
set_option maxHeartbeats 4000000 in
set_option maxRecDepth 100000 in
theorem tX9_drumGets (l : Launch) (D : va_G) (d : AC) (mp : Nat → Nat) (x1 : Int32) (x2 : Int32) (x3 : Int32) (μ : MS) {Q : MS → Prop} (hq : wX9_drumGets x1 x2 x3 μ Q) : MT D d (ΩM D d mp) l yX9_drumGets (WS yX9_drumGets cX9_drumGets 5 none) rmX9_drumGets [.ref (mp 0), .int x1, .int x2, .int x3] μ (qV Q) := by
  refine mt_of (ΩM.mono D d mp) (by decide +kernel) (Nat.le_of_ble_eq_true rfl) (fun p e s m below meth c A ls hx hb hr hml hown hts hlocks hnm hK hA hw hS hl => ?_)
  have hl : lv_has ls 5 [(0, .ref (mp 0)), (1, .int x1), (2, .int x2), (3, .int x3)] := hl
  have hown : s.vm.findClass RX9 = some m.cls := hown
  have b21 : ∀ (v4 : Int32) (μ : MS) (H : Heap) (locs : List Loc) (ls : Array Slot), wX9_drumGets_b21 x1 x2 x3 Q v4 μ → (ΩM D d mp) A μ H → va_S A s.heap H locs → lv_has ls 5 [(0, .ref (mp 0)), (1, .int x1), (2, .int x2), (3, .int x3), (4, .int v4)] → W p l e rmX9_drumGets s m [.ref (mp 0), .int x1, .int x2, .int x3].toArray below meth c H locs 0 0 (MQ below (Qo (qV Q) (fun u' t => (ΩM D d mp) A u' t.heap) A) [.ref (mp 0), .int x1, .int x2, .int x3].toArray s rmX9_drumGets.cells rmX9_drumGets.slots A) (F0 m 21 ls []) := by
    intro v4 μ H locs ls hq hw hS hl
    unfold wX9_drumGets_b21 at hq
    refine lv_aload_n hx hb dX9_drumGets_21 rfl (lv_at hl 0 rfl) ?_
    refine va_get (D := D) (ci := 8) (v := .ref (mp 4)) (C := RX9) (T := TX9) (N := 15) hx hb hts inX9 hown hK.1 hw.1 0 rfl rfl 3 (by decide) (hts _ q_464) (fun _ h9 => h9) rfl dX9_drumGets_22 ?_
    refine lv_iload hx hb dX9_drumGets_25 (lv_at hl 4 rfl) ?_
    refine va_iald hx hb hK.1 hw.1 4 8 rfl rfl hq.1 dX9_drumGets_27 ?_
    have hq := hq.2
    refine lv_if_lt (tgt := 47) hx hb dX9_drumGets_28 (by decide) (fun hc => ?_) (fun hc => ?_)
    · have hq := hq.1 hc
      refine lv_aload_n hx hb dX9_drumGets_47 rfl (lv_at hl 0 rfl) ?_
      refine va_get (D := D) (ci := 8) (v := .ref (mp 4)) (C := RX9) (T := TX9) (N := 15) hx hb hts inX9 hown hK.1 hw.1 0 rfl rfl 3 (by decide) (hts _ q_464) (fun _ h9 => h9) rfl dX9_drumGets_48 ?_
      refine lv_iload hx hb dX9_drumGets_51 (lv_at hl 4 rfl) ?_
      refine lv_iload_n hx hb dX9_drumGets_53 rfl (lv_at hl 3 rfl) ?_
      refine va_iast hx hb hK.1 hw.1 hw.2 hS 4 8 rfl rfl hq.1 dX9_drumGets_54 (fun H locs hP hD hS => ?_)
      have hw : ΩM D d mp A (nDrums μ (upd (mDrums μ) v4.toNatClampNeg x3)) H := ⟨hP, hD⟩
      have hq := hq.2
      exact mt_retv hx hb hr hlocks hw hS (Nat.le_of_ble_eq_true rfl) (Nat.le_of_ble_eq_true rfl) dX9_drumGets_55 ⟨rfl, hq⟩
    · have hq := hq.2 hc
      refine lv_aload_n hx hb dX9_drumGets_31 rfl (lv_at hl 0 rfl) ?_
      refine va_get (D := D) (ci := 8) (v := .ref (mp 3)) (C := RX9) (T := TX9) (N := 15) hx hb hts inX9 hown hK.1 hw.1 0 rfl rfl 2 (by decide) (hts _ q_463) (fun _ h9 => h9) rfl dX9_drumGets_32 ?_
      refine lv_aload_n hx hb dX9_drumGets_35 rfl (lv_at hl 0 rfl) ?_
      refine va_get (D := D) (ci := 8) (v := .ref (mp 4)) (C := RX9) (T := TX9) (N := 15) hx hb hts inX9 hown hK.1 hw.1 0 rfl rfl 3 (by decide) (hts _ q_464) (fun _ h9 => h9) rfl dX9_drumGets_36 ?_
      refine lv_iload hx hb dX9_drumGets_39 (lv_at hl 4 rfl) ?_
      refine va_iald hx hb hK.1 hw.1 4 8 rfl rfl hq.1 dX9_drumGets_41 ?_
      have hq := hq.2
      refine lv_dup2_11 hx hb dX9_drumGets_42 rfl rfl ?_
      refine va_iald hx hb hK.1 hw.1 3 8 rfl rfl hq.1 dX9_drumGets_43 ?_
      have hq := hq.2
      refine lv_iconst (v := 1) hx hb dX9_drumGets_44 (by decide) ?_
      refine lv_isub hx hb dX9_drumGets_45 ?_
      refine va_iast hx hb hK.1 hw.1 hw.2 hS 3 8 rfl rfl hq.1 dX9_drumGets_46 (fun H locs hP hD hS => ?_)
      have hw : ΩM D d mp A (nUses μ (upd (mUses μ) (mDrums μ v4.toNatClampNeg).toNatClampNeg ((mUses μ (mDrums μ v4.toNatClampNeg).toNatClampNeg) - (1 : Int32)))) H := ⟨hP, hD⟩
      have hq := hq.2
      refine lv_aload_n hx hb dX9_drumGets_47 rfl (lv_at hl 0 rfl) ?_
      refine va_get (D := D) (ci := 8) (v := .ref (mp 4)) (C := RX9) (T := TX9) (N := 15) hx hb hts inX9 hown hK.1 hw.1 0 rfl rfl 3 (by decide) (hts _ q_464) (fun _ h9 => h9) rfl dX9_drumGets_48 ?_
      refine lv_iload hx hb dX9_drumGets_51 (lv_at hl 4 rfl) ?_
      refine lv_iload_n hx hb dX9_drumGets_53 rfl (lv_at hl 3 rfl) ?_
      refine va_iast hx hb hK.1 hw.1 hw.2 hS 4 8 rfl rfl hq.1 dX9_drumGets_54 (fun H locs hP hD hS => ?_)
      have hw : ΩM D d mp A (nDrums (nUses μ (upd (mUses μ) (mDrums μ v4.toNatClampNeg).toNatClampNeg ((mUses μ (mDrums μ v4.toNatClampNeg).toNatClampNeg) - (1 : Int32)))) (upd (mDrums (nUses μ (upd (mUses μ) (mDrums μ v4.toNatClampNeg).toNatClampNeg ((mUses μ (mDrums μ v4.toNatClampNeg).toNatClampNeg) - (1 : Int32))))) v4.toNatClampNeg x3)) H := ⟨hP, hD⟩
      have hq := hq.2
      exact mt_retv hx hb hr hlocks hw hS (Nat.le_of_ble_eq_true rfl) (Nat.le_of_ble_eq_true rfl) dX9_drumGets_55 ⟨rfl, hq⟩
  unfold wX9_drumGets at hq
  refine lv_iconst (v := 5) hx hb dX9_drumGets_0 (by decide) ?_
  refine lv_iload_n hx hb dX9_drumGets_1 rfl (lv_at hl 1 rfl) ?_
  refine lv_imul hx hb dX9_drumGets_2 ?_
  refine lv_iload_n hx hb dX9_drumGets_3 rfl (lv_at hl 2 rfl) ?_
  refine lv_iadd hx hb dX9_drumGets_4 ?_
  refine lv_topi (fun y2 ey2 => ?_)
  have hq := hq y2 ey2
  refine lv_istore (lv' := [(4, .int y2), (0, .ref (mp 0)), (1, .int x1), (2, .int x2), (3, .int x3)]) hx hb dX9_drumGets_5 hl (by decide) rfl (fun ls hl => ?_)
  refine lv_iload_n hx hb dX9_drumGets_7 rfl (lv_at hl 4 rfl) ?_
  refine lv_if_lt (tgt := 21) hx hb dX9_drumGets_8 (by decide) (fun hc => ?_) (fun hc => ?_)
  · have hq := hq.1 hc
    exact b21 y2 μ _ _ _ hq hw hS (lv_sub hl [1, 2, 3, 4, 0] rfl)
  · have hq := hq.2 hc
    refine lv_aload_n hx hb dX9_drumGets_11 rfl (lv_at hl 1 rfl) ?_
    refine va_get (D := D) (ci := 8) (v := .ref (mp 3)) (C := RX9) (T := TX9) (N := 15) hx hb hts inX9 hown hK.1 hw.1 0 rfl rfl 2 (by decide) (hts _ q_463) (fun _ h9 => h9) rfl dX9_drumGets_12 ?_
    refine lv_iload_n hx hb dX9_drumGets_15 rfl (lv_at hl 4 rfl) ?_
    refine lv_dup2_11 hx hb dX9_drumGets_16 rfl rfl ?_
    refine va_iald hx hb hK.1 hw.1 3 8 rfl rfl hq.1 dX9_drumGets_17 ?_
    have hq := hq.2
    refine lv_iconst (v := 1) hx hb dX9_drumGets_18 (by decide) ?_
    refine lv_iadd hx hb dX9_drumGets_19 ?_
    refine va_iast hx hb hK.1 hw.1 hw.2 hS 3 8 rfl rfl hq.1 dX9_drumGets_20 (fun H locs hP hD hS => ?_)
    have hw : ΩM D d mp A (nUses μ (upd (mUses μ) x3.toNatClampNeg ((mUses μ x3.toNatClampNeg) + (1 : Int32)))) H := ⟨hP, hD⟩
    have hq := hq.2
    exact b21 y2 (nUses μ (upd (mUses μ) x3.toNatClampNeg ((mUses μ x3.toNatClampNeg) + (1 : Int32)))) _ _ _ hq hw hS (lv_sub hl [1, 2, 3, 4, 0] rfl)
abbrev rmX9_toothGets : Room := { frames := 0, cells := 0, slots := 0, locals := 0 }
theorem nmhX9_toothGets : NoMH yX9_toothGets 3 := by decide +kernel
def wX9_toothGets_b22 (x1 : Int32) (x2 : Int32) (x3 : Int32) (Q : MS → Prop) (v4 : Int32) (μ : MS) : Prop :=
    vp_in v4 160 ∧ (((mTeeth μ v4.toNatClampNeg) < 0 → (vp_in v4 160 ∧ (Q (nTeeth μ (upd (mTeeth μ) v4.toNatClampNeg x3))))) ∧ (¬ (mTeeth μ v4.toNatClampNeg) < 0 → (vp_in v4 160 ∧ (vp_in (mTeeth μ v4.toNatClampNeg) 202 ∧ (vp_in (mTeeth μ v4.toNatClampNeg) 202 ∧ (vp_in v4 160 ∧ (Q (nTeeth (nUses μ (upd (mUses μ) (mTeeth μ v4.toNatClampNeg).toNatClampNeg ((mUses μ (mTeeth μ v4.toNatClampNeg).toNatClampNeg) - (1 : Int32)))) (upd (mTeeth (nUses μ (upd (mUses μ) (mTeeth μ v4.toNatClampNeg).toNatClampNeg ((mUses μ (mTeeth μ v4.toNatClampNeg).toNatClampNeg) - (1 : Int32))))) v4.toNatClampNeg x3)))))))))
def wX9_toothGets (x1 : Int32) (x2 : Int32) (x3 : Int32) (μ : MS) (Q : MS → Prop) : Prop :=
    ∀ y2 : Int32, y2 = (((40 : Int32) * x1) + x2) → ((x3 < 0 → wX9_toothGets_b22 x1 x2 x3 Q y2 μ) ∧ (¬ x3 < 0 → (vp_in x3 202 ∧ (vp_in x3 202 ∧ (wX9_toothGets_b22 x1 x2 x3 Q y2 (nUses μ (upd (mUses μ) x3.toNatClampNeg ((mUses μ x3.toNatClampNeg) + (1 : Int32)))))))))
set_option maxHeartbeats 4000000 in
set_option maxRecDepth 100000 in
theorem tX9_toothGets (l : Launch) (D : va_G) (d : AC) (mp : Nat → Nat) (x1 : Int32) (x2 : Int32) (x3 : Int32) (μ : MS) {Q : MS → Prop} (hq : wX9_toothGets x1 x2 x3 μ Q) : MT D d (ΩM D d mp) l yX9_toothGets (WS yX9_toothGets cX9_toothGets 5 none) rmX9_toothGets [.ref (mp 0), .int x1, .int x2, .int x3] μ (qV Q) := by
  refine mt_of (ΩM.mono D d mp) (by decide +kernel) (Nat.le_of_ble_eq_true rfl) (fun p e s m below meth c A ls hx hb hr hml hown hts hlocks hnm hK hA hw hS hl => ?_)
  have hl : lv_has ls 5 [(0, .ref (mp 0)), (1, .int x1), (2, .int x2), (3, .int x3)] := hl
  have hown : s.vm.findClass RX9 = some m.cls := hown
  have b22 : ∀ (v4 : Int32) (μ : MS) (H : Heap) (locs : List Loc) (ls : Array Slot), wX9_toothGets_b22 x1 x2 x3 Q v4 μ → (ΩM D d mp) A μ H → va_S A s.heap H locs → lv_has ls 5 [(0, .ref (mp 0)), (1, .int x1), (2, .int x2), (3, .int x3), (4, .int v4)] → W p l e rmX9_toothGets s m [.ref (mp 0), .int x1, .int x2, .int x3].toArray below meth c H locs 0 0 (MQ below (Qo (qV Q) (fun u' t => (ΩM D d mp) A u' t.heap) A) [.ref (mp 0), .int x1, .int x2, .int x3].toArray s rmX9_toothGets.cells rmX9_toothGets.slots A) (F0 m 22 ls []) := by
    intro v4 μ H locs ls hq hw hS hl
    unfold wX9_toothGets_b22 at hq
    refine lv_aload_n hx hb dX9_toothGets_22 rfl (lv_at hl 0 rfl) ?_
    refine va_get (D := D) (ci := 8) (v := .ref (mp 5)) (C := RX9) (T := TX9) (N := 15) hx hb hts inX9 hown hK.1 hw.1 0 rfl rfl 4 (by decide) (hts _ q_465) (fun _ h9 => h9) rfl dX9_toothGets_23 ?_
    refine lv_iload hx hb dX9_toothGets_26 (lv_at hl 4 rfl) ?_
    refine va_iald hx hb hK.1 hw.1 5 8 rfl rfl hq.1 dX9_toothGets_28 ?_
    have hq := hq.2
    refine lv_if_lt (tgt := 48) hx hb dX9_toothGets_29 (by decide) (fun hc => ?_) (fun hc => ?_)
    · have hq := hq.1 hc
      refine lv_aload_n hx hb dX9_toothGets_48 rfl (lv_at hl 0 rfl) ?_
      refine va_get (D := D) (ci := 8) (v := .ref (mp 5)) (C := RX9) (T := TX9) (N := 15) hx hb hts inX9 hown hK.1 hw.1 0 rfl rfl 4 (by decide) (hts _ q_465) (fun _ h9 => h9) rfl dX9_toothGets_49 ?_
      refine lv_iload hx hb dX9_toothGets_52 (lv_at hl 4 rfl) ?_
      refine lv_iload_n hx hb dX9_toothGets_54 rfl (lv_at hl 3 rfl) ?_
      refine va_iast hx hb hK.1 hw.1 hw.2 hS 5 8 rfl rfl hq.1 dX9_toothGets_55 (fun H locs hP hD hS => ?_)
      have hw : ΩM D d mp A (nTeeth μ (upd (mTeeth μ) v4.toNatClampNeg x3)) H := ⟨hP, hD⟩
      have hq := hq.2
      exact mt_retv hx hb hr hlocks hw hS (Nat.le_of_ble_eq_true rfl) (Nat.le_of_ble_eq_true rfl) dX9_toothGets_56 ⟨rfl, hq⟩
    · have hq := hq.2 hc
      refine lv_aload_n hx hb dX9_toothGets_32 rfl (lv_at hl 0 rfl) ?_
      refine va_get (D := D) (ci := 8) (v := .ref (mp 3)) (C := RX9) (T := TX9) (N := 15) hx hb hts inX9 hown hK.1 hw.1 0 rfl rfl 2 (by decide) (hts _ q_463) (fun _ h9 => h9) rfl dX9_toothGets_33 ?_
      refine lv_aload_n hx hb dX9_toothGets_36 rfl (lv_at hl 0 rfl) ?_
      refine va_get (D := D) (ci := 8) (v := .ref (mp 5)) (C := RX9) (T := TX9) (N := 15) hx hb hts inX9 hown hK.1 hw.1 0 rfl rfl 4 (by decide) (hts _ q_465) (fun _ h9 => h9) rfl dX9_toothGets_37 ?_
      refine lv_iload hx hb dX9_toothGets_40 (lv_at hl 4 rfl) ?_
      refine va_iald hx hb hK.1 hw.1 5 8 rfl rfl hq.1 dX9_toothGets_42 ?_
      have hq := hq.2
      refine lv_dup2_11 hx hb dX9_toothGets_43 rfl rfl ?_
      refine va_iald hx hb hK.1 hw.1 3 8 rfl rfl hq.1 dX9_toothGets_44 ?_
      have hq := hq.2
      refine lv_iconst (v := 1) hx hb dX9_toothGets_45 (by decide) ?_
      refine lv_isub hx hb dX9_toothGets_46 ?_
      refine va_iast hx hb hK.1 hw.1 hw.2 hS 3 8 rfl rfl hq.1 dX9_toothGets_47 (fun H locs hP hD hS => ?_)
      have hw : ΩM D d mp A (nUses μ (upd (mUses μ) (mTeeth μ v4.toNatClampNeg).toNatClampNeg ((mUses μ (mTeeth μ v4.toNatClampNeg).toNatClampNeg) - (1 : Int32)))) H := ⟨hP, hD⟩
      have hq := hq.2
      refine lv_aload_n hx hb dX9_toothGets_48 rfl (lv_at hl 0 rfl) ?_
      refine va_get (D := D) (ci := 8) (v := .ref (mp 5)) (C := RX9) (T := TX9) (N := 15) hx hb hts inX9 hown hK.1 hw.1 0 rfl rfl 4 (by decide) (hts _ q_465) (fun _ h9 => h9) rfl dX9_toothGets_49 ?_
      refine lv_iload hx hb dX9_toothGets_52 (lv_at hl 4 rfl) ?_
      refine lv_iload_n hx hb dX9_toothGets_54 rfl (lv_at hl 3 rfl) ?_
      refine va_iast hx hb hK.1 hw.1 hw.2 hS 5 8 rfl rfl hq.1 dX9_toothGets_55 (fun H locs hP hD hS => ?_)
      have hw : ΩM D d mp A (nTeeth (nUses μ (upd (mUses μ) (mTeeth μ v4.toNatClampNeg).toNatClampNeg ((mUses μ (mTeeth μ v4.toNatClampNeg).toNatClampNeg) - (1 : Int32)))) (upd (mTeeth (nUses μ (upd (mUses μ) (mTeeth μ v4.toNatClampNeg).toNatClampNeg ((mUses μ (mTeeth μ v4.toNatClampNeg).toNatClampNeg) - (1 : Int32))))) v4.toNatClampNeg x3)) H := ⟨hP, hD⟩
      have hq := hq.2
      exact mt_retv hx hb hr hlocks hw hS (Nat.le_of_ble_eq_true rfl) (Nat.le_of_ble_eq_true rfl) dX9_toothGets_56 ⟨rfl, hq⟩
  unfold wX9_toothGets at hq
  refine lv_bipush (v := 40) hx hb dX9_toothGets_0 (by decide) ?_
  refine lv_iload_n hx hb dX9_toothGets_2 rfl (lv_at hl 1 rfl) ?_
  refine lv_imul hx hb dX9_toothGets_3 ?_
  refine lv_iload_n hx hb dX9_toothGets_4 rfl (lv_at hl 2 rfl) ?_
  refine lv_iadd hx hb dX9_toothGets_5 ?_
  refine lv_topi (fun y2 ey2 => ?_)
  have hq := hq y2 ey2
  refine lv_istore (lv' := [(4, .int y2), (0, .ref (mp 0)), (1, .int x1), (2, .int x2), (3, .int x3)]) hx hb dX9_toothGets_6 hl (by decide) rfl (fun ls hl => ?_)
  refine lv_iload_n hx hb dX9_toothGets_8 rfl (lv_at hl 4 rfl) ?_
  refine lv_if_lt (tgt := 22) hx hb dX9_toothGets_9 (by decide) (fun hc => ?_) (fun hc => ?_)
  · have hq := hq.1 hc
    exact b22 y2 μ _ _ _ hq hw hS (lv_sub hl [1, 2, 3, 4, 0] rfl)
  · have hq := hq.2 hc
    refine lv_aload_n hx hb dX9_toothGets_12 rfl (lv_at hl 1 rfl) ?_
    refine va_get (D := D) (ci := 8) (v := .ref (mp 3)) (C := RX9) (T := TX9) (N := 15) hx hb hts inX9 hown hK.1 hw.1 0 rfl rfl 2 (by decide) (hts _ q_463) (fun _ h9 => h9) rfl dX9_toothGets_13 ?_
    refine lv_iload_n hx hb dX9_toothGets_16 rfl (lv_at hl 4 rfl) ?_
    refine lv_dup2_11 hx hb dX9_toothGets_17 rfl rfl ?_
    refine va_iald hx hb hK.1 hw.1 3 8 rfl rfl hq.1 dX9_toothGets_18 ?_
    have hq := hq.2
    refine lv_iconst (v := 1) hx hb dX9_toothGets_19 (by decide) ?_
    refine lv_iadd hx hb dX9_toothGets_20 ?_
    refine va_iast hx hb hK.1 hw.1 hw.2 hS 3 8 rfl rfl hq.1 dX9_toothGets_21 (fun H locs hP hD hS => ?_)
    have hw : ΩM D d mp A (nUses μ (upd (mUses μ) x3.toNatClampNeg ((mUses μ x3.toNatClampNeg) + (1 : Int32)))) H := ⟨hP, hD⟩
    have hq := hq.2
    exact b22 y2 (nUses μ (upd (mUses μ) x3.toNatClampNeg ((mUses μ x3.toNatClampNeg) + (1 : Int32)))) _ _ _ hq hw hS (lv_sub hl [1, 2, 3, 4, 0] rfl)
abbrev rmX9_writes : Room := { frames := 2, cells := 0, slots := 0, locals := 43 }
theorem nmhX9_writes : NoMH yX9_writes 4 := by decide +kernel
def wX9_writes (x1 : Int32) (x2 : Int32) (x3 : Int32) (x4 : Int32) (μ : MS) (Q : Int32 → MS → Prop) : Prop :=
    wX9_lacks x2 x3 μ (fun r10 u11 => (0 ≤ r10 → (∀ y12 : Int32, y12 = (((300 : Int32) * x2) + x3) → ((¬ x1 = 0 → ((¬ x1 = (3 : Int32) → (wX9_packed x1 x4 u11 (fun r13 u14 => vp_in y12 60600 ∧ (Q (0 : Int32) (nCell u14 (upd (mCell u14) y12.toNatClampNeg r13)))))) ∧ (x1 = (3 : Int32) → (wX9_in x4 (-8000000 : Int32) (8000000 : Int32) u11 (fun r15 u16 => (¬ r15 = 0 → (vf_n32 (FP.fmul (FP.i2f x4) (1040187392 : UInt32)) ∧ (wJxf58ca_floatToIntBits_5c35a (FP.fmul (FP.i2f x4) (1040187392 : UInt32)) u16 (fun r17 u18 => vp_in y12 60600 ∧ (Q (0 : Int32) (nCell u18 (upd (mCell u18) y12.toNatClampNeg r17))))))) ∧ (r15 = 0 → Q (-5 : Int32) u16)))))) ∧ (x1 = 0 → ((¬ x4 = 0 → (vp_in y12 60600 ∧ (Q (0 : Int32) (nCell u11 (upd (mCell u11) y12.toNatClampNeg (1 : Int32)))))) ∧ (x4 = 0 → (vp_in y12 60600 ∧ (Q (0 : Int32) (nCell u11 (upd (mCell u11) y12.toNatClampNeg (0 : Int32))))))))))) ∧ (¬ 0 ≤ r10 → Q r10 u11))
set_option maxHeartbeats 4000000 in
set_option maxRecDepth 100000 in
theorem tX9_writes (l : Launch) (D : va_G) (d : AC) (mp : Nat → Nat) (x1 : Int32) (x2 : Int32) (x3 : Int32) (x4 : Int32) (μ : MS) {Q : Int32 → MS → Prop} (hq : wX9_writes x1 x2 x3 x4 μ Q) : MT D d (ΩM D d mp) l yX9_writes (WS yX9_writes cX9_writes 7 (some (.int))) rmX9_writes [.ref (mp 0), .int x1, .int x2, .int x3, .int x4] μ (qI Q) := by
  refine mt_of (ΩM.mono D d mp) (by decide +kernel) (Nat.le_of_ble_eq_true rfl) (fun p e s m below meth c A ls hx hb hr hml hown hts hlocks hnm hK hA hw hS hl => ?_)
  have hl : lv_has ls 7 [(0, .ref (mp 0)), (1, .int x1), (2, .int x2), (3, .int x3), (4, .int x4)] := hl
  have hown : s.vm.findClass RX9 = some m.cls := hown
  unfold wX9_writes at hq
  refine lv_aload_n hx hb dX9_writes_0 rfl (lv_at hl 0 rfl) ?_
  refine lv_iload_n hx hb dX9_writes_1 rfl (lv_at hl 2 rfl) ?_
  refine lv_iload_n hx hb dX9_writes_2 rfl (lv_at hl 3 rfl) ?_
  refine mt_callV (index := 67) hx hb hml hown hts hK (ΩM.mono D d mp) hA hw hS hl.1 (tX9_lacks l D d mp x2 x3 μ hq) (ΩM.recv hK hw) q_557 q_34 q_554 q_556 q_21 nmhX9_lacks ⟨⟨Nat.le_of_ble_eq_true rfl, Nat.le_of_ble_eq_true rfl⟩, ⟨Nat.le_of_ble_eq_true rfl, Nat.le_of_ble_eq_true rfl⟩⟩ rfl (Nat.le_of_ble_eq_true rfl) dX9_writes_3 (fun _ u11 H locs hq hw hS => ?_)
  obtain ⟨r10, rfl, hq⟩ := hq
  refine W.eq (g2 := F0 m 6 ls [.int r10]) rfl ?_
  refine lv_istore (lv' := [(5, .int r10), (0, .ref (mp 0)), (1, .int x1), (2, .int x2), (3, .int x3), (4, .int x4)]) hx hb dX9_writes_6 hl (by decide) rfl (fun ls hl => ?_)
  refine lv_iload hx hb dX9_writes_8 (lv_at hl 0 rfl) ?_
  refine lv_if_ge (tgt := 16) hx hb dX9_writes_10 (by decide) (fun hc => ?_) (fun hc => ?_)
  · have hq := hq.1 hc
    refine lv_sipush (v := 300) hx hb dX9_writes_16 (by decide) ?_
    refine lv_iload_n hx hb dX9_writes_19 rfl (lv_at hl 3 rfl) ?_
    refine lv_imul hx hb dX9_writes_20 ?_
    refine lv_iload_n hx hb dX9_writes_21 rfl (lv_at hl 4 rfl) ?_
    refine lv_iadd hx hb dX9_writes_22 ?_
    refine lv_topi (fun y12 ey12 => ?_)
    have hq := hq y12 ey12
    refine lv_istore (lv' := [(6, .int y12), (5, .int r10), (0, .ref (mp 0)), (1, .int x1), (2, .int x2), (3, .int x3), (4, .int x4)]) hx hb dX9_writes_23 hl (by decide) rfl (fun ls hl => ?_)
    refine lv_iload_n hx hb dX9_writes_25 rfl (lv_at hl 3 rfl) ?_
    refine lv_if_ne (tgt := 49) hx hb dX9_writes_26 (by decide) (fun hc => ?_) (fun hc => ?_)
    · have hq := hq.1 hc
      refine lv_iload_n hx hb dX9_writes_49 rfl (lv_at hl 3 rfl) ?_
      refine lv_iconst (v := 3) hx hb dX9_writes_50 (by decide) ?_
      refine lv_icmp_ne (tgt := 88) hx hb dX9_writes_51 (by decide) (fun hc => ?_) (fun hc => ?_)
      · have hq := hq.1 hc
        refine lv_aload_n hx hb dX9_writes_88 rfl (lv_at hl 2 rfl) ?_
        refine va_get (D := D) (ci := 8) (v := .ref (mp 1)) (C := RX9) (T := TX9) (N := 15) hx hb hts inX9 hown hK.1 hw.1 0 rfl rfl 0 (by decide) (hts _ q_461) (fun _ h9 => h9) rfl dX9_writes_89 ?_
        refine lv_iload hx hb dX9_writes_92 (lv_at hl 0 rfl) ?_
        refine lv_iload_n hx hb dX9_writes_94 rfl (lv_at hl 3 rfl) ?_
        refine lv_iload hx hb dX9_writes_95 (lv_at hl 6 rfl) ?_
        refine mt_callS (index := 80) hx hb hml hown hts hK (ΩM.mono D d mp) hA hw hS hl.1 (tX9_packed l D d mp x1 x4 u11 hq) q_581 q_34 q_579 q_580 nmhX9_packed ⟨⟨Nat.le_of_ble_eq_true rfl, Nat.le_of_ble_eq_true rfl⟩, ⟨Nat.le_of_ble_eq_true rfl, Nat.le_of_ble_eq_true rfl⟩⟩ rfl (Nat.le_of_ble_eq_true rfl) dX9_writes_97 (fun _ u14 H locs hq hw hS => ?_)
        obtain ⟨r13, rfl, hq⟩ := hq
        refine W.eq (g2 := F0 m 100 ls [.int r13, .int y12, .ref (mp 1)]) rfl ?_
        refine va_iast hx hb hK.1 hw.1 hw.2 hS 1 8 rfl rfl hq.1 dX9_writes_100 (fun H locs hP hD hS => ?_)
        have hw : ΩM D d mp A (nCell u14 (upd (mCell u14) y12.toNatClampNeg r13)) H := ⟨hP, hD⟩
        have hq := hq.2
        refine lv_iconst (v := 0) hx hb dX9_writes_101 (by decide) ?_
        exact mt_reti hx hb hr hlocks hw hS (Nat.le_of_ble_eq_true rfl) (Nat.le_of_ble_eq_true rfl) dX9_writes_102 ⟨_, rfl, hq⟩
      · have hq := hq.2 hc
        refine lv_iload hx hb dX9_writes_54 (lv_at hl 6 rfl) ?_
        refine lv_ldc (v := -8000000) hx hb hown (hts _ q_566) dX9_writes_56 ?_
        refine lv_ldc (v := 8000000) hx hb hown (hts _ q_567) dX9_writes_58 ?_
        refine mt_callS (index := 58) hx hb hml hown hts hK (ΩM.mono D d mp) hA hw hS hl.1 (tX9_in l D d mp x4 (-8000000 : Int32) (8000000 : Int32) u11 hq) q_518 q_34 q_516 q_517 nmhX9_in ⟨⟨Nat.le_of_ble_eq_true rfl, Nat.le_of_ble_eq_true rfl⟩, ⟨Nat.le_of_ble_eq_true rfl, Nat.le_of_ble_eq_true rfl⟩⟩ rfl (Nat.le_of_ble_eq_true rfl) dX9_writes_60 (fun _ u16 H locs hq hw hS => ?_)
        obtain ⟨r15, rfl, hzr15, hq⟩ := hq
        refine W.eq (g2 := F0 m 63 ls [.int r15]) rfl ?_
        refine lv_if_ne (tgt := 69) hx hb dX9_writes_63 (by decide) (fun hc => ?_) (fun hc => ?_)
        · have hq := hq.1 hc
          refine lv_aload_n hx hb dX9_writes_69 rfl (lv_at hl 2 rfl) ?_
          refine va_get (D := D) (ci := 8) (v := .ref (mp 1)) (C := RX9) (T := TX9) (N := 15) hx hb hts inX9 hown hK.1 hw.1 0 rfl rfl 0 (by decide) (hts _ q_461) (fun _ h9 => h9) rfl dX9_writes_70 ?_
          refine lv_iload hx hb dX9_writes_73 (lv_at hl 0 rfl) ?_
          refine lv_iload hx hb dX9_writes_75 (lv_at hl 6 rfl) ?_
          refine lv_i2f hx hb dX9_writes_77 ?_
          refine lv_ldcf (v := 1040187392) hx hb hown (hts _ q_568) dX9_writes_78 ?_
          refine lv_fmul hx hb dX9_writes_80 hq.1 ?_
          have hq := hq.2
          refine mt_callS (index := 74) hx hb hml hown hts hK (ΩM.mono D d mp) hA hw hS hl.1 (tJxf58ca_floatToIntBits_5c35a l D d mp (FP.fmul (FP.i2f x4) (1040187392 : UInt32)) u16 hq) q_571 q_41 q_569 q_570 nmhJxf58ca_floatToIntBits_5c35a ⟨⟨Nat.le_of_ble_eq_true rfl, Nat.le_of_ble_eq_true rfl⟩, ⟨Nat.le_of_ble_eq_true rfl, Nat.le_of_ble_eq_true rfl⟩⟩ rfl (Nat.le_of_ble_eq_true rfl) dX9_writes_81 (fun _ u18 H locs hq hw hS => ?_)
          obtain ⟨r17, rfl, hq⟩ := hq
          refine W.eq (g2 := F0 m 84 ls [.int r17, .int y12, .ref (mp 1)]) rfl ?_
          refine va_iast hx hb hK.1 hw.1 hw.2 hS 1 8 rfl rfl hq.1 dX9_writes_84 (fun H locs hP hD hS => ?_)
          have hw : ΩM D d mp A (nCell u18 (upd (mCell u18) y12.toNatClampNeg r17)) H := ⟨hP, hD⟩
          have hq := hq.2
          refine lv_goto (tgt := 101) hx hb dX9_writes_85 (by decide) ?_
          refine lv_iconst (v := 0) hx hb dX9_writes_101 (by decide) ?_
          exact mt_reti hx hb hr hlocks hw hS (Nat.le_of_ble_eq_true rfl) (Nat.le_of_ble_eq_true rfl) dX9_writes_102 ⟨_, rfl, hq⟩
        · have hq := hq.2 hc
          refine lv_bipush (v := -5) hx hb dX9_writes_66 (by decide) ?_
          exact mt_reti hx hb hr hlocks hw hS (Nat.le_of_ble_eq_true rfl) (Nat.le_of_ble_eq_true rfl) dX9_writes_68 ⟨_, rfl, hq⟩
    · have hq := hq.2 hc
      refine lv_aload_n hx hb dX9_writes_29 rfl (lv_at hl 2 rfl) ?_
      refine va_get (D := D) (ci := 8) (v := .ref (mp 1)) (C := RX9) (T := TX9) (N := 15) hx hb hts inX9 hown hK.1 hw.1 0 rfl rfl 0 (by decide) (hts _ q_461) (fun _ h9 => h9) rfl dX9_writes_30 ?_
      refine lv_iload hx hb dX9_writes_33 (lv_at hl 0 rfl) ?_
      refine lv_iload hx hb dX9_writes_35 (lv_at hl 6 rfl) ?_
      refine lv_if_ne (tgt := 44) hx hb dX9_writes_37 (by decide) (fun hc => ?_) (fun hc => ?_)
      · have hq := hq.1 hc
        refine lv_iconst (v := 1) hx hb dX9_writes_44 (by decide) ?_
        refine va_iast hx hb hK.1 hw.1 hw.2 hS 1 8 rfl rfl hq.1 dX9_writes_45 (fun H locs hP hD hS => ?_)
        have hw : ΩM D d mp A (nCell u11 (upd (mCell u11) y12.toNatClampNeg (1 : Int32))) H := ⟨hP, hD⟩
        have hq := hq.2
        refine lv_goto (tgt := 101) hx hb dX9_writes_46 (by decide) ?_
        refine lv_iconst (v := 0) hx hb dX9_writes_101 (by decide) ?_
        exact mt_reti hx hb hr hlocks hw hS (Nat.le_of_ble_eq_true rfl) (Nat.le_of_ble_eq_true rfl) dX9_writes_102 ⟨_, rfl, hq⟩
      · have hq := hq.2 hc
        refine lv_iconst (v := 0) hx hb dX9_writes_40 (by decide) ?_
        refine lv_goto (tgt := 45) hx hb dX9_writes_41 (by decide) ?_
        refine va_iast hx hb hK.1 hw.1 hw.2 hS 1 8 rfl rfl hq.1 dX9_writes_45 (fun H locs hP hD hS => ?_)
        have hw : ΩM D d mp A (nCell u11 (upd (mCell u11) y12.toNatClampNeg (0 : Int32))) H := ⟨hP, hD⟩
        have hq := hq.2
        refine lv_goto (tgt := 101) hx hb dX9_writes_46 (by decide) ?_
        refine lv_iconst (v := 0) hx hb dX9_writes_101 (by decide) ?_
        exact mt_reti hx hb hr hlocks hw hS (Nat.le_of_ble_eq_true rfl) (Nat.le_of_ble_eq_true rfl) dX9_writes_102 ⟨_, rfl, hq⟩
  · have hq := hq.2 hc
    refine lv_iload hx hb dX9_writes_13 (lv_at hl 0 rfl) ?_
    exact mt_reti hx hb hr hlocks hw hS (Nat.le_of_ble_eq_true rfl) (Nat.le_of_ble_eq_true rfl) dX9_writes_15 ⟨_, rfl, hq⟩
abbrev rmX9_turns : Room := { frames := 2, cells := 0, slots := 0, locals := 43 }
theorem nmhX9_turns : NoMH yX9_turns 4 := by decide +kernel
def wX9_turns (x1 : Int32) (x2 : Int32) (x3 : Int32) (x4 : Int32) (μ : MS) (Q : Int32 → MS → Prop) : Prop :=
    wX9_lacks x2 x3 μ (fun r16 u17 => (0 ≤ r16 → (∀ y18 : Int32, y18 = (((300 : Int32) * x2) + x3) → (vp_in y18 60600 ∧ (∀ y19 : Int32, y19 = (mCell u17 y18.toNatClampNeg) → ((¬ x1 = 0 → ((¬ x1 = (3 : Int32) → ((¬ x1 = (1 : Int32) → ((¬ x1 = (2 : Int32) → (wX9_packed x1 (y19 - x4) u17 (fun r20 u21 => vp_in y18 60600 ∧ (Q (0 : Int32) (nCell u21 (upd (mCell u21) y18.toNatClampNeg r20)))))) ∧ (x1 = (2 : Int32) → (wX9_packed x1 (y19 * x4) u17 (fun r22 u23 => vp_in y18 60600 ∧ (Q (0 : Int32) (nCell u23 (upd (mCell u23) y18.toNatClampNeg r22)))))))) ∧ (x1 = (1 : Int32) → (wX9_packed x1 (y19 + x4) u17 (fun r24 u25 => vp_in y18 60600 ∧ (Q (0 : Int32) (nCell u25 (upd (mCell u25) y18.toNatClampNeg r24)))))))) ∧ (x1 = (3 : Int32) → (wX9_in x4 (-4000 : Int32) (4000 : Int32) u17 (fun r26 u27 => (¬ r26 = 0 → (vn_sni2f y19 = false ∧ (vf_n32 (FP.fmul (FP.i2f x4) (1048576000 : UInt32)) ∧ (vf_n32 (FP.fmul y19.toUInt32 (FP.fmul (FP.i2f x4) (1048576000 : UInt32))) ∧ (∀ y28 : UInt32, y28 = (FP.fmul y19.toUInt32 (FP.fmul (FP.i2f x4) (1048576000 : UInt32))) → (((Op.cmpValue (FP.fcmp y28 (3379831808 : UInt32)) CmpOp.g) < 0 → Q (-5 : Int32) u27) ∧ (¬ (Op.cmpValue (FP.fcmp y28 (3379831808 : UInt32)) CmpOp.g) < 0 → (((Op.cmpValue (FP.fcmp y28 (1232348160 : UInt32)) CmpOp.l) ≤ 0 → (wJxf58ca_floatToIntBits_5c35a y28 u27 (fun r29 u30 => vp_in y18 60600 ∧ (Q (0 : Int32) (nCell u30 (upd (mCell u30) y18.toNatClampNeg r29)))))) ∧ (¬ (Op.cmpValue (FP.fcmp y28 (1232348160 : UInt32)) CmpOp.l) ≤ 0 → Q (-5 : Int32) u27))))))))) ∧ (r26 = 0 → Q (-5 : Int32) u27)))))) ∧ (x1 = 0 → ((¬ (x4 &&& (1 : Int32)) = 0 → (vp_in y18 60600 ∧ (Q (0 : Int32) (nCell u17 (upd (mCell u17) y18.toNatClampNeg ((1 : Int32) - y19)))))) ∧ ((x4 &&& (1 : Int32)) = 0 → (vp_in y18 60600 ∧ (Q (0 : Int32) (nCell u17 (upd (mCell u17) y18.toNatClampNeg y19)))))))))))) ∧ (¬ 0 ≤ r16 → Q r16 u17))
set_option maxHeartbeats 4000000 in
set_option maxRecDepth 100000 in
theorem tX9_turns (l : Launch) (D : va_G) (d : AC) (mp : Nat → Nat) (x1 : Int32) (x2 : Int32) (x3 : Int32) (x4 : Int32) (μ : MS) {Q : Int32 → MS → Prop} (hq : wX9_turns x1 x2 x3 x4 μ Q) : MT D d (ΩM D d mp) l yX9_turns (WS yX9_turns cX9_turns 9 (some (.int))) rmX9_turns [.ref (mp 0), .int x1, .int x2, .int x3, .int x4] μ (qI Q) := by
  refine mt_of (ΩM.mono D d mp) (by decide +kernel) (Nat.le_of_ble_eq_true rfl) (fun p e s m below meth c A ls hx hb hr hml hown hts hlocks hnm hK hA hw hS hl => ?_)
  have hl : lv_has ls 9 [(0, .ref (mp 0)), (1, .int x1), (2, .int x2), (3, .int x3), (4, .int x4)] := hl
  have hown : s.vm.findClass RX9 = some m.cls := hown
  unfold wX9_turns at hq
  refine lv_aload_n hx hb dX9_turns_0 rfl (lv_at hl 0 rfl) ?_
  refine lv_iload_n hx hb dX9_turns_1 rfl (lv_at hl 2 rfl) ?_
  refine lv_iload_n hx hb dX9_turns_2 rfl (lv_at hl 3 rfl) ?_
  refine mt_callV (index := 67) hx hb hml hown hts hK (ΩM.mono D d mp) hA hw hS hl.1 (tX9_lacks l D d mp x2 x3 μ hq) (ΩM.recv hK hw) q_557 q_34 q_554 q_556 q_21 nmhX9_lacks ⟨⟨Nat.le_of_ble_eq_true rfl, Nat.le_of_ble_eq_true rfl⟩, ⟨Nat.le_of_ble_eq_true rfl, Nat.le_of_ble_eq_true rfl⟩⟩ rfl (Nat.le_of_ble_eq_true rfl) dX9_turns_3 (fun _ u17 H locs hq hw hS => ?_)
  obtain ⟨r16, rfl, hq⟩ := hq
  refine W.eq (g2 := F0 m 6 ls [.int r16]) rfl ?_
  refine lv_istore (lv' := [(5, .int r16), (0, .ref (mp 0)), (1, .int x1), (2, .int x2), (3, .int x3), (4, .int x4)]) hx hb dX9_turns_6 hl (by decide) rfl (fun ls hl => ?_)
  refine lv_iload hx hb dX9_turns_8 (lv_at hl 0 rfl) ?_
  refine lv_if_ge (tgt := 16) hx hb dX9_turns_10 (by decide) (fun hc => ?_) (fun hc => ?_)
  · have hq := hq.1 hc
    refine lv_sipush (v := 300) hx hb dX9_turns_16 (by decide) ?_
    refine lv_iload_n hx hb dX9_turns_19 rfl (lv_at hl 3 rfl) ?_
    refine lv_imul hx hb dX9_turns_20 ?_
    refine lv_iload_n hx hb dX9_turns_21 rfl (lv_at hl 4 rfl) ?_
    refine lv_iadd hx hb dX9_turns_22 ?_
    refine lv_topi (fun y18 ey18 => ?_)
    have hq := hq y18 ey18
    refine lv_istore (lv' := [(6, .int y18), (5, .int r16), (0, .ref (mp 0)), (1, .int x1), (2, .int x2), (3, .int x3), (4, .int x4)]) hx hb dX9_turns_23 hl (by decide) rfl (fun ls hl => ?_)
    refine lv_aload_n hx hb dX9_turns_25 rfl (lv_at hl 2 rfl) ?_
    refine va_get (D := D) (ci := 8) (v := .ref (mp 1)) (C := RX9) (T := TX9) (N := 15) hx hb hts inX9 hown hK.1 hw.1 0 rfl rfl 0 (by decide) (hts _ q_461) (fun _ h9 => h9) rfl dX9_turns_26 ?_
    refine lv_iload hx hb dX9_turns_29 (lv_at hl 0 rfl) ?_
    refine va_iald hx hb hK.1 hw.1 1 8 rfl rfl hq.1 dX9_turns_31 ?_
    have hq := hq.2
    refine lv_topi (fun y19 ey19 => ?_)
    have hq := hq y19 ey19
    refine lv_istore (lv' := [(7, .int y19), (6, .int y18), (5, .int r16), (0, .ref (mp 0)), (1, .int x1), (2, .int x2), (3, .int x3), (4, .int x4)]) hx hb dX9_turns_32 hl (by decide) rfl (fun ls hl => ?_)
    refine lv_iload_n hx hb dX9_turns_34 rfl (lv_at hl 4 rfl) ?_
    refine lv_if_ne (tgt := 64) hx hb dX9_turns_35 (by decide) (fun hc => ?_) (fun hc => ?_)
    · have hq := hq.1 hc
      refine lv_iload_n hx hb dX9_turns_64 rfl (lv_at hl 4 rfl) ?_
      refine lv_iconst (v := 3) hx hb dX9_turns_65 (by decide) ?_
      refine lv_icmp_ne (tgt := 134) hx hb dX9_turns_66 (by decide) (fun hc => ?_) (fun hc => ?_)
      · have hq := hq.1 hc
        refine lv_aload_n hx hb dX9_turns_134 rfl (lv_at hl 3 rfl) ?_
        refine va_get (D := D) (ci := 8) (v := .ref (mp 1)) (C := RX9) (T := TX9) (N := 15) hx hb hts inX9 hown hK.1 hw.1 0 rfl rfl 0 (by decide) (hts _ q_461) (fun _ h9 => h9) rfl dX9_turns_135 ?_
        refine lv_iload hx hb dX9_turns_138 (lv_at hl 1 rfl) ?_
        refine lv_iload_n hx hb dX9_turns_140 rfl (lv_at hl 4 rfl) ?_
        refine lv_iload_n hx hb dX9_turns_141 rfl (lv_at hl 4 rfl) ?_
        refine lv_iconst (v := 1) hx hb dX9_turns_142 (by decide) ?_
        refine lv_icmp_ne (tgt := 154) hx hb dX9_turns_143 (by decide) (fun hc => ?_) (fun hc => ?_)
        · have hq := hq.1 hc
          refine lv_iload_n hx hb dX9_turns_154 rfl (lv_at hl 4 rfl) ?_
          refine lv_iconst (v := 2) hx hb dX9_turns_155 (by decide) ?_
          refine lv_icmp_ne (tgt := 167) hx hb dX9_turns_156 (by decide) (fun hc => ?_) (fun hc => ?_)
          · have hq := hq.1 hc
            refine lv_iload hx hb dX9_turns_167 (lv_at hl 0 rfl) ?_
            refine lv_iload hx hb dX9_turns_169 (lv_at hl 7 rfl) ?_
            refine lv_isub hx hb dX9_turns_171 ?_
            refine mt_callS (index := 80) hx hb hml hown hts hK (ΩM.mono D d mp) hA hw hS hl.1 (tX9_packed l D d mp x1 (y19 - x4) u17 hq) q_581 q_34 q_579 q_580 nmhX9_packed ⟨⟨Nat.le_of_ble_eq_true rfl, Nat.le_of_ble_eq_true rfl⟩, ⟨Nat.le_of_ble_eq_true rfl, Nat.le_of_ble_eq_true rfl⟩⟩ rfl (Nat.le_of_ble_eq_true rfl) dX9_turns_172 (fun _ u21 H locs hq hw hS => ?_)
            obtain ⟨r20, rfl, hq⟩ := hq
            refine W.eq (g2 := F0 m 175 ls [.int r20, .int y18, .ref (mp 1)]) rfl ?_
            refine va_iast hx hb hK.1 hw.1 hw.2 hS 1 8 rfl rfl hq.1 dX9_turns_175 (fun H locs hP hD hS => ?_)
            have hw : ΩM D d mp A (nCell u21 (upd (mCell u21) y18.toNatClampNeg r20)) H := ⟨hP, hD⟩
            have hq := hq.2
            refine lv_iconst (v := 0) hx hb dX9_turns_176 (by decide) ?_
            exact mt_reti hx hb hr hlocks hw hS (Nat.le_of_ble_eq_true rfl) (Nat.le_of_ble_eq_true rfl) dX9_turns_177 ⟨_, rfl, hq⟩
          · have hq := hq.2 hc
            refine lv_iload hx hb dX9_turns_159 (lv_at hl 0 rfl) ?_
            refine lv_iload hx hb dX9_turns_161 (lv_at hl 7 rfl) ?_
            refine lv_imul hx hb dX9_turns_163 ?_
            refine lv_goto (tgt := 172) hx hb dX9_turns_164 (by decide) ?_
            refine mt_callS (index := 80) hx hb hml hown hts hK (ΩM.mono D d mp) hA hw hS hl.1 (tX9_packed l D d mp x1 (y19 * x4) u17 hq) q_581 q_34 q_579 q_580 nmhX9_packed ⟨⟨Nat.le_of_ble_eq_true rfl, Nat.le_of_ble_eq_true rfl⟩, ⟨Nat.le_of_ble_eq_true rfl, Nat.le_of_ble_eq_true rfl⟩⟩ rfl (Nat.le_of_ble_eq_true rfl) dX9_turns_172 (fun _ u23 H locs hq hw hS => ?_)
            obtain ⟨r22, rfl, hq⟩ := hq
            refine W.eq (g2 := F0 m 175 ls [.int r22, .int y18, .ref (mp 1)]) rfl ?_
            refine va_iast hx hb hK.1 hw.1 hw.2 hS 1 8 rfl rfl hq.1 dX9_turns_175 (fun H locs hP hD hS => ?_)
            have hw : ΩM D d mp A (nCell u23 (upd (mCell u23) y18.toNatClampNeg r22)) H := ⟨hP, hD⟩
            have hq := hq.2
            refine lv_iconst (v := 0) hx hb dX9_turns_176 (by decide) ?_
            exact mt_reti hx hb hr hlocks hw hS (Nat.le_of_ble_eq_true rfl) (Nat.le_of_ble_eq_true rfl) dX9_turns_177 ⟨_, rfl, hq⟩
        · have hq := hq.2 hc
          refine lv_iload hx hb dX9_turns_146 (lv_at hl 0 rfl) ?_
          refine lv_iload hx hb dX9_turns_148 (lv_at hl 7 rfl) ?_
          refine lv_iadd hx hb dX9_turns_150 ?_
          refine lv_goto (tgt := 172) hx hb dX9_turns_151 (by decide) ?_
          refine mt_callS (index := 80) hx hb hml hown hts hK (ΩM.mono D d mp) hA hw hS hl.1 (tX9_packed l D d mp x1 (y19 + x4) u17 hq) q_581 q_34 q_579 q_580 nmhX9_packed ⟨⟨Nat.le_of_ble_eq_true rfl, Nat.le_of_ble_eq_true rfl⟩, ⟨Nat.le_of_ble_eq_true rfl, Nat.le_of_ble_eq_true rfl⟩⟩ rfl (Nat.le_of_ble_eq_true rfl) dX9_turns_172 (fun _ u25 H locs hq hw hS => ?_)
          obtain ⟨r24, rfl, hq⟩ := hq
          refine W.eq (g2 := F0 m 175 ls [.int r24, .int y18, .ref (mp 1)]) rfl ?_
          refine va_iast hx hb hK.1 hw.1 hw.2 hS 1 8 rfl rfl hq.1 dX9_turns_175 (fun H locs hP hD hS => ?_)
          have hw : ΩM D d mp A (nCell u25 (upd (mCell u25) y18.toNatClampNeg r24)) H := ⟨hP, hD⟩
          have hq := hq.2
          refine lv_iconst (v := 0) hx hb dX9_turns_176 (by decide) ?_
          exact mt_reti hx hb hr hlocks hw hS (Nat.le_of_ble_eq_true rfl) (Nat.le_of_ble_eq_true rfl) dX9_turns_177 ⟨_, rfl, hq⟩
      · have hq := hq.2 hc
        refine lv_iload hx hb dX9_turns_69 (lv_at hl 7 rfl) ?_
        refine lv_sipush (v := -4000) hx hb dX9_turns_71 (by decide) ?_
        refine lv_sipush (v := 4000) hx hb dX9_turns_74 (by decide) ?_
        refine mt_callS (index := 58) hx hb hml hown hts hK (ΩM.mono D d mp) hA hw hS hl.1 (tX9_in l D d mp x4 (-4000 : Int32) (4000 : Int32) u17 hq) q_518 q_34 q_516 q_517 nmhX9_in ⟨⟨Nat.le_of_ble_eq_true rfl, Nat.le_of_ble_eq_true rfl⟩, ⟨Nat.le_of_ble_eq_true rfl, Nat.le_of_ble_eq_true rfl⟩⟩ rfl (Nat.le_of_ble_eq_true rfl) dX9_turns_77 (fun _ u27 H locs hq hw hS => ?_)
        obtain ⟨r26, rfl, hzr26, hq⟩ := hq
        refine W.eq (g2 := F0 m 80 ls [.int r26]) rfl ?_
        refine lv_if_ne (tgt := 86) hx hb dX9_turns_80 (by decide) (fun hc => ?_) (fun hc => ?_)
        · have hq := hq.1 hc
          refine lv_iload hx hb dX9_turns_86 (lv_at hl 0 rfl) ?_
          refine vn_i2f hx hb (hml.trans hl.1.symm) hown (hts _ q_591) (hts _ q_593) (hts _ q_592) (hts _ q_41) hq.1 (Nat.le_of_ble_eq_true rfl) (Nat.le_of_ble_eq_true rfl) dX9_turns_88 ?_
          have hq := hq.2
          refine lv_iload hx hb dX9_turns_91 (lv_at hl 7 rfl) ?_
          refine lv_i2f hx hb dX9_turns_93 ?_
          refine lv_ldcf (v := 1048576000) hx hb hown (hts _ q_594) dX9_turns_94 ?_
          refine lv_fmul hx hb dX9_turns_96 hq.1 ?_
          have hq := hq.2
          refine lv_fmul hx hb dX9_turns_97 hq.1 ?_
          have hq := hq.2
          refine lv_topf (fun y28 ey28 => ?_)
          have hq := hq y28 ey28
          refine lv_fstore (lv' := [(8, .float y28), (7, .int y19), (6, .int y18), (5, .int r16), (0, .ref (mp 0)), (1, .int x1), (2, .int x2), (3, .int x3), (4, .int x4)]) hx hb dX9_turns_98 hl (by decide) rfl (fun ls hl => ?_)
          refine lv_fload hx hb dX9_turns_100 (lv_at hl 0 rfl) ?_
          refine lv_ldcf (v := 3379831808) hx hb hown (hts _ q_595) dX9_turns_102 ?_
          refine lv_fcmp hx hb dX9_turns_104 ?_
          refine lv_if_lt (tgt := 116) hx hb dX9_turns_105 (by decide) (fun hc => ?_) (fun hc => ?_)
          · have hq := hq.1 hc
            refine lv_bipush (v := -5) hx hb dX9_turns_116 (by decide) ?_
            exact mt_reti hx hb hr hlocks hw hS (Nat.le_of_ble_eq_true rfl) (Nat.le_of_ble_eq_true rfl) dX9_turns_118 ⟨_, rfl, hq⟩
          · have hq := hq.2 hc
            refine lv_fload hx hb dX9_turns_108 (lv_at hl 0 rfl) ?_
            refine lv_ldcf (v := 1232348160) hx hb hown (hts _ q_596) dX9_turns_110 ?_
            refine lv_fcmp hx hb dX9_turns_112 ?_
            refine lv_if_le (tgt := 119) hx hb dX9_turns_113 (by decide) (fun hc => ?_) (fun hc => ?_)
            · have hq := hq.1 hc
              refine lv_aload_n hx hb dX9_turns_119 rfl (lv_at hl 4 rfl) ?_
              refine va_get (D := D) (ci := 8) (v := .ref (mp 1)) (C := RX9) (T := TX9) (N := 15) hx hb hts inX9 hown hK.1 hw.1 0 rfl rfl 0 (by decide) (hts _ q_461) (fun _ h9 => h9) rfl dX9_turns_120 ?_
              refine lv_iload hx hb dX9_turns_123 (lv_at hl 2 rfl) ?_
              refine lv_fload hx hb dX9_turns_125 (lv_at hl 0 rfl) ?_
              refine mt_callS (index := 74) hx hb hml hown hts hK (ΩM.mono D d mp) hA hw hS hl.1 (tJxf58ca_floatToIntBits_5c35a l D d mp y28 u27 hq) q_571 q_41 q_569 q_570 nmhJxf58ca_floatToIntBits_5c35a ⟨⟨Nat.le_of_ble_eq_true rfl, Nat.le_of_ble_eq_true rfl⟩, ⟨Nat.le_of_ble_eq_true rfl, Nat.le_of_ble_eq_true rfl⟩⟩ rfl (Nat.le_of_ble_eq_true rfl) dX9_turns_127 (fun _ u30 H locs hq hw hS => ?_)
              obtain ⟨r29, rfl, hq⟩ := hq
              refine W.eq (g2 := F0 m 130 ls [.int r29, .int y18, .ref (mp 1)]) rfl ?_
              refine va_iast hx hb hK.1 hw.1 hw.2 hS 1 8 rfl rfl hq.1 dX9_turns_130 (fun H locs hP hD hS => ?_)
              have hw : ΩM D d mp A (nCell u30 (upd (mCell u30) y18.toNatClampNeg r29)) H := ⟨hP, hD⟩
              have hq := hq.2
              refine lv_goto (tgt := 176) hx hb dX9_turns_131 (by decide) ?_
              refine lv_iconst (v := 0) hx hb dX9_turns_176 (by decide) ?_
              exact mt_reti hx hb hr hlocks hw hS (Nat.le_of_ble_eq_true rfl) (Nat.le_of_ble_eq_true rfl) dX9_turns_177 ⟨_, rfl, hq⟩
            · have hq := hq.2 hc
              refine lv_bipush (v := -5) hx hb dX9_turns_116 (by decide) ?_
              exact mt_reti hx hb hr hlocks hw hS (Nat.le_of_ble_eq_true rfl) (Nat.le_of_ble_eq_true rfl) dX9_turns_118 ⟨_, rfl, hq⟩
        · have hq := hq.2 hc
          refine lv_bipush (v := -5) hx hb dX9_turns_83 (by decide) ?_
          exact mt_reti hx hb hr hlocks hw hS (Nat.le_of_ble_eq_true rfl) (Nat.le_of_ble_eq_true rfl) dX9_turns_85 ⟨_, rfl, hq⟩
    · have hq := hq.2 hc
      refine lv_aload_n hx hb dX9_turns_38 rfl (lv_at hl 3 rfl) ?_
      refine va_get (D := D) (ci := 8) (v := .ref (mp 1)) (C := RX9) (T := TX9) (N := 15) hx hb hts inX9 hown hK.1 hw.1 0 rfl rfl 0 (by decide) (hts _ q_461) (fun _ h9 => h9) rfl dX9_turns_39 ?_
      refine lv_iload hx hb dX9_turns_42 (lv_at hl 1 rfl) ?_
      refine lv_iload hx hb dX9_turns_44 (lv_at hl 7 rfl) ?_
      refine lv_iconst (v := 1) hx hb dX9_turns_46 (by decide) ?_
      refine lv_iand hx hb dX9_turns_47 ?_
      refine lv_if_ne (tgt := 56) hx hb dX9_turns_48 (by decide) (fun hc => ?_) (fun hc => ?_)
      · have hq := hq.1 hc
        refine lv_iconst (v := 1) hx hb dX9_turns_56 (by decide) ?_
        refine lv_iload hx hb dX9_turns_57 (lv_at hl 0 rfl) ?_
        refine lv_isub hx hb dX9_turns_59 ?_
        refine va_iast hx hb hK.1 hw.1 hw.2 hS 1 8 rfl rfl hq.1 dX9_turns_60 (fun H locs hP hD hS => ?_)
        have hw : ΩM D d mp A (nCell u17 (upd (mCell u17) y18.toNatClampNeg ((1 : Int32) - y19))) H := ⟨hP, hD⟩
        have hq := hq.2
        refine lv_goto (tgt := 176) hx hb dX9_turns_61 (by decide) ?_
        refine lv_iconst (v := 0) hx hb dX9_turns_176 (by decide) ?_
        exact mt_reti hx hb hr hlocks hw hS (Nat.le_of_ble_eq_true rfl) (Nat.le_of_ble_eq_true rfl) dX9_turns_177 ⟨_, rfl, hq⟩
      · have hq := hq.2 hc
        refine lv_iload hx hb dX9_turns_51 (lv_at hl 0 rfl) ?_
        refine lv_goto (tgt := 60) hx hb dX9_turns_53 (by decide) ?_
        refine va_iast hx hb hK.1 hw.1 hw.2 hS 1 8 rfl rfl hq.1 dX9_turns_60 (fun H locs hP hD hS => ?_)
        have hw : ΩM D d mp A (nCell u17 (upd (mCell u17) y18.toNatClampNeg y19)) H := ⟨hP, hD⟩
        have hq := hq.2
        refine lv_goto (tgt := 176) hx hb dX9_turns_61 (by decide) ?_
        refine lv_iconst (v := 0) hx hb dX9_turns_176 (by decide) ?_
        exact mt_reti hx hb hr hlocks hw hS (Nat.le_of_ble_eq_true rfl) (Nat.le_of_ble_eq_true rfl) dX9_turns_177 ⟨_, rfl, hq⟩
  · have hq := hq.2 hc
    refine lv_iload hx hb dX9_turns_13 (lv_at hl 0 rfl) ?_
    exact mt_reti hx hb hr hlocks hw hS (Nat.le_of_ble_eq_true rfl) (Nat.le_of_ble_eq_true rfl) dX9_turns_15 ⟨_, rfl, hq⟩
abbrev rmX9_reads : Room := { frames := 1, cells := 0, slots := 0, locals := 22 }
theorem nmhX9_reads : NoMH yX9_reads 2 := by decide +kernel
def wX9_reads (x1 : Int32) (x2 : Int32) (μ : MS) (Q : Int32 → MS → Prop) : Prop :=
    wX9_lacks x1 x2 μ (fun r3 u4 => (0 ≤ r3 → (vp_in (((300 : Int32) * x1) + x2) 60600 ∧ (Q (mCell (nState u4 r3) (((300 : Int32) * x1) + x2).toNatClampNeg) (nState u4 r3)))) ∧ (¬ 0 ≤ r3 → Q (0 : Int32) (nState u4 r3)))
set_option maxHeartbeats 4000000 in
set_option maxRecDepth 100000 in
theorem tX9_reads (l : Launch) (D : va_G) (d : AC) (mp : Nat → Nat) (x1 : Int32) (x2 : Int32) (μ : MS) {Q : Int32 → MS → Prop} (hq : wX9_reads x1 x2 μ Q) : MT D d (ΩM D d mp) l yX9_reads (WS yX9_reads cX9_reads 4 (some (.int))) rmX9_reads [.ref (mp 0), .int x1, .int x2] μ (qI Q) := by
  refine mt_of (ΩM.mono D d mp) (by decide +kernel) (Nat.le_of_ble_eq_true rfl) (fun p e s m below meth c A ls hx hb hr hml hown hts hlocks hnm hK hA hw hS hl => ?_)
  have hl : lv_has ls 4 [(0, .ref (mp 0)), (1, .int x1), (2, .int x2)] := hl
  have hown : s.vm.findClass RX9 = some m.cls := hown
  unfold wX9_reads at hq
  refine lv_aload_n hx hb dX9_reads_0 rfl (lv_at hl 0 rfl) ?_
  refine lv_iload_n hx hb dX9_reads_1 rfl (lv_at hl 1 rfl) ?_
  refine lv_iload_n hx hb dX9_reads_2 rfl (lv_at hl 2 rfl) ?_
  refine mt_callV (index := 67) hx hb hml hown hts hK (ΩM.mono D d mp) hA hw hS hl.1 (tX9_lacks l D d mp x1 x2 μ hq) (ΩM.recv hK hw) q_557 q_34 q_554 q_556 q_21 nmhX9_lacks ⟨⟨Nat.le_of_ble_eq_true rfl, Nat.le_of_ble_eq_true rfl⟩, ⟨Nat.le_of_ble_eq_true rfl, Nat.le_of_ble_eq_true rfl⟩⟩ rfl (Nat.le_of_ble_eq_true rfl) dX9_reads_3 (fun _ u4 H locs hq hw hS => ?_)
  obtain ⟨r3, rfl, hq⟩ := hq
  refine W.eq (g2 := F0 m 6 ls [.int r3]) rfl ?_
  refine lv_istore_n (lv' := [(3, .int r3), (0, .ref (mp 0)), (1, .int x1), (2, .int x2)]) hx hb dX9_reads_6 rfl hl (by decide) rfl (fun ls hl => ?_)
  refine lv_aload_n hx hb dX9_reads_7 rfl (lv_at hl 1 rfl) ?_
  refine lv_iload_n hx hb dX9_reads_8 rfl (lv_at hl 0 rfl) ?_
  refine va_put (D := D) (ci := 8) (v := .int r3) (ty := .int) (C := RX9) (T := TX9) (N := 15) hx hb hts inX9 tyX9 tyX9_ok nmX9 hown hK.1 hw.1 hw.2 hS 0 rfl rfl 14 (by decide) (hts _ q_475) (fun _ h9 => h9) rfl (by decide +kernel) rfl rfl (Nat.le_of_ble_eq_true rfl) dX9_reads_9 (fun H locs hP hD hS => ?_)
  have hw : ΩM D d mp A (nState u4 r3) H := ⟨hP, hD⟩
  refine lv_iload_n hx hb dX9_reads_12 rfl (lv_at hl 0 rfl) ?_
  refine lv_if_ge (tgt := 20) hx hb dX9_reads_13 (by decide) (fun hc => ?_) (fun hc => ?_)
  · have hq := hq.1 hc
    refine lv_aload_n hx hb dX9_reads_20 rfl (lv_at hl 1 rfl) ?_
    refine va_get (D := D) (ci := 8) (v := .ref (mp 1)) (C := RX9) (T := TX9) (N := 15) hx hb hts inX9 hown hK.1 hw.1 0 rfl rfl 0 (by decide) (hts _ q_461) (fun _ h9 => h9) rfl dX9_reads_21 ?_
    refine lv_sipush (v := 300) hx hb dX9_reads_24 (by decide) ?_
    refine lv_iload_n hx hb dX9_reads_27 rfl (lv_at hl 2 rfl) ?_
    refine lv_imul hx hb dX9_reads_28 ?_
    refine lv_iload_n hx hb dX9_reads_29 rfl (lv_at hl 3 rfl) ?_
    refine lv_iadd hx hb dX9_reads_30 ?_
    refine va_iald hx hb hK.1 hw.1 1 8 rfl rfl hq.1 dX9_reads_31 ?_
    have hq := hq.2
    exact mt_reti hx hb hr hlocks hw hS (Nat.le_of_ble_eq_true rfl) (Nat.le_of_ble_eq_true rfl) dX9_reads_32 ⟨_, rfl, hq⟩
  · have hq := hq.2 hc
    refine lv_iconst (v := 0) hx hb dX9_reads_16 (by decide) ?_
    refine lv_goto (tgt := 32) hx hb dX9_reads_17 (by decide) ?_
    exact mt_reti hx hb hr hlocks hw hS (Nat.le_of_ble_eq_true rfl) (Nat.le_of_ble_eq_true rfl) dX9_reads_32 ⟨_, rfl, hq⟩
abbrev rmX9_cut : Room := { frames := 2, cells := 0, slots := 0, locals := 42 }
theorem nmhX9_cut : NoMH yX9_cut 3 := by decide +kernel
def wX9_cut (x1 : Int32) (x2 : Int32) (x3 : Int32) (μ : MS) (Q : Int32 → MS → Prop) : Prop :=
    wX9_isDrum x1 μ (fun r19 u20 => (r19 = 0 → wX9_told (-1 : Int32) u20 (fun r21 u22 => Q r21 u22)) ∧ (¬ r19 = 0 → (wX9_isKind x2 u20 (fun r23 u24 => (¬ r23 = 0 → (wX9_in x3 (0 : Int32) (300 : Int32) u24 (fun r25 u26 => (¬ r25 = 0 → (wX9_newTrack x3 u26 (fun r27 u28 => wX9_drumGets x1 x2 r27 u28 (fun u30 => wX9_told x3 u30 (fun r31 u32 => Q r31 u32))))) ∧ (r25 = 0 → wX9_told (-4 : Int32) u26 (fun r33 u34 => Q r33 u34))))) ∧ (r23 = 0 → wX9_told (-1 : Int32) u24 (fun r35 u36 => Q r35 u36))))))
set_option maxHeartbeats 4000000 in
set_option maxRecDepth 100000 in
theorem tX9_cut (l : Launch) (D : va_G) (d : AC) (mp : Nat → Nat) (x1 : Int32) (x2 : Int32) (x3 : Int32) (μ : MS) {Q : Int32 → MS → Prop} (hq : wX9_cut x1 x2 x3 μ Q) : MT D d (ΩM D d mp) l yX9_cut (WS yX9_cut cX9_cut 4 (some (.int))) rmX9_cut [.ref (mp 0), .int x1, .int x2, .int x3] μ (qI Q) := by
  refine mt_of (ΩM.mono D d mp) (by decide +kernel) (Nat.le_of_ble_eq_true rfl) (fun p e s m below meth c A ls hx hb hr hml hown hts hlocks hnm hK hA hw hS hl => ?_)
  have hl : lv_has ls 4 [(0, .ref (mp 0)), (1, .int x1), (2, .int x2), (3, .int x3)] := hl
  have hown : s.vm.findClass RX9 = some m.cls := hown
  unfold wX9_cut at hq
  refine lv_iload_n hx hb dX9_cut_0 rfl (lv_at hl 1 rfl) ?_
  refine mt_callS (index := 90) hx hb hml hown hts hK (ΩM.mono D d mp) hA hw hS hl.1 (tX9_isDrum l D d mp x1 μ hq) q_515 q_34 q_513 q_514 nmhX9_isDrum ⟨⟨Nat.le_of_ble_eq_true rfl, Nat.le_of_ble_eq_true rfl⟩, ⟨Nat.le_of_ble_eq_true rfl, Nat.le_of_ble_eq_true rfl⟩⟩ rfl (Nat.le_of_ble_eq_true rfl) dX9_cut_1 (fun _ u20 H locs hq hw hS => ?_)
  obtain ⟨r19, rfl, hzr19, hq⟩ := hq
  refine W.eq (g2 := F0 m 4 ls [.int r19]) rfl ?_
  refine lv_if_eq (tgt := 14) hx hb dX9_cut_4 (by decide) (fun hc => ?_) (fun hc => ?_)
  · have hq := hq.1 hc
    refine lv_aload_n hx hb dX9_cut_14 rfl (lv_at hl 0 rfl) ?_
    refine lv_iconst (v := -1) hx hb dX9_cut_15 (by decide) ?_
    refine mt_callV (index := 96) hx hb hml hown hts hK (ΩM.mono D d mp) hA hw hS hl.1 (tX9_told l D d mp (-1 : Int32) u20 hq) (ΩM.recv hK hw) q_525 q_34 q_522 q_524 q_17 nmhX9_told ⟨⟨Nat.le_of_ble_eq_true rfl, Nat.le_of_ble_eq_true rfl⟩, ⟨Nat.le_of_ble_eq_true rfl, Nat.le_of_ble_eq_true rfl⟩⟩ rfl (Nat.le_of_ble_eq_true rfl) dX9_cut_16 (fun _ u22 H locs hq hw hS => ?_)
    obtain ⟨r21, rfl, hq⟩ := hq
    refine W.eq (g2 := F0 m 19 ls [.int r21]) rfl ?_
    exact mt_reti hx hb hr hlocks hw hS (Nat.le_of_ble_eq_true rfl) (Nat.le_of_ble_eq_true rfl) dX9_cut_19 ⟨_, rfl, hq⟩
  · have hq := hq.2 hc
    refine lv_iload_n hx hb dX9_cut_7 rfl (lv_at hl 2 rfl) ?_
    refine mt_callS (index := 93) hx hb hml hown hts hK (ΩM.mono D d mp) hA hw hS hl.1 (tX9_isKind l D d mp x2 u20 hq) q_521 q_34 q_519 q_520 nmhX9_isKind ⟨⟨Nat.le_of_ble_eq_true rfl, Nat.le_of_ble_eq_true rfl⟩, ⟨Nat.le_of_ble_eq_true rfl, Nat.le_of_ble_eq_true rfl⟩⟩ rfl (Nat.le_of_ble_eq_true rfl) dX9_cut_8 (fun _ u24 H locs hq hw hS => ?_)
    obtain ⟨r23, rfl, hzr23, hq⟩ := hq
    refine W.eq (g2 := F0 m 11 ls [.int r23]) rfl ?_
    refine lv_if_ne (tgt := 20) hx hb dX9_cut_11 (by decide) (fun hc => ?_) (fun hc => ?_)
    · have hq := hq.1 hc
      refine lv_iload_n hx hb dX9_cut_20 rfl (lv_at hl 3 rfl) ?_
      refine lv_iconst (v := 0) hx hb dX9_cut_21 (by decide) ?_
      refine lv_sipush (v := 300) hx hb dX9_cut_22 (by decide) ?_
      refine mt_callS (index := 58) hx hb hml hown hts hK (ΩM.mono D d mp) hA hw hS hl.1 (tX9_in l D d mp x3 (0 : Int32) (300 : Int32) u24 hq) q_518 q_34 q_516 q_517 nmhX9_in ⟨⟨Nat.le_of_ble_eq_true rfl, Nat.le_of_ble_eq_true rfl⟩, ⟨Nat.le_of_ble_eq_true rfl, Nat.le_of_ble_eq_true rfl⟩⟩ rfl (Nat.le_of_ble_eq_true rfl) dX9_cut_25 (fun _ u26 H locs hq hw hS => ?_)
      obtain ⟨r25, rfl, hzr25, hq⟩ := hq
      refine W.eq (g2 := F0 m 28 ls [.int r25]) rfl ?_
      refine lv_if_ne (tgt := 38) hx hb dX9_cut_28 (by decide) (fun hc => ?_) (fun hc => ?_)
      · have hq := hq.1 hc
        refine lv_aload_n hx hb dX9_cut_38 rfl (lv_at hl 0 rfl) ?_
        refine lv_iload_n hx hb dX9_cut_39 rfl (lv_at hl 1 rfl) ?_
        refine lv_iload_n hx hb dX9_cut_40 rfl (lv_at hl 2 rfl) ?_
        refine lv_aload_n hx hb dX9_cut_41 rfl (lv_at hl 0 rfl) ?_
        refine lv_iload_n hx hb dX9_cut_42 rfl (lv_at hl 3 rfl) ?_
        refine mt_callV (index := 100) hx hb hml hown hts hK (ΩM.mono D d mp) hA hw hS hl.1 (tX9_newTrack l D d mp x3 u26 hq) (ΩM.recv hK hw) q_529 q_34 q_526 q_528 q_18 nmhX9_newTrack ⟨⟨Nat.le_of_ble_eq_true rfl, Nat.le_of_ble_eq_true rfl⟩, ⟨Nat.le_of_ble_eq_true rfl, Nat.le_of_ble_eq_true rfl⟩⟩ rfl (Nat.le_of_ble_eq_true rfl) dX9_cut_43 (fun _ u28 H locs hq hw hS => ?_)
        obtain ⟨r27, rfl, hq⟩ := hq
        refine W.eq (g2 := F0 m 46 ls [.int r27, .int x2, .int x1, .ref (mp 0)]) rfl ?_
        refine mt_callV (index := 103) hx hb hml hown hts hK (ΩM.mono D d mp) hA hw hS hl.1 (tX9_drumGets l D d mp x1 x2 r27 u28 hq) (ΩM.recv hK hw) q_533 q_34 q_530 q_532 q_19 nmhX9_drumGets ⟨⟨Nat.le_of_ble_eq_true rfl, Nat.le_of_ble_eq_true rfl⟩, ⟨Nat.le_of_ble_eq_true rfl, Nat.le_of_ble_eq_true rfl⟩⟩ rfl (Nat.le_of_ble_eq_true rfl) dX9_cut_46 (fun _ u30 H locs hq hw hS => ?_)
        obtain ⟨rfl, hq⟩ := hq
        refine W.eq (g2 := F0 m 49 ls []) rfl ?_
        refine lv_aload_n hx hb dX9_cut_49 rfl (lv_at hl 0 rfl) ?_
        refine lv_iload_n hx hb dX9_cut_50 rfl (lv_at hl 3 rfl) ?_
        refine mt_callV (index := 96) hx hb hml hown hts hK (ΩM.mono D d mp) hA hw hS hl.1 (tX9_told l D d mp x3 u30 hq) (ΩM.recv hK hw) q_525 q_34 q_522 q_524 q_17 nmhX9_told ⟨⟨Nat.le_of_ble_eq_true rfl, Nat.le_of_ble_eq_true rfl⟩, ⟨Nat.le_of_ble_eq_true rfl, Nat.le_of_ble_eq_true rfl⟩⟩ rfl (Nat.le_of_ble_eq_true rfl) dX9_cut_51 (fun _ u32 H locs hq hw hS => ?_)
        obtain ⟨r31, rfl, hq⟩ := hq
        refine W.eq (g2 := F0 m 54 ls [.int r31]) rfl ?_
        exact mt_reti hx hb hr hlocks hw hS (Nat.le_of_ble_eq_true rfl) (Nat.le_of_ble_eq_true rfl) dX9_cut_54 ⟨_, rfl, hq⟩
      · have hq := hq.2 hc
        refine lv_aload_n hx hb dX9_cut_31 rfl (lv_at hl 0 rfl) ?_
        refine lv_bipush (v := -4) hx hb dX9_cut_32 (by decide) ?_
        refine mt_callV (index := 96) hx hb hml hown hts hK (ΩM.mono D d mp) hA hw hS hl.1 (tX9_told l D d mp (-4 : Int32) u26 hq) (ΩM.recv hK hw) q_525 q_34 q_522 q_524 q_17 nmhX9_told ⟨⟨Nat.le_of_ble_eq_true rfl, Nat.le_of_ble_eq_true rfl⟩, ⟨Nat.le_of_ble_eq_true rfl, Nat.le_of_ble_eq_true rfl⟩⟩ rfl (Nat.le_of_ble_eq_true rfl) dX9_cut_34 (fun _ u34 H locs hq hw hS => ?_)
        obtain ⟨r33, rfl, hq⟩ := hq
        refine W.eq (g2 := F0 m 37 ls [.int r33]) rfl ?_
        exact mt_reti hx hb hr hlocks hw hS (Nat.le_of_ble_eq_true rfl) (Nat.le_of_ble_eq_true rfl) dX9_cut_37 ⟨_, rfl, hq⟩
    · have hq := hq.2 hc
      refine lv_aload_n hx hb dX9_cut_14 rfl (lv_at hl 0 rfl) ?_
      refine lv_iconst (v := -1) hx hb dX9_cut_15 (by decide) ?_
      refine mt_callV (index := 96) hx hb hml hown hts hK (ΩM.mono D d mp) hA hw hS hl.1 (tX9_told l D d mp (-1 : Int32) u24 hq) (ΩM.recv hK hw) q_525 q_34 q_522 q_524 q_17 nmhX9_told ⟨⟨Nat.le_of_ble_eq_true rfl, Nat.le_of_ble_eq_true rfl⟩, ⟨Nat.le_of_ble_eq_true rfl, Nat.le_of_ble_eq_true rfl⟩⟩ rfl (Nat.le_of_ble_eq_true rfl) dX9_cut_16 (fun _ u36 H locs hq hw hS => ?_)
      obtain ⟨r35, rfl, hq⟩ := hq
      refine W.eq (g2 := F0 m 19 ls [.int r35]) rfl ?_
      exact mt_reti hx hb hr hlocks hw hS (Nat.le_of_ble_eq_true rfl) (Nat.le_of_ble_eq_true rfl) dX9_cut_19 ⟨_, rfl, hq⟩
abbrev rmX9_strip : Room := { frames := 2, cells := 0, slots := 0, locals := 42 }
theorem nmhX9_strip : NoMH yX9_strip 2 := by decide +kernel
def wX9_strip (x1 : Int32) (x2 : Int32) (μ : MS) (Q : Int32 → MS → Prop) : Prop :=
    wX9_isDrum x1 μ (fun r16 u17 => (r16 = 0 → wX9_told (-1 : Int32) u17 (fun r18 u19 => Q r18 u19)) ∧ (¬ r16 = 0 → (wX9_isKind x2 u17 (fun r20 u21 => (¬ r20 = 0 → (vp_in (((5 : Int32) * x1) + x2) 40 ∧ (∀ y22 : Int32, y22 = (mDrums u21 (((5 : Int32) * x1) + x2).toNatClampNeg) → ((0 ≤ y22 → (wX9_drumGets x1 x2 (-1 : Int32) u21 (fun u24 => vp_in y22 202 ∧ wX9_told (mSize u24 y22.toNatClampNeg) u24 (fun r25 u26 => Q r25 u26)))) ∧ (¬ 0 ≤ y22 → wX9_told (-2 : Int32) u21 (fun r27 u28 => Q r27 u28)))))) ∧ (r20 = 0 → wX9_told (-1 : Int32) u21 (fun r29 u30 => Q r29 u30))))))
set_option maxHeartbeats 4000000 in
set_option maxRecDepth 100000 in
theorem tX9_strip (l : Launch) (D : va_G) (d : AC) (mp : Nat → Nat) (x1 : Int32) (x2 : Int32) (μ : MS) {Q : Int32 → MS → Prop} (hq : wX9_strip x1 x2 μ Q) : MT D d (ΩM D d mp) l yX9_strip (WS yX9_strip cX9_strip 4 (some (.int))) rmX9_strip [.ref (mp 0), .int x1, .int x2] μ (qI Q) := by
  refine mt_of (ΩM.mono D d mp) (by decide +kernel) (Nat.le_of_ble_eq_true rfl) (fun p e s m below meth c A ls hx hb hr hml hown hts hlocks hnm hK hA hw hS hl => ?_)
  have hl : lv_has ls 4 [(0, .ref (mp 0)), (1, .int x1), (2, .int x2)] := hl
  have hown : s.vm.findClass RX9 = some m.cls := hown
  unfold wX9_strip at hq
  refine lv_iload_n hx hb dX9_strip_0 rfl (lv_at hl 1 rfl) ?_
  refine mt_callS (index := 90) hx hb hml hown hts hK (ΩM.mono D d mp) hA hw hS hl.1 (tX9_isDrum l D d mp x1 μ hq) q_515 q_34 q_513 q_514 nmhX9_isDrum ⟨⟨Nat.le_of_ble_eq_true rfl, Nat.le_of_ble_eq_true rfl⟩, ⟨Nat.le_of_ble_eq_true rfl, Nat.le_of_ble_eq_true rfl⟩⟩ rfl (Nat.le_of_ble_eq_true rfl) dX9_strip_1 (fun _ u17 H locs hq hw hS => ?_)
  obtain ⟨r16, rfl, hzr16, hq⟩ := hq
  refine W.eq (g2 := F0 m 4 ls [.int r16]) rfl ?_
  refine lv_if_eq (tgt := 14) hx hb dX9_strip_4 (by decide) (fun hc => ?_) (fun hc => ?_)
  · have hq := hq.1 hc
    refine lv_aload_n hx hb dX9_strip_14 rfl (lv_at hl 0 rfl) ?_
    refine lv_iconst (v := -1) hx hb dX9_strip_15 (by decide) ?_
    refine mt_callV (index := 96) hx hb hml hown hts hK (ΩM.mono D d mp) hA hw hS hl.1 (tX9_told l D d mp (-1 : Int32) u17 hq) (ΩM.recv hK hw) q_525 q_34 q_522 q_524 q_17 nmhX9_told ⟨⟨Nat.le_of_ble_eq_true rfl, Nat.le_of_ble_eq_true rfl⟩, ⟨Nat.le_of_ble_eq_true rfl, Nat.le_of_ble_eq_true rfl⟩⟩ rfl (Nat.le_of_ble_eq_true rfl) dX9_strip_16 (fun _ u19 H locs hq hw hS => ?_)
    obtain ⟨r18, rfl, hq⟩ := hq
    refine W.eq (g2 := F0 m 19 ls [.int r18]) rfl ?_
    exact mt_reti hx hb hr hlocks hw hS (Nat.le_of_ble_eq_true rfl) (Nat.le_of_ble_eq_true rfl) dX9_strip_19 ⟨_, rfl, hq⟩
  · have hq := hq.2 hc
    refine lv_iload_n hx hb dX9_strip_7 rfl (lv_at hl 2 rfl) ?_
    refine mt_callS (index := 93) hx hb hml hown hts hK (ΩM.mono D d mp) hA hw hS hl.1 (tX9_isKind l D d mp x2 u17 hq) q_521 q_34 q_519 q_520 nmhX9_isKind ⟨⟨Nat.le_of_ble_eq_true rfl, Nat.le_of_ble_eq_true rfl⟩, ⟨Nat.le_of_ble_eq_true rfl, Nat.le_of_ble_eq_true rfl⟩⟩ rfl (Nat.le_of_ble_eq_true rfl) dX9_strip_8 (fun _ u21 H locs hq hw hS => ?_)
    obtain ⟨r20, rfl, hzr20, hq⟩ := hq
    refine W.eq (g2 := F0 m 11 ls [.int r20]) rfl ?_
    refine lv_if_ne (tgt := 20) hx hb dX9_strip_11 (by decide) (fun hc => ?_) (fun hc => ?_)
    · have hq := hq.1 hc
      refine lv_aload_n hx hb dX9_strip_20 rfl (lv_at hl 0 rfl) ?_
      refine va_get (D := D) (ci := 8) (v := .ref (mp 4)) (C := RX9) (T := TX9) (N := 15) hx hb hts inX9 hown hK.1 hw.1 0 rfl rfl 3 (by decide) (hts _ q_464) (fun _ h9 => h9) rfl dX9_strip_21 ?_
      refine lv_iconst (v := 5) hx hb dX9_strip_24 (by decide) ?_
      refine lv_iload_n hx hb dX9_strip_25 rfl (lv_at hl 1 rfl) ?_
      refine lv_imul hx hb dX9_strip_26 ?_
      refine lv_iload_n hx hb dX9_strip_27 rfl (lv_at hl 2 rfl) ?_
      refine lv_iadd hx hb dX9_strip_28 ?_
      refine va_iald hx hb hK.1 hw.1 4 8 rfl rfl hq.1 dX9_strip_29 ?_
      have hq := hq.2
      refine lv_topi (fun y22 ey22 => ?_)
      have hq := hq y22 ey22
      refine lv_istore_n (lv' := [(3, .int y22), (0, .ref (mp 0)), (1, .int x1), (2, .int x2)]) hx hb dX9_strip_30 rfl hl (by decide) rfl (fun ls hl => ?_)
      refine lv_iload_n hx hb dX9_strip_31 rfl (lv_at hl 0 rfl) ?_
      refine lv_if_ge (tgt := 42) hx hb dX9_strip_32 (by decide) (fun hc => ?_) (fun hc => ?_)
      · have hq := hq.1 hc
        refine lv_aload_n hx hb dX9_strip_42 rfl (lv_at hl 1 rfl) ?_
        refine lv_iload_n hx hb dX9_strip_43 rfl (lv_at hl 2 rfl) ?_
        refine lv_iload_n hx hb dX9_strip_44 rfl (lv_at hl 3 rfl) ?_
        refine lv_iconst (v := -1) hx hb dX9_strip_45 (by decide) ?_
        refine mt_callV (index := 103) hx hb hml hown hts hK (ΩM.mono D d mp) hA hw hS hl.1 (tX9_drumGets l D d mp x1 x2 (-1 : Int32) u21 hq) (ΩM.recv hK hw) q_533 q_34 q_530 q_532 q_19 nmhX9_drumGets ⟨⟨Nat.le_of_ble_eq_true rfl, Nat.le_of_ble_eq_true rfl⟩, ⟨Nat.le_of_ble_eq_true rfl, Nat.le_of_ble_eq_true rfl⟩⟩ rfl (Nat.le_of_ble_eq_true rfl) dX9_strip_46 (fun _ u24 H locs hq hw hS => ?_)
        obtain ⟨rfl, hq⟩ := hq
        refine W.eq (g2 := F0 m 49 ls []) rfl ?_
        refine lv_aload_n hx hb dX9_strip_49 rfl (lv_at hl 1 rfl) ?_
        refine lv_aload_n hx hb dX9_strip_50 rfl (lv_at hl 1 rfl) ?_
        refine va_get (D := D) (ci := 8) (v := .ref (mp 2)) (C := RX9) (T := TX9) (N := 15) hx hb hts inX9 hown hK.1 hw.1 0 rfl rfl 1 (by decide) (hts _ q_462) (fun _ h9 => h9) rfl dX9_strip_51 ?_
        refine lv_iload_n hx hb dX9_strip_54 rfl (lv_at hl 0 rfl) ?_
        refine va_iald hx hb hK.1 hw.1 2 8 rfl rfl hq.1 dX9_strip_55 ?_
        have hq := hq.2
        refine mt_callV (index := 96) hx hb hml hown hts hK (ΩM.mono D d mp) hA hw hS hl.1 (tX9_told l D d mp (mSize u24 y22.toNatClampNeg) u24 hq) (ΩM.recv hK hw) q_525 q_34 q_522 q_524 q_17 nmhX9_told ⟨⟨Nat.le_of_ble_eq_true rfl, Nat.le_of_ble_eq_true rfl⟩, ⟨Nat.le_of_ble_eq_true rfl, Nat.le_of_ble_eq_true rfl⟩⟩ rfl (Nat.le_of_ble_eq_true rfl) dX9_strip_56 (fun _ u26 H locs hq hw hS => ?_)
        obtain ⟨r25, rfl, hq⟩ := hq
        refine W.eq (g2 := F0 m 59 ls [.int r25]) rfl ?_
        exact mt_reti hx hb hr hlocks hw hS (Nat.le_of_ble_eq_true rfl) (Nat.le_of_ble_eq_true rfl) dX9_strip_59 ⟨_, rfl, hq⟩
      · have hq := hq.2 hc
        refine lv_aload_n hx hb dX9_strip_35 rfl (lv_at hl 1 rfl) ?_
        refine lv_bipush (v := -2) hx hb dX9_strip_36 (by decide) ?_
        refine mt_callV (index := 96) hx hb hml hown hts hK (ΩM.mono D d mp) hA hw hS hl.1 (tX9_told l D d mp (-2 : Int32) u21 hq) (ΩM.recv hK hw) q_525 q_34 q_522 q_524 q_17 nmhX9_told ⟨⟨Nat.le_of_ble_eq_true rfl, Nat.le_of_ble_eq_true rfl⟩, ⟨Nat.le_of_ble_eq_true rfl, Nat.le_of_ble_eq_true rfl⟩⟩ rfl (Nat.le_of_ble_eq_true rfl) dX9_strip_38 (fun _ u28 H locs hq hw hS => ?_)
        obtain ⟨r27, rfl, hq⟩ := hq
        refine W.eq (g2 := F0 m 41 ls [.int r27]) rfl ?_
        exact mt_reti hx hb hr hlocks hw hS (Nat.le_of_ble_eq_true rfl) (Nat.le_of_ble_eq_true rfl) dX9_strip_41 ⟨_, rfl, hq⟩
    · have hq := hq.2 hc
      refine lv_aload_n hx hb dX9_strip_14 rfl (lv_at hl 0 rfl) ?_
      refine lv_iconst (v := -1) hx hb dX9_strip_15 (by decide) ?_
      refine mt_callV (index := 96) hx hb hml hown hts hK (ΩM.mono D d mp) hA hw hS hl.1 (tX9_told l D d mp (-1 : Int32) u21 hq) (ΩM.recv hK hw) q_525 q_34 q_522 q_524 q_17 nmhX9_told ⟨⟨Nat.le_of_ble_eq_true rfl, Nat.le_of_ble_eq_true rfl⟩, ⟨Nat.le_of_ble_eq_true rfl, Nat.le_of_ble_eq_true rfl⟩⟩ rfl (Nat.le_of_ble_eq_true rfl) dX9_strip_16 (fun _ u30 H locs hq hw hS => ?_)
      obtain ⟨r29, rfl, hq⟩ := hq
      refine W.eq (g2 := F0 m 19 ls [.int r29]) rfl ?_
      exact mt_reti hx hb hr hlocks hw hS (Nat.le_of_ble_eq_true rfl) (Nat.le_of_ble_eq_true rfl) dX9_strip_19 ⟨_, rfl, hq⟩
abbrev rmX9_share : Room := { frames := 2, cells := 0, slots := 0, locals := 42 }
theorem nmhX9_share : NoMH yX9_share 3 := by decide +kernel
def wX9_share (x1 : Int32) (x2 : Int32) (x3 : Int32) (μ : MS) (Q : Int32 → MS → Prop) : Prop :=
    wX9_isDrum x1 μ (fun r20 u21 => (r20 = 0 → wX9_told (-1 : Int32) u21 (fun r22 u23 => Q r22 u23)) ∧ (¬ r20 = 0 → (wX9_isDrum x2 u21 (fun r24 u25 => (r24 = 0 → wX9_told (-1 : Int32) u25 (fun r26 u27 => Q r26 u27)) ∧ (¬ r24 = 0 → (wX9_isKind x3 u25 (fun r28 u29 => (¬ r28 = 0 → (vp_in (((5 : Int32) * x1) + x3) 40 ∧ (∀ y30 : Int32, y30 = (mDrums u29 (((5 : Int32) * x1) + x3).toNatClampNeg) → ((0 ≤ y30 → (wX9_drumGets x2 x3 y30 u29 (fun u32 => vp_in y30 202 ∧ wX9_told (mSize u32 y30.toNatClampNeg) u32 (fun r33 u34 => Q r33 u34)))) ∧ (¬ 0 ≤ y30 → wX9_told (-2 : Int32) u29 (fun r35 u36 => Q r35 u36)))))) ∧ (r28 = 0 → wX9_told (-1 : Int32) u29 (fun r37 u38 => Q r37 u38)))))))))
set_option maxHeartbeats 4000000 in
set_option maxRecDepth 100000 in
theorem tX9_share (l : Launch) (D : va_G) (d : AC) (mp : Nat → Nat) (x1 : Int32) (x2 : Int32) (x3 : Int32) (μ : MS) {Q : Int32 → MS → Prop} (hq : wX9_share x1 x2 x3 μ Q) : MT D d (ΩM D d mp) l yX9_share (WS yX9_share cX9_share 5 (some (.int))) rmX9_share [.ref (mp 0), .int x1, .int x2, .int x3] μ (qI Q) := by
  refine mt_of (ΩM.mono D d mp) (by decide +kernel) (Nat.le_of_ble_eq_true rfl) (fun p e s m below meth c A ls hx hb hr hml hown hts hlocks hnm hK hA hw hS hl => ?_)
  have hl : lv_has ls 5 [(0, .ref (mp 0)), (1, .int x1), (2, .int x2), (3, .int x3)] := hl
  have hown : s.vm.findClass RX9 = some m.cls := hown
  unfold wX9_share at hq
  refine lv_iload_n hx hb dX9_share_0 rfl (lv_at hl 1 rfl) ?_
  refine mt_callS (index := 90) hx hb hml hown hts hK (ΩM.mono D d mp) hA hw hS hl.1 (tX9_isDrum l D d mp x1 μ hq) q_515 q_34 q_513 q_514 nmhX9_isDrum ⟨⟨Nat.le_of_ble_eq_true rfl, Nat.le_of_ble_eq_true rfl⟩, ⟨Nat.le_of_ble_eq_true rfl, Nat.le_of_ble_eq_true rfl⟩⟩ rfl (Nat.le_of_ble_eq_true rfl) dX9_share_1 (fun _ u21 H locs hq hw hS => ?_)
  obtain ⟨r20, rfl, hzr20, hq⟩ := hq
  refine W.eq (g2 := F0 m 4 ls [.int r20]) rfl ?_
  refine lv_if_eq (tgt := 21) hx hb dX9_share_4 (by decide) (fun hc => ?_) (fun hc => ?_)
  · have hq := hq.1 hc
    refine lv_aload_n hx hb dX9_share_21 rfl (lv_at hl 0 rfl) ?_
    refine lv_iconst (v := -1) hx hb dX9_share_22 (by decide) ?_
    refine mt_callV (index := 96) hx hb hml hown hts hK (ΩM.mono D d mp) hA hw hS hl.1 (tX9_told l D d mp (-1 : Int32) u21 hq) (ΩM.recv hK hw) q_525 q_34 q_522 q_524 q_17 nmhX9_told ⟨⟨Nat.le_of_ble_eq_true rfl, Nat.le_of_ble_eq_true rfl⟩, ⟨Nat.le_of_ble_eq_true rfl, Nat.le_of_ble_eq_true rfl⟩⟩ rfl (Nat.le_of_ble_eq_true rfl) dX9_share_23 (fun _ u23 H locs hq hw hS => ?_)
    obtain ⟨r22, rfl, hq⟩ := hq
    refine W.eq (g2 := F0 m 26 ls [.int r22]) rfl ?_
    exact mt_reti hx hb hr hlocks hw hS (Nat.le_of_ble_eq_true rfl) (Nat.le_of_ble_eq_true rfl) dX9_share_26 ⟨_, rfl, hq⟩
  · have hq := hq.2 hc
    refine lv_iload_n hx hb dX9_share_7 rfl (lv_at hl 2 rfl) ?_
    refine mt_callS (index := 90) hx hb hml hown hts hK (ΩM.mono D d mp) hA hw hS hl.1 (tX9_isDrum l D d mp x2 u21 hq) q_515 q_34 q_513 q_514 nmhX9_isDrum ⟨⟨Nat.le_of_ble_eq_true rfl, Nat.le_of_ble_eq_true rfl⟩, ⟨Nat.le_of_ble_eq_true rfl, Nat.le_of_ble_eq_true rfl⟩⟩ rfl (Nat.le_of_ble_eq_true rfl) dX9_share_8 (fun _ u25 H locs hq hw hS => ?_)
    obtain ⟨r24, rfl, hzr24, hq⟩ := hq
    refine W.eq (g2 := F0 m 11 ls [.int r24]) rfl ?_
    refine lv_if_eq (tgt := 21) hx hb dX9_share_11 (by decide) (fun hc => ?_) (fun hc => ?_)
    · have hq := hq.1 hc
      refine lv_aload_n hx hb dX9_share_21 rfl (lv_at hl 0 rfl) ?_
      refine lv_iconst (v := -1) hx hb dX9_share_22 (by decide) ?_
      refine mt_callV (index := 96) hx hb hml hown hts hK (ΩM.mono D d mp) hA hw hS hl.1 (tX9_told l D d mp (-1 : Int32) u25 hq) (ΩM.recv hK hw) q_525 q_34 q_522 q_524 q_17 nmhX9_told ⟨⟨Nat.le_of_ble_eq_true rfl, Nat.le_of_ble_eq_true rfl⟩, ⟨Nat.le_of_ble_eq_true rfl, Nat.le_of_ble_eq_true rfl⟩⟩ rfl (Nat.le_of_ble_eq_true rfl) dX9_share_23 (fun _ u27 H locs hq hw hS => ?_)
      obtain ⟨r26, rfl, hq⟩ := hq
      refine W.eq (g2 := F0 m 26 ls [.int r26]) rfl ?_
      exact mt_reti hx hb hr hlocks hw hS (Nat.le_of_ble_eq_true rfl) (Nat.le_of_ble_eq_true rfl) dX9_share_26 ⟨_, rfl, hq⟩
    · have hq := hq.2 hc
      refine lv_iload_n hx hb dX9_share_14 rfl (lv_at hl 3 rfl) ?_
      refine mt_callS (index := 93) hx hb hml hown hts hK (ΩM.mono D d mp) hA hw hS hl.1 (tX9_isKind l D d mp x3 u25 hq) q_521 q_34 q_519 q_520 nmhX9_isKind ⟨⟨Nat.le_of_ble_eq_true rfl, Nat.le_of_ble_eq_true rfl⟩, ⟨Nat.le_of_ble_eq_true rfl, Nat.le_of_ble_eq_true rfl⟩⟩ rfl (Nat.le_of_ble_eq_true rfl) dX9_share_15 (fun _ u29 H locs hq hw hS => ?_)
      obtain ⟨r28, rfl, hzr28, hq⟩ := hq
      refine W.eq (g2 := F0 m 18 ls [.int r28]) rfl ?_
      refine lv_if_ne (tgt := 27) hx hb dX9_share_18 (by decide) (fun hc => ?_) (fun hc => ?_)
      · have hq := hq.1 hc
        refine lv_aload_n hx hb dX9_share_27 rfl (lv_at hl 0 rfl) ?_
        refine va_get (D := D) (ci := 8) (v := .ref (mp 4)) (C := RX9) (T := TX9) (N := 15) hx hb hts inX9 hown hK.1 hw.1 0 rfl rfl 3 (by decide) (hts _ q_464) (fun _ h9 => h9) rfl dX9_share_28 ?_
        refine lv_iconst (v := 5) hx hb dX9_share_31 (by decide) ?_
        refine lv_iload_n hx hb dX9_share_32 rfl (lv_at hl 1 rfl) ?_
        refine lv_imul hx hb dX9_share_33 ?_
        refine lv_iload_n hx hb dX9_share_34 rfl (lv_at hl 3 rfl) ?_
        refine lv_iadd hx hb dX9_share_35 ?_
        refine va_iald hx hb hK.1 hw.1 4 8 rfl rfl hq.1 dX9_share_36 ?_
        have hq := hq.2
        refine lv_topi (fun y30 ey30 => ?_)
        have hq := hq y30 ey30
        refine lv_istore (lv' := [(4, .int y30), (0, .ref (mp 0)), (1, .int x1), (2, .int x2), (3, .int x3)]) hx hb dX9_share_37 hl (by decide) rfl (fun ls hl => ?_)
        refine lv_iload hx hb dX9_share_39 (lv_at hl 0 rfl) ?_
        refine lv_if_ge (tgt := 51) hx hb dX9_share_41 (by decide) (fun hc => ?_) (fun hc => ?_)
        · have hq := hq.1 hc
          refine lv_aload_n hx hb dX9_share_51 rfl (lv_at hl 1 rfl) ?_
          refine lv_iload_n hx hb dX9_share_52 rfl (lv_at hl 3 rfl) ?_
          refine lv_iload_n hx hb dX9_share_53 rfl (lv_at hl 4 rfl) ?_
          refine lv_iload hx hb dX9_share_54 (lv_at hl 0 rfl) ?_
          refine mt_callV (index := 103) hx hb hml hown hts hK (ΩM.mono D d mp) hA hw hS hl.1 (tX9_drumGets l D d mp x2 x3 y30 u29 hq) (ΩM.recv hK hw) q_533 q_34 q_530 q_532 q_19 nmhX9_drumGets ⟨⟨Nat.le_of_ble_eq_true rfl, Nat.le_of_ble_eq_true rfl⟩, ⟨Nat.le_of_ble_eq_true rfl, Nat.le_of_ble_eq_true rfl⟩⟩ rfl (Nat.le_of_ble_eq_true rfl) dX9_share_56 (fun _ u32 H locs hq hw hS => ?_)
          obtain ⟨rfl, hq⟩ := hq
          refine W.eq (g2 := F0 m 59 ls []) rfl ?_
          refine lv_aload_n hx hb dX9_share_59 rfl (lv_at hl 1 rfl) ?_
          refine lv_aload_n hx hb dX9_share_60 rfl (lv_at hl 1 rfl) ?_
          refine va_get (D := D) (ci := 8) (v := .ref (mp 2)) (C := RX9) (T := TX9) (N := 15) hx hb hts inX9 hown hK.1 hw.1 0 rfl rfl 1 (by decide) (hts _ q_462) (fun _ h9 => h9) rfl dX9_share_61 ?_
          refine lv_iload hx hb dX9_share_64 (lv_at hl 0 rfl) ?_
          refine va_iald hx hb hK.1 hw.1 2 8 rfl rfl hq.1 dX9_share_66 ?_
          have hq := hq.2
          refine mt_callV (index := 96) hx hb hml hown hts hK (ΩM.mono D d mp) hA hw hS hl.1 (tX9_told l D d mp (mSize u32 y30.toNatClampNeg) u32 hq) (ΩM.recv hK hw) q_525 q_34 q_522 q_524 q_17 nmhX9_told ⟨⟨Nat.le_of_ble_eq_true rfl, Nat.le_of_ble_eq_true rfl⟩, ⟨Nat.le_of_ble_eq_true rfl, Nat.le_of_ble_eq_true rfl⟩⟩ rfl (Nat.le_of_ble_eq_true rfl) dX9_share_67 (fun _ u34 H locs hq hw hS => ?_)
          obtain ⟨r33, rfl, hq⟩ := hq
          refine W.eq (g2 := F0 m 70 ls [.int r33]) rfl ?_
          exact mt_reti hx hb hr hlocks hw hS (Nat.le_of_ble_eq_true rfl) (Nat.le_of_ble_eq_true rfl) dX9_share_70 ⟨_, rfl, hq⟩
        · have hq := hq.2 hc
          refine lv_aload_n hx hb dX9_share_44 rfl (lv_at hl 1 rfl) ?_
          refine lv_bipush (v := -2) hx hb dX9_share_45 (by decide) ?_
          refine mt_callV (index := 96) hx hb hml hown hts hK (ΩM.mono D d mp) hA hw hS hl.1 (tX9_told l D d mp (-2 : Int32) u29 hq) (ΩM.recv hK hw) q_525 q_34 q_522 q_524 q_17 nmhX9_told ⟨⟨Nat.le_of_ble_eq_true rfl, Nat.le_of_ble_eq_true rfl⟩, ⟨Nat.le_of_ble_eq_true rfl, Nat.le_of_ble_eq_true rfl⟩⟩ rfl (Nat.le_of_ble_eq_true rfl) dX9_share_47 (fun _ u36 H locs hq hw hS => ?_)
          obtain ⟨r35, rfl, hq⟩ := hq
          refine W.eq (g2 := F0 m 50 ls [.int r35]) rfl ?_
          exact mt_reti hx hb hr hlocks hw hS (Nat.le_of_ble_eq_true rfl) (Nat.le_of_ble_eq_true rfl) dX9_share_50 ⟨_, rfl, hq⟩
      · have hq := hq.2 hc
        refine lv_aload_n hx hb dX9_share_21 rfl (lv_at hl 0 rfl) ?_
        refine lv_iconst (v := -1) hx hb dX9_share_22 (by decide) ?_
        refine mt_callV (index := 96) hx hb hml hown hts hK (ΩM.mono D d mp) hA hw hS hl.1 (tX9_told l D d mp (-1 : Int32) u29 hq) (ΩM.recv hK hw) q_525 q_34 q_522 q_524 q_17 nmhX9_told ⟨⟨Nat.le_of_ble_eq_true rfl, Nat.le_of_ble_eq_true rfl⟩, ⟨Nat.le_of_ble_eq_true rfl, Nat.le_of_ble_eq_true rfl⟩⟩ rfl (Nat.le_of_ble_eq_true rfl) dX9_share_23 (fun _ u38 H locs hq hw hS => ?_)
        obtain ⟨r37, rfl, hq⟩ := hq
        refine W.eq (g2 := F0 m 26 ls [.int r37]) rfl ?_
        exact mt_reti hx hb hr hlocks hw hS (Nat.le_of_ble_eq_true rfl) (Nat.le_of_ble_eq_true rfl) dX9_share_26 ⟨_, rfl, hq⟩
abbrev rmX9_places : Room := { frames := 2, cells := 0, slots := 0, locals := 42 }
theorem nmhX9_places : NoMH yX9_places 2 := by decide +kernel
def wX9_places (x1 : Int32) (x2 : Int32) (μ : MS) (Q : Int32 → MS → Prop) : Prop :=
    wX9_isDrum x1 μ (fun r14 u15 => (r14 = 0 → wX9_told (-1 : Int32) u15 (fun r16 u17 => Q r16 u17)) ∧ (¬ r14 = 0 → (wX9_isKind x2 u15 (fun r18 u19 => (¬ r18 = 0 → (vp_in (((5 : Int32) * x1) + x2) 40 ∧ (∀ y20 : Int32, y20 = (mDrums u19 (((5 : Int32) * x1) + x2).toNatClampNeg) → ((0 ≤ y20 → (vp_in y20 202 ∧ wX9_told (mSize u19 y20.toNatClampNeg) u19 (fun r21 u22 => Q r21 u22))) ∧ (¬ 0 ≤ y20 → wX9_told (-2 : Int32) u19 (fun r23 u24 => Q r23 u24)))))) ∧ (r18 = 0 → wX9_told (-1 : Int32) u19 (fun r25 u26 => Q r25 u26))))))
set_option maxHeartbeats 4000000 in
set_option maxRecDepth 100000 in
theorem tX9_places (l : Launch) (D : va_G) (d : AC) (mp : Nat → Nat) (x1 : Int32) (x2 : Int32) (μ : MS) {Q : Int32 → MS → Prop} (hq : wX9_places x1 x2 μ Q) : MT D d (ΩM D d mp) l yX9_places (WS yX9_places cX9_places 4 (some (.int))) rmX9_places [.ref (mp 0), .int x1, .int x2] μ (qI Q) := by
  refine mt_of (ΩM.mono D d mp) (by decide +kernel) (Nat.le_of_ble_eq_true rfl) (fun p e s m below meth c A ls hx hb hr hml hown hts hlocks hnm hK hA hw hS hl => ?_)
  have hl : lv_has ls 4 [(0, .ref (mp 0)), (1, .int x1), (2, .int x2)] := hl
  have hown : s.vm.findClass RX9 = some m.cls := hown
  unfold wX9_places at hq
  refine lv_iload_n hx hb dX9_places_0 rfl (lv_at hl 1 rfl) ?_
  refine mt_callS (index := 90) hx hb hml hown hts hK (ΩM.mono D d mp) hA hw hS hl.1 (tX9_isDrum l D d mp x1 μ hq) q_515 q_34 q_513 q_514 nmhX9_isDrum ⟨⟨Nat.le_of_ble_eq_true rfl, Nat.le_of_ble_eq_true rfl⟩, ⟨Nat.le_of_ble_eq_true rfl, Nat.le_of_ble_eq_true rfl⟩⟩ rfl (Nat.le_of_ble_eq_true rfl) dX9_places_1 (fun _ u15 H locs hq hw hS => ?_)
  obtain ⟨r14, rfl, hzr14, hq⟩ := hq
  refine W.eq (g2 := F0 m 4 ls [.int r14]) rfl ?_
  refine lv_if_eq (tgt := 14) hx hb dX9_places_4 (by decide) (fun hc => ?_) (fun hc => ?_)
  · have hq := hq.1 hc
    refine lv_aload_n hx hb dX9_places_14 rfl (lv_at hl 0 rfl) ?_
    refine lv_iconst (v := -1) hx hb dX9_places_15 (by decide) ?_
    refine mt_callV (index := 96) hx hb hml hown hts hK (ΩM.mono D d mp) hA hw hS hl.1 (tX9_told l D d mp (-1 : Int32) u15 hq) (ΩM.recv hK hw) q_525 q_34 q_522 q_524 q_17 nmhX9_told ⟨⟨Nat.le_of_ble_eq_true rfl, Nat.le_of_ble_eq_true rfl⟩, ⟨Nat.le_of_ble_eq_true rfl, Nat.le_of_ble_eq_true rfl⟩⟩ rfl (Nat.le_of_ble_eq_true rfl) dX9_places_16 (fun _ u17 H locs hq hw hS => ?_)
    obtain ⟨r16, rfl, hq⟩ := hq
    refine W.eq (g2 := F0 m 19 ls [.int r16]) rfl ?_
    exact mt_reti hx hb hr hlocks hw hS (Nat.le_of_ble_eq_true rfl) (Nat.le_of_ble_eq_true rfl) dX9_places_19 ⟨_, rfl, hq⟩
  · have hq := hq.2 hc
    refine lv_iload_n hx hb dX9_places_7 rfl (lv_at hl 2 rfl) ?_
    refine mt_callS (index := 93) hx hb hml hown hts hK (ΩM.mono D d mp) hA hw hS hl.1 (tX9_isKind l D d mp x2 u15 hq) q_521 q_34 q_519 q_520 nmhX9_isKind ⟨⟨Nat.le_of_ble_eq_true rfl, Nat.le_of_ble_eq_true rfl⟩, ⟨Nat.le_of_ble_eq_true rfl, Nat.le_of_ble_eq_true rfl⟩⟩ rfl (Nat.le_of_ble_eq_true rfl) dX9_places_8 (fun _ u19 H locs hq hw hS => ?_)
    obtain ⟨r18, rfl, hzr18, hq⟩ := hq
    refine W.eq (g2 := F0 m 11 ls [.int r18]) rfl ?_
    refine lv_if_ne (tgt := 20) hx hb dX9_places_11 (by decide) (fun hc => ?_) (fun hc => ?_)
    · have hq := hq.1 hc
      refine lv_aload_n hx hb dX9_places_20 rfl (lv_at hl 0 rfl) ?_
      refine va_get (D := D) (ci := 8) (v := .ref (mp 4)) (C := RX9) (T := TX9) (N := 15) hx hb hts inX9 hown hK.1 hw.1 0 rfl rfl 3 (by decide) (hts _ q_464) (fun _ h9 => h9) rfl dX9_places_21 ?_
      refine lv_iconst (v := 5) hx hb dX9_places_24 (by decide) ?_
      refine lv_iload_n hx hb dX9_places_25 rfl (lv_at hl 1 rfl) ?_
      refine lv_imul hx hb dX9_places_26 ?_
      refine lv_iload_n hx hb dX9_places_27 rfl (lv_at hl 2 rfl) ?_
      refine lv_iadd hx hb dX9_places_28 ?_
      refine va_iald hx hb hK.1 hw.1 4 8 rfl rfl hq.1 dX9_places_29 ?_
      have hq := hq.2
      refine lv_topi (fun y20 ey20 => ?_)
      have hq := hq y20 ey20
      refine lv_istore_n (lv' := [(3, .int y20), (0, .ref (mp 0)), (1, .int x1), (2, .int x2)]) hx hb dX9_places_30 rfl hl (by decide) rfl (fun ls hl => ?_)
      refine lv_aload_n hx hb dX9_places_31 rfl (lv_at hl 1 rfl) ?_
      refine lv_iload_n hx hb dX9_places_32 rfl (lv_at hl 0 rfl) ?_
      refine lv_if_ge (tgt := 41) hx hb dX9_places_33 (by decide) (fun hc => ?_) (fun hc => ?_)
      · have hq := hq.1 hc
        refine lv_aload_n hx hb dX9_places_41 rfl (lv_at hl 1 rfl) ?_
        refine va_get (D := D) (ci := 8) (v := .ref (mp 2)) (C := RX9) (T := TX9) (N := 15) hx hb hts inX9 hown hK.1 hw.1 0 rfl rfl 1 (by decide) (hts _ q_462) (fun _ h9 => h9) rfl dX9_places_42 ?_
        refine lv_iload_n hx hb dX9_places_45 rfl (lv_at hl 0 rfl) ?_
        refine va_iald hx hb hK.1 hw.1 2 8 rfl rfl hq.1 dX9_places_46 ?_
        have hq := hq.2
        refine mt_callV (index := 96) hx hb hml hown hts hK (ΩM.mono D d mp) hA hw hS hl.1 (tX9_told l D d mp (mSize u19 y20.toNatClampNeg) u19 hq) (ΩM.recv hK hw) q_525 q_34 q_522 q_524 q_17 nmhX9_told ⟨⟨Nat.le_of_ble_eq_true rfl, Nat.le_of_ble_eq_true rfl⟩, ⟨Nat.le_of_ble_eq_true rfl, Nat.le_of_ble_eq_true rfl⟩⟩ rfl (Nat.le_of_ble_eq_true rfl) dX9_places_47 (fun _ u22 H locs hq hw hS => ?_)
        obtain ⟨r21, rfl, hq⟩ := hq
        refine W.eq (g2 := F0 m 50 ls [.int r21]) rfl ?_
        exact mt_reti hx hb hr hlocks hw hS (Nat.le_of_ble_eq_true rfl) (Nat.le_of_ble_eq_true rfl) dX9_places_50 ⟨_, rfl, hq⟩
      · have hq := hq.2 hc
        refine lv_bipush (v := -2) hx hb dX9_places_36 (by decide) ?_
        refine lv_goto (tgt := 47) hx hb dX9_places_38 (by decide) ?_
        refine mt_callV (index := 96) hx hb hml hown hts hK (ΩM.mono D d mp) hA hw hS hl.1 (tX9_told l D d mp (-2 : Int32) u19 hq) (ΩM.recv hK hw) q_525 q_34 q_522 q_524 q_17 nmhX9_told ⟨⟨Nat.le_of_ble_eq_true rfl, Nat.le_of_ble_eq_true rfl⟩, ⟨Nat.le_of_ble_eq_true rfl, Nat.le_of_ble_eq_true rfl⟩⟩ rfl (Nat.le_of_ble_eq_true rfl) dX9_places_47 (fun _ u24 H locs hq hw hS => ?_)
        obtain ⟨r23, rfl, hq⟩ := hq
        refine W.eq (g2 := F0 m 50 ls [.int r23]) rfl ?_
        exact mt_reti hx hb hr hlocks hw hS (Nat.le_of_ble_eq_true rfl) (Nat.le_of_ble_eq_true rfl) dX9_places_50 ⟨_, rfl, hq⟩
    · have hq := hq.2 hc
      refine lv_aload_n hx hb dX9_places_14 rfl (lv_at hl 0 rfl) ?_
      refine lv_iconst (v := -1) hx hb dX9_places_15 (by decide) ?_
      refine mt_callV (index := 96) hx hb hml hown hts hK (ΩM.mono D d mp) hA hw hS hl.1 (tX9_told l D d mp (-1 : Int32) u19 hq) (ΩM.recv hK hw) q_525 q_34 q_522 q_524 q_17 nmhX9_told ⟨⟨Nat.le_of_ble_eq_true rfl, Nat.le_of_ble_eq_true rfl⟩, ⟨Nat.le_of_ble_eq_true rfl, Nat.le_of_ble_eq_true rfl⟩⟩ rfl (Nat.le_of_ble_eq_true rfl) dX9_places_16 (fun _ u26 H locs hq hw hS => ?_)
      obtain ⟨r25, rfl, hq⟩ := hq
      refine W.eq (g2 := F0 m 19 ls [.int r25]) rfl ?_
      exact mt_reti hx hb hr hlocks hw hS (Nat.le_of_ble_eq_true rfl) (Nat.le_of_ble_eq_true rfl) dX9_places_19 ⟨_, rfl, hq⟩
abbrev rmX9_read : Room := { frames := 2, cells := 0, slots := 0, locals := 45 }
theorem nmhX9_read : NoMH yX9_read 3 := by decide +kernel
def wX9_read (x1 : Int32) (x2 : Int32) (x3 : Int32) (μ : MS) (Q : Int32 → MS → Prop) : Prop :=
    wX9_isDrum x1 μ (fun r7 u8 => (r7 = 0 → (Q (0 : Int32) (nState u8 (-1 : Int32)))) ∧ (¬ r7 = 0 → (wX9_isKind x2 u8 (fun r9 u10 => (¬ r9 = 0 → (vp_in (((5 : Int32) * x1) + x2) 40 ∧ (wX9_reads (mDrums u10 (((5 : Int32) * x1) + x2).toNatClampNeg) x3 u10 (fun r11 u12 => Q r11 u12)))) ∧ (r9 = 0 → (Q (0 : Int32) (nState u10 (-1 : Int32))))))))
set_option maxHeartbeats 4000000 in
set_option maxRecDepth 100000 in
theorem tX9_read (l : Launch) (D : va_G) (d : AC) (mp : Nat → Nat) (x1 : Int32) (x2 : Int32) (x3 : Int32) (μ : MS) {Q : Int32 → MS → Prop} (hq : wX9_read x1 x2 x3 μ Q) : MT D d (ΩM D d mp) l yX9_read (WS yX9_read cX9_read 4 (some (.int))) rmX9_read [.ref (mp 0), .int x1, .int x2, .int x3] μ (qI Q) := by
  refine mt_of (ΩM.mono D d mp) (by decide +kernel) (Nat.le_of_ble_eq_true rfl) (fun p e s m below meth c A ls hx hb hr hml hown hts hlocks hnm hK hA hw hS hl => ?_)
  have hl : lv_has ls 4 [(0, .ref (mp 0)), (1, .int x1), (2, .int x2), (3, .int x3)] := hl
  have hown : s.vm.findClass RX9 = some m.cls := hown
  unfold wX9_read at hq
  refine lv_iload_n hx hb dX9_read_0 rfl (lv_at hl 1 rfl) ?_
  refine mt_callS (index := 90) hx hb hml hown hts hK (ΩM.mono D d mp) hA hw hS hl.1 (tX9_isDrum l D d mp x1 μ hq) q_515 q_34 q_513 q_514 nmhX9_isDrum ⟨⟨Nat.le_of_ble_eq_true rfl, Nat.le_of_ble_eq_true rfl⟩, ⟨Nat.le_of_ble_eq_true rfl, Nat.le_of_ble_eq_true rfl⟩⟩ rfl (Nat.le_of_ble_eq_true rfl) dX9_read_1 (fun _ u8 H locs hq hw hS => ?_)
  obtain ⟨r7, rfl, hzr7, hq⟩ := hq
  refine W.eq (g2 := F0 m 4 ls [.int r7]) rfl ?_
  refine lv_if_eq (tgt := 14) hx hb dX9_read_4 (by decide) (fun hc => ?_) (fun hc => ?_)
  · have hq := hq.1 hc
    refine lv_aload_n hx hb dX9_read_14 rfl (lv_at hl 0 rfl) ?_
    refine lv_iconst (v := -1) hx hb dX9_read_15 (by decide) ?_
    refine va_put (D := D) (ci := 8) (v := .int (-1 : Int32)) (ty := .int) (C := RX9) (T := TX9) (N := 15) hx hb hts inX9 tyX9 tyX9_ok nmX9 hown hK.1 hw.1 hw.2 hS 0 rfl rfl 14 (by decide) (hts _ q_475) (fun _ h9 => h9) rfl (by decide +kernel) rfl rfl (Nat.le_of_ble_eq_true rfl) dX9_read_16 (fun H locs hP hD hS => ?_)
    have hw : ΩM D d mp A (nState u8 (-1 : Int32)) H := ⟨hP, hD⟩
    refine lv_iconst (v := 0) hx hb dX9_read_19 (by decide) ?_
    exact mt_reti hx hb hr hlocks hw hS (Nat.le_of_ble_eq_true rfl) (Nat.le_of_ble_eq_true rfl) dX9_read_20 ⟨_, rfl, hq⟩
  · have hq := hq.2 hc
    refine lv_iload_n hx hb dX9_read_7 rfl (lv_at hl 2 rfl) ?_
    refine mt_callS (index := 93) hx hb hml hown hts hK (ΩM.mono D d mp) hA hw hS hl.1 (tX9_isKind l D d mp x2 u8 hq) q_521 q_34 q_519 q_520 nmhX9_isKind ⟨⟨Nat.le_of_ble_eq_true rfl, Nat.le_of_ble_eq_true rfl⟩, ⟨Nat.le_of_ble_eq_true rfl, Nat.le_of_ble_eq_true rfl⟩⟩ rfl (Nat.le_of_ble_eq_true rfl) dX9_read_8 (fun _ u10 H locs hq hw hS => ?_)
    obtain ⟨r9, rfl, hzr9, hq⟩ := hq
    refine W.eq (g2 := F0 m 11 ls [.int r9]) rfl ?_
    refine lv_if_ne (tgt := 21) hx hb dX9_read_11 (by decide) (fun hc => ?_) (fun hc => ?_)
    · have hq := hq.1 hc
      refine lv_aload_n hx hb dX9_read_21 rfl (lv_at hl 0 rfl) ?_
      refine lv_aload_n hx hb dX9_read_22 rfl (lv_at hl 0 rfl) ?_
      refine va_get (D := D) (ci := 8) (v := .ref (mp 4)) (C := RX9) (T := TX9) (N := 15) hx hb hts inX9 hown hK.1 hw.1 0 rfl rfl 3 (by decide) (hts _ q_464) (fun _ h9 => h9) rfl dX9_read_23 ?_
      refine lv_iconst (v := 5) hx hb dX9_read_26 (by decide) ?_
      refine lv_iload_n hx hb dX9_read_27 rfl (lv_at hl 1 rfl) ?_
      refine lv_imul hx hb dX9_read_28 ?_
      refine lv_iload_n hx hb dX9_read_29 rfl (lv_at hl 2 rfl) ?_
      refine lv_iadd hx hb dX9_read_30 ?_
      refine va_iald hx hb hK.1 hw.1 4 8 rfl rfl hq.1 dX9_read_31 ?_
      have hq := hq.2
      refine lv_iload_n hx hb dX9_read_32 rfl (lv_at hl 3 rfl) ?_
      refine mt_callV (index := 107) hx hb hml hown hts hK (ΩM.mono D d mp) hA hw hS hl.1 (tX9_reads l D d mp (mDrums u10 (((5 : Int32) * x1) + x2).toNatClampNeg) x3 u10 hq) (ΩM.recv hK hw) q_553 q_34 q_550 q_552 q_20 nmhX9_reads ⟨⟨Nat.le_of_ble_eq_true rfl, Nat.le_of_ble_eq_true rfl⟩, ⟨Nat.le_of_ble_eq_true rfl, Nat.le_of_ble_eq_true rfl⟩⟩ rfl (Nat.le_of_ble_eq_true rfl) dX9_read_33 (fun _ u12 H locs hq hw hS => ?_)
      obtain ⟨r11, rfl, hq⟩ := hq
      refine W.eq (g2 := F0 m 36 ls [.int r11]) rfl ?_
      exact mt_reti hx hb hr hlocks hw hS (Nat.le_of_ble_eq_true rfl) (Nat.le_of_ble_eq_true rfl) dX9_read_36 ⟨_, rfl, hq⟩
    · have hq := hq.2 hc
      refine lv_aload_n hx hb dX9_read_14 rfl (lv_at hl 0 rfl) ?_
      refine lv_iconst (v := -1) hx hb dX9_read_15 (by decide) ?_
      refine va_put (D := D) (ci := 8) (v := .int (-1 : Int32)) (ty := .int) (C := RX9) (T := TX9) (N := 15) hx hb hts inX9 tyX9 tyX9_ok nmX9 hown hK.1 hw.1 hw.2 hS 0 rfl rfl 14 (by decide) (hts _ q_475) (fun _ h9 => h9) rfl (by decide +kernel) rfl rfl (Nat.le_of_ble_eq_true rfl) dX9_read_16 (fun H locs hP hD hS => ?_)
      have hw : ΩM D d mp A (nState u10 (-1 : Int32)) H := ⟨hP, hD⟩
      refine lv_iconst (v := 0) hx hb dX9_read_19 (by decide) ?_
      exact mt_reti hx hb hr hlocks hw hS (Nat.le_of_ble_eq_true rfl) (Nat.le_of_ble_eq_true rfl) dX9_read_20 ⟨_, rfl, hq⟩
abbrev rmX9_write : Room := { frames := 3, cells := 0, slots := 0, locals := 69 }
theorem nmhX9_write : NoMH yX9_write 4 := by decide +kernel
def wX9_write (x1 : Int32) (x2 : Int32) (x3 : Int32) (x4 : Int32) (μ : MS) (Q : Int32 → MS → Prop) : Prop :=
    wX9_isDrum x1 μ (fun r13 u14 => (r13 = 0 → wX9_told (-1 : Int32) u14 (fun r15 u16 => Q r15 u16)) ∧ (¬ r13 = 0 → (wX9_isKind x2 u14 (fun r17 u18 => (¬ r17 = 0 → (vp_in (((5 : Int32) * x1) + x2) 40 ∧ (wX9_writes x2 (mDrums u18 (((5 : Int32) * x1) + x2).toNatClampNeg) x3 x4 u18 (fun r19 u20 => wX9_told r19 u20 (fun r21 u22 => Q r21 u22))))) ∧ (r17 = 0 → wX9_told (-1 : Int32) u18 (fun r23 u24 => Q r23 u24))))))
set_option maxHeartbeats 4000000 in
set_option maxRecDepth 100000 in
theorem tX9_write (l : Launch) (D : va_G) (d : AC) (mp : Nat → Nat) (x1 : Int32) (x2 : Int32) (x3 : Int32) (x4 : Int32) (μ : MS) {Q : Int32 → MS → Prop} (hq : wX9_write x1 x2 x3 x4 μ Q) : MT D d (ΩM D d mp) l yX9_write (WS yX9_write cX9_write 5 (some (.int))) rmX9_write [.ref (mp 0), .int x1, .int x2, .int x3, .int x4] μ (qI Q) := by
  refine mt_of (ΩM.mono D d mp) (by decide +kernel) (Nat.le_of_ble_eq_true rfl) (fun p e s m below meth c A ls hx hb hr hml hown hts hlocks hnm hK hA hw hS hl => ?_)
  have hl : lv_has ls 5 [(0, .ref (mp 0)), (1, .int x1), (2, .int x2), (3, .int x3), (4, .int x4)] := hl
  have hown : s.vm.findClass RX9 = some m.cls := hown
  unfold wX9_write at hq
  refine lv_iload_n hx hb dX9_write_0 rfl (lv_at hl 1 rfl) ?_
  refine mt_callS (index := 90) hx hb hml hown hts hK (ΩM.mono D d mp) hA hw hS hl.1 (tX9_isDrum l D d mp x1 μ hq) q_515 q_34 q_513 q_514 nmhX9_isDrum ⟨⟨Nat.le_of_ble_eq_true rfl, Nat.le_of_ble_eq_true rfl⟩, ⟨Nat.le_of_ble_eq_true rfl, Nat.le_of_ble_eq_true rfl⟩⟩ rfl (Nat.le_of_ble_eq_true rfl) dX9_write_1 (fun _ u14 H locs hq hw hS => ?_)
  obtain ⟨r13, rfl, hzr13, hq⟩ := hq
  refine W.eq (g2 := F0 m 4 ls [.int r13]) rfl ?_
  refine lv_if_eq (tgt := 14) hx hb dX9_write_4 (by decide) (fun hc => ?_) (fun hc => ?_)
  · have hq := hq.1 hc
    refine lv_aload_n hx hb dX9_write_14 rfl (lv_at hl 0 rfl) ?_
    refine lv_iconst (v := -1) hx hb dX9_write_15 (by decide) ?_
    refine mt_callV (index := 96) hx hb hml hown hts hK (ΩM.mono D d mp) hA hw hS hl.1 (tX9_told l D d mp (-1 : Int32) u14 hq) (ΩM.recv hK hw) q_525 q_34 q_522 q_524 q_17 nmhX9_told ⟨⟨Nat.le_of_ble_eq_true rfl, Nat.le_of_ble_eq_true rfl⟩, ⟨Nat.le_of_ble_eq_true rfl, Nat.le_of_ble_eq_true rfl⟩⟩ rfl (Nat.le_of_ble_eq_true rfl) dX9_write_16 (fun _ u16 H locs hq hw hS => ?_)
    obtain ⟨r15, rfl, hq⟩ := hq
    refine W.eq (g2 := F0 m 19 ls [.int r15]) rfl ?_
    exact mt_reti hx hb hr hlocks hw hS (Nat.le_of_ble_eq_true rfl) (Nat.le_of_ble_eq_true rfl) dX9_write_19 ⟨_, rfl, hq⟩
  · have hq := hq.2 hc
    refine lv_iload_n hx hb dX9_write_7 rfl (lv_at hl 2 rfl) ?_
    refine mt_callS (index := 93) hx hb hml hown hts hK (ΩM.mono D d mp) hA hw hS hl.1 (tX9_isKind l D d mp x2 u14 hq) q_521 q_34 q_519 q_520 nmhX9_isKind ⟨⟨Nat.le_of_ble_eq_true rfl, Nat.le_of_ble_eq_true rfl⟩, ⟨Nat.le_of_ble_eq_true rfl, Nat.le_of_ble_eq_true rfl⟩⟩ rfl (Nat.le_of_ble_eq_true rfl) dX9_write_8 (fun _ u18 H locs hq hw hS => ?_)
    obtain ⟨r17, rfl, hzr17, hq⟩ := hq
    refine W.eq (g2 := F0 m 11 ls [.int r17]) rfl ?_
    refine lv_if_ne (tgt := 20) hx hb dX9_write_11 (by decide) (fun hc => ?_) (fun hc => ?_)
    · have hq := hq.1 hc
      refine lv_aload_n hx hb dX9_write_20 rfl (lv_at hl 0 rfl) ?_
      refine lv_aload_n hx hb dX9_write_21 rfl (lv_at hl 0 rfl) ?_
      refine lv_iload_n hx hb dX9_write_22 rfl (lv_at hl 2 rfl) ?_
      refine lv_aload_n hx hb dX9_write_23 rfl (lv_at hl 0 rfl) ?_
      refine va_get (D := D) (ci := 8) (v := .ref (mp 4)) (C := RX9) (T := TX9) (N := 15) hx hb hts inX9 hown hK.1 hw.1 0 rfl rfl 3 (by decide) (hts _ q_464) (fun _ h9 => h9) rfl dX9_write_24 ?_
      refine lv_iconst (v := 5) hx hb dX9_write_27 (by decide) ?_
      refine lv_iload_n hx hb dX9_write_28 rfl (lv_at hl 1 rfl) ?_
      refine lv_imul hx hb dX9_write_29 ?_
      refine lv_iload_n hx hb dX9_write_30 rfl (lv_at hl 2 rfl) ?_
      refine lv_iadd hx hb dX9_write_31 ?_
      refine va_iald hx hb hK.1 hw.1 4 8 rfl rfl hq.1 dX9_write_32 ?_
      have hq := hq.2
      refine lv_iload_n hx hb dX9_write_33 rfl (lv_at hl 3 rfl) ?_
      refine lv_iload hx hb dX9_write_34 (lv_at hl 4 rfl) ?_
      refine mt_callV (index := 110) hx hb hml hown hts hK (ΩM.mono D d mp) hA hw hS hl.1 (tX9_writes l D d mp x2 (mDrums u18 (((5 : Int32) * x1) + x2).toNatClampNeg) x3 x4 u18 hq) (ΩM.recv hK hw) q_565 q_34 q_562 q_564 q_22 nmhX9_writes ⟨⟨Nat.le_of_ble_eq_true rfl, Nat.le_of_ble_eq_true rfl⟩, ⟨Nat.le_of_ble_eq_true rfl, Nat.le_of_ble_eq_true rfl⟩⟩ rfl (Nat.le_of_ble_eq_true rfl) dX9_write_36 (fun _ u20 H locs hq hw hS => ?_)
      obtain ⟨r19, rfl, hq⟩ := hq
      refine W.eq (g2 := F0 m 39 ls [.int r19, .ref (mp 0)]) rfl ?_
      refine mt_callV (index := 96) hx hb hml hown hts hK (ΩM.mono D d mp) hA hw hS hl.1 (tX9_told l D d mp r19 u20 hq) (ΩM.recv hK hw) q_525 q_34 q_522 q_524 q_17 nmhX9_told ⟨⟨Nat.le_of_ble_eq_true rfl, Nat.le_of_ble_eq_true rfl⟩, ⟨Nat.le_of_ble_eq_true rfl, Nat.le_of_ble_eq_true rfl⟩⟩ rfl (Nat.le_of_ble_eq_true rfl) dX9_write_39 (fun _ u22 H locs hq hw hS => ?_)
      obtain ⟨r21, rfl, hq⟩ := hq
      refine W.eq (g2 := F0 m 42 ls [.int r21]) rfl ?_
      exact mt_reti hx hb hr hlocks hw hS (Nat.le_of_ble_eq_true rfl) (Nat.le_of_ble_eq_true rfl) dX9_write_42 ⟨_, rfl, hq⟩
    · have hq := hq.2 hc
      refine lv_aload_n hx hb dX9_write_14 rfl (lv_at hl 0 rfl) ?_
      refine lv_iconst (v := -1) hx hb dX9_write_15 (by decide) ?_
      refine mt_callV (index := 96) hx hb hml hown hts hK (ΩM.mono D d mp) hA hw hS hl.1 (tX9_told l D d mp (-1 : Int32) u18 hq) (ΩM.recv hK hw) q_525 q_34 q_522 q_524 q_17 nmhX9_told ⟨⟨Nat.le_of_ble_eq_true rfl, Nat.le_of_ble_eq_true rfl⟩, ⟨Nat.le_of_ble_eq_true rfl, Nat.le_of_ble_eq_true rfl⟩⟩ rfl (Nat.le_of_ble_eq_true rfl) dX9_write_16 (fun _ u24 H locs hq hw hS => ?_)
      obtain ⟨r23, rfl, hq⟩ := hq
      refine W.eq (g2 := F0 m 19 ls [.int r23]) rfl ?_
      exact mt_reti hx hb hr hlocks hw hS (Nat.le_of_ble_eq_true rfl) (Nat.le_of_ble_eq_true rfl) dX9_write_19 ⟨_, rfl, hq⟩
abbrev rmX9_turn : Room := { frames := 3, cells := 0, slots := 0, locals := 71 }
theorem nmhX9_turn : NoMH yX9_turn 4 := by decide +kernel
def wX9_turn (x1 : Int32) (x2 : Int32) (x3 : Int32) (x4 : Int32) (μ : MS) (Q : Int32 → MS → Prop) : Prop :=
    wX9_isDrum x1 μ (fun r13 u14 => (r13 = 0 → wX9_told (-1 : Int32) u14 (fun r15 u16 => Q r15 u16)) ∧ (¬ r13 = 0 → (wX9_isKind x2 u14 (fun r17 u18 => (¬ r17 = 0 → (vp_in (((5 : Int32) * x1) + x2) 40 ∧ (wX9_turns x2 (mDrums u18 (((5 : Int32) * x1) + x2).toNatClampNeg) x3 x4 u18 (fun r19 u20 => wX9_told r19 u20 (fun r21 u22 => Q r21 u22))))) ∧ (r17 = 0 → wX9_told (-1 : Int32) u18 (fun r23 u24 => Q r23 u24))))))
set_option maxHeartbeats 4000000 in
set_option maxRecDepth 100000 in
theorem tX9_turn (l : Launch) (D : va_G) (d : AC) (mp : Nat → Nat) (x1 : Int32) (x2 : Int32) (x3 : Int32) (x4 : Int32) (μ : MS) {Q : Int32 → MS → Prop} (hq : wX9_turn x1 x2 x3 x4 μ Q) : MT D d (ΩM D d mp) l yX9_turn (WS yX9_turn cX9_turn 5 (some (.int))) rmX9_turn [.ref (mp 0), .int x1, .int x2, .int x3, .int x4] μ (qI Q) := by
  refine mt_of (ΩM.mono D d mp) (by decide +kernel) (Nat.le_of_ble_eq_true rfl) (fun p e s m below meth c A ls hx hb hr hml hown hts hlocks hnm hK hA hw hS hl => ?_)
  have hl : lv_has ls 5 [(0, .ref (mp 0)), (1, .int x1), (2, .int x2), (3, .int x3), (4, .int x4)] := hl
  have hown : s.vm.findClass RX9 = some m.cls := hown
  unfold wX9_turn at hq
  refine lv_iload_n hx hb dX9_turn_0 rfl (lv_at hl 1 rfl) ?_
  refine mt_callS (index := 90) hx hb hml hown hts hK (ΩM.mono D d mp) hA hw hS hl.1 (tX9_isDrum l D d mp x1 μ hq) q_515 q_34 q_513 q_514 nmhX9_isDrum ⟨⟨Nat.le_of_ble_eq_true rfl, Nat.le_of_ble_eq_true rfl⟩, ⟨Nat.le_of_ble_eq_true rfl, Nat.le_of_ble_eq_true rfl⟩⟩ rfl (Nat.le_of_ble_eq_true rfl) dX9_turn_1 (fun _ u14 H locs hq hw hS => ?_)
  obtain ⟨r13, rfl, hzr13, hq⟩ := hq
  refine W.eq (g2 := F0 m 4 ls [.int r13]) rfl ?_
  refine lv_if_eq (tgt := 14) hx hb dX9_turn_4 (by decide) (fun hc => ?_) (fun hc => ?_)
  · have hq := hq.1 hc
    refine lv_aload_n hx hb dX9_turn_14 rfl (lv_at hl 0 rfl) ?_
    refine lv_iconst (v := -1) hx hb dX9_turn_15 (by decide) ?_
    refine mt_callV (index := 96) hx hb hml hown hts hK (ΩM.mono D d mp) hA hw hS hl.1 (tX9_told l D d mp (-1 : Int32) u14 hq) (ΩM.recv hK hw) q_525 q_34 q_522 q_524 q_17 nmhX9_told ⟨⟨Nat.le_of_ble_eq_true rfl, Nat.le_of_ble_eq_true rfl⟩, ⟨Nat.le_of_ble_eq_true rfl, Nat.le_of_ble_eq_true rfl⟩⟩ rfl (Nat.le_of_ble_eq_true rfl) dX9_turn_16 (fun _ u16 H locs hq hw hS => ?_)
    obtain ⟨r15, rfl, hq⟩ := hq
    refine W.eq (g2 := F0 m 19 ls [.int r15]) rfl ?_
    exact mt_reti hx hb hr hlocks hw hS (Nat.le_of_ble_eq_true rfl) (Nat.le_of_ble_eq_true rfl) dX9_turn_19 ⟨_, rfl, hq⟩
  · have hq := hq.2 hc
    refine lv_iload_n hx hb dX9_turn_7 rfl (lv_at hl 2 rfl) ?_
    refine mt_callS (index := 93) hx hb hml hown hts hK (ΩM.mono D d mp) hA hw hS hl.1 (tX9_isKind l D d mp x2 u14 hq) q_521 q_34 q_519 q_520 nmhX9_isKind ⟨⟨Nat.le_of_ble_eq_true rfl, Nat.le_of_ble_eq_true rfl⟩, ⟨Nat.le_of_ble_eq_true rfl, Nat.le_of_ble_eq_true rfl⟩⟩ rfl (Nat.le_of_ble_eq_true rfl) dX9_turn_8 (fun _ u18 H locs hq hw hS => ?_)
    obtain ⟨r17, rfl, hzr17, hq⟩ := hq
    refine W.eq (g2 := F0 m 11 ls [.int r17]) rfl ?_
    refine lv_if_ne (tgt := 20) hx hb dX9_turn_11 (by decide) (fun hc => ?_) (fun hc => ?_)
    · have hq := hq.1 hc
      refine lv_aload_n hx hb dX9_turn_20 rfl (lv_at hl 0 rfl) ?_
      refine lv_aload_n hx hb dX9_turn_21 rfl (lv_at hl 0 rfl) ?_
      refine lv_iload_n hx hb dX9_turn_22 rfl (lv_at hl 2 rfl) ?_
      refine lv_aload_n hx hb dX9_turn_23 rfl (lv_at hl 0 rfl) ?_
      refine va_get (D := D) (ci := 8) (v := .ref (mp 4)) (C := RX9) (T := TX9) (N := 15) hx hb hts inX9 hown hK.1 hw.1 0 rfl rfl 3 (by decide) (hts _ q_464) (fun _ h9 => h9) rfl dX9_turn_24 ?_
      refine lv_iconst (v := 5) hx hb dX9_turn_27 (by decide) ?_
      refine lv_iload_n hx hb dX9_turn_28 rfl (lv_at hl 1 rfl) ?_
      refine lv_imul hx hb dX9_turn_29 ?_
      refine lv_iload_n hx hb dX9_turn_30 rfl (lv_at hl 2 rfl) ?_
      refine lv_iadd hx hb dX9_turn_31 ?_
      refine va_iald hx hb hK.1 hw.1 4 8 rfl rfl hq.1 dX9_turn_32 ?_
      have hq := hq.2
      refine lv_iload_n hx hb dX9_turn_33 rfl (lv_at hl 3 rfl) ?_
      refine lv_iload hx hb dX9_turn_34 (lv_at hl 4 rfl) ?_
      refine mt_callV (index := 114) hx hb hml hown hts hK (ΩM.mono D d mp) hA hw hS hl.1 (tX9_turns l D d mp x2 (mDrums u18 (((5 : Int32) * x1) + x2).toNatClampNeg) x3 x4 u18 hq) (ΩM.recv hK hw) q_590 q_34 q_587 q_589 q_23 nmhX9_turns ⟨⟨Nat.le_of_ble_eq_true rfl, Nat.le_of_ble_eq_true rfl⟩, ⟨Nat.le_of_ble_eq_true rfl, Nat.le_of_ble_eq_true rfl⟩⟩ rfl (Nat.le_of_ble_eq_true rfl) dX9_turn_36 (fun _ u20 H locs hq hw hS => ?_)
      obtain ⟨r19, rfl, hq⟩ := hq
      refine W.eq (g2 := F0 m 39 ls [.int r19, .ref (mp 0)]) rfl ?_
      refine mt_callV (index := 96) hx hb hml hown hts hK (ΩM.mono D d mp) hA hw hS hl.1 (tX9_told l D d mp r19 u20 hq) (ΩM.recv hK hw) q_525 q_34 q_522 q_524 q_17 nmhX9_told ⟨⟨Nat.le_of_ble_eq_true rfl, Nat.le_of_ble_eq_true rfl⟩, ⟨Nat.le_of_ble_eq_true rfl, Nat.le_of_ble_eq_true rfl⟩⟩ rfl (Nat.le_of_ble_eq_true rfl) dX9_turn_39 (fun _ u22 H locs hq hw hS => ?_)
      obtain ⟨r21, rfl, hq⟩ := hq
      refine W.eq (g2 := F0 m 42 ls [.int r21]) rfl ?_
      exact mt_reti hx hb hr hlocks hw hS (Nat.le_of_ble_eq_true rfl) (Nat.le_of_ble_eq_true rfl) dX9_turn_42 ⟨_, rfl, hq⟩
    · have hq := hq.2 hc
      refine lv_aload_n hx hb dX9_turn_14 rfl (lv_at hl 0 rfl) ?_
      refine lv_iconst (v := -1) hx hb dX9_turn_15 (by decide) ?_
      refine mt_callV (index := 96) hx hb hml hown hts hK (ΩM.mono D d mp) hA hw hS hl.1 (tX9_told l D d mp (-1 : Int32) u18 hq) (ΩM.recv hK hw) q_525 q_34 q_522 q_524 q_17 nmhX9_told ⟨⟨Nat.le_of_ble_eq_true rfl, Nat.le_of_ble_eq_true rfl⟩, ⟨Nat.le_of_ble_eq_true rfl, Nat.le_of_ble_eq_true rfl⟩⟩ rfl (Nat.le_of_ble_eq_true rfl) dX9_turn_16 (fun _ u24 H locs hq hw hS => ?_)
      obtain ⟨r23, rfl, hq⟩ := hq
      refine W.eq (g2 := F0 m 19 ls [.int r23]) rfl ?_
      exact mt_reti hx hb hr hlocks hw hS (Nat.le_of_ble_eq_true rfl) (Nat.le_of_ble_eq_true rfl) dX9_turn_19 ⟨_, rfl, hq⟩
abbrev rmX9_head : Room := { frames := 2, cells := 0, slots := 0, locals := 42 }
theorem nmhX9_head : NoMH yX9_head 2 := by decide +kernel
def wX9_head (x1 : Int32) (x2 : Int32) (μ : MS) (Q : Int32 → MS → Prop) : Prop :=
    wX9_isDrum x1 μ (fun r12 u13 => (¬ r12 = 0 → (wX9_in x2 (0 : Int32) (300 : Int32) u13 (fun r14 u15 => (¬ r14 = 0 → (vp_in x1 8 ∧ (∀ y16 : Int32, y16 = (mHeads u15 x1.toNatClampNeg) → (vp_in x1 8 ∧ (wX9_told y16 (nHeads u15 (upd (mHeads u15) x1.toNatClampNeg x2)) (fun r17 u18 => Q r17 u18)))))) ∧ (r14 = 0 → wX9_told (-4 : Int32) u15 (fun r19 u20 => Q r19 u20))))) ∧ (r12 = 0 → wX9_told (-1 : Int32) u13 (fun r21 u22 => Q r21 u22)))
set_option maxHeartbeats 4000000 in
set_option maxRecDepth 100000 in
theorem tX9_head (l : Launch) (D : va_G) (d : AC) (mp : Nat → Nat) (x1 : Int32) (x2 : Int32) (μ : MS) {Q : Int32 → MS → Prop} (hq : wX9_head x1 x2 μ Q) : MT D d (ΩM D d mp) l yX9_head (WS yX9_head cX9_head 4 (some (.int))) rmX9_head [.ref (mp 0), .int x1, .int x2] μ (qI Q) := by
  refine mt_of (ΩM.mono D d mp) (by decide +kernel) (Nat.le_of_ble_eq_true rfl) (fun p e s m below meth c A ls hx hb hr hml hown hts hlocks hnm hK hA hw hS hl => ?_)
  have hl : lv_has ls 4 [(0, .ref (mp 0)), (1, .int x1), (2, .int x2)] := hl
  have hown : s.vm.findClass RX9 = some m.cls := hown
  unfold wX9_head at hq
  refine lv_iload_n hx hb dX9_head_0 rfl (lv_at hl 1 rfl) ?_
  refine mt_callS (index := 90) hx hb hml hown hts hK (ΩM.mono D d mp) hA hw hS hl.1 (tX9_isDrum l D d mp x1 μ hq) q_515 q_34 q_513 q_514 nmhX9_isDrum ⟨⟨Nat.le_of_ble_eq_true rfl, Nat.le_of_ble_eq_true rfl⟩, ⟨Nat.le_of_ble_eq_true rfl, Nat.le_of_ble_eq_true rfl⟩⟩ rfl (Nat.le_of_ble_eq_true rfl) dX9_head_1 (fun _ u13 H locs hq hw hS => ?_)
  obtain ⟨r12, rfl, hzr12, hq⟩ := hq
  refine W.eq (g2 := F0 m 4 ls [.int r12]) rfl ?_
  refine lv_if_ne (tgt := 13) hx hb dX9_head_4 (by decide) (fun hc => ?_) (fun hc => ?_)
  · have hq := hq.1 hc
    refine lv_iload_n hx hb dX9_head_13 rfl (lv_at hl 2 rfl) ?_
    refine lv_iconst (v := 0) hx hb dX9_head_14 (by decide) ?_
    refine lv_sipush (v := 300) hx hb dX9_head_15 (by decide) ?_
    refine mt_callS (index := 58) hx hb hml hown hts hK (ΩM.mono D d mp) hA hw hS hl.1 (tX9_in l D d mp x2 (0 : Int32) (300 : Int32) u13 hq) q_518 q_34 q_516 q_517 nmhX9_in ⟨⟨Nat.le_of_ble_eq_true rfl, Nat.le_of_ble_eq_true rfl⟩, ⟨Nat.le_of_ble_eq_true rfl, Nat.le_of_ble_eq_true rfl⟩⟩ rfl (Nat.le_of_ble_eq_true rfl) dX9_head_18 (fun _ u15 H locs hq hw hS => ?_)
    obtain ⟨r14, rfl, hzr14, hq⟩ := hq
    refine W.eq (g2 := F0 m 21 ls [.int r14]) rfl ?_
    refine lv_if_ne (tgt := 31) hx hb dX9_head_21 (by decide) (fun hc => ?_) (fun hc => ?_)
    · have hq := hq.1 hc
      refine lv_aload_n hx hb dX9_head_31 rfl (lv_at hl 0 rfl) ?_
      refine va_get (D := D) (ci := 8) (v := .ref (mp 8)) (C := RX9) (T := TX9) (N := 15) hx hb hts inX9 hown hK.1 hw.1 0 rfl rfl 7 (by decide) (hts _ q_468) (fun _ h9 => h9) rfl dX9_head_32 ?_
      refine lv_iload_n hx hb dX9_head_35 rfl (lv_at hl 1 rfl) ?_
      refine va_iald hx hb hK.1 hw.1 8 8 rfl rfl hq.1 dX9_head_36 ?_
      have hq := hq.2
      refine lv_topi (fun y16 ey16 => ?_)
      have hq := hq y16 ey16
      refine lv_istore_n (lv' := [(3, .int y16), (0, .ref (mp 0)), (1, .int x1), (2, .int x2)]) hx hb dX9_head_37 rfl hl (by decide) rfl (fun ls hl => ?_)
      refine lv_aload_n hx hb dX9_head_38 rfl (lv_at hl 1 rfl) ?_
      refine va_get (D := D) (ci := 8) (v := .ref (mp 8)) (C := RX9) (T := TX9) (N := 15) hx hb hts inX9 hown hK.1 hw.1 0 rfl rfl 7 (by decide) (hts _ q_468) (fun _ h9 => h9) rfl dX9_head_39 ?_
      refine lv_iload_n hx hb dX9_head_42 rfl (lv_at hl 2 rfl) ?_
      refine lv_iload_n hx hb dX9_head_43 rfl (lv_at hl 3 rfl) ?_
      refine va_iast hx hb hK.1 hw.1 hw.2 hS 8 8 rfl rfl hq.1 dX9_head_44 (fun H locs hP hD hS => ?_)
      have hw : ΩM D d mp A (nHeads u15 (upd (mHeads u15) x1.toNatClampNeg x2)) H := ⟨hP, hD⟩
      have hq := hq.2
      refine lv_aload_n hx hb dX9_head_45 rfl (lv_at hl 1 rfl) ?_
      refine lv_iload_n hx hb dX9_head_46 rfl (lv_at hl 0 rfl) ?_
      refine mt_callV (index := 96) hx hb hml hown hts hK (ΩM.mono D d mp) hA hw hS hl.1 (tX9_told l D d mp y16 (nHeads u15 (upd (mHeads u15) x1.toNatClampNeg x2)) hq) (ΩM.recv hK hw) q_525 q_34 q_522 q_524 q_17 nmhX9_told ⟨⟨Nat.le_of_ble_eq_true rfl, Nat.le_of_ble_eq_true rfl⟩, ⟨Nat.le_of_ble_eq_true rfl, Nat.le_of_ble_eq_true rfl⟩⟩ rfl (Nat.le_of_ble_eq_true rfl) dX9_head_47 (fun _ u18 H locs hq hw hS => ?_)
      obtain ⟨r17, rfl, hq⟩ := hq
      refine W.eq (g2 := F0 m 50 ls [.int r17]) rfl ?_
      exact mt_reti hx hb hr hlocks hw hS (Nat.le_of_ble_eq_true rfl) (Nat.le_of_ble_eq_true rfl) dX9_head_50 ⟨_, rfl, hq⟩
    · have hq := hq.2 hc
      refine lv_aload_n hx hb dX9_head_24 rfl (lv_at hl 0 rfl) ?_
      refine lv_bipush (v := -4) hx hb dX9_head_25 (by decide) ?_
      refine mt_callV (index := 96) hx hb hml hown hts hK (ΩM.mono D d mp) hA hw hS hl.1 (tX9_told l D d mp (-4 : Int32) u15 hq) (ΩM.recv hK hw) q_525 q_34 q_522 q_524 q_17 nmhX9_told ⟨⟨Nat.le_of_ble_eq_true rfl, Nat.le_of_ble_eq_true rfl⟩, ⟨Nat.le_of_ble_eq_true rfl, Nat.le_of_ble_eq_true rfl⟩⟩ rfl (Nat.le_of_ble_eq_true rfl) dX9_head_27 (fun _ u20 H locs hq hw hS => ?_)
      obtain ⟨r19, rfl, hq⟩ := hq
      refine W.eq (g2 := F0 m 30 ls [.int r19]) rfl ?_
      exact mt_reti hx hb hr hlocks hw hS (Nat.le_of_ble_eq_true rfl) (Nat.le_of_ble_eq_true rfl) dX9_head_30 ⟨_, rfl, hq⟩
  · have hq := hq.2 hc
    refine lv_aload_n hx hb dX9_head_7 rfl (lv_at hl 0 rfl) ?_
    refine lv_iconst (v := -1) hx hb dX9_head_8 (by decide) ?_
    refine mt_callV (index := 96) hx hb hml hown hts hK (ΩM.mono D d mp) hA hw hS hl.1 (tX9_told l D d mp (-1 : Int32) u13 hq) (ΩM.recv hK hw) q_525 q_34 q_522 q_524 q_17 nmhX9_told ⟨⟨Nat.le_of_ble_eq_true rfl, Nat.le_of_ble_eq_true rfl⟩, ⟨Nat.le_of_ble_eq_true rfl, Nat.le_of_ble_eq_true rfl⟩⟩ rfl (Nat.le_of_ble_eq_true rfl) dX9_head_9 (fun _ u22 H locs hq hw hS => ?_)
    obtain ⟨r21, rfl, hq⟩ := hq
    refine W.eq (g2 := F0 m 12 ls [.int r21]) rfl ?_
    exact mt_reti hx hb hr hlocks hw hS (Nat.le_of_ble_eq_true rfl) (Nat.le_of_ble_eq_true rfl) dX9_head_12 ⟨_, rfl, hq⟩
end
section
theorem sw6 (x : Int32) : (x.toInt < 0 ∨ 5 < x.toInt) ∨ x.toInt = 0 ∨ x.toInt = 1 ∨ x.toInt = 2 ∨ x.toInt = 3 ∨ x.toInt = 4 ∨ x.toInt = 5 := by omega
abbrev rmX9_isThere : Room := { frames := 1, cells := 0, slots := 0, locals := 22 }
theorem nmhX9_isThere : NoMH yX9_isThere 3 := by decide +kernel
def wX9_isThere (x1 : Int32) (x2 : Int32) (x3 : Int32) (μ : MS) (Q : Int32 → MS → Prop) : Prop :=
    vp_in (((5 : Int32) * x1) + x2) 40 ∧ (wX9_lacks (mDrums μ (((5 : Int32) * x1) + x2).toNatClampNeg) x3 μ (fun r3 u4 => (¬ r3 = 0 → Q (0 : Int32) u4) ∧ (r3 = 0 → Q (1 : Int32) u4)))
set_option maxHeartbeats 4000000 in
set_option maxRecDepth 100000 in
theorem tX9_isThere (l : Launch) (D : va_G) (d : AC) (mp : Nat → Nat) (x1 : Int32) (x2 : Int32) (x3 : Int32) (μ : MS) {Q : Int32 → MS → Prop} (hq : wX9_isThere x1 x2 x3 μ Q) : MT D d (ΩM D d mp) l yX9_isThere (WS yX9_isThere cX9_isThere 4 (some (.boolean))) rmX9_isThere [.ref (mp 0), .int x1, .int x2, .int x3] μ (qZ Q) := by
  refine mt_of (ΩM.mono D d mp) (by decide +kernel) (Nat.le_of_ble_eq_true rfl) (fun p e s m below meth c A ls hx hb hr hml hown hts hlocks hnm hK hA hw hS hl => ?_)
  have hl : lv_has ls 4 [(0, .ref (mp 0)), (1, .int x1), (2, .int x2), (3, .int x3)] := hl
  have hown : s.vm.findClass RX9 = some m.cls := hown
  unfold wX9_isThere at hq
  refine lv_aload_n hx hb dX9_isThere_0 rfl (lv_at hl 0 rfl) ?_
  refine lv_aload_n hx hb dX9_isThere_1 rfl (lv_at hl 0 rfl) ?_
  refine va_get (D := D) (ci := 8) (v := .ref (mp 4)) (C := RX9) (T := TX9) (N := 15) hx hb hts inX9 hown hK.1 hw.1 0 rfl rfl 3 (by decide) (hts _ q_464) (fun _ h9 => h9) rfl dX9_isThere_2 ?_
  refine lv_iconst (v := 5) hx hb dX9_isThere_5 (by decide) ?_
  refine lv_iload_n hx hb dX9_isThere_6 rfl (lv_at hl 1 rfl) ?_
  refine lv_imul hx hb dX9_isThere_7 ?_
  refine lv_iload_n hx hb dX9_isThere_8 rfl (lv_at hl 2 rfl) ?_
  refine lv_iadd hx hb dX9_isThere_9 ?_
  refine va_iald hx hb hK.1 hw.1 4 8 rfl rfl hq.1 dX9_isThere_10 ?_
  have hq := hq.2
  refine lv_iload_n hx hb dX9_isThere_11 rfl (lv_at hl 3 rfl) ?_
  refine mt_callV (index := 67) hx hb hml hown hts hK (ΩM.mono D d mp) hA hw hS hl.1 (tX9_lacks l D d mp (mDrums μ (((5 : Int32) * x1) + x2).toNatClampNeg) x3 μ hq) (ΩM.recv hK hw) q_557 q_34 q_554 q_556 q_21 nmhX9_lacks ⟨⟨Nat.le_of_ble_eq_true rfl, Nat.le_of_ble_eq_true rfl⟩, ⟨Nat.le_of_ble_eq_true rfl, Nat.le_of_ble_eq_true rfl⟩⟩ rfl (Nat.le_of_ble_eq_true rfl) dX9_isThere_12 (fun _ u4 H locs hq hw hS => ?_)
  obtain ⟨r3, rfl, hq⟩ := hq
  refine W.eq (g2 := F0 m 15 ls [.int r3]) rfl ?_
  refine lv_if_ne (tgt := 22) hx hb dX9_isThere_15 (by decide) (fun hc => ?_) (fun hc => ?_)
  · have hq := hq.1 hc
    refine lv_iconst (v := 0) hx hb dX9_isThere_22 (by decide) ?_
    exact mt_retz hx hb hr hlocks hw hS (Nat.le_of_ble_eq_true rfl) (Nat.le_of_ble_eq_true rfl) dX9_isThere_23 rfl ⟨_, rfl, Or.inl rfl, hq⟩
  · have hq := hq.2 hc
    refine lv_iconst (v := 1) hx hb dX9_isThere_18 (by decide) ?_
    refine lv_goto (tgt := 23) hx hb dX9_isThere_19 (by decide) ?_
    exact mt_retz hx hb hr hlocks hw hS (Nat.le_of_ble_eq_true rfl) (Nat.le_of_ble_eq_true rfl) dX9_isThere_23 rfl ⟨_, rfl, Or.inr rfl, hq⟩
abbrev rmX9_at : Room := { frames := 2, cells := 0, slots := 0, locals := 45 }
theorem nmhX9_at : NoMH yX9_at 3 := by decide +kernel
def wX9_at (x1 : Int32) (x2 : Int32) (x3 : Int32) (μ : MS) (Q : Int32 → MS → Prop) : Prop :=
    wX9_isThere x1 x2 x3 μ (fun r5 u6 => (r5 = 0 → (vp_in x1 8 ∧ (vp_in x1 8 ∧ ((x2 = 0 → (Q (1 : Int32) (nGaps u6 (upd (mGaps u6) x1.toNatClampNeg ((mGaps u6 x1.toNatClampNeg) + (1 : Int32)))))) ∧ (¬ x2 = 0 → ((¬ x2 = (2 : Int32) → ((¬ x2 = (1 : Int32) → ((¬ x2 = (3 : Int32) → (Q (0 : Int32) (nGaps u6 (upd (mGaps u6) x1.toNatClampNeg ((mGaps u6 x1.toNatClampNeg) + (1 : Int32)))))) ∧ (x2 = (3 : Int32) → (wJxf58ca_floatToIntBits_5c35a FP.fconst1 (nGaps u6 (upd (mGaps u6) x1.toNatClampNeg ((mGaps u6 x1.toNatClampNeg) + (1 : Int32)))) (fun r7 u8 => Q r7 u8))))) ∧ (x2 = (1 : Int32) → (Q (60 : Int32) (nGaps u6 (upd (mGaps u6) x1.toNatClampNeg ((mGaps u6 x1.toNatClampNeg) + (1 : Int32)))))))) ∧ (x2 = (2 : Int32) → (Q (1 : Int32) (nGaps u6 (upd (mGaps u6) x1.toNatClampNeg ((mGaps u6 x1.toNatClampNeg) + (1 : Int32)))))))))))) ∧ (¬ r5 = 0 → (vp_in (((5 : Int32) * x1) + x2) 40 ∧ (vp_in (((300 : Int32) * (mDrums u6 (((5 : Int32) * x1) + x2).toNatClampNeg)) + x3) 60600 ∧ (Q (mCell u6 (((300 : Int32) * (mDrums u6 (((5 : Int32) * x1) + x2).toNatClampNeg)) + x3).toNatClampNeg) u6)))))
set_option maxHeartbeats 4000000 in
set_option maxRecDepth 100000 in
theorem tX9_at (l : Launch) (D : va_G) (d : AC) (mp : Nat → Nat) (x1 : Int32) (x2 : Int32) (x3 : Int32) (μ : MS) {Q : Int32 → MS → Prop} (hq : wX9_at x1 x2 x3 μ Q) : MT D d (ΩM D d mp) l yX9_at (WS yX9_at cX9_at 4 (some (.int))) rmX9_at [.ref (mp 0), .int x1, .int x2, .int x3] μ (qI Q) := by
  refine mt_of (ΩM.mono D d mp) (by decide +kernel) (Nat.le_of_ble_eq_true rfl) (fun p e s m below meth c A ls hx hb hr hml hown hts hlocks hnm hK hA hw hS hl => ?_)
  have hl : lv_has ls 4 [(0, .ref (mp 0)), (1, .int x1), (2, .int x2), (3, .int x3)] := hl
  have hown : s.vm.findClass RX9 = some m.cls := hown
  unfold wX9_at at hq
  refine lv_aload_n hx hb dX9_at_0 rfl (lv_at hl 0 rfl) ?_
  refine lv_iload_n hx hb dX9_at_1 rfl (lv_at hl 1 rfl) ?_
  refine lv_iload_n hx hb dX9_at_2 rfl (lv_at hl 2 rfl) ?_
  refine lv_iload_n hx hb dX9_at_3 rfl (lv_at hl 3 rfl) ?_
  refine mt_callV (index := 117) hx hb hml hown hts hK (ΩM.mono D d mp) hA hw hS hl.1 (tX9_isThere l D d mp x1 x2 x3 μ hq) (ΩM.recv hK hw) q_608 q_34 q_605 q_607 q_24 nmhX9_isThere ⟨⟨Nat.le_of_ble_eq_true rfl, Nat.le_of_ble_eq_true rfl⟩, ⟨Nat.le_of_ble_eq_true rfl, Nat.le_of_ble_eq_true rfl⟩⟩ rfl (Nat.le_of_ble_eq_true rfl) dX9_at_4 (fun _ u6 H locs hq hw hS => ?_)
  obtain ⟨r5, rfl, hzr5, hq⟩ := hq
  refine W.eq (g2 := F0 m 7 ls [.int r5]) rfl ?_
  refine lv_if_eq (tgt := 32) hx hb dX9_at_7 (by decide) (fun hc => ?_) (fun hc => ?_)
  · have hq := hq.1 hc
    refine lv_aload_n hx hb dX9_at_32 rfl (lv_at hl 0 rfl) ?_
    refine va_get (D := D) (ci := 8) (v := .ref (mp 11)) (C := RX9) (T := TX9) (N := 15) hx hb hts inX9 hown hK.1 hw.1 0 rfl rfl 10 (by decide) (hts _ q_471) (fun _ h9 => h9) rfl dX9_at_33 ?_
    refine lv_iload_n hx hb dX9_at_36 rfl (lv_at hl 1 rfl) ?_
    refine lv_dup2_11 hx hb dX9_at_37 rfl rfl ?_
    refine va_iald hx hb hK.1 hw.1 11 8 rfl rfl hq.1 dX9_at_38 ?_
    have hq := hq.2
    refine lv_iconst (v := 1) hx hb dX9_at_39 (by decide) ?_
    refine lv_iadd hx hb dX9_at_40 ?_
    refine va_iast hx hb hK.1 hw.1 hw.2 hS 11 8 rfl rfl hq.1 dX9_at_41 (fun H locs hP hD hS => ?_)
    have hw : ΩM D d mp A (nGaps u6 (upd (mGaps u6) x1.toNatClampNeg ((mGaps u6 x1.toNatClampNeg) + (1 : Int32)))) H := ⟨hP, hD⟩
    have hq := hq.2
    refine lv_iload_n hx hb dX9_at_42 rfl (lv_at hl 2 rfl) ?_
    refine lv_if_eq (tgt := 51) hx hb dX9_at_43 (by decide) (fun hc => ?_) (fun hc => ?_)
    · have hq := hq.1 hc
      refine lv_iconst (v := 1) hx hb dX9_at_51 (by decide) ?_
      refine lv_goto (tgt := 78) hx hb dX9_at_52 (by decide) ?_
      exact mt_reti hx hb hr hlocks hw hS (Nat.le_of_ble_eq_true rfl) (Nat.le_of_ble_eq_true rfl) dX9_at_78 ⟨_, rfl, hq⟩
    · have hq := hq.2 hc
      refine lv_iload_n hx hb dX9_at_46 rfl (lv_at hl 2 rfl) ?_
      refine lv_iconst (v := 2) hx hb dX9_at_47 (by decide) ?_
      refine lv_icmp_ne (tgt := 55) hx hb dX9_at_48 (by decide) (fun hc => ?_) (fun hc => ?_)
      · have hq := hq.1 hc
        refine lv_iload_n hx hb dX9_at_55 rfl (lv_at hl 2 rfl) ?_
        refine lv_iconst (v := 1) hx hb dX9_at_56 (by decide) ?_
        refine lv_icmp_ne (tgt := 65) hx hb dX9_at_57 (by decide) (fun hc => ?_) (fun hc => ?_)
        · have hq := hq.1 hc
          refine lv_iload_n hx hb dX9_at_65 rfl (lv_at hl 2 rfl) ?_
          refine lv_iconst (v := 3) hx hb dX9_at_66 (by decide) ?_
          refine lv_icmp_ne (tgt := 77) hx hb dX9_at_67 (by decide) (fun hc => ?_) (fun hc => ?_)
          · have hq := hq.1 hc
            refine lv_iconst (v := 0) hx hb dX9_at_77 (by decide) ?_
            exact mt_reti hx hb hr hlocks hw hS (Nat.le_of_ble_eq_true rfl) (Nat.le_of_ble_eq_true rfl) dX9_at_78 ⟨_, rfl, hq⟩
          · have hq := hq.2 hc
            refine lv_fconst1 hx hb dX9_at_70 ?_
            refine mt_callS (index := 74) hx hb hml hown hts hK (ΩM.mono D d mp) hA hw hS hl.1 (tJxf58ca_floatToIntBits_5c35a l D d mp FP.fconst1 (nGaps u6 (upd (mGaps u6) x1.toNatClampNeg ((mGaps u6 x1.toNatClampNeg) + (1 : Int32)))) hq) q_571 q_41 q_569 q_570 nmhJxf58ca_floatToIntBits_5c35a ⟨⟨Nat.le_of_ble_eq_true rfl, Nat.le_of_ble_eq_true rfl⟩, ⟨Nat.le_of_ble_eq_true rfl, Nat.le_of_ble_eq_true rfl⟩⟩ rfl (Nat.le_of_ble_eq_true rfl) dX9_at_71 (fun _ u8 H locs hq hw hS => ?_)
            obtain ⟨r7, rfl, hq⟩ := hq
            refine W.eq (g2 := F0 m 74 ls [.int r7]) rfl ?_
            refine lv_goto (tgt := 78) hx hb dX9_at_74 (by decide) ?_
            exact mt_reti hx hb hr hlocks hw hS (Nat.le_of_ble_eq_true rfl) (Nat.le_of_ble_eq_true rfl) dX9_at_78 ⟨_, rfl, hq⟩
        · have hq := hq.2 hc
          refine lv_bipush (v := 60) hx hb dX9_at_60 (by decide) ?_
          refine lv_goto (tgt := 78) hx hb dX9_at_62 (by decide) ?_
          exact mt_reti hx hb hr hlocks hw hS (Nat.le_of_ble_eq_true rfl) (Nat.le_of_ble_eq_true rfl) dX9_at_78 ⟨_, rfl, hq⟩
      · have hq := hq.2 hc
        refine lv_iconst (v := 1) hx hb dX9_at_51 (by decide) ?_
        refine lv_goto (tgt := 78) hx hb dX9_at_52 (by decide) ?_
        exact mt_reti hx hb hr hlocks hw hS (Nat.le_of_ble_eq_true rfl) (Nat.le_of_ble_eq_true rfl) dX9_at_78 ⟨_, rfl, hq⟩
  · have hq := hq.2 hc
    refine lv_aload_n hx hb dX9_at_10 rfl (lv_at hl 0 rfl) ?_
    refine va_get (D := D) (ci := 8) (v := .ref (mp 1)) (C := RX9) (T := TX9) (N := 15) hx hb hts inX9 hown hK.1 hw.1 0 rfl rfl 0 (by decide) (hts _ q_461) (fun _ h9 => h9) rfl dX9_at_11 ?_
    refine lv_sipush (v := 300) hx hb dX9_at_14 (by decide) ?_
    refine lv_aload_n hx hb dX9_at_17 rfl (lv_at hl 0 rfl) ?_
    refine va_get (D := D) (ci := 8) (v := .ref (mp 4)) (C := RX9) (T := TX9) (N := 15) hx hb hts inX9 hown hK.1 hw.1 0 rfl rfl 3 (by decide) (hts _ q_464) (fun _ h9 => h9) rfl dX9_at_18 ?_
    refine lv_iconst (v := 5) hx hb dX9_at_21 (by decide) ?_
    refine lv_iload_n hx hb dX9_at_22 rfl (lv_at hl 1 rfl) ?_
    refine lv_imul hx hb dX9_at_23 ?_
    refine lv_iload_n hx hb dX9_at_24 rfl (lv_at hl 2 rfl) ?_
    refine lv_iadd hx hb dX9_at_25 ?_
    refine va_iald hx hb hK.1 hw.1 4 8 rfl rfl hq.1 dX9_at_26 ?_
    have hq := hq.2
    refine lv_imul hx hb dX9_at_27 ?_
    refine lv_iload_n hx hb dX9_at_28 rfl (lv_at hl 3 rfl) ?_
    refine lv_iadd hx hb dX9_at_29 ?_
    refine va_iald hx hb hK.1 hw.1 1 8 rfl rfl hq.1 dX9_at_30 ?_
    have hq := hq.2
    exact mt_reti hx hb hr hlocks hw hS (Nat.le_of_ble_eq_true rfl) (Nat.le_of_ble_eq_true rfl) dX9_at_31 ⟨_, rfl, hq⟩
abbrev rmX9_sounds : Room := { frames := 3, cells := 0, slots := 0, locals := 68 }
theorem nmhX9_sounds : NoMH yX9_sounds 2 := by decide +kernel
def wX9_sounds_b142 (x1 : Int32) (x2 : Int32) (Q : Int32 → MS → Prop) (v3 : Int32) (v4 : Int32) (v5 : Int32) (v6 : Int32) (v7 : Int32) (μ : MS) : Prop :=
    vp_in x1 8 ∧ (vp_in x1 8 ∧ (Q (1 : Int32) (nNotes μ (upd (mNotes μ) x1.toNatClampNeg ((mNotes μ x1.toNatClampNeg) + (1 : Int32))))))
def wX9_sounds_b134 (x1 : Int32) (x2 : Int32) (Q : Int32 → MS → Prop) (v3 : Int32) (v4 : Int32) (v5 : Int32) (v6 : Int32) (v7 : Int32) (μ : MS) : Prop :=
    vp_in x1 8 ∧ (wX9_sounds_b142 x1 x2 Q v3 v4 v5 v6 v7 (nLoud μ (upd (mLoud μ) x1.toNatClampNeg v6)))
def wX9_sounds_b107 (x1 : Int32) (x2 : Int32) (Q : Int32 → MS → Prop) (v3 : Int32) (v4 : Int32) (v5 : Int32) (v6 : Int32) (v7 : Int32) (μ : MS) : Prop :=
    vp_in x1 8 ∧ (((mNotes μ x1.toNatClampNeg) = 0 → wX9_sounds_b134 x1 x2 Q v3 v4 v5 v6 v7 μ) ∧ (¬ (mNotes μ x1.toNatClampNeg) = 0 → (vn_sni2f v6 = false ∧ (vp_in x1 8 ∧ (vn_sni2f (mLoud μ x1.toNatClampNeg) = false ∧ (((Op.cmpValue (FP.fcmp v6.toUInt32 ((mLoud μ x1.toNatClampNeg).toUInt32)) CmpOp.l) ≤ 0 → wX9_sounds_b142 x1 x2 Q v3 v4 v5 v6 v7 μ) ∧ (¬ (Op.cmpValue (FP.fcmp v6.toUInt32 ((mLoud μ x1.toNatClampNeg).toUInt32)) CmpOp.l) ≤ 0 → wX9_sounds_b134 x1 x2 Q v3 v4 v5 v6 v7 μ)))))))
def wX9_sounds_b99 (x1 : Int32) (x2 : Int32) (Q : Int32 → MS → Prop) (v3 : Int32) (v4 : Int32) (v5 : Int32) (v6 : Int32) (v7 : Int32) (μ : MS) : Prop :=
    vp_in x1 8 ∧ (wX9_sounds_b107 x1 x2 Q v3 v4 v5 v6 v7 (nHigh μ (upd (mHigh μ) x1.toNatClampNeg v7)))
def wX9_sounds (x1 : Int32) (x2 : Int32) (μ : MS) (Q : Int32 → MS → Prop) : Prop :=
    wX9_at x1 (0 : Int32) x2 μ (fun r12 u13 => wX9_at x1 (1 : Int32) x2 u13 (fun r14 u15 => wX9_at x1 (2 : Int32) x2 u15 (fun r16 u17 => wX9_at x1 (3 : Int32) x2 u17 (fun r18 u19 => wX9_at x1 (4 : Int32) x2 u19 (fun r20 u21 => ∀ y22 : Int32, y22 = (r14 + r20) → (vp_in x1 8 ∧ (vp_in x1 8 ∧ ((¬ r12 = 0 → (vp_in x1 8 ∧ (vp_in x1 8 ∧ (vp_in x1 8 ∧ (((mNotes (nWts (nPlayed u21 (upd (mPlayed u21) x1.toNatClampNeg ((mPlayed u21 x1.toNatClampNeg) + (1 : Int32)))) (vp_updL (mWts (nPlayed u21 (upd (mPlayed u21) x1.toNatClampNeg ((mPlayed u21 x1.toNatClampNeg) + (1 : Int32))))) x1.toNatClampNeg ((mWts (nPlayed u21 (upd (mPlayed u21) x1.toNatClampNeg ((mPlayed u21 x1.toNatClampNeg) + (1 : Int32)))) x1.toNatClampNeg) + (y22.toInt64 * r16.toInt64)))) x1.toNatClampNeg) = 0 → (wX9_sounds_b99 x1 x2 Q r12 r14 r16 r18 y22 (nWts (nPlayed u21 (upd (mPlayed u21) x1.toNatClampNeg ((mPlayed u21 x1.toNatClampNeg) + (1 : Int32)))) (vp_updL (mWts (nPlayed u21 (upd (mPlayed u21) x1.toNatClampNeg ((mPlayed u21 x1.toNatClampNeg) + (1 : Int32))))) x1.toNatClampNeg ((mWts (nPlayed u21 (upd (mPlayed u21) x1.toNatClampNeg ((mPlayed u21 x1.toNatClampNeg) + (1 : Int32)))) x1.toNatClampNeg) + (y22.toInt64 * r16.toInt64)))))) ∧ (¬ (mNotes (nWts (nPlayed u21 (upd (mPlayed u21) x1.toNatClampNeg ((mPlayed u21 x1.toNatClampNeg) + (1 : Int32)))) (vp_updL (mWts (nPlayed u21 (upd (mPlayed u21) x1.toNatClampNeg ((mPlayed u21 x1.toNatClampNeg) + (1 : Int32))))) x1.toNatClampNeg ((mWts (nPlayed u21 (upd (mPlayed u21) x1.toNatClampNeg ((mPlayed u21 x1.toNatClampNeg) + (1 : Int32)))) x1.toNatClampNeg) + (y22.toInt64 * r16.toInt64)))) x1.toNatClampNeg) = 0 → (vp_in x1 8 ∧ ((y22 ≤ (mHigh (nWts (nPlayed u21 (upd (mPlayed u21) x1.toNatClampNeg ((mPlayed u21 x1.toNatClampNeg) + (1 : Int32)))) (vp_updL (mWts (nPlayed u21 (upd (mPlayed u21) x1.toNatClampNeg ((mPlayed u21 x1.toNatClampNeg) + (1 : Int32))))) x1.toNatClampNeg ((mWts (nPlayed u21 (upd (mPlayed u21) x1.toNatClampNeg ((mPlayed u21 x1.toNatClampNeg) + (1 : Int32)))) x1.toNatClampNeg) + (y22.toInt64 * r16.toInt64)))) x1.toNatClampNeg) → (wX9_sounds_b107 x1 x2 Q r12 r14 r16 r18 y22 (nWts (nPlayed u21 (upd (mPlayed u21) x1.toNatClampNeg ((mPlayed u21 x1.toNatClampNeg) + (1 : Int32)))) (vp_updL (mWts (nPlayed u21 (upd (mPlayed u21) x1.toNatClampNeg ((mPlayed u21 x1.toNatClampNeg) + (1 : Int32))))) x1.toNatClampNeg ((mWts (nPlayed u21 (upd (mPlayed u21) x1.toNatClampNeg ((mPlayed u21 x1.toNatClampNeg) + (1 : Int32)))) x1.toNatClampNeg) + (y22.toInt64 * r16.toInt64)))))) ∧ (¬ y22 ≤ (mHigh (nWts (nPlayed u21 (upd (mPlayed u21) x1.toNatClampNeg ((mPlayed u21 x1.toNatClampNeg) + (1 : Int32)))) (vp_updL (mWts (nPlayed u21 (upd (mPlayed u21) x1.toNatClampNeg ((mPlayed u21 x1.toNatClampNeg) + (1 : Int32))))) x1.toNatClampNeg ((mWts (nPlayed u21 (upd (mPlayed u21) x1.toNatClampNeg ((mPlayed u21 x1.toNatClampNeg) + (1 : Int32)))) x1.toNatClampNeg) + (y22.toInt64 * r16.toInt64)))) x1.toNatClampNeg) → (wX9_sounds_b99 x1 x2 Q r12 r14 r16 r18 y22 (nWts (nPlayed u21 (upd (mPlayed u21) x1.toNatClampNeg ((mPlayed u21 x1.toNatClampNeg) + (1 : Int32)))) (vp_updL (mWts (nPlayed u21 (upd (mPlayed u21) x1.toNatClampNeg ((mPlayed u21 x1.toNatClampNeg) + (1 : Int32))))) x1.toNatClampNeg ((mWts (nPlayed u21 (upd (mPlayed u21) x1.toNatClampNeg ((mPlayed u21 x1.toNatClampNeg) + (1 : Int32)))) x1.toNatClampNeg) + (y22.toInt64 * r16.toInt64)))))))))))))) ∧ (r12 = 0 → (Q (0 : Int32) (nPlayed u21 (upd (mPlayed u21) x1.toNatClampNeg ((mPlayed u21 x1.toNatClampNeg) + (1 : Int32))))))))))))))
set_option maxHeartbeats 4000000 in
set_option maxRecDepth 100000 in
theorem tX9_sounds (l : Launch) (D : va_G) (d : AC) (mp : Nat → Nat) (x1 : Int32) (x2 : Int32) (μ : MS) {Q : Int32 → MS → Prop} (hq : wX9_sounds x1 x2 μ Q) : MT D d (ΩM D d mp) l yX9_sounds (WS yX9_sounds cX9_sounds 8 (some (.boolean))) rmX9_sounds [.ref (mp 0), .int x1, .int x2] μ (qZ Q) := by
  refine mt_of (ΩM.mono D d mp) (by decide +kernel) (Nat.le_of_ble_eq_true rfl) (fun p e s m below meth c A ls hx hb hr hml hown hts hlocks hnm hK hA hw hS hl => ?_)
  have hl : lv_has ls 8 [(0, .ref (mp 0)), (1, .int x1), (2, .int x2)] := hl
  have hown : s.vm.findClass RX9 = some m.cls := hown
  have b142 : ∀ (v3 : Int32) (v4 : Int32) (v5 : Int32) (v6 : Int32) (v7 : Int32) (μ : MS) (H : Heap) (locs : List Loc) (ls : Array Slot), wX9_sounds_b142 x1 x2 Q v3 v4 v5 v6 v7 μ → (ΩM D d mp) A μ H → va_S A s.heap H locs → lv_has ls 8 [(0, .ref (mp 0)), (1, .int x1), (2, .int x2), (3, .int v3), (4, .int v4), (5, .int v5), (6, .int v6), (7, .int v7)] → W p l e rmX9_sounds s m [.ref (mp 0), .int x1, .int x2].toArray below meth c H locs 0 0 (MQ below (Qo (qZ Q) (fun u' t => (ΩM D d mp) A u' t.heap) A) [.ref (mp 0), .int x1, .int x2].toArray s rmX9_sounds.cells rmX9_sounds.slots A) (F0 m 142 ls []) := by
    intro v3 v4 v5 v6 v7 μ H locs ls hq hw hS hl
    unfold wX9_sounds_b142 at hq
    refine lv_aload_n hx hb dX9_sounds_142 rfl (lv_at hl 0 rfl) ?_
    refine va_get (D := D) (ci := 8) (v := .ref (mp 9)) (C := RX9) (T := TX9) (N := 15) hx hb hts inX9 hown hK.1 hw.1 0 rfl rfl 8 (by decide) (hts _ q_469) (fun _ h9 => h9) rfl dX9_sounds_143 ?_
    refine lv_iload_n hx hb dX9_sounds_146 rfl (lv_at hl 1 rfl) ?_
    refine lv_dup2_11 hx hb dX9_sounds_147 rfl rfl ?_
    refine va_iald hx hb hK.1 hw.1 9 8 rfl rfl hq.1 dX9_sounds_148 ?_
    have hq := hq.2
    refine lv_iconst (v := 1) hx hb dX9_sounds_149 (by decide) ?_
    refine lv_iadd hx hb dX9_sounds_150 ?_
    refine va_iast hx hb hK.1 hw.1 hw.2 hS 9 8 rfl rfl hq.1 dX9_sounds_151 (fun H locs hP hD hS => ?_)
    have hw : ΩM D d mp A (nNotes μ (upd (mNotes μ) x1.toNatClampNeg ((mNotes μ x1.toNatClampNeg) + (1 : Int32)))) H := ⟨hP, hD⟩
    have hq := hq.2
    refine lv_iconst (v := 1) hx hb dX9_sounds_152 (by decide) ?_
    exact mt_retz hx hb hr hlocks hw hS (Nat.le_of_ble_eq_true rfl) (Nat.le_of_ble_eq_true rfl) dX9_sounds_153 rfl ⟨_, rfl, Or.inr rfl, hq⟩
  have b134 : ∀ (v3 : Int32) (v4 : Int32) (v5 : Int32) (v6 : Int32) (v7 : Int32) (μ : MS) (H : Heap) (locs : List Loc) (ls : Array Slot), wX9_sounds_b134 x1 x2 Q v3 v4 v5 v6 v7 μ → (ΩM D d mp) A μ H → va_S A s.heap H locs → lv_has ls 8 [(0, .ref (mp 0)), (1, .int x1), (2, .int x2), (3, .int v3), (4, .int v4), (5, .int v5), (6, .int v6), (7, .int v7)] → W p l e rmX9_sounds s m [.ref (mp 0), .int x1, .int x2].toArray below meth c H locs 0 0 (MQ below (Qo (qZ Q) (fun u' t => (ΩM D d mp) A u' t.heap) A) [.ref (mp 0), .int x1, .int x2].toArray s rmX9_sounds.cells rmX9_sounds.slots A) (F0 m 134 ls []) := by
    intro v3 v4 v5 v6 v7 μ H locs ls hq hw hS hl
    unfold wX9_sounds_b134 at hq
    refine lv_aload_n hx hb dX9_sounds_134 rfl (lv_at hl 0 rfl) ?_
    refine va_get (D := D) (ci := 8) (v := .ref (mp 14)) (C := RX9) (T := TX9) (N := 15) hx hb hts inX9 hown hK.1 hw.1 0 rfl rfl 13 (by decide) (hts _ q_474) (fun _ h9 => h9) rfl dX9_sounds_135 ?_
    refine lv_iload_n hx hb dX9_sounds_138 rfl (lv_at hl 1 rfl) ?_
    refine lv_iload hx hb dX9_sounds_139 (lv_at hl 6 rfl) ?_
    refine va_iast hx hb hK.1 hw.1 hw.2 hS 14 8 rfl rfl hq.1 dX9_sounds_141 (fun H locs hP hD hS => ?_)
    have hw : ΩM D d mp A (nLoud μ (upd (mLoud μ) x1.toNatClampNeg v6)) H := ⟨hP, hD⟩
    have hq := hq.2
    exact b142 v3 v4 v5 v6 v7 (nLoud μ (upd (mLoud μ) x1.toNatClampNeg v6)) _ _ _ hq hw hS (lv_sub hl [0, 1, 2, 3, 4, 5, 6, 7] rfl)
  have b107 : ∀ (v3 : Int32) (v4 : Int32) (v5 : Int32) (v6 : Int32) (v7 : Int32) (μ : MS) (H : Heap) (locs : List Loc) (ls : Array Slot), wX9_sounds_b107 x1 x2 Q v3 v4 v5 v6 v7 μ → (ΩM D d mp) A μ H → va_S A s.heap H locs → lv_has ls 8 [(0, .ref (mp 0)), (1, .int x1), (2, .int x2), (3, .int v3), (4, .int v4), (5, .int v5), (6, .int v6), (7, .int v7)] → W p l e rmX9_sounds s m [.ref (mp 0), .int x1, .int x2].toArray below meth c H locs 0 0 (MQ below (Qo (qZ Q) (fun u' t => (ΩM D d mp) A u' t.heap) A) [.ref (mp 0), .int x1, .int x2].toArray s rmX9_sounds.cells rmX9_sounds.slots A) (F0 m 107 ls []) := by
    intro v3 v4 v5 v6 v7 μ H locs ls hq hw hS hl
    unfold wX9_sounds_b107 at hq
    refine lv_aload_n hx hb dX9_sounds_107 rfl (lv_at hl 0 rfl) ?_
    refine va_get (D := D) (ci := 8) (v := .ref (mp 9)) (C := RX9) (T := TX9) (N := 15) hx hb hts inX9 hown hK.1 hw.1 0 rfl rfl 8 (by decide) (hts _ q_469) (fun _ h9 => h9) rfl dX9_sounds_108 ?_
    refine lv_iload_n hx hb dX9_sounds_111 rfl (lv_at hl 1 rfl) ?_
    refine va_iald hx hb hK.1 hw.1 9 8 rfl rfl hq.1 dX9_sounds_112 ?_
    have hq := hq.2
    refine lv_if_eq (tgt := 134) hx hb dX9_sounds_113 (by decide) (fun hc => ?_) (fun hc => ?_)
    · have hq := hq.1 hc
      exact b134 v3 v4 v5 v6 v7 μ _ _ _ hq hw hS (lv_sub hl [0, 1, 2, 3, 4, 5, 6, 7] rfl)
    · have hq := hq.2 hc
      refine lv_iload hx hb dX9_sounds_116 (lv_at hl 6 rfl) ?_
      refine vn_i2f hx hb (hml.trans hl.1.symm) hown (hts _ q_591) (hts _ q_593) (hts _ q_592) (hts _ q_41) hq.1 (Nat.le_of_ble_eq_true rfl) (Nat.le_of_ble_eq_true rfl) dX9_sounds_118 ?_
      have hq := hq.2
      refine lv_aload_n hx hb dX9_sounds_121 rfl (lv_at hl 0 rfl) ?_
      refine va_get (D := D) (ci := 8) (v := .ref (mp 14)) (C := RX9) (T := TX9) (N := 15) hx hb hts inX9 hown hK.1 hw.1 0 rfl rfl 13 (by decide) (hts _ q_474) (fun _ h9 => h9) rfl dX9_sounds_122 ?_
      refine lv_iload_n hx hb dX9_sounds_125 rfl (lv_at hl 1 rfl) ?_
      refine va_iald hx hb hK.1 hw.1 14 8 rfl rfl hq.1 dX9_sounds_126 ?_
      have hq := hq.2
      refine vn_i2f hx hb (hml.trans hl.1.symm) hown (hts _ q_591) (hts _ q_593) (hts _ q_592) (hts _ q_41) hq.1 (Nat.le_of_ble_eq_true rfl) (Nat.le_of_ble_eq_true rfl) dX9_sounds_127 ?_
      have hq := hq.2
      refine lv_fcmp hx hb dX9_sounds_130 ?_
      refine lv_if_le (tgt := 142) hx hb dX9_sounds_131 (by decide) (fun hc => ?_) (fun hc => ?_)
      · have hq := hq.1 hc
        exact b142 v3 v4 v5 v6 v7 μ _ _ _ hq hw hS (lv_sub hl [0, 1, 2, 3, 4, 5, 6, 7] rfl)
      · have hq := hq.2 hc
        exact b134 v3 v4 v5 v6 v7 μ _ _ _ hq hw hS (lv_sub hl [0, 1, 2, 3, 4, 5, 6, 7] rfl)
  have b99 : ∀ (v3 : Int32) (v4 : Int32) (v5 : Int32) (v6 : Int32) (v7 : Int32) (μ : MS) (H : Heap) (locs : List Loc) (ls : Array Slot), wX9_sounds_b99 x1 x2 Q v3 v4 v5 v6 v7 μ → (ΩM D d mp) A μ H → va_S A s.heap H locs → lv_has ls 8 [(0, .ref (mp 0)), (1, .int x1), (2, .int x2), (3, .int v3), (4, .int v4), (5, .int v5), (6, .int v6), (7, .int v7)] → W p l e rmX9_sounds s m [.ref (mp 0), .int x1, .int x2].toArray below meth c H locs 0 0 (MQ below (Qo (qZ Q) (fun u' t => (ΩM D d mp) A u' t.heap) A) [.ref (mp 0), .int x1, .int x2].toArray s rmX9_sounds.cells rmX9_sounds.slots A) (F0 m 99 ls []) := by
    intro v3 v4 v5 v6 v7 μ H locs ls hq hw hS hl
    unfold wX9_sounds_b99 at hq
    refine lv_aload_n hx hb dX9_sounds_99 rfl (lv_at hl 0 rfl) ?_
    refine va_get (D := D) (ci := 8) (v := .ref (mp 13)) (C := RX9) (T := TX9) (N := 15) hx hb hts inX9 hown hK.1 hw.1 0 rfl rfl 12 (by decide) (hts _ q_473) (fun _ h9 => h9) rfl dX9_sounds_100 ?_
    refine lv_iload_n hx hb dX9_sounds_103 rfl (lv_at hl 1 rfl) ?_
    refine lv_iload hx hb dX9_sounds_104 (lv_at hl 7 rfl) ?_
    refine va_iast hx hb hK.1 hw.1 hw.2 hS 13 8 rfl rfl hq.1 dX9_sounds_106 (fun H locs hP hD hS => ?_)
    have hw : ΩM D d mp A (nHigh μ (upd (mHigh μ) x1.toNatClampNeg v7)) H := ⟨hP, hD⟩
    have hq := hq.2
    exact b107 v3 v4 v5 v6 v7 (nHigh μ (upd (mHigh μ) x1.toNatClampNeg v7)) _ _ _ hq hw hS (lv_sub hl [0, 1, 2, 3, 4, 5, 6, 7] rfl)
  unfold wX9_sounds at hq
  refine lv_aload_n hx hb dX9_sounds_0 rfl (lv_at hl 0 rfl) ?_
  refine lv_iload_n hx hb dX9_sounds_1 rfl (lv_at hl 1 rfl) ?_
  refine lv_iconst (v := 0) hx hb dX9_sounds_2 (by decide) ?_
  refine lv_iload_n hx hb dX9_sounds_3 rfl (lv_at hl 2 rfl) ?_
  refine mt_callV (index := 120) hx hb hml hown hts hK (ΩM.mono D d mp) hA hw hS hl.1 (tX9_at l D d mp x1 (0 : Int32) x2 μ hq) (ΩM.recv hK hw) q_616 q_34 q_613 q_615 q_26 nmhX9_at ⟨⟨Nat.le_of_ble_eq_true rfl, Nat.le_of_ble_eq_true rfl⟩, ⟨Nat.le_of_ble_eq_true rfl, Nat.le_of_ble_eq_true rfl⟩⟩ rfl (Nat.le_of_ble_eq_true rfl) dX9_sounds_4 (fun _ u13 H locs hq hw hS => ?_)
  obtain ⟨r12, rfl, hq⟩ := hq
  refine W.eq (g2 := F0 m 7 ls [.int r12]) rfl ?_
  refine lv_istore_n (lv' := [(3, .int r12), (0, .ref (mp 0)), (1, .int x1), (2, .int x2)]) hx hb dX9_sounds_7 rfl hl (by decide) rfl (fun ls hl => ?_)
  refine lv_aload_n hx hb dX9_sounds_8 rfl (lv_at hl 1 rfl) ?_
  refine lv_iload_n hx hb dX9_sounds_9 rfl (lv_at hl 2 rfl) ?_
  refine lv_iconst (v := 1) hx hb dX9_sounds_10 (by decide) ?_
  refine lv_iload_n hx hb dX9_sounds_11 rfl (lv_at hl 3 rfl) ?_
  refine mt_callV (index := 120) hx hb hml hown hts hK (ΩM.mono D d mp) hA hw hS hl.1 (tX9_at l D d mp x1 (1 : Int32) x2 u13 hq) (ΩM.recv hK hw) q_616 q_34 q_613 q_615 q_26 nmhX9_at ⟨⟨Nat.le_of_ble_eq_true rfl, Nat.le_of_ble_eq_true rfl⟩, ⟨Nat.le_of_ble_eq_true rfl, Nat.le_of_ble_eq_true rfl⟩⟩ rfl (Nat.le_of_ble_eq_true rfl) dX9_sounds_12 (fun _ u15 H locs hq hw hS => ?_)
  obtain ⟨r14, rfl, hq⟩ := hq
  refine W.eq (g2 := F0 m 15 ls [.int r14]) rfl ?_
  refine lv_istore (lv' := [(4, .int r14), (3, .int r12), (0, .ref (mp 0)), (1, .int x1), (2, .int x2)]) hx hb dX9_sounds_15 hl (by decide) rfl (fun ls hl => ?_)
  refine lv_aload_n hx hb dX9_sounds_17 rfl (lv_at hl 2 rfl) ?_
  refine lv_iload_n hx hb dX9_sounds_18 rfl (lv_at hl 3 rfl) ?_
  refine lv_iconst (v := 2) hx hb dX9_sounds_19 (by decide) ?_
  refine lv_iload_n hx hb dX9_sounds_20 rfl (lv_at hl 4 rfl) ?_
  refine mt_callV (index := 120) hx hb hml hown hts hK (ΩM.mono D d mp) hA hw hS hl.1 (tX9_at l D d mp x1 (2 : Int32) x2 u15 hq) (ΩM.recv hK hw) q_616 q_34 q_613 q_615 q_26 nmhX9_at ⟨⟨Nat.le_of_ble_eq_true rfl, Nat.le_of_ble_eq_true rfl⟩, ⟨Nat.le_of_ble_eq_true rfl, Nat.le_of_ble_eq_true rfl⟩⟩ rfl (Nat.le_of_ble_eq_true rfl) dX9_sounds_21 (fun _ u17 H locs hq hw hS => ?_)
  obtain ⟨r16, rfl, hq⟩ := hq
  refine W.eq (g2 := F0 m 24 ls [.int r16]) rfl ?_
  refine lv_istore (lv' := [(5, .int r16), (4, .int r14), (3, .int r12), (0, .ref (mp 0)), (1, .int x1), (2, .int x2)]) hx hb dX9_sounds_24 hl (by decide) rfl (fun ls hl => ?_)
  refine lv_aload_n hx hb dX9_sounds_26 rfl (lv_at hl 3 rfl) ?_
  refine lv_iload_n hx hb dX9_sounds_27 rfl (lv_at hl 4 rfl) ?_
  refine lv_iconst (v := 3) hx hb dX9_sounds_28 (by decide) ?_
  refine lv_iload_n hx hb dX9_sounds_29 rfl (lv_at hl 5 rfl) ?_
  refine mt_callV (index := 120) hx hb hml hown hts hK (ΩM.mono D d mp) hA hw hS hl.1 (tX9_at l D d mp x1 (3 : Int32) x2 u17 hq) (ΩM.recv hK hw) q_616 q_34 q_613 q_615 q_26 nmhX9_at ⟨⟨Nat.le_of_ble_eq_true rfl, Nat.le_of_ble_eq_true rfl⟩, ⟨Nat.le_of_ble_eq_true rfl, Nat.le_of_ble_eq_true rfl⟩⟩ rfl (Nat.le_of_ble_eq_true rfl) dX9_sounds_30 (fun _ u19 H locs hq hw hS => ?_)
  obtain ⟨r18, rfl, hq⟩ := hq
  refine W.eq (g2 := F0 m 33 ls [.int r18]) rfl ?_
  refine lv_istore (lv' := [(6, .int r18), (5, .int r16), (4, .int r14), (3, .int r12), (0, .ref (mp 0)), (1, .int x1), (2, .int x2)]) hx hb dX9_sounds_33 hl (by decide) rfl (fun ls hl => ?_)
  refine lv_iload hx hb dX9_sounds_35 (lv_at hl 2 rfl) ?_
  refine lv_aload_n hx hb dX9_sounds_37 rfl (lv_at hl 4 rfl) ?_
  refine lv_iload_n hx hb dX9_sounds_38 rfl (lv_at hl 5 rfl) ?_
  refine lv_iconst (v := 4) hx hb dX9_sounds_39 (by decide) ?_
  refine lv_iload_n hx hb dX9_sounds_40 rfl (lv_at hl 6 rfl) ?_
  refine mt_callV (index := 120) hx hb hml hown hts hK (ΩM.mono D d mp) hA hw hS hl.1 (tX9_at l D d mp x1 (4 : Int32) x2 u19 hq) (ΩM.recv hK hw) q_616 q_34 q_613 q_615 q_26 nmhX9_at ⟨⟨Nat.le_of_ble_eq_true rfl, Nat.le_of_ble_eq_true rfl⟩, ⟨Nat.le_of_ble_eq_true rfl, Nat.le_of_ble_eq_true rfl⟩⟩ rfl (Nat.le_of_ble_eq_true rfl) dX9_sounds_41 (fun _ u21 H locs hq hw hS => ?_)
  obtain ⟨r20, rfl, hq⟩ := hq
  refine W.eq (g2 := F0 m 44 ls [.int r20, .int r14]) rfl ?_
  refine lv_iadd hx hb dX9_sounds_44 ?_
  refine lv_topi (fun y22 ey22 => ?_)
  have hq := hq y22 ey22
  refine lv_istore (lv' := [(7, .int y22), (6, .int r18), (5, .int r16), (4, .int r14), (3, .int r12), (0, .ref (mp 0)), (1, .int x1), (2, .int x2)]) hx hb dX9_sounds_45 hl (by decide) rfl (fun ls hl => ?_)
  refine lv_aload_n hx hb dX9_sounds_47 rfl (lv_at hl 5 rfl) ?_
  refine va_get (D := D) (ci := 8) (v := .ref (mp 10)) (C := RX9) (T := TX9) (N := 15) hx hb hts inX9 hown hK.1 hw.1 0 rfl rfl 9 (by decide) (hts _ q_470) (fun _ h9 => h9) rfl dX9_sounds_48 ?_
  refine lv_iload_n hx hb dX9_sounds_51 rfl (lv_at hl 6 rfl) ?_
  refine lv_dup2_11 hx hb dX9_sounds_52 rfl rfl ?_
  refine va_iald hx hb hK.1 hw.1 10 8 rfl rfl hq.1 dX9_sounds_53 ?_
  have hq := hq.2
  refine lv_iconst (v := 1) hx hb dX9_sounds_54 (by decide) ?_
  refine lv_iadd hx hb dX9_sounds_55 ?_
  refine va_iast hx hb hK.1 hw.1 hw.2 hS 10 8 rfl rfl hq.1 dX9_sounds_56 (fun H locs hP hD hS => ?_)
  have hw : ΩM D d mp A (nPlayed u21 (upd (mPlayed u21) x1.toNatClampNeg ((mPlayed u21 x1.toNatClampNeg) + (1 : Int32)))) H := ⟨hP, hD⟩
  have hq := hq.2
  refine lv_iload_n hx hb dX9_sounds_57 rfl (lv_at hl 4 rfl) ?_
  refine lv_if_ne (tgt := 63) hx hb dX9_sounds_58 (by decide) (fun hc => ?_) (fun hc => ?_)
  · have hq := hq.1 hc
    refine lv_aload_n hx hb dX9_sounds_63 rfl (lv_at hl 5 rfl) ?_
    refine va_get (D := D) (ci := 8) (v := .ref (mp 12)) (C := RX9) (T := TX9) (N := 15) hx hb hts inX9 hown hK.1 hw.1 0 rfl rfl 11 (by decide) (hts _ q_472) (fun _ h9 => h9) rfl dX9_sounds_64 ?_
    refine lv_iload_n hx hb dX9_sounds_67 rfl (lv_at hl 6 rfl) ?_
    refine lv_dup2_11 hx hb dX9_sounds_68 rfl rfl ?_
    refine va_lald hx hb hK.1 hw.1 12 9 rfl rfl hq.1 dX9_sounds_69 ?_
    have hq := hq.2
    refine lv_iload hx hb dX9_sounds_70 (lv_at hl 0 rfl) ?_
    refine lv_i2l hx hb dX9_sounds_72 rfl ?_
    refine lv_iload hx hb dX9_sounds_73 (lv_at hl 2 rfl) ?_
    refine lv_i2l hx hb dX9_sounds_75 rfl ?_
    refine lv_lmul hx hb dX9_sounds_76 ?_
    refine lv_ladd hx hb dX9_sounds_77 ?_
    refine va_last hx hb hK.1 hw.1 hw.2 hS 12 9 rfl rfl hq.1 dX9_sounds_78 (fun H locs hP hD hS => ?_)
    have hw : ΩM D d mp A (nWts (nPlayed u21 (upd (mPlayed u21) x1.toNatClampNeg ((mPlayed u21 x1.toNatClampNeg) + (1 : Int32)))) (vp_updL (mWts (nPlayed u21 (upd (mPlayed u21) x1.toNatClampNeg ((mPlayed u21 x1.toNatClampNeg) + (1 : Int32))))) x1.toNatClampNeg ((mWts (nPlayed u21 (upd (mPlayed u21) x1.toNatClampNeg ((mPlayed u21 x1.toNatClampNeg) + (1 : Int32)))) x1.toNatClampNeg) + (y22.toInt64 * r16.toInt64)))) H := ⟨hP, hD⟩
    have hq := hq.2
    refine lv_aload_n hx hb dX9_sounds_79 rfl (lv_at hl 5 rfl) ?_
    refine va_get (D := D) (ci := 8) (v := .ref (mp 9)) (C := RX9) (T := TX9) (N := 15) hx hb hts inX9 hown hK.1 hw.1 0 rfl rfl 8 (by decide) (hts _ q_469) (fun _ h9 => h9) rfl dX9_sounds_80 ?_
    refine lv_iload_n hx hb dX9_sounds_83 rfl (lv_at hl 6 rfl) ?_
    refine va_iald hx hb hK.1 hw.1 9 8 rfl rfl hq.1 dX9_sounds_84 ?_
    have hq := hq.2
    refine lv_if_eq (tgt := 99) hx hb dX9_sounds_85 (by decide) (fun hc => ?_) (fun hc => ?_)
    · have hq := hq.1 hc
      exact b99 r12 r14 r16 r18 y22 (nWts (nPlayed u21 (upd (mPlayed u21) x1.toNatClampNeg ((mPlayed u21 x1.toNatClampNeg) + (1 : Int32)))) (vp_updL (mWts (nPlayed u21 (upd (mPlayed u21) x1.toNatClampNeg ((mPlayed u21 x1.toNatClampNeg) + (1 : Int32))))) x1.toNatClampNeg ((mWts (nPlayed u21 (upd (mPlayed u21) x1.toNatClampNeg ((mPlayed u21 x1.toNatClampNeg) + (1 : Int32)))) x1.toNatClampNeg) + (y22.toInt64 * r16.toInt64)))) _ _ _ hq hw hS (lv_sub hl [5, 6, 7, 4, 3, 2, 1, 0] rfl)
    · have hq := hq.2 hc
      refine lv_iload hx hb dX9_sounds_88 (lv_at hl 0 rfl) ?_
      refine lv_aload_n hx hb dX9_sounds_90 rfl (lv_at hl 5 rfl) ?_
      refine va_get (D := D) (ci := 8) (v := .ref (mp 13)) (C := RX9) (T := TX9) (N := 15) hx hb hts inX9 hown hK.1 hw.1 0 rfl rfl 12 (by decide) (hts _ q_473) (fun _ h9 => h9) rfl dX9_sounds_91 ?_
      refine lv_iload_n hx hb dX9_sounds_94 rfl (lv_at hl 6 rfl) ?_
      refine va_iald hx hb hK.1 hw.1 13 8 rfl rfl hq.1 dX9_sounds_95 ?_
      have hq := hq.2
      refine lv_icmp_le (tgt := 107) hx hb dX9_sounds_96 (by decide) (fun hc => ?_) (fun hc => ?_)
      · have hq := hq.1 hc
        exact b107 r12 r14 r16 r18 y22 (nWts (nPlayed u21 (upd (mPlayed u21) x1.toNatClampNeg ((mPlayed u21 x1.toNatClampNeg) + (1 : Int32)))) (vp_updL (mWts (nPlayed u21 (upd (mPlayed u21) x1.toNatClampNeg ((mPlayed u21 x1.toNatClampNeg) + (1 : Int32))))) x1.toNatClampNeg ((mWts (nPlayed u21 (upd (mPlayed u21) x1.toNatClampNeg ((mPlayed u21 x1.toNatClampNeg) + (1 : Int32)))) x1.toNatClampNeg) + (y22.toInt64 * r16.toInt64)))) _ _ _ hq hw hS (lv_sub hl [5, 6, 7, 4, 3, 2, 1, 0] rfl)
      · have hq := hq.2 hc
        exact b99 r12 r14 r16 r18 y22 (nWts (nPlayed u21 (upd (mPlayed u21) x1.toNatClampNeg ((mPlayed u21 x1.toNatClampNeg) + (1 : Int32)))) (vp_updL (mWts (nPlayed u21 (upd (mPlayed u21) x1.toNatClampNeg ((mPlayed u21 x1.toNatClampNeg) + (1 : Int32))))) x1.toNatClampNeg ((mWts (nPlayed u21 (upd (mPlayed u21) x1.toNatClampNeg ((mPlayed u21 x1.toNatClampNeg) + (1 : Int32)))) x1.toNatClampNeg) + (y22.toInt64 * r16.toInt64)))) _ _ _ hq hw hS (lv_sub hl [5, 6, 7, 4, 3, 2, 1, 0] rfl)
  · have hq := hq.2 hc
    refine lv_iconst (v := 0) hx hb dX9_sounds_61 (by decide) ?_
    exact mt_retz hx hb hr hlocks hw hS (Nat.le_of_ble_eq_true rfl) (Nat.le_of_ble_eq_true rfl) dX9_sounds_62 rfl ⟨_, rfl, Or.inl rfl, hq⟩
abbrev rmX9_play : Room := { frames := 4, cells := 0, slots := 0, locals := 95 }
theorem nmhX9_play : NoMH yX9_play 2 := by decide +kernel
def wX9_play_b123 (x1 : Int32) (x2 : Int32) (K38 : Int32 → Int32 → Int32 → MS → Prop) (Q : Int32 → MS → Prop) (v3 : Int32) (v4 : Int32) (v5 : Int32) (v6 : Int32) (v7 : Int32) (t0 : Int32) (t1 : Int32) (μ : MS) : Prop :=
    ∀ y62 : Int32, y62 = (t1 + t0) → (vp_in x1 8 ∧ (vp_in x1 8 ∧ (∀ y63 : Int32, y63 = v5 + 1 → (K38 y62 v4 y63 (nHeads μ (upd (mHeads μ) x1.toNatClampNeg ((mHeads μ x1.toNatClampNeg) + (1 : Int32))))))))
def wX9_play_b63 (x1 : Int32) (x2 : Int32) (K38 : Int32 → Int32 → Int32 → MS → Prop) (Q : Int32 → MS → Prop) : Nat → Int32 → Int32 → Int32 → Int32 → Int32 → MS → Prop
  | 0, _, _, _, _, _, _ => False
  | n + 1, v3, v4, v5, v6, v7, μ =>
    ((5 : Int32) ≤ v7 → ((¬ v4 = 0 → (wX9_sounds x1 v6 μ (fun r60 u61 => (r60 = 0 → wX9_play_b123 x1 x2 K38 Q v3 v4 v5 v6 v7 (0 : Int32) v3 u61) ∧ (¬ r60 = 0 → wX9_play_b123 x1 x2 K38 Q v3 v4 v5 v6 v7 (1 : Int32) v3 u61)))) ∧ (v4 = 0 → (∀ y64 : Int32, y64 = v5 + 1 → K38 v3 v4 y64 μ)))) ∧ (¬ (5 : Int32) ≤ v7 → ((¬ v4 = 0 → (∀ y65 : Int32, y65 = v7 + 1 → (wX9_play_b63 x1 x2 K38 Q n v3 (1 : Int32) v5 v6 y65 μ))) ∧ (v4 = 0 → (wX9_isThere x1 v7 v6 μ (fun r66 u67 => (r66 = 0 → (∀ y68 : Int32, y68 = v7 + 1 → (wX9_play_b63 x1 x2 K38 Q n v3 (0 : Int32) v5 v6 y68 u67))) ∧ (¬ r66 = 0 → (∀ y69 : Int32, y69 = v7 + 1 → (wX9_play_b63 x1 x2 K38 Q n v3 (1 : Int32) v5 v6 y69 u67))))))))
theorem wX9_play_b63_s (x1 : Int32) (x2 : Int32) (K38 : Int32 → Int32 → Int32 → MS → Prop) (Q : Int32 → MS → Prop) (n : Nat) (v3 : Int32) (v4 : Int32) (v5 : Int32) (v6 : Int32) (v7 : Int32) (μ : MS) : wX9_play_b63 x1 x2 K38 Q (n + 1) v3 v4 v5 v6 v7 μ = (
    ((5 : Int32) ≤ v7 → ((¬ v4 = 0 → (wX9_sounds x1 v6 μ (fun r60 u61 => (r60 = 0 → wX9_play_b123 x1 x2 K38 Q v3 v4 v5 v6 v7 (0 : Int32) v3 u61) ∧ (¬ r60 = 0 → wX9_play_b123 x1 x2 K38 Q v3 v4 v5 v6 v7 (1 : Int32) v3 u61)))) ∧ (v4 = 0 → (∀ y64 : Int32, y64 = v5 + 1 → K38 v3 v4 y64 μ)))) ∧ (¬ (5 : Int32) ≤ v7 → ((¬ v4 = 0 → (∀ y65 : Int32, y65 = v7 + 1 → (wX9_play_b63 x1 x2 K38 Q n v3 (1 : Int32) v5 v6 y65 μ))) ∧ (v4 = 0 → (wX9_isThere x1 v7 v6 μ (fun r66 u67 => (r66 = 0 → (∀ y68 : Int32, y68 = v7 + 1 → (wX9_play_b63 x1 x2 K38 Q n v3 (0 : Int32) v5 v6 y68 u67))) ∧ (¬ r66 = 0 → (∀ y69 : Int32, y69 = v7 + 1 → (wX9_play_b63 x1 x2 K38 Q n v3 (1 : Int32) v5 v6 y69 u67))))))))) := rfl
def wX9_play_b38 (x1 : Int32) (x2 : Int32) (Q : Int32 → MS → Prop) : Nat → Int32 → Int32 → Int32 → MS → Prop
  | 0, _, _, _, _ => False
  | n + 1, v3, v4, v5, μ =>
    (x2 ≤ v5 → wX9_told v3 μ (fun r55 u56 => Q r55 u56)) ∧ (¬ x2 ≤ v5 → ((v4 = 0 → wX9_told v3 μ (fun r57 u58 => Q r57 u58)) ∧ (¬ v4 = 0 → (vp_in x1 8 ∧ (∀ y59 : Int32, y59 = (mHeads μ x1.toNatClampNeg) → (∃ k63 : Nat, wX9_play_b63 x1 x2 (wX9_play_b38 x1 x2 Q n) Q k63 v3 (0 : Int32) v5 y59 (0 : Int32) μ))))))
theorem wX9_play_b38_s (x1 : Int32) (x2 : Int32) (Q : Int32 → MS → Prop) (n : Nat) (v3 : Int32) (v4 : Int32) (v5 : Int32) (μ : MS) : wX9_play_b38 x1 x2 Q (n + 1) v3 v4 v5 μ = (
    (x2 ≤ v5 → wX9_told v3 μ (fun r55 u56 => Q r55 u56)) ∧ (¬ x2 ≤ v5 → ((v4 = 0 → wX9_told v3 μ (fun r57 u58 => Q r57 u58)) ∧ (¬ v4 = 0 → (vp_in x1 8 ∧ (∀ y59 : Int32, y59 = (mHeads μ x1.toNatClampNeg) → (∃ k63 : Nat, wX9_play_b63 x1 x2 (wX9_play_b38 x1 x2 Q n) Q k63 v3 (0 : Int32) v5 y59 (0 : Int32) μ))))))) := rfl
def wX9_play (x1 : Int32) (x2 : Int32) (μ : MS) (Q : Int32 → MS → Prop) : Prop :=
    wX9_isDrum x1 μ (fun r51 u52 => (¬ r51 = 0 → (wX9_in x2 (0 : Int32) (20 : Int32) u52 (fun r53 u54 => (¬ r53 = 0 → (∃ k38 : Nat, wX9_play_b38 x1 x2 Q k38 (0 : Int32) (1 : Int32) (0 : Int32) u54)) ∧ (r53 = 0 → wX9_told (-4 : Int32) u54 (fun r70 u71 => Q r70 u71))))) ∧ (r51 = 0 → wX9_told (-1 : Int32) u52 (fun r72 u73 => Q r72 u73)))
set_option maxHeartbeats 4000000 in
set_option maxRecDepth 100000 in
theorem tX9_play (l : Launch) (D : va_G) (d : AC) (mp : Nat → Nat) (x1 : Int32) (x2 : Int32) (μ : MS) {Q : Int32 → MS → Prop} (hq : wX9_play x1 x2 μ Q) : MT D d (ΩM D d mp) l yX9_play (WS yX9_play cX9_play 8 (some (.int))) rmX9_play [.ref (mp 0), .int x1, .int x2] μ (qI Q) := by
  refine mt_of (ΩM.mono D d mp) (by decide +kernel) (Nat.le_of_ble_eq_true rfl) (fun p e s m below meth c A ls hx hb hr hml hown hts hlocks hnm hK hA hw hS hl => ?_)
  have hl : lv_has ls 8 [(0, .ref (mp 0)), (1, .int x1), (2, .int x2)] := hl
  have hown : s.vm.findClass RX9 = some m.cls := hown
  have b123 : ∀ (K38 : Int32 → Int32 → Int32 → MS → Prop) (hK38 : ∀ (v3 : Int32) (v4 : Int32) (v5 : Int32) (μ : MS) (H : Heap) (locs : List Loc) (ls : Array Slot), K38 v3 v4 v5 μ → (ΩM D d mp) A μ H → va_S A s.heap H locs → lv_has ls 8 [(0, .ref (mp 0)), (1, .int x1), (2, .int x2), (3, .int v3), (4, .int v4), (5, .int v5)] → W p l e rmX9_play s m [.ref (mp 0), .int x1, .int x2].toArray below meth c H locs 0 0 (MQ below (Qo (qI Q) (fun u' t => (ΩM D d mp) A u' t.heap) A) [.ref (mp 0), .int x1, .int x2].toArray s rmX9_play.cells rmX9_play.slots A) (F0 m 38 ls [])) (v3 : Int32) (v4 : Int32) (v5 : Int32) (v6 : Int32) (v7 : Int32) (t0 : Int32) (t1 : Int32) (μ : MS) (H : Heap) (locs : List Loc) (ls : Array Slot), wX9_play_b123 x1 x2 K38 Q v3 v4 v5 v6 v7 t0 t1 μ → (ΩM D d mp) A μ H → va_S A s.heap H locs → lv_has ls 8 [(0, .ref (mp 0)), (1, .int x1), (2, .int x2), (3, .int v3), (4, .int v4), (5, .int v5), (6, .int v6), (7, .int v7)] → W p l e rmX9_play s m [.ref (mp 0), .int x1, .int x2].toArray below meth c H locs 0 0 (MQ below (Qo (qI Q) (fun u' t => (ΩM D d mp) A u' t.heap) A) [.ref (mp 0), .int x1, .int x2].toArray s rmX9_play.cells rmX9_play.slots A) (F0 m 123 ls [.int t0, .int t1]) := by
    intro K38 hK38 v3 v4 v5 v6 v7 t0 t1 μ H locs ls hq hw hS hl
    unfold wX9_play_b123 at hq
    refine lv_iadd hx hb dX9_play_123 ?_
    refine lv_topi (fun y62 ey62 => ?_)
    have hq := hq y62 ey62
    refine lv_istore_n (lv' := [(3, .int y62), (0, .ref (mp 0)), (1, .int x1), (2, .int x2), (4, .int v4), (5, .int v5), (6, .int v6), (7, .int v7)]) hx hb dX9_play_124 rfl hl (by decide) rfl (fun ls hl => ?_)
    refine lv_aload_n hx hb dX9_play_125 rfl (lv_at hl 1 rfl) ?_
    refine va_get (D := D) (ci := 8) (v := .ref (mp 8)) (C := RX9) (T := TX9) (N := 15) hx hb hts inX9 hown hK.1 hw.1 0 rfl rfl 7 (by decide) (hts _ q_468) (fun _ h9 => h9) rfl dX9_play_126 ?_
    refine lv_iload_n hx hb dX9_play_129 rfl (lv_at hl 2 rfl) ?_
    refine lv_dup2_11 hx hb dX9_play_130 rfl rfl ?_
    refine va_iald hx hb hK.1 hw.1 8 8 rfl rfl hq.1 dX9_play_131 ?_
    have hq := hq.2
    refine lv_iconst (v := 1) hx hb dX9_play_132 (by decide) ?_
    refine lv_iadd hx hb dX9_play_133 ?_
    refine va_iast hx hb hK.1 hw.1 hw.2 hS 8 8 rfl rfl hq.1 dX9_play_134 (fun H locs hP hD hS => ?_)
    have hw : ΩM D d mp A (nHeads μ (upd (mHeads μ) x1.toNatClampNeg ((mHeads μ x1.toNatClampNeg) + (1 : Int32)))) H := ⟨hP, hD⟩
    have hq := hq.2
    obtain ⟨y63, ey63⟩ : ∃ z : Int32, z = v5 + 1 := ⟨_, rfl⟩
    have hq := hq y63 ey63
    refine lv_iinc (v := y63) (lv' := [(5, .int y63), (3, .int y62), (0, .ref (mp 0)), (1, .int x1), (2, .int x2), (4, .int v4), (6, .int v6), (7, .int v7)]) hx hb dX9_play_135 hl (k := 5) rfl (by rw [ey63]; rfl) (by decide) rfl (fun ls hl => ?_)
    refine lv_goto (tgt := 38) hx hb dX9_play_138 (by decide) ?_
    exact hK38 y62 v4 y63 (nHeads μ (upd (mHeads μ) x1.toNatClampNeg ((mHeads μ x1.toNatClampNeg) + (1 : Int32)))) _ _ _ hq hw hS (lv_sub hl [2, 3, 4, 1, 5, 0] rfl)
  have b63 : ∀ (K38 : Int32 → Int32 → Int32 → MS → Prop) (hK38 : ∀ (v3 : Int32) (v4 : Int32) (v5 : Int32) (μ : MS) (H : Heap) (locs : List Loc) (ls : Array Slot), K38 v3 v4 v5 μ → (ΩM D d mp) A μ H → va_S A s.heap H locs → lv_has ls 8 [(0, .ref (mp 0)), (1, .int x1), (2, .int x2), (3, .int v3), (4, .int v4), (5, .int v5)] → W p l e rmX9_play s m [.ref (mp 0), .int x1, .int x2].toArray below meth c H locs 0 0 (MQ below (Qo (qI Q) (fun u' t => (ΩM D d mp) A u' t.heap) A) [.ref (mp 0), .int x1, .int x2].toArray s rmX9_play.cells rmX9_play.slots A) (F0 m 38 ls [])) (n : Nat) (v3 : Int32) (v4 : Int32) (v5 : Int32) (v6 : Int32) (v7 : Int32) (μ : MS) (H : Heap) (locs : List Loc) (ls : Array Slot), wX9_play_b63 x1 x2 K38 Q n v3 v4 v5 v6 v7 μ → (ΩM D d mp) A μ H → va_S A s.heap H locs → lv_has ls 8 [(0, .ref (mp 0)), (1, .int x1), (2, .int x2), (3, .int v3), (4, .int v4), (5, .int v5), (6, .int v6), (7, .int v7)] → W p l e rmX9_play s m [.ref (mp 0), .int x1, .int x2].toArray below meth c H locs 0 0 (MQ below (Qo (qI Q) (fun u' t => (ΩM D d mp) A u' t.heap) A) [.ref (mp 0), .int x1, .int x2].toArray s rmX9_play.cells rmX9_play.slots A) (F0 m 63 ls []) := by
    intro K38 hK38 n
    induction n with
    | zero =>
      intro v3 v4 v5 v6 v7 μ H locs ls hq
      exact absurd hq id
    | succ n ih =>
      intro v3 v4 v5 v6 v7 μ H locs ls hq hw hS hl
      rw [wX9_play_b63_s] at hq
      refine lv_iload hx hb dX9_play_63 (lv_at hl 7 rfl) ?_
      refine lv_iconst (v := 5) hx hb dX9_play_65 (by decide) ?_
      refine lv_icmp_ge (tgt := 99) hx hb dX9_play_66 (by decide) (fun hc => ?_) (fun hc => ?_)
      · have hq := hq.1 hc
        refine lv_iload hx hb dX9_play_99 (lv_at hl 4 rfl) ?_
        refine lv_if_ne (tgt := 107) hx hb dX9_play_101 (by decide) (fun hc => ?_) (fun hc => ?_)
        · have hq := hq.1 hc
          refine lv_iload_n hx hb dX9_play_107 rfl (lv_at hl 3 rfl) ?_
          refine lv_aload_n hx hb dX9_play_108 rfl (lv_at hl 0 rfl) ?_
          refine lv_iload_n hx hb dX9_play_109 rfl (lv_at hl 1 rfl) ?_
          refine lv_iload hx hb dX9_play_110 (lv_at hl 6 rfl) ?_
          refine mt_callV (index := 124) hx hb hml hown hts hK (ΩM.mono D d mp) hA hw hS hl.1 (tX9_sounds l D d mp x1 v6 μ hq) (ΩM.recv hK hw) q_612 q_34 q_609 q_611 q_25 nmhX9_sounds ⟨⟨Nat.le_of_ble_eq_true rfl, Nat.le_of_ble_eq_true rfl⟩, ⟨Nat.le_of_ble_eq_true rfl, Nat.le_of_ble_eq_true rfl⟩⟩ rfl (Nat.le_of_ble_eq_true rfl) dX9_play_112 (fun _ u61 H locs hq hw hS => ?_)
          obtain ⟨r60, rfl, hzr60, hq⟩ := hq
          refine W.eq (g2 := F0 m 115 ls [.int r60, .int v3]) rfl ?_
          refine lv_if_eq (tgt := 122) hx hb dX9_play_115 (by decide) (fun hc => ?_) (fun hc => ?_)
          · have hq := hq.1 hc
            refine lv_iconst (v := 0) hx hb dX9_play_122 (by decide) ?_
            exact b123 K38 hK38 v3 v4 v5 v6 v7 (0 : Int32) v3 u61 _ _ _ hq hw hS (lv_sub hl [0, 1, 2, 3, 4, 5, 6, 7] rfl)
          · have hq := hq.2 hc
            refine lv_iconst (v := 1) hx hb dX9_play_118 (by decide) ?_
            refine lv_goto (tgt := 123) hx hb dX9_play_119 (by decide) ?_
            exact b123 K38 hK38 v3 v4 v5 v6 v7 (1 : Int32) v3 u61 _ _ _ hq hw hS (lv_sub hl [0, 1, 2, 3, 4, 5, 6, 7] rfl)
        · have hq := hq.2 hc
          refine lv_goto (tgt := 135) hx hb dX9_play_104 (by decide) ?_
          obtain ⟨y64, ey64⟩ : ∃ z : Int32, z = v5 + 1 := ⟨_, rfl⟩
          have hq := hq y64 ey64
          refine lv_iinc (v := y64) (lv' := [(5, .int y64), (0, .ref (mp 0)), (1, .int x1), (2, .int x2), (3, .int v3), (4, .int v4), (6, .int v6), (7, .int v7)]) hx hb dX9_play_135 hl (k := 5) rfl (by rw [ey64]; rfl) (by decide) rfl (fun ls hl => ?_)
          refine lv_goto (tgt := 38) hx hb dX9_play_138 (by decide) ?_
          exact hK38 v3 v4 y64 μ _ _ _ hq hw hS (lv_sub hl [1, 2, 3, 4, 5, 0] rfl)
      · have hq := hq.2 hc
        refine lv_iload hx hb dX9_play_69 (lv_at hl 4 rfl) ?_
        refine lv_if_ne (tgt := 86) hx hb dX9_play_71 (by decide) (fun hc => ?_) (fun hc => ?_)
        · have hq := hq.1 hc
          refine lv_iconst (v := 1) hx hb dX9_play_86 (by decide) ?_
          refine lv_goto (tgt := 91) hx hb dX9_play_87 (by decide) ?_
          refine lv_istore (lv' := [(4, .int (1 : Int32)), (0, .ref (mp 0)), (1, .int x1), (2, .int x2), (3, .int v3), (5, .int v5), (6, .int v6), (7, .int v7)]) hx hb dX9_play_91 hl (by decide) rfl (fun ls hl => ?_)
          obtain ⟨y65, ey65⟩ : ∃ z : Int32, z = v7 + 1 := ⟨_, rfl⟩
          have hq := hq y65 ey65
          refine lv_iinc (v := y65) (lv' := [(7, .int y65), (4, .int (1 : Int32)), (0, .ref (mp 0)), (1, .int x1), (2, .int x2), (3, .int v3), (5, .int v5), (6, .int v6)]) hx hb dX9_play_93 hl (k := 7) rfl (by rw [ey65]; rfl) (by decide) rfl (fun ls hl => ?_)
          refine lv_goto (tgt := 63) hx hb dX9_play_96 (by decide) ?_
          exact ih v3 (1 : Int32) v5 v6 y65 μ _ _ _ hq hw hS (lv_sub hl [2, 3, 4, 5, 1, 6, 7, 0] rfl)
        · have hq := hq.2 hc
          refine lv_aload_n hx hb dX9_play_74 rfl (lv_at hl 0 rfl) ?_
          refine lv_iload_n hx hb dX9_play_75 rfl (lv_at hl 1 rfl) ?_
          refine lv_iload hx hb dX9_play_76 (lv_at hl 7 rfl) ?_
          refine lv_iload hx hb dX9_play_78 (lv_at hl 6 rfl) ?_
          refine mt_callV (index := 117) hx hb hml hown hts hK (ΩM.mono D d mp) hA hw hS hl.1 (tX9_isThere l D d mp x1 v7 v6 μ hq) (ΩM.recv hK hw) q_608 q_34 q_605 q_607 q_24 nmhX9_isThere ⟨⟨Nat.le_of_ble_eq_true rfl, Nat.le_of_ble_eq_true rfl⟩, ⟨Nat.le_of_ble_eq_true rfl, Nat.le_of_ble_eq_true rfl⟩⟩ rfl (Nat.le_of_ble_eq_true rfl) dX9_play_80 (fun _ u67 H locs hq hw hS => ?_)
          obtain ⟨r66, rfl, hzr66, hq⟩ := hq
          refine W.eq (g2 := F0 m 83 ls [.int r66]) rfl ?_
          refine lv_if_eq (tgt := 90) hx hb dX9_play_83 (by decide) (fun hc => ?_) (fun hc => ?_)
          · have hq := hq.1 hc
            refine lv_iconst (v := 0) hx hb dX9_play_90 (by decide) ?_
            refine lv_istore (lv' := [(4, .int (0 : Int32)), (0, .ref (mp 0)), (1, .int x1), (2, .int x2), (3, .int v3), (5, .int v5), (6, .int v6), (7, .int v7)]) hx hb dX9_play_91 hl (by decide) rfl (fun ls hl => ?_)
            obtain ⟨y68, ey68⟩ : ∃ z : Int32, z = v7 + 1 := ⟨_, rfl⟩
            have hq := hq y68 ey68
            refine lv_iinc (v := y68) (lv' := [(7, .int y68), (4, .int (0 : Int32)), (0, .ref (mp 0)), (1, .int x1), (2, .int x2), (3, .int v3), (5, .int v5), (6, .int v6)]) hx hb dX9_play_93 hl (k := 7) rfl (by rw [ey68]; rfl) (by decide) rfl (fun ls hl => ?_)
            refine lv_goto (tgt := 63) hx hb dX9_play_96 (by decide) ?_
            exact ih v3 (0 : Int32) v5 v6 y68 u67 _ _ _ hq hw hS (lv_sub hl [2, 3, 4, 5, 1, 6, 7, 0] rfl)
          · have hq := hq.2 hc
            refine lv_iconst (v := 1) hx hb dX9_play_86 (by decide) ?_
            refine lv_goto (tgt := 91) hx hb dX9_play_87 (by decide) ?_
            refine lv_istore (lv' := [(4, .int (1 : Int32)), (0, .ref (mp 0)), (1, .int x1), (2, .int x2), (3, .int v3), (5, .int v5), (6, .int v6), (7, .int v7)]) hx hb dX9_play_91 hl (by decide) rfl (fun ls hl => ?_)
            obtain ⟨y69, ey69⟩ : ∃ z : Int32, z = v7 + 1 := ⟨_, rfl⟩
            have hq := hq y69 ey69
            refine lv_iinc (v := y69) (lv' := [(7, .int y69), (4, .int (1 : Int32)), (0, .ref (mp 0)), (1, .int x1), (2, .int x2), (3, .int v3), (5, .int v5), (6, .int v6)]) hx hb dX9_play_93 hl (k := 7) rfl (by rw [ey69]; rfl) (by decide) rfl (fun ls hl => ?_)
            refine lv_goto (tgt := 63) hx hb dX9_play_96 (by decide) ?_
            exact ih v3 (1 : Int32) v5 v6 y69 u67 _ _ _ hq hw hS (lv_sub hl [2, 3, 4, 5, 1, 6, 7, 0] rfl)
  have b38 : ∀ (n : Nat) (v3 : Int32) (v4 : Int32) (v5 : Int32) (μ : MS) (H : Heap) (locs : List Loc) (ls : Array Slot), wX9_play_b38 x1 x2 Q n v3 v4 v5 μ → (ΩM D d mp) A μ H → va_S A s.heap H locs → lv_has ls 8 [(0, .ref (mp 0)), (1, .int x1), (2, .int x2), (3, .int v3), (4, .int v4), (5, .int v5)] → W p l e rmX9_play s m [.ref (mp 0), .int x1, .int x2].toArray below meth c H locs 0 0 (MQ below (Qo (qI Q) (fun u' t => (ΩM D d mp) A u' t.heap) A) [.ref (mp 0), .int x1, .int x2].toArray s rmX9_play.cells rmX9_play.slots A) (F0 m 38 ls []) := by
    intro n
    induction n with
    | zero =>
      intro v3 v4 v5 μ H locs ls hq
      exact absurd hq id
    | succ n ih =>
      intro v3 v4 v5 μ H locs ls hq hw hS hl
      rw [wX9_play_b38_s] at hq
      refine lv_iload hx hb dX9_play_38 (lv_at hl 5 rfl) ?_
      refine lv_iload_n hx hb dX9_play_40 rfl (lv_at hl 2 rfl) ?_
      refine lv_icmp_ge (tgt := 141) hx hb dX9_play_41 (by decide) (fun hc => ?_) (fun hc => ?_)
      · have hq := hq.1 hc
        refine lv_aload_n hx hb dX9_play_141 rfl (lv_at hl 0 rfl) ?_
        refine lv_iload_n hx hb dX9_play_142 rfl (lv_at hl 3 rfl) ?_
        refine mt_callV (index := 96) hx hb hml hown hts hK (ΩM.mono D d mp) hA hw hS hl.1 (tX9_told l D d mp v3 μ hq) (ΩM.recv hK hw) q_525 q_34 q_522 q_524 q_17 nmhX9_told ⟨⟨Nat.le_of_ble_eq_true rfl, Nat.le_of_ble_eq_true rfl⟩, ⟨Nat.le_of_ble_eq_true rfl, Nat.le_of_ble_eq_true rfl⟩⟩ rfl (Nat.le_of_ble_eq_true rfl) dX9_play_143 (fun _ u56 H locs hq hw hS => ?_)
        obtain ⟨r55, rfl, hq⟩ := hq
        refine W.eq (g2 := F0 m 146 ls [.int r55]) rfl ?_
        exact mt_reti hx hb hr hlocks hw hS (Nat.le_of_ble_eq_true rfl) (Nat.le_of_ble_eq_true rfl) dX9_play_146 ⟨_, rfl, hq⟩
      · have hq := hq.2 hc
        refine lv_iload hx hb dX9_play_44 (lv_at hl 4 rfl) ?_
        refine lv_if_eq (tgt := 141) hx hb dX9_play_46 (by decide) (fun hc => ?_) (fun hc => ?_)
        · have hq := hq.1 hc
          refine lv_aload_n hx hb dX9_play_141 rfl (lv_at hl 0 rfl) ?_
          refine lv_iload_n hx hb dX9_play_142 rfl (lv_at hl 3 rfl) ?_
          refine mt_callV (index := 96) hx hb hml hown hts hK (ΩM.mono D d mp) hA hw hS hl.1 (tX9_told l D d mp v3 μ hq) (ΩM.recv hK hw) q_525 q_34 q_522 q_524 q_17 nmhX9_told ⟨⟨Nat.le_of_ble_eq_true rfl, Nat.le_of_ble_eq_true rfl⟩, ⟨Nat.le_of_ble_eq_true rfl, Nat.le_of_ble_eq_true rfl⟩⟩ rfl (Nat.le_of_ble_eq_true rfl) dX9_play_143 (fun _ u58 H locs hq hw hS => ?_)
          obtain ⟨r57, rfl, hq⟩ := hq
          refine W.eq (g2 := F0 m 146 ls [.int r57]) rfl ?_
          exact mt_reti hx hb hr hlocks hw hS (Nat.le_of_ble_eq_true rfl) (Nat.le_of_ble_eq_true rfl) dX9_play_146 ⟨_, rfl, hq⟩
        · have hq := hq.2 hc
          refine lv_aload_n hx hb dX9_play_49 rfl (lv_at hl 0 rfl) ?_
          refine va_get (D := D) (ci := 8) (v := .ref (mp 8)) (C := RX9) (T := TX9) (N := 15) hx hb hts inX9 hown hK.1 hw.1 0 rfl rfl 7 (by decide) (hts _ q_468) (fun _ h9 => h9) rfl dX9_play_50 ?_
          refine lv_iload_n hx hb dX9_play_53 rfl (lv_at hl 1 rfl) ?_
          refine va_iald hx hb hK.1 hw.1 8 8 rfl rfl hq.1 dX9_play_54 ?_
          have hq := hq.2
          refine lv_topi (fun y59 ey59 => ?_)
          have hq := hq y59 ey59
          refine lv_istore (lv' := [(6, .int y59), (0, .ref (mp 0)), (1, .int x1), (2, .int x2), (3, .int v3), (4, .int v4), (5, .int v5)]) hx hb dX9_play_55 hl (by decide) rfl (fun ls hl => ?_)
          refine lv_iconst (v := 0) hx hb dX9_play_57 (by decide) ?_
          refine lv_istore (lv' := [(4, .int (0 : Int32)), (6, .int y59), (0, .ref (mp 0)), (1, .int x1), (2, .int x2), (3, .int v3), (5, .int v5)]) hx hb dX9_play_58 hl (by decide) rfl (fun ls hl => ?_)
          refine lv_iconst (v := 0) hx hb dX9_play_60 (by decide) ?_
          refine lv_istore (lv' := [(7, .int (0 : Int32)), (4, .int (0 : Int32)), (6, .int y59), (0, .ref (mp 0)), (1, .int x1), (2, .int x2), (3, .int v3), (5, .int v5)]) hx hb dX9_play_61 hl (by decide) rfl (fun ls hl => ?_)
          obtain ⟨k63, hq⟩ := hq
          exact b63 (wX9_play_b38 x1 x2 Q n) ih k63 v3 (0 : Int32) v5 y59 (0 : Int32) μ _ _ _ hq hw hS (lv_sub hl [3, 4, 5, 6, 1, 7, 2, 0] rfl)
  unfold wX9_play at hq
  refine lv_iload_n hx hb dX9_play_0 rfl (lv_at hl 1 rfl) ?_
  refine mt_callS (index := 90) hx hb hml hown hts hK (ΩM.mono D d mp) hA hw hS hl.1 (tX9_isDrum l D d mp x1 μ hq) q_515 q_34 q_513 q_514 nmhX9_isDrum ⟨⟨Nat.le_of_ble_eq_true rfl, Nat.le_of_ble_eq_true rfl⟩, ⟨Nat.le_of_ble_eq_true rfl, Nat.le_of_ble_eq_true rfl⟩⟩ rfl (Nat.le_of_ble_eq_true rfl) dX9_play_1 (fun _ u52 H locs hq hw hS => ?_)
  obtain ⟨r51, rfl, hzr51, hq⟩ := hq
  refine W.eq (g2 := F0 m 4 ls [.int r51]) rfl ?_
  refine lv_if_ne (tgt := 13) hx hb dX9_play_4 (by decide) (fun hc => ?_) (fun hc => ?_)
  · have hq := hq.1 hc
    refine lv_iload_n hx hb dX9_play_13 rfl (lv_at hl 2 rfl) ?_
    refine lv_iconst (v := 0) hx hb dX9_play_14 (by decide) ?_
    refine lv_bipush (v := 20) hx hb dX9_play_15 (by decide) ?_
    refine mt_callS (index := 58) hx hb hml hown hts hK (ΩM.mono D d mp) hA hw hS hl.1 (tX9_in l D d mp x2 (0 : Int32) (20 : Int32) u52 hq) q_518 q_34 q_516 q_517 nmhX9_in ⟨⟨Nat.le_of_ble_eq_true rfl, Nat.le_of_ble_eq_true rfl⟩, ⟨Nat.le_of_ble_eq_true rfl, Nat.le_of_ble_eq_true rfl⟩⟩ rfl (Nat.le_of_ble_eq_true rfl) dX9_play_17 (fun _ u54 H locs hq hw hS => ?_)
    obtain ⟨r53, rfl, hzr53, hq⟩ := hq
    refine W.eq (g2 := F0 m 20 ls [.int r53]) rfl ?_
    refine lv_if_ne (tgt := 30) hx hb dX9_play_20 (by decide) (fun hc => ?_) (fun hc => ?_)
    · have hq := hq.1 hc
      refine lv_iconst (v := 0) hx hb dX9_play_30 (by decide) ?_
      refine lv_istore_n (lv' := [(3, .int (0 : Int32)), (0, .ref (mp 0)), (1, .int x1), (2, .int x2)]) hx hb dX9_play_31 rfl hl (by decide) rfl (fun ls hl => ?_)
      refine lv_iconst (v := 1) hx hb dX9_play_32 (by decide) ?_
      refine lv_istore (lv' := [(4, .int (1 : Int32)), (3, .int (0 : Int32)), (0, .ref (mp 0)), (1, .int x1), (2, .int x2)]) hx hb dX9_play_33 hl (by decide) rfl (fun ls hl => ?_)
      refine lv_iconst (v := 0) hx hb dX9_play_35 (by decide) ?_
      refine lv_istore (lv' := [(5, .int (0 : Int32)), (4, .int (1 : Int32)), (3, .int (0 : Int32)), (0, .ref (mp 0)), (1, .int x1), (2, .int x2)]) hx hb dX9_play_36 hl (by decide) rfl (fun ls hl => ?_)
      obtain ⟨k38, hq⟩ := hq
      exact b38 k38 (0 : Int32) (1 : Int32) (0 : Int32) u54 _ _ _ hq hw hS (lv_sub hl [3, 4, 5, 2, 1, 0] rfl)
    · have hq := hq.2 hc
      refine lv_aload_n hx hb dX9_play_23 rfl (lv_at hl 0 rfl) ?_
      refine lv_bipush (v := -4) hx hb dX9_play_24 (by decide) ?_
      refine mt_callV (index := 96) hx hb hml hown hts hK (ΩM.mono D d mp) hA hw hS hl.1 (tX9_told l D d mp (-4 : Int32) u54 hq) (ΩM.recv hK hw) q_525 q_34 q_522 q_524 q_17 nmhX9_told ⟨⟨Nat.le_of_ble_eq_true rfl, Nat.le_of_ble_eq_true rfl⟩, ⟨Nat.le_of_ble_eq_true rfl, Nat.le_of_ble_eq_true rfl⟩⟩ rfl (Nat.le_of_ble_eq_true rfl) dX9_play_26 (fun _ u71 H locs hq hw hS => ?_)
      obtain ⟨r70, rfl, hq⟩ := hq
      refine W.eq (g2 := F0 m 29 ls [.int r70]) rfl ?_
      exact mt_reti hx hb hr hlocks hw hS (Nat.le_of_ble_eq_true rfl) (Nat.le_of_ble_eq_true rfl) dX9_play_29 ⟨_, rfl, hq⟩
  · have hq := hq.2 hc
    refine lv_aload_n hx hb dX9_play_7 rfl (lv_at hl 0 rfl) ?_
    refine lv_iconst (v := -1) hx hb dX9_play_8 (by decide) ?_
    refine mt_callV (index := 96) hx hb hml hown hts hK (ΩM.mono D d mp) hA hw hS hl.1 (tX9_told l D d mp (-1 : Int32) u52 hq) (ΩM.recv hK hw) q_525 q_34 q_522 q_524 q_17 nmhX9_told ⟨⟨Nat.le_of_ble_eq_true rfl, Nat.le_of_ble_eq_true rfl⟩, ⟨Nat.le_of_ble_eq_true rfl, Nat.le_of_ble_eq_true rfl⟩⟩ rfl (Nat.le_of_ble_eq_true rfl) dX9_play_9 (fun _ u73 H locs hq hw hS => ?_)
    obtain ⟨r72, rfl, hq⟩ := hq
    refine W.eq (g2 := F0 m 12 ls [.int r72]) rfl ?_
    exact mt_reti hx hb hr hlocks hw hS (Nat.le_of_ble_eq_true rfl) (Nat.le_of_ble_eq_true rfl) dX9_play_12 ⟨_, rfl, hq⟩
abbrev rmX9_heard : Room := { frames := 2, cells := 0, slots := 0, locals := 42 }
theorem nmhX9_heard : NoMH yX9_heard 2 := by decide +kernel
def wX9_heard (x1 : Int32) (x2 : Int32) (μ : MS) (Q : Int64 → MS → Prop) : Prop :=
    wX9_isDrum x1 μ (fun r5 u6 => (r5 = 0 → (Q (0 : Int64) (nState u6 (-1 : Int32)))) ∧ (¬ r5 = 0 → (wX9_in x2 (0 : Int32) (6 : Int32) u6 (fun r7 u8 => (¬ r7 = 0 → ((x2.toInt < 0 ∨ 5 < x2.toInt → (vp_in x1 8 ∧ (Q ((mHeads (nState u8 (0 : Int32)) x1.toNatClampNeg).toInt64) (nState u8 (0 : Int32))))) ∧ (x2.toInt = 0 → (vp_in x1 8 ∧ (Q ((mNotes (nState u8 (0 : Int32)) x1.toNatClampNeg).toInt64) (nState u8 (0 : Int32))))) ∧ (x2.toInt = 1 → (vp_in x1 8 ∧ (Q ((mPlayed (nState u8 (0 : Int32)) x1.toNatClampNeg).toInt64) (nState u8 (0 : Int32))))) ∧ (x2.toInt = 2 → (vp_in x1 8 ∧ (Q ((mGaps (nState u8 (0 : Int32)) x1.toNatClampNeg).toInt64) (nState u8 (0 : Int32))))) ∧ (x2.toInt = 3 → (vp_in x1 8 ∧ (Q (mWts (nState u8 (0 : Int32)) x1.toNatClampNeg) (nState u8 (0 : Int32))))) ∧ (x2.toInt = 4 → (vp_in x1 8 ∧ ((¬ (mNotes (nState u8 (0 : Int32)) x1.toNatClampNeg) = 0 → (vp_in x1 8 ∧ (Q ((mHigh (nState u8 (0 : Int32)) x1.toNatClampNeg).toInt64) (nState u8 (0 : Int32))))) ∧ ((mNotes (nState u8 (0 : Int32)) x1.toNatClampNeg) = 0 → (Q (0 : Int64) (nState u8 (0 : Int32))))))) ∧ (x2.toInt = 5 → (vp_in x1 8 ∧ ((¬ (mNotes (nState u8 (0 : Int32)) x1.toNatClampNeg) = 0 → (vp_in x1 8 ∧ (Q ((mLoud (nState u8 (0 : Int32)) x1.toNatClampNeg).toInt64) (nState u8 (0 : Int32))))) ∧ ((mNotes (nState u8 (0 : Int32)) x1.toNatClampNeg) = 0 → (Q (0 : Int64) (nState u8 (0 : Int32))))))))) ∧ (r7 = 0 → (Q (0 : Int64) (nState u8 (-1 : Int32))))))))
set_option maxHeartbeats 4000000 in
set_option maxRecDepth 100000 in
theorem tX9_heard (l : Launch) (D : va_G) (d : AC) (mp : Nat → Nat) (x1 : Int32) (x2 : Int32) (μ : MS) {Q : Int64 → MS → Prop} (hq : wX9_heard x1 x2 μ Q) : MT D d (ΩM D d mp) l yX9_heard (WS yX9_heard cX9_heard 3 (some (.long))) rmX9_heard [.ref (mp 0), .int x1, .int x2] μ (qL Q) := by
  refine mt_of (ΩM.mono D d mp) (by decide +kernel) (Nat.le_of_ble_eq_true rfl) (fun p e s m below meth c A ls hx hb hr hml hown hts hlocks hnm hK hA hw hS hl => ?_)
  have hl : lv_has ls 3 [(0, .ref (mp 0)), (1, .int x1), (2, .int x2)] := hl
  have hown : s.vm.findClass RX9 = some m.cls := hown
  unfold wX9_heard at hq
  refine lv_iload_n hx hb dX9_heard_0 rfl (lv_at hl 1 rfl) ?_
  refine mt_callS (index := 90) hx hb hml hown hts hK (ΩM.mono D d mp) hA hw hS hl.1 (tX9_isDrum l D d mp x1 μ hq) q_515 q_34 q_513 q_514 nmhX9_isDrum ⟨⟨Nat.le_of_ble_eq_true rfl, Nat.le_of_ble_eq_true rfl⟩, ⟨Nat.le_of_ble_eq_true rfl, Nat.le_of_ble_eq_true rfl⟩⟩ rfl (Nat.le_of_ble_eq_true rfl) dX9_heard_1 (fun _ u6 H locs hq hw hS => ?_)
  obtain ⟨r5, rfl, hzr5, hq⟩ := hq
  refine W.eq (g2 := F0 m 4 ls [.int r5]) rfl ?_
  refine lv_if_eq (tgt := 17) hx hb dX9_heard_4 (by decide) (fun hc => ?_) (fun hc => ?_)
  · have hq := hq.1 hc
    refine lv_aload_n hx hb dX9_heard_17 rfl (lv_at hl 0 rfl) ?_
    refine lv_iconst (v := -1) hx hb dX9_heard_18 (by decide) ?_
    refine va_put (D := D) (ci := 8) (v := .int (-1 : Int32)) (ty := .int) (C := RX9) (T := TX9) (N := 15) hx hb hts inX9 tyX9 tyX9_ok nmX9 hown hK.1 hw.1 hw.2 hS 0 rfl rfl 14 (by decide) (hts _ q_475) (fun _ h9 => h9) rfl (by decide +kernel) rfl rfl (Nat.le_of_ble_eq_true rfl) dX9_heard_19 (fun H locs hP hD hS => ?_)
    have hw : ΩM D d mp A (nState u6 (-1 : Int32)) H := ⟨hP, hD⟩
    refine lv_lconst (v := 0) hx hb dX9_heard_22 (by decide) ?_
    exact mt_retl hx hb hr hlocks hw hS (Nat.le_of_ble_eq_true rfl) (Nat.le_of_ble_eq_true rfl) dX9_heard_23 ⟨_, rfl, hq⟩
  · have hq := hq.2 hc
    refine lv_iload_n hx hb dX9_heard_7 rfl (lv_at hl 2 rfl) ?_
    refine lv_iconst (v := 0) hx hb dX9_heard_8 (by decide) ?_
    refine lv_bipush (v := 6) hx hb dX9_heard_9 (by decide) ?_
    refine mt_callS (index := 58) hx hb hml hown hts hK (ΩM.mono D d mp) hA hw hS hl.1 (tX9_in l D d mp x2 (0 : Int32) (6 : Int32) u6 hq) q_518 q_34 q_516 q_517 nmhX9_in ⟨⟨Nat.le_of_ble_eq_true rfl, Nat.le_of_ble_eq_true rfl⟩, ⟨Nat.le_of_ble_eq_true rfl, Nat.le_of_ble_eq_true rfl⟩⟩ rfl (Nat.le_of_ble_eq_true rfl) dX9_heard_11 (fun _ u8 H locs hq hw hS => ?_)
    obtain ⟨r7, rfl, hzr7, hq⟩ := hq
    refine W.eq (g2 := F0 m 14 ls [.int r7]) rfl ?_
    refine lv_if_ne (tgt := 24) hx hb dX9_heard_14 (by decide) (fun hc => ?_) (fun hc => ?_)
    · have hq := hq.1 hc
      refine lv_aload_n hx hb dX9_heard_24 rfl (lv_at hl 0 rfl) ?_
      refine lv_iconst (v := 0) hx hb dX9_heard_25 (by decide) ?_
      refine va_put (D := D) (ci := 8) (v := .int (0 : Int32)) (ty := .int) (C := RX9) (T := TX9) (N := 15) hx hb hts inX9 tyX9 tyX9_ok nmX9 hown hK.1 hw.1 hw.2 hS 0 rfl rfl 14 (by decide) (hts _ q_475) (fun _ h9 => h9) rfl (by decide +kernel) rfl rfl (Nat.le_of_ble_eq_true rfl) dX9_heard_26 (fun H locs hP hD hS => ?_)
      have hw : ΩM D d mp A (nState u8 (0 : Int32)) H := ⟨hP, hD⟩
      refine lv_iload_n hx hb dX9_heard_29 rfl (lv_at hl 2 rfl) ?_
      rcases sw6 x2 with hc | hc | hc | hc | hc | hc | hc
      · have hq := hq.1 hc
        refine lv_tableOut (tgt := 141) hx hb dX9_heard_30 (by first | omega | exact hc) (by decide) ?_
        refine lv_aload_n hx hb dX9_heard_141 rfl (lv_at hl 0 rfl) ?_
        refine va_get (D := D) (ci := 8) (v := .ref (mp 8)) (C := RX9) (T := TX9) (N := 15) hx hb hts inX9 hown hK.1 hw.1 0 rfl rfl 7 (by decide) (hts _ q_468) (fun _ h9 => h9) rfl dX9_heard_142 ?_
        refine lv_iload_n hx hb dX9_heard_145 rfl (lv_at hl 1 rfl) ?_
        refine va_iald hx hb hK.1 hw.1 8 8 rfl rfl hq.1 dX9_heard_146 ?_
        have hq := hq.2
        refine lv_i2l hx hb dX9_heard_147 rfl ?_
        exact mt_retl hx hb hr hlocks hw hS (Nat.le_of_ble_eq_true rfl) (Nat.le_of_ble_eq_true rfl) dX9_heard_148 ⟨_, rfl, hq⟩
      · have hq := hq.2.1 hc
        refine lv_tableIn (tgt := 68) hx hb dX9_heard_30 (by rw [hc]; decide) (by rw [hc]; decide) (by rw [hc]; rfl) (by decide) ?_
        refine lv_aload_n hx hb dX9_heard_68 rfl (lv_at hl 0 rfl) ?_
        refine va_get (D := D) (ci := 8) (v := .ref (mp 9)) (C := RX9) (T := TX9) (N := 15) hx hb hts inX9 hown hK.1 hw.1 0 rfl rfl 8 (by decide) (hts _ q_469) (fun _ h9 => h9) rfl dX9_heard_69 ?_
        refine lv_iload_n hx hb dX9_heard_72 rfl (lv_at hl 1 rfl) ?_
        refine va_iald hx hb hK.1 hw.1 9 8 rfl rfl hq.1 dX9_heard_73 ?_
        have hq := hq.2
        refine lv_i2l hx hb dX9_heard_74 rfl ?_
        exact mt_retl hx hb hr hlocks hw hS (Nat.le_of_ble_eq_true rfl) (Nat.le_of_ble_eq_true rfl) dX9_heard_75 ⟨_, rfl, hq⟩
      · have hq := hq.2.2.1 hc
        refine lv_tableIn (tgt := 76) hx hb dX9_heard_30 (by rw [hc]; decide) (by rw [hc]; decide) (by rw [hc]; rfl) (by decide) ?_
        refine lv_aload_n hx hb dX9_heard_76 rfl (lv_at hl 0 rfl) ?_
        refine va_get (D := D) (ci := 8) (v := .ref (mp 10)) (C := RX9) (T := TX9) (N := 15) hx hb hts inX9 hown hK.1 hw.1 0 rfl rfl 9 (by decide) (hts _ q_470) (fun _ h9 => h9) rfl dX9_heard_77 ?_
        refine lv_iload_n hx hb dX9_heard_80 rfl (lv_at hl 1 rfl) ?_
        refine va_iald hx hb hK.1 hw.1 10 8 rfl rfl hq.1 dX9_heard_81 ?_
        have hq := hq.2
        refine lv_i2l hx hb dX9_heard_82 rfl ?_
        exact mt_retl hx hb hr hlocks hw hS (Nat.le_of_ble_eq_true rfl) (Nat.le_of_ble_eq_true rfl) dX9_heard_83 ⟨_, rfl, hq⟩
      · have hq := hq.2.2.2.1 hc
        refine lv_tableIn (tgt := 84) hx hb dX9_heard_30 (by rw [hc]; decide) (by rw [hc]; decide) (by rw [hc]; rfl) (by decide) ?_
        refine lv_aload_n hx hb dX9_heard_84 rfl (lv_at hl 0 rfl) ?_
        refine va_get (D := D) (ci := 8) (v := .ref (mp 11)) (C := RX9) (T := TX9) (N := 15) hx hb hts inX9 hown hK.1 hw.1 0 rfl rfl 10 (by decide) (hts _ q_471) (fun _ h9 => h9) rfl dX9_heard_85 ?_
        refine lv_iload_n hx hb dX9_heard_88 rfl (lv_at hl 1 rfl) ?_
        refine va_iald hx hb hK.1 hw.1 11 8 rfl rfl hq.1 dX9_heard_89 ?_
        have hq := hq.2
        refine lv_i2l hx hb dX9_heard_90 rfl ?_
        exact mt_retl hx hb hr hlocks hw hS (Nat.le_of_ble_eq_true rfl) (Nat.le_of_ble_eq_true rfl) dX9_heard_91 ⟨_, rfl, hq⟩
      · have hq := hq.2.2.2.2.1 hc
        refine lv_tableIn (tgt := 92) hx hb dX9_heard_30 (by rw [hc]; decide) (by rw [hc]; decide) (by rw [hc]; rfl) (by decide) ?_
        refine lv_aload_n hx hb dX9_heard_92 rfl (lv_at hl 0 rfl) ?_
        refine va_get (D := D) (ci := 8) (v := .ref (mp 12)) (C := RX9) (T := TX9) (N := 15) hx hb hts inX9 hown hK.1 hw.1 0 rfl rfl 11 (by decide) (hts _ q_472) (fun _ h9 => h9) rfl dX9_heard_93 ?_
        refine lv_iload_n hx hb dX9_heard_96 rfl (lv_at hl 1 rfl) ?_
        refine va_lald hx hb hK.1 hw.1 12 9 rfl rfl hq.1 dX9_heard_97 ?_
        have hq := hq.2
        exact mt_retl hx hb hr hlocks hw hS (Nat.le_of_ble_eq_true rfl) (Nat.le_of_ble_eq_true rfl) dX9_heard_98 ⟨_, rfl, hq⟩
      · have hq := hq.2.2.2.2.2.1 hc
        refine lv_tableIn (tgt := 99) hx hb dX9_heard_30 (by rw [hc]; decide) (by rw [hc]; decide) (by rw [hc]; rfl) (by decide) ?_
        refine lv_aload_n hx hb dX9_heard_99 rfl (lv_at hl 0 rfl) ?_
        refine va_get (D := D) (ci := 8) (v := .ref (mp 9)) (C := RX9) (T := TX9) (N := 15) hx hb hts inX9 hown hK.1 hw.1 0 rfl rfl 8 (by decide) (hts _ q_469) (fun _ h9 => h9) rfl dX9_heard_100 ?_
        refine lv_iload_n hx hb dX9_heard_103 rfl (lv_at hl 1 rfl) ?_
        refine va_iald hx hb hK.1 hw.1 9 8 rfl rfl hq.1 dX9_heard_104 ?_
        have hq := hq.2
        refine lv_if_ne (tgt := 112) hx hb dX9_heard_105 (by decide) (fun hc => ?_) (fun hc => ?_)
        · have hq := hq.1 hc
          refine lv_aload_n hx hb dX9_heard_112 rfl (lv_at hl 0 rfl) ?_
          refine va_get (D := D) (ci := 8) (v := .ref (mp 13)) (C := RX9) (T := TX9) (N := 15) hx hb hts inX9 hown hK.1 hw.1 0 rfl rfl 12 (by decide) (hts _ q_473) (fun _ h9 => h9) rfl dX9_heard_113 ?_
          refine lv_iload_n hx hb dX9_heard_116 rfl (lv_at hl 1 rfl) ?_
          refine va_iald hx hb hK.1 hw.1 13 8 rfl rfl hq.1 dX9_heard_117 ?_
          have hq := hq.2
          refine lv_i2l hx hb dX9_heard_118 rfl ?_
          exact mt_retl hx hb hr hlocks hw hS (Nat.le_of_ble_eq_true rfl) (Nat.le_of_ble_eq_true rfl) dX9_heard_119 ⟨_, rfl, hq⟩
        · have hq := hq.2 hc
          refine lv_lconst (v := 0) hx hb dX9_heard_108 (by decide) ?_
          refine lv_goto (tgt := 119) hx hb dX9_heard_109 (by decide) ?_
          exact mt_retl hx hb hr hlocks hw hS (Nat.le_of_ble_eq_true rfl) (Nat.le_of_ble_eq_true rfl) dX9_heard_119 ⟨_, rfl, hq⟩
      · have hq := hq.2.2.2.2.2.2 hc
        refine lv_tableIn (tgt := 120) hx hb dX9_heard_30 (by rw [hc]; decide) (by rw [hc]; decide) (by rw [hc]; rfl) (by decide) ?_
        refine lv_aload_n hx hb dX9_heard_120 rfl (lv_at hl 0 rfl) ?_
        refine va_get (D := D) (ci := 8) (v := .ref (mp 9)) (C := RX9) (T := TX9) (N := 15) hx hb hts inX9 hown hK.1 hw.1 0 rfl rfl 8 (by decide) (hts _ q_469) (fun _ h9 => h9) rfl dX9_heard_121 ?_
        refine lv_iload_n hx hb dX9_heard_124 rfl (lv_at hl 1 rfl) ?_
        refine va_iald hx hb hK.1 hw.1 9 8 rfl rfl hq.1 dX9_heard_125 ?_
        have hq := hq.2
        refine lv_if_ne (tgt := 133) hx hb dX9_heard_126 (by decide) (fun hc => ?_) (fun hc => ?_)
        · have hq := hq.1 hc
          refine lv_aload_n hx hb dX9_heard_133 rfl (lv_at hl 0 rfl) ?_
          refine va_get (D := D) (ci := 8) (v := .ref (mp 14)) (C := RX9) (T := TX9) (N := 15) hx hb hts inX9 hown hK.1 hw.1 0 rfl rfl 13 (by decide) (hts _ q_474) (fun _ h9 => h9) rfl dX9_heard_134 ?_
          refine lv_iload_n hx hb dX9_heard_137 rfl (lv_at hl 1 rfl) ?_
          refine va_iald hx hb hK.1 hw.1 14 8 rfl rfl hq.1 dX9_heard_138 ?_
          have hq := hq.2
          refine lv_i2l hx hb dX9_heard_139 rfl ?_
          exact mt_retl hx hb hr hlocks hw hS (Nat.le_of_ble_eq_true rfl) (Nat.le_of_ble_eq_true rfl) dX9_heard_140 ⟨_, rfl, hq⟩
        · have hq := hq.2 hc
          refine lv_lconst (v := 0) hx hb dX9_heard_129 (by decide) ?_
          refine lv_goto (tgt := 140) hx hb dX9_heard_130 (by decide) ?_
          exact mt_retl hx hb hr hlocks hw hS (Nat.le_of_ble_eq_true rfl) (Nat.le_of_ble_eq_true rfl) dX9_heard_140 ⟨_, rfl, hq⟩
    · have hq := hq.2 hc
      refine lv_aload_n hx hb dX9_heard_17 rfl (lv_at hl 0 rfl) ?_
      refine lv_iconst (v := -1) hx hb dX9_heard_18 (by decide) ?_
      refine va_put (D := D) (ci := 8) (v := .int (-1 : Int32)) (ty := .int) (C := RX9) (T := TX9) (N := 15) hx hb hts inX9 tyX9 tyX9_ok nmX9 hown hK.1 hw.1 hw.2 hS 0 rfl rfl 14 (by decide) (hts _ q_475) (fun _ h9 => h9) rfl (by decide +kernel) rfl rfl (Nat.le_of_ble_eq_true rfl) dX9_heard_19 (fun H locs hP hD hS => ?_)
      have hw : ΩM D d mp A (nState u8 (-1 : Int32)) H := ⟨hP, hD⟩
      refine lv_lconst (v := 0) hx hb dX9_heard_22 (by decide) ?_
      exact mt_retl hx hb hr hlocks hw hS (Nat.le_of_ble_eq_true rfl) (Nat.le_of_ble_eq_true rfl) dX9_heard_23 ⟨_, rfl, hq⟩
abbrev rmX9_quiet : Room := { frames := 2, cells := 0, slots := 0, locals := 42 }
theorem nmhX9_quiet : NoMH yX9_quiet 1 := by decide +kernel
def wX9_quiet (x1 : Int32) (μ : MS) (Q : Int32 → MS → Prop) : Prop :=
    wX9_isDrum x1 μ (fun r8 u9 => (¬ r8 = 0 → (vp_in x1 8 ∧ (∀ y10 : Int32, y10 = (mNotes u9 x1.toNatClampNeg) → (vp_in x1 8 ∧ (vp_in x1 8 ∧ (vp_in x1 8 ∧ (vp_in x1 8 ∧ (wX9_told y10 (nWts (nGaps (nPlayed (nNotes u9 (upd (mNotes u9) x1.toNatClampNeg (0 : Int32))) (upd (mPlayed (nNotes u9 (upd (mNotes u9) x1.toNatClampNeg (0 : Int32)))) x1.toNatClampNeg (0 : Int32))) (upd (mGaps (nPlayed (nNotes u9 (upd (mNotes u9) x1.toNatClampNeg (0 : Int32))) (upd (mPlayed (nNotes u9 (upd (mNotes u9) x1.toNatClampNeg (0 : Int32)))) x1.toNatClampNeg (0 : Int32)))) x1.toNatClampNeg (0 : Int32))) (vp_updL (mWts (nGaps (nPlayed (nNotes u9 (upd (mNotes u9) x1.toNatClampNeg (0 : Int32))) (upd (mPlayed (nNotes u9 (upd (mNotes u9) x1.toNatClampNeg (0 : Int32)))) x1.toNatClampNeg (0 : Int32))) (upd (mGaps (nPlayed (nNotes u9 (upd (mNotes u9) x1.toNatClampNeg (0 : Int32))) (upd (mPlayed (nNotes u9 (upd (mNotes u9) x1.toNatClampNeg (0 : Int32)))) x1.toNatClampNeg (0 : Int32)))) x1.toNatClampNeg (0 : Int32)))) x1.toNatClampNeg (0 : Int64))) (fun r11 u12 => Q r11 u12))))))))) ∧ (r8 = 0 → wX9_told (-1 : Int32) u9 (fun r13 u14 => Q r13 u14)))
set_option maxHeartbeats 4000000 in
set_option maxRecDepth 100000 in
theorem tX9_quiet (l : Launch) (D : va_G) (d : AC) (mp : Nat → Nat) (x1 : Int32) (μ : MS) {Q : Int32 → MS → Prop} (hq : wX9_quiet x1 μ Q) : MT D d (ΩM D d mp) l yX9_quiet (WS yX9_quiet cX9_quiet 3 (some (.int))) rmX9_quiet [.ref (mp 0), .int x1] μ (qI Q) := by
  refine mt_of (ΩM.mono D d mp) (by decide +kernel) (Nat.le_of_ble_eq_true rfl) (fun p e s m below meth c A ls hx hb hr hml hown hts hlocks hnm hK hA hw hS hl => ?_)
  have hl : lv_has ls 3 [(0, .ref (mp 0)), (1, .int x1)] := hl
  have hown : s.vm.findClass RX9 = some m.cls := hown
  unfold wX9_quiet at hq
  refine lv_iload_n hx hb dX9_quiet_0 rfl (lv_at hl 1 rfl) ?_
  refine mt_callS (index := 90) hx hb hml hown hts hK (ΩM.mono D d mp) hA hw hS hl.1 (tX9_isDrum l D d mp x1 μ hq) q_515 q_34 q_513 q_514 nmhX9_isDrum ⟨⟨Nat.le_of_ble_eq_true rfl, Nat.le_of_ble_eq_true rfl⟩, ⟨Nat.le_of_ble_eq_true rfl, Nat.le_of_ble_eq_true rfl⟩⟩ rfl (Nat.le_of_ble_eq_true rfl) dX9_quiet_1 (fun _ u9 H locs hq hw hS => ?_)
  obtain ⟨r8, rfl, hzr8, hq⟩ := hq
  refine W.eq (g2 := F0 m 4 ls [.int r8]) rfl ?_
  refine lv_if_ne (tgt := 13) hx hb dX9_quiet_4 (by decide) (fun hc => ?_) (fun hc => ?_)
  · have hq := hq.1 hc
    refine lv_aload_n hx hb dX9_quiet_13 rfl (lv_at hl 0 rfl) ?_
    refine va_get (D := D) (ci := 8) (v := .ref (mp 9)) (C := RX9) (T := TX9) (N := 15) hx hb hts inX9 hown hK.1 hw.1 0 rfl rfl 8 (by decide) (hts _ q_469) (fun _ h9 => h9) rfl dX9_quiet_14 ?_
    refine lv_iload_n hx hb dX9_quiet_17 rfl (lv_at hl 1 rfl) ?_
    refine va_iald hx hb hK.1 hw.1 9 8 rfl rfl hq.1 dX9_quiet_18 ?_
    have hq := hq.2
    refine lv_topi (fun y10 ey10 => ?_)
    have hq := hq y10 ey10
    refine lv_istore_n (lv' := [(2, .int y10), (0, .ref (mp 0)), (1, .int x1)]) hx hb dX9_quiet_19 rfl hl (by decide) rfl (fun ls hl => ?_)
    refine lv_aload_n hx hb dX9_quiet_20 rfl (lv_at hl 1 rfl) ?_
    refine va_get (D := D) (ci := 8) (v := .ref (mp 9)) (C := RX9) (T := TX9) (N := 15) hx hb hts inX9 hown hK.1 hw.1 0 rfl rfl 8 (by decide) (hts _ q_469) (fun _ h9 => h9) rfl dX9_quiet_21 ?_
    refine lv_iload_n hx hb dX9_quiet_24 rfl (lv_at hl 2 rfl) ?_
    refine lv_iconst (v := 0) hx hb dX9_quiet_25 (by decide) ?_
    refine va_iast hx hb hK.1 hw.1 hw.2 hS 9 8 rfl rfl hq.1 dX9_quiet_26 (fun H locs hP hD hS => ?_)
    have hw : ΩM D d mp A (nNotes u9 (upd (mNotes u9) x1.toNatClampNeg (0 : Int32))) H := ⟨hP, hD⟩
    have hq := hq.2
    refine lv_aload_n hx hb dX9_quiet_27 rfl (lv_at hl 1 rfl) ?_
    refine va_get (D := D) (ci := 8) (v := .ref (mp 10)) (C := RX9) (T := TX9) (N := 15) hx hb hts inX9 hown hK.1 hw.1 0 rfl rfl 9 (by decide) (hts _ q_470) (fun _ h9 => h9) rfl dX9_quiet_28 ?_
    refine lv_iload_n hx hb dX9_quiet_31 rfl (lv_at hl 2 rfl) ?_
    refine lv_iconst (v := 0) hx hb dX9_quiet_32 (by decide) ?_
    refine va_iast hx hb hK.1 hw.1 hw.2 hS 10 8 rfl rfl hq.1 dX9_quiet_33 (fun H locs hP hD hS => ?_)
    have hw : ΩM D d mp A (nPlayed (nNotes u9 (upd (mNotes u9) x1.toNatClampNeg (0 : Int32))) (upd (mPlayed (nNotes u9 (upd (mNotes u9) x1.toNatClampNeg (0 : Int32)))) x1.toNatClampNeg (0 : Int32))) H := ⟨hP, hD⟩
    have hq := hq.2
    refine lv_aload_n hx hb dX9_quiet_34 rfl (lv_at hl 1 rfl) ?_
    refine va_get (D := D) (ci := 8) (v := .ref (mp 11)) (C := RX9) (T := TX9) (N := 15) hx hb hts inX9 hown hK.1 hw.1 0 rfl rfl 10 (by decide) (hts _ q_471) (fun _ h9 => h9) rfl dX9_quiet_35 ?_
    refine lv_iload_n hx hb dX9_quiet_38 rfl (lv_at hl 2 rfl) ?_
    refine lv_iconst (v := 0) hx hb dX9_quiet_39 (by decide) ?_
    refine va_iast hx hb hK.1 hw.1 hw.2 hS 11 8 rfl rfl hq.1 dX9_quiet_40 (fun H locs hP hD hS => ?_)
    have hw : ΩM D d mp A (nGaps (nPlayed (nNotes u9 (upd (mNotes u9) x1.toNatClampNeg (0 : Int32))) (upd (mPlayed (nNotes u9 (upd (mNotes u9) x1.toNatClampNeg (0 : Int32)))) x1.toNatClampNeg (0 : Int32))) (upd (mGaps (nPlayed (nNotes u9 (upd (mNotes u9) x1.toNatClampNeg (0 : Int32))) (upd (mPlayed (nNotes u9 (upd (mNotes u9) x1.toNatClampNeg (0 : Int32)))) x1.toNatClampNeg (0 : Int32)))) x1.toNatClampNeg (0 : Int32))) H := ⟨hP, hD⟩
    have hq := hq.2
    refine lv_aload_n hx hb dX9_quiet_41 rfl (lv_at hl 1 rfl) ?_
    refine va_get (D := D) (ci := 8) (v := .ref (mp 12)) (C := RX9) (T := TX9) (N := 15) hx hb hts inX9 hown hK.1 hw.1 0 rfl rfl 11 (by decide) (hts _ q_472) (fun _ h9 => h9) rfl dX9_quiet_42 ?_
    refine lv_iload_n hx hb dX9_quiet_45 rfl (lv_at hl 2 rfl) ?_
    refine lv_lconst (v := 0) hx hb dX9_quiet_46 (by decide) ?_
    refine va_last hx hb hK.1 hw.1 hw.2 hS 12 9 rfl rfl hq.1 dX9_quiet_47 (fun H locs hP hD hS => ?_)
    have hw : ΩM D d mp A (nWts (nGaps (nPlayed (nNotes u9 (upd (mNotes u9) x1.toNatClampNeg (0 : Int32))) (upd (mPlayed (nNotes u9 (upd (mNotes u9) x1.toNatClampNeg (0 : Int32)))) x1.toNatClampNeg (0 : Int32))) (upd (mGaps (nPlayed (nNotes u9 (upd (mNotes u9) x1.toNatClampNeg (0 : Int32))) (upd (mPlayed (nNotes u9 (upd (mNotes u9) x1.toNatClampNeg (0 : Int32)))) x1.toNatClampNeg (0 : Int32)))) x1.toNatClampNeg (0 : Int32))) (vp_updL (mWts (nGaps (nPlayed (nNotes u9 (upd (mNotes u9) x1.toNatClampNeg (0 : Int32))) (upd (mPlayed (nNotes u9 (upd (mNotes u9) x1.toNatClampNeg (0 : Int32)))) x1.toNatClampNeg (0 : Int32))) (upd (mGaps (nPlayed (nNotes u9 (upd (mNotes u9) x1.toNatClampNeg (0 : Int32))) (upd (mPlayed (nNotes u9 (upd (mNotes u9) x1.toNatClampNeg (0 : Int32)))) x1.toNatClampNeg (0 : Int32)))) x1.toNatClampNeg (0 : Int32)))) x1.toNatClampNeg (0 : Int64))) H := ⟨hP, hD⟩
    have hq := hq.2
    refine lv_aload_n hx hb dX9_quiet_48 rfl (lv_at hl 1 rfl) ?_
    refine lv_iload_n hx hb dX9_quiet_49 rfl (lv_at hl 0 rfl) ?_
    refine mt_callV (index := 96) hx hb hml hown hts hK (ΩM.mono D d mp) hA hw hS hl.1 (tX9_told l D d mp y10 (nWts (nGaps (nPlayed (nNotes u9 (upd (mNotes u9) x1.toNatClampNeg (0 : Int32))) (upd (mPlayed (nNotes u9 (upd (mNotes u9) x1.toNatClampNeg (0 : Int32)))) x1.toNatClampNeg (0 : Int32))) (upd (mGaps (nPlayed (nNotes u9 (upd (mNotes u9) x1.toNatClampNeg (0 : Int32))) (upd (mPlayed (nNotes u9 (upd (mNotes u9) x1.toNatClampNeg (0 : Int32)))) x1.toNatClampNeg (0 : Int32)))) x1.toNatClampNeg (0 : Int32))) (vp_updL (mWts (nGaps (nPlayed (nNotes u9 (upd (mNotes u9) x1.toNatClampNeg (0 : Int32))) (upd (mPlayed (nNotes u9 (upd (mNotes u9) x1.toNatClampNeg (0 : Int32)))) x1.toNatClampNeg (0 : Int32))) (upd (mGaps (nPlayed (nNotes u9 (upd (mNotes u9) x1.toNatClampNeg (0 : Int32))) (upd (mPlayed (nNotes u9 (upd (mNotes u9) x1.toNatClampNeg (0 : Int32)))) x1.toNatClampNeg (0 : Int32)))) x1.toNatClampNeg (0 : Int32)))) x1.toNatClampNeg (0 : Int64))) hq) (ΩM.recv hK hw) q_525 q_34 q_522 q_524 q_17 nmhX9_told ⟨⟨Nat.le_of_ble_eq_true rfl, Nat.le_of_ble_eq_true rfl⟩, ⟨Nat.le_of_ble_eq_true rfl, Nat.le_of_ble_eq_true rfl⟩⟩ rfl (Nat.le_of_ble_eq_true rfl) dX9_quiet_50 (fun _ u12 H locs hq hw hS => ?_)
    obtain ⟨r11, rfl, hq⟩ := hq
    refine W.eq (g2 := F0 m 53 ls [.int r11]) rfl ?_
    exact mt_reti hx hb hr hlocks hw hS (Nat.le_of_ble_eq_true rfl) (Nat.le_of_ble_eq_true rfl) dX9_quiet_53 ⟨_, rfl, hq⟩
  · have hq := hq.2 hc
    refine lv_aload_n hx hb dX9_quiet_7 rfl (lv_at hl 0 rfl) ?_
    refine lv_iconst (v := -1) hx hb dX9_quiet_8 (by decide) ?_
    refine mt_callV (index := 96) hx hb hml hown hts hK (ΩM.mono D d mp) hA hw hS hl.1 (tX9_told l D d mp (-1 : Int32) u9 hq) (ΩM.recv hK hw) q_525 q_34 q_522 q_524 q_17 nmhX9_told ⟨⟨Nat.le_of_ble_eq_true rfl, Nat.le_of_ble_eq_true rfl⟩, ⟨Nat.le_of_ble_eq_true rfl, Nat.le_of_ble_eq_true rfl⟩⟩ rfl (Nat.le_of_ble_eq_true rfl) dX9_quiet_9 (fun _ u14 H locs hq hw hS => ?_)
    obtain ⟨r13, rfl, hq⟩ := hq
    refine W.eq (g2 := F0 m 12 ls [.int r13]) rfl ?_
    exact mt_reti hx hb hr hlocks hw hS (Nat.le_of_ble_eq_true rfl) (Nat.le_of_ble_eq_true rfl) dX9_quiet_12 ⟨_, rfl, hq⟩
end
section
abbrev rmX9_empties : Room := { frames := 1, cells := 0, slots := 0, locals := 24 }
theorem nmhX9_empties : NoMH yX9_empties 1 := by decide +kernel
def wX9_empties_b9 (x1 : Int32) (Q : Int32 → MS → Prop) : Nat → Int32 → Int32 → MS → Prop
  | 0, _, _, _ => False
  | n + 1, v2, v3, μ =>
    (v2 ≤ v3 → (vp_in x1 4 ∧ (vp_in x1 4 ∧ (Q v2 (nCK (nCT μ (upd (mCT μ) x1.toNatClampNeg (0 : Int32))) (upd (mCK (nCT μ (upd (mCT μ) x1.toNatClampNeg (0 : Int32)))) x1.toNatClampNeg (-1 : Int32))))))) ∧ (¬ v2 ≤ v3 → (wX9_toothGets x1 v3 (-1 : Int32) μ (fun u10 => ∀ y11 : Int32, y11 = v3 + 1 → (wX9_empties_b9 x1 Q n v2 y11 u10))))
theorem wX9_empties_b9_s (x1 : Int32) (Q : Int32 → MS → Prop) (n : Nat) (v2 : Int32) (v3 : Int32) (μ : MS) : wX9_empties_b9 x1 Q (n + 1) v2 v3 μ = (
    (v2 ≤ v3 → (vp_in x1 4 ∧ (vp_in x1 4 ∧ (Q v2 (nCK (nCT μ (upd (mCT μ) x1.toNatClampNeg (0 : Int32))) (upd (mCK (nCT μ (upd (mCT μ) x1.toNatClampNeg (0 : Int32)))) x1.toNatClampNeg (-1 : Int32))))))) ∧ (¬ v2 ≤ v3 → (wX9_toothGets x1 v3 (-1 : Int32) μ (fun u10 => ∀ y11 : Int32, y11 = v3 + 1 → (wX9_empties_b9 x1 Q n v2 y11 u10))))) := rfl
def wX9_empties (x1 : Int32) (μ : MS) (Q : Int32 → MS → Prop) : Prop :=
    vp_in x1 4 ∧ (∀ y8 : Int32, y8 = (mCT μ x1.toNatClampNeg) → (∃ k9 : Nat, wX9_empties_b9 x1 Q k9 y8 (0 : Int32) μ))
set_option maxHeartbeats 4000000 in
set_option maxRecDepth 100000 in
theorem tX9_empties (l : Launch) (D : va_G) (d : AC) (mp : Nat → Nat) (x1 : Int32) (μ : MS) {Q : Int32 → MS → Prop} (hq : wX9_empties x1 μ Q) : MT D d (ΩM D d mp) l yX9_empties (WS yX9_empties cX9_empties 4 (some (.int))) rmX9_empties [.ref (mp 0), .int x1] μ (qI Q) := by
  refine mt_of (ΩM.mono D d mp) (by decide +kernel) (Nat.le_of_ble_eq_true rfl) (fun p e s m below meth c A ls hx hb hr hml hown hts hlocks hnm hK hA hw hS hl => ?_)
  have hl : lv_has ls 4 [(0, .ref (mp 0)), (1, .int x1)] := hl
  have hown : s.vm.findClass RX9 = some m.cls := hown
  have b9 : ∀ (n : Nat) (v2 : Int32) (v3 : Int32) (μ : MS) (H : Heap) (locs : List Loc) (ls : Array Slot), wX9_empties_b9 x1 Q n v2 v3 μ → (ΩM D d mp) A μ H → va_S A s.heap H locs → lv_has ls 4 [(0, .ref (mp 0)), (1, .int x1), (2, .int v2), (3, .int v3)] → W p l e rmX9_empties s m [.ref (mp 0), .int x1].toArray below meth c H locs 0 0 (MQ below (Qo (qI Q) (fun u' t => (ΩM D d mp) A u' t.heap) A) [.ref (mp 0), .int x1].toArray s rmX9_empties.cells rmX9_empties.slots A) (F0 m 9 ls []) := by
    intro n
    induction n with
    | zero =>
      intro v2 v3 μ H locs ls hq
      exact absurd hq id
    | succ n ih =>
      intro v2 v3 μ H locs ls hq hw hS hl
      rw [wX9_empties_b9_s] at hq
      refine lv_iload_n hx hb dX9_empties_9 rfl (lv_at hl 3 rfl) ?_
      refine lv_iload_n hx hb dX9_empties_10 rfl (lv_at hl 2 rfl) ?_
      refine lv_icmp_ge (tgt := 27) hx hb dX9_empties_11 (by decide) (fun hc => ?_) (fun hc => ?_)
      · have hq := hq.1 hc
        refine lv_aload_n hx hb dX9_empties_27 rfl (lv_at hl 0 rfl) ?_
        refine va_get (D := D) (ci := 8) (v := .ref (mp 7)) (C := RX9) (T := TX9) (N := 15) hx hb hts inX9 hown hK.1 hw.1 0 rfl rfl 6 (by decide) (hts _ q_467) (fun _ h9 => h9) rfl dX9_empties_28 ?_
        refine lv_iload_n hx hb dX9_empties_31 rfl (lv_at hl 1 rfl) ?_
        refine lv_iconst (v := 0) hx hb dX9_empties_32 (by decide) ?_
        refine va_iast hx hb hK.1 hw.1 hw.2 hS 7 8 rfl rfl hq.1 dX9_empties_33 (fun H locs hP hD hS => ?_)
        have hw : ΩM D d mp A (nCT μ (upd (mCT μ) x1.toNatClampNeg (0 : Int32))) H := ⟨hP, hD⟩
        have hq := hq.2
        refine lv_aload_n hx hb dX9_empties_34 rfl (lv_at hl 0 rfl) ?_
        refine va_get (D := D) (ci := 8) (v := .ref (mp 6)) (C := RX9) (T := TX9) (N := 15) hx hb hts inX9 hown hK.1 hw.1 0 rfl rfl 5 (by decide) (hts _ q_466) (fun _ h9 => h9) rfl dX9_empties_35 ?_
        refine lv_iload_n hx hb dX9_empties_38 rfl (lv_at hl 1 rfl) ?_
        refine lv_iconst (v := -1) hx hb dX9_empties_39 (by decide) ?_
        refine va_iast hx hb hK.1 hw.1 hw.2 hS 6 8 rfl rfl hq.1 dX9_empties_40 (fun H locs hP hD hS => ?_)
        have hw : ΩM D d mp A (nCK (nCT μ (upd (mCT μ) x1.toNatClampNeg (0 : Int32))) (upd (mCK (nCT μ (upd (mCT μ) x1.toNatClampNeg (0 : Int32)))) x1.toNatClampNeg (-1 : Int32))) H := ⟨hP, hD⟩
        have hq := hq.2
        refine lv_iload_n hx hb dX9_empties_41 rfl (lv_at hl 2 rfl) ?_
        exact mt_reti hx hb hr hlocks hw hS (Nat.le_of_ble_eq_true rfl) (Nat.le_of_ble_eq_true rfl) dX9_empties_42 ⟨_, rfl, hq⟩
      · have hq := hq.2 hc
        refine lv_aload_n hx hb dX9_empties_14 rfl (lv_at hl 0 rfl) ?_
        refine lv_iload_n hx hb dX9_empties_15 rfl (lv_at hl 1 rfl) ?_
        refine lv_iload_n hx hb dX9_empties_16 rfl (lv_at hl 3 rfl) ?_
        refine lv_iconst (v := -1) hx hb dX9_empties_17 (by decide) ?_
        refine mt_callV (index := 128) hx hb hml hown hts hK (ΩM.mono D d mp) hA hw hS hl.1 (tX9_toothGets l D d mp x1 v3 (-1 : Int32) μ hq) (ΩM.recv hK hw) q_636 q_34 q_633 q_635 q_28 nmhX9_toothGets ⟨⟨Nat.le_of_ble_eq_true rfl, Nat.le_of_ble_eq_true rfl⟩, ⟨Nat.le_of_ble_eq_true rfl, Nat.le_of_ble_eq_true rfl⟩⟩ rfl (Nat.le_of_ble_eq_true rfl) dX9_empties_18 (fun _ u10 H locs hq hw hS => ?_)
        obtain ⟨rfl, hq⟩ := hq
        refine W.eq (g2 := F0 m 21 ls []) rfl ?_
        obtain ⟨y11, ey11⟩ : ∃ z : Int32, z = v3 + 1 := ⟨_, rfl⟩
        have hq := hq y11 ey11
        refine lv_iinc (v := y11) (lv' := [(3, .int y11), (0, .ref (mp 0)), (1, .int x1), (2, .int v2)]) hx hb dX9_empties_21 hl (k := 3) rfl (by rw [ey11]; rfl) (by decide) rfl (fun ls hl => ?_)
        refine lv_goto (tgt := 9) hx hb dX9_empties_24 (by decide) ?_
        exact ih v2 y11 u10 _ _ _ hq hw hS (lv_sub hl [1, 2, 3, 0] rfl)
  unfold wX9_empties at hq
  refine lv_aload_n hx hb dX9_empties_0 rfl (lv_at hl 0 rfl) ?_
  refine va_get (D := D) (ci := 8) (v := .ref (mp 7)) (C := RX9) (T := TX9) (N := 15) hx hb hts inX9 hown hK.1 hw.1 0 rfl rfl 6 (by decide) (hts _ q_467) (fun _ h9 => h9) rfl dX9_empties_1 ?_
  refine lv_iload_n hx hb dX9_empties_4 rfl (lv_at hl 1 rfl) ?_
  refine va_iald hx hb hK.1 hw.1 7 8 rfl rfl hq.1 dX9_empties_5 ?_
  have hq := hq.2
  refine lv_topi (fun y8 ey8 => ?_)
  have hq := hq y8 ey8
  refine lv_istore_n (lv' := [(2, .int y8), (0, .ref (mp 0)), (1, .int x1)]) hx hb dX9_empties_6 rfl hl (by decide) rfl (fun ls hl => ?_)
  refine lv_iconst (v := 0) hx hb dX9_empties_7 (by decide) ?_
  refine lv_istore_n (lv' := [(3, .int (0 : Int32)), (2, .int y8), (0, .ref (mp 0)), (1, .int x1)]) hx hb dX9_empties_8 rfl hl (by decide) rfl (fun ls hl => ?_)
  obtain ⟨k9, hq⟩ := hq
  exact b9 k9 y8 (0 : Int32) μ _ _ _ hq hw hS (lv_sub hl [2, 3, 1, 0] rfl)
abbrev rmX9_comb : Room := { frames := 2, cells := 0, slots := 0, locals := 47 }
theorem nmhX9_comb : NoMH yX9_comb 4 := by decide +kernel
def wX9_comb_b74 (x1 : Int32) (x2 : Int32) (x3 : Int32) (x4 : Int32) (Q : Int32 → MS → Prop) : Nat → Int32 → Int32 → MS → Prop
  | 0, _, _, _ => False
  | n + 1, v5, v6, μ =>
    (x3 ≤ v6 → wX9_told x3 μ (fun r47 u48 => Q r47 u48)) ∧ (¬ x3 ≤ v6 → (wX9_newTrack x4 μ (fun r49 u50 => wX9_toothGets x1 v6 r49 u50 (fun u52 => ∀ y53 : Int32, y53 = v6 + 1 → (wX9_comb_b74 x1 x2 x3 x4 Q n v5 y53 u52)))))
theorem wX9_comb_b74_s (x1 : Int32) (x2 : Int32) (x3 : Int32) (x4 : Int32) (Q : Int32 → MS → Prop) (n : Nat) (v5 : Int32) (v6 : Int32) (μ : MS) : wX9_comb_b74 x1 x2 x3 x4 Q (n + 1) v5 v6 μ = (
    (x3 ≤ v6 → wX9_told x3 μ (fun r47 u48 => Q r47 u48)) ∧ (¬ x3 ≤ v6 → (wX9_newTrack x4 μ (fun r49 u50 => wX9_toothGets x1 v6 r49 u50 (fun u52 => ∀ y53 : Int32, y53 = v6 + 1 → (wX9_comb_b74 x1 x2 x3 x4 Q n v5 y53 u52)))))) := rfl
def wX9_comb (x1 : Int32) (x2 : Int32) (x3 : Int32) (x4 : Int32) (μ : MS) (Q : Int32 → MS → Prop) : Prop :=
    wX9_in x1 (0 : Int32) (3 : Int32) μ (fun r33 u34 => (r33 = 0 → wX9_told (-1 : Int32) u34 (fun r35 u36 => Q r35 u36)) ∧ (¬ r33 = 0 → (wX9_isKind x2 u34 (fun r37 u38 => (¬ r37 = 0 → (wX9_in x3 (0 : Int32) (40 : Int32) u38 (fun r39 u40 => (r39 = 0 → wX9_told (-4 : Int32) u40 (fun r41 u42 => Q r41 u42)) ∧ (¬ r39 = 0 → (wX9_in x4 (0 : Int32) (40 : Int32) u40 (fun r43 u44 => (¬ r43 = 0 → (wX9_empties x1 u44 (fun r45 u46 => vp_in x1 4 ∧ (vp_in x1 4 ∧ (∃ k74 : Nat, wX9_comb_b74 x1 x2 x3 x4 Q k74 r45 (0 : Int32) (nCT (nCK u46 (upd (mCK u46) x1.toNatClampNeg x2)) (upd (mCT (nCK u46 (upd (mCK u46) x1.toNatClampNeg x2))) x1.toNatClampNeg x3))))))) ∧ (r43 = 0 → wX9_told (-4 : Int32) u44 (fun r54 u55 => Q r54 u55)))))))) ∧ (r37 = 0 → wX9_told (-1 : Int32) u38 (fun r56 u57 => Q r56 u57))))))
set_option maxHeartbeats 4000000 in
set_option maxRecDepth 100000 in
theorem tX9_comb (l : Launch) (D : va_G) (d : AC) (mp : Nat → Nat) (x1 : Int32) (x2 : Int32) (x3 : Int32) (x4 : Int32) (μ : MS) {Q : Int32 → MS → Prop} (hq : wX9_comb x1 x2 x3 x4 μ Q) : MT D d (ΩM D d mp) l yX9_comb (WS yX9_comb cX9_comb 7 (some (.int))) rmX9_comb [.ref (mp 0), .int x1, .int x2, .int x3, .int x4] μ (qI Q) := by
  refine mt_of (ΩM.mono D d mp) (by decide +kernel) (Nat.le_of_ble_eq_true rfl) (fun p e s m below meth c A ls hx hb hr hml hown hts hlocks hnm hK hA hw hS hl => ?_)
  have hl : lv_has ls 7 [(0, .ref (mp 0)), (1, .int x1), (2, .int x2), (3, .int x3), (4, .int x4)] := hl
  have hown : s.vm.findClass RX9 = some m.cls := hown
  have b74 : ∀ (n : Nat) (v5 : Int32) (v6 : Int32) (μ : MS) (H : Heap) (locs : List Loc) (ls : Array Slot), wX9_comb_b74 x1 x2 x3 x4 Q n v5 v6 μ → (ΩM D d mp) A μ H → va_S A s.heap H locs → lv_has ls 7 [(0, .ref (mp 0)), (1, .int x1), (2, .int x2), (3, .int x3), (4, .int x4), (5, .int v5), (6, .int v6)] → W p l e rmX9_comb s m [.ref (mp 0), .int x1, .int x2, .int x3, .int x4].toArray below meth c H locs 0 0 (MQ below (Qo (qI Q) (fun u' t => (ΩM D d mp) A u' t.heap) A) [.ref (mp 0), .int x1, .int x2, .int x3, .int x4].toArray s rmX9_comb.cells rmX9_comb.slots A) (F0 m 74 ls []) := by
    intro n
    induction n with
    | zero =>
      intro v5 v6 μ H locs ls hq
      exact absurd hq id
    | succ n ih =>
      intro v5 v6 μ H locs ls hq hw hS hl
      rw [wX9_comb_b74_s] at hq
      refine lv_iload hx hb dX9_comb_74 (lv_at hl 6 rfl) ?_
      refine lv_iload_n hx hb dX9_comb_76 rfl (lv_at hl 3 rfl) ?_
      refine lv_icmp_ge (tgt := 99) hx hb dX9_comb_77 (by decide) (fun hc => ?_) (fun hc => ?_)
      · have hq := hq.1 hc
        refine lv_aload_n hx hb dX9_comb_99 rfl (lv_at hl 0 rfl) ?_
        refine lv_iload_n hx hb dX9_comb_100 rfl (lv_at hl 3 rfl) ?_
        refine mt_callV (index := 96) hx hb hml hown hts hK (ΩM.mono D d mp) hA hw hS hl.1 (tX9_told l D d mp x3 μ hq) (ΩM.recv hK hw) q_525 q_34 q_522 q_524 q_17 nmhX9_told ⟨⟨Nat.le_of_ble_eq_true rfl, Nat.le_of_ble_eq_true rfl⟩, ⟨Nat.le_of_ble_eq_true rfl, Nat.le_of_ble_eq_true rfl⟩⟩ rfl (Nat.le_of_ble_eq_true rfl) dX9_comb_101 (fun _ u48 H locs hq hw hS => ?_)
        obtain ⟨r47, rfl, hq⟩ := hq
        refine W.eq (g2 := F0 m 104 ls [.int r47]) rfl ?_
        exact mt_reti hx hb hr hlocks hw hS (Nat.le_of_ble_eq_true rfl) (Nat.le_of_ble_eq_true rfl) dX9_comb_104 ⟨_, rfl, hq⟩
      · have hq := hq.2 hc
        refine lv_aload_n hx hb dX9_comb_80 rfl (lv_at hl 0 rfl) ?_
        refine lv_iload_n hx hb dX9_comb_81 rfl (lv_at hl 1 rfl) ?_
        refine lv_iload hx hb dX9_comb_82 (lv_at hl 6 rfl) ?_
        refine lv_aload_n hx hb dX9_comb_84 rfl (lv_at hl 0 rfl) ?_
        refine lv_iload hx hb dX9_comb_85 (lv_at hl 4 rfl) ?_
        refine mt_callV (index := 100) hx hb hml hown hts hK (ΩM.mono D d mp) hA hw hS hl.1 (tX9_newTrack l D d mp x4 μ hq) (ΩM.recv hK hw) q_529 q_34 q_526 q_528 q_18 nmhX9_newTrack ⟨⟨Nat.le_of_ble_eq_true rfl, Nat.le_of_ble_eq_true rfl⟩, ⟨Nat.le_of_ble_eq_true rfl, Nat.le_of_ble_eq_true rfl⟩⟩ rfl (Nat.le_of_ble_eq_true rfl) dX9_comb_87 (fun _ u50 H locs hq hw hS => ?_)
        obtain ⟨r49, rfl, hq⟩ := hq
        refine W.eq (g2 := F0 m 90 ls [.int r49, .int v6, .int x1, .ref (mp 0)]) rfl ?_
        refine mt_callV (index := 128) hx hb hml hown hts hK (ΩM.mono D d mp) hA hw hS hl.1 (tX9_toothGets l D d mp x1 v6 r49 u50 hq) (ΩM.recv hK hw) q_636 q_34 q_633 q_635 q_28 nmhX9_toothGets ⟨⟨Nat.le_of_ble_eq_true rfl, Nat.le_of_ble_eq_true rfl⟩, ⟨Nat.le_of_ble_eq_true rfl, Nat.le_of_ble_eq_true rfl⟩⟩ rfl (Nat.le_of_ble_eq_true rfl) dX9_comb_90 (fun _ u52 H locs hq hw hS => ?_)
        obtain ⟨rfl, hq⟩ := hq
        refine W.eq (g2 := F0 m 93 ls []) rfl ?_
        obtain ⟨y53, ey53⟩ : ∃ z : Int32, z = v6 + 1 := ⟨_, rfl⟩
        have hq := hq y53 ey53
        refine lv_iinc (v := y53) (lv' := [(6, .int y53), (0, .ref (mp 0)), (1, .int x1), (2, .int x2), (3, .int x3), (4, .int x4), (5, .int v5)]) hx hb dX9_comb_93 hl (k := 6) rfl (by rw [ey53]; rfl) (by decide) rfl (fun ls hl => ?_)
        refine lv_goto (tgt := 74) hx hb dX9_comb_96 (by decide) ?_
        exact ih v5 y53 u52 _ _ _ hq hw hS (lv_sub hl [1, 2, 3, 4, 5, 6, 0] rfl)
  unfold wX9_comb at hq
  refine lv_iload_n hx hb dX9_comb_0 rfl (lv_at hl 1 rfl) ?_
  refine lv_iconst (v := 0) hx hb dX9_comb_1 (by decide) ?_
  refine lv_iconst (v := 3) hx hb dX9_comb_2 (by decide) ?_
  refine mt_callS (index := 58) hx hb hml hown hts hK (ΩM.mono D d mp) hA hw hS hl.1 (tX9_in l D d mp x1 (0 : Int32) (3 : Int32) μ hq) q_518 q_34 q_516 q_517 nmhX9_in ⟨⟨Nat.le_of_ble_eq_true rfl, Nat.le_of_ble_eq_true rfl⟩, ⟨Nat.le_of_ble_eq_true rfl, Nat.le_of_ble_eq_true rfl⟩⟩ rfl (Nat.le_of_ble_eq_true rfl) dX9_comb_3 (fun _ u34 H locs hq hw hS => ?_)
  obtain ⟨r33, rfl, hzr33, hq⟩ := hq
  refine W.eq (g2 := F0 m 6 ls [.int r33]) rfl ?_
  refine lv_if_eq (tgt := 16) hx hb dX9_comb_6 (by decide) (fun hc => ?_) (fun hc => ?_)
  · have hq := hq.1 hc
    refine lv_aload_n hx hb dX9_comb_16 rfl (lv_at hl 0 rfl) ?_
    refine lv_iconst (v := -1) hx hb dX9_comb_17 (by decide) ?_
    refine mt_callV (index := 96) hx hb hml hown hts hK (ΩM.mono D d mp) hA hw hS hl.1 (tX9_told l D d mp (-1 : Int32) u34 hq) (ΩM.recv hK hw) q_525 q_34 q_522 q_524 q_17 nmhX9_told ⟨⟨Nat.le_of_ble_eq_true rfl, Nat.le_of_ble_eq_true rfl⟩, ⟨Nat.le_of_ble_eq_true rfl, Nat.le_of_ble_eq_true rfl⟩⟩ rfl (Nat.le_of_ble_eq_true rfl) dX9_comb_18 (fun _ u36 H locs hq hw hS => ?_)
    obtain ⟨r35, rfl, hq⟩ := hq
    refine W.eq (g2 := F0 m 21 ls [.int r35]) rfl ?_
    exact mt_reti hx hb hr hlocks hw hS (Nat.le_of_ble_eq_true rfl) (Nat.le_of_ble_eq_true rfl) dX9_comb_21 ⟨_, rfl, hq⟩
  · have hq := hq.2 hc
    refine lv_iload_n hx hb dX9_comb_9 rfl (lv_at hl 2 rfl) ?_
    refine mt_callS (index := 93) hx hb hml hown hts hK (ΩM.mono D d mp) hA hw hS hl.1 (tX9_isKind l D d mp x2 u34 hq) q_521 q_34 q_519 q_520 nmhX9_isKind ⟨⟨Nat.le_of_ble_eq_true rfl, Nat.le_of_ble_eq_true rfl⟩, ⟨Nat.le_of_ble_eq_true rfl, Nat.le_of_ble_eq_true rfl⟩⟩ rfl (Nat.le_of_ble_eq_true rfl) dX9_comb_10 (fun _ u38 H locs hq hw hS => ?_)
    obtain ⟨r37, rfl, hzr37, hq⟩ := hq
    refine W.eq (g2 := F0 m 13 ls [.int r37]) rfl ?_
    refine lv_if_ne (tgt := 22) hx hb dX9_comb_13 (by decide) (fun hc => ?_) (fun hc => ?_)
    · have hq := hq.1 hc
      refine lv_iload_n hx hb dX9_comb_22 rfl (lv_at hl 3 rfl) ?_
      refine lv_iconst (v := 0) hx hb dX9_comb_23 (by decide) ?_
      refine lv_bipush (v := 40) hx hb dX9_comb_24 (by decide) ?_
      refine mt_callS (index := 58) hx hb hml hown hts hK (ΩM.mono D d mp) hA hw hS hl.1 (tX9_in l D d mp x3 (0 : Int32) (40 : Int32) u38 hq) q_518 q_34 q_516 q_517 nmhX9_in ⟨⟨Nat.le_of_ble_eq_true rfl, Nat.le_of_ble_eq_true rfl⟩, ⟨Nat.le_of_ble_eq_true rfl, Nat.le_of_ble_eq_true rfl⟩⟩ rfl (Nat.le_of_ble_eq_true rfl) dX9_comb_26 (fun _ u40 H locs hq hw hS => ?_)
      obtain ⟨r39, rfl, hzr39, hq⟩ := hq
      refine W.eq (g2 := F0 m 29 ls [.int r39]) rfl ?_
      refine lv_if_eq (tgt := 43) hx hb dX9_comb_29 (by decide) (fun hc => ?_) (fun hc => ?_)
      · have hq := hq.1 hc
        refine lv_aload_n hx hb dX9_comb_43 rfl (lv_at hl 0 rfl) ?_
        refine lv_bipush (v := -4) hx hb dX9_comb_44 (by decide) ?_
        refine mt_callV (index := 96) hx hb hml hown hts hK (ΩM.mono D d mp) hA hw hS hl.1 (tX9_told l D d mp (-4 : Int32) u40 hq) (ΩM.recv hK hw) q_525 q_34 q_522 q_524 q_17 nmhX9_told ⟨⟨Nat.le_of_ble_eq_true rfl, Nat.le_of_ble_eq_true rfl⟩, ⟨Nat.le_of_ble_eq_true rfl, Nat.le_of_ble_eq_true rfl⟩⟩ rfl (Nat.le_of_ble_eq_true rfl) dX9_comb_46 (fun _ u42 H locs hq hw hS => ?_)
        obtain ⟨r41, rfl, hq⟩ := hq
        refine W.eq (g2 := F0 m 49 ls [.int r41]) rfl ?_
        exact mt_reti hx hb hr hlocks hw hS (Nat.le_of_ble_eq_true rfl) (Nat.le_of_ble_eq_true rfl) dX9_comb_49 ⟨_, rfl, hq⟩
      · have hq := hq.2 hc
        refine lv_iload hx hb dX9_comb_32 (lv_at hl 4 rfl) ?_
        refine lv_iconst (v := 0) hx hb dX9_comb_34 (by decide) ?_
        refine lv_bipush (v := 40) hx hb dX9_comb_35 (by decide) ?_
        refine mt_callS (index := 58) hx hb hml hown hts hK (ΩM.mono D d mp) hA hw hS hl.1 (tX9_in l D d mp x4 (0 : Int32) (40 : Int32) u40 hq) q_518 q_34 q_516 q_517 nmhX9_in ⟨⟨Nat.le_of_ble_eq_true rfl, Nat.le_of_ble_eq_true rfl⟩, ⟨Nat.le_of_ble_eq_true rfl, Nat.le_of_ble_eq_true rfl⟩⟩ rfl (Nat.le_of_ble_eq_true rfl) dX9_comb_37 (fun _ u44 H locs hq hw hS => ?_)
        obtain ⟨r43, rfl, hzr43, hq⟩ := hq
        refine W.eq (g2 := F0 m 40 ls [.int r43]) rfl ?_
        refine lv_if_ne (tgt := 50) hx hb dX9_comb_40 (by decide) (fun hc => ?_) (fun hc => ?_)
        · have hq := hq.1 hc
          refine lv_aload_n hx hb dX9_comb_50 rfl (lv_at hl 0 rfl) ?_
          refine lv_iload_n hx hb dX9_comb_51 rfl (lv_at hl 1 rfl) ?_
          refine mt_callV (index := 131) hx hb hml hown hts hK (ΩM.mono D d mp) hA hw hS hl.1 (tX9_empties l D d mp x1 u44 hq) (ΩM.recv hK hw) q_632 q_34 q_629 q_631 q_27 nmhX9_empties ⟨⟨Nat.le_of_ble_eq_true rfl, Nat.le_of_ble_eq_true rfl⟩, ⟨Nat.le_of_ble_eq_true rfl, Nat.le_of_ble_eq_true rfl⟩⟩ rfl (Nat.le_of_ble_eq_true rfl) dX9_comb_52 (fun _ u46 H locs hq hw hS => ?_)
          obtain ⟨r45, rfl, hq⟩ := hq
          refine W.eq (g2 := F0 m 55 ls [.int r45]) rfl ?_
          refine lv_istore (lv' := [(5, .int r45), (0, .ref (mp 0)), (1, .int x1), (2, .int x2), (3, .int x3), (4, .int x4)]) hx hb dX9_comb_55 hl (by decide) rfl (fun ls hl => ?_)
          refine lv_aload_n hx hb dX9_comb_57 rfl (lv_at hl 1 rfl) ?_
          refine va_get (D := D) (ci := 8) (v := .ref (mp 6)) (C := RX9) (T := TX9) (N := 15) hx hb hts inX9 hown hK.1 hw.1 0 rfl rfl 5 (by decide) (hts _ q_466) (fun _ h9 => h9) rfl dX9_comb_58 ?_
          refine lv_iload_n hx hb dX9_comb_61 rfl (lv_at hl 2 rfl) ?_
          refine lv_iload_n hx hb dX9_comb_62 rfl (lv_at hl 3 rfl) ?_
          refine va_iast hx hb hK.1 hw.1 hw.2 hS 6 8 rfl rfl hq.1 dX9_comb_63 (fun H locs hP hD hS => ?_)
          have hw : ΩM D d mp A (nCK u46 (upd (mCK u46) x1.toNatClampNeg x2)) H := ⟨hP, hD⟩
          have hq := hq.2
          refine lv_aload_n hx hb dX9_comb_64 rfl (lv_at hl 1 rfl) ?_
          refine va_get (D := D) (ci := 8) (v := .ref (mp 7)) (C := RX9) (T := TX9) (N := 15) hx hb hts inX9 hown hK.1 hw.1 0 rfl rfl 6 (by decide) (hts _ q_467) (fun _ h9 => h9) rfl dX9_comb_65 ?_
          refine lv_iload_n hx hb dX9_comb_68 rfl (lv_at hl 2 rfl) ?_
          refine lv_iload_n hx hb dX9_comb_69 rfl (lv_at hl 4 rfl) ?_
          refine va_iast hx hb hK.1 hw.1 hw.2 hS 7 8 rfl rfl hq.1 dX9_comb_70 (fun H locs hP hD hS => ?_)
          have hw : ΩM D d mp A (nCT (nCK u46 (upd (mCK u46) x1.toNatClampNeg x2)) (upd (mCT (nCK u46 (upd (mCK u46) x1.toNatClampNeg x2))) x1.toNatClampNeg x3)) H := ⟨hP, hD⟩
          have hq := hq.2
          refine lv_iconst (v := 0) hx hb dX9_comb_71 (by decide) ?_
          refine lv_istore (lv' := [(6, .int (0 : Int32)), (5, .int r45), (0, .ref (mp 0)), (1, .int x1), (2, .int x2), (3, .int x3), (4, .int x4)]) hx hb dX9_comb_72 hl (by decide) rfl (fun ls hl => ?_)
          obtain ⟨k74, hq⟩ := hq
          exact b74 k74 r45 (0 : Int32) (nCT (nCK u46 (upd (mCK u46) x1.toNatClampNeg x2)) (upd (mCT (nCK u46 (upd (mCK u46) x1.toNatClampNeg x2))) x1.toNatClampNeg x3)) _ _ _ hq hw hS (lv_sub hl [2, 3, 4, 5, 6, 1, 0] rfl)
        · have hq := hq.2 hc
          refine lv_aload_n hx hb dX9_comb_43 rfl (lv_at hl 0 rfl) ?_
          refine lv_bipush (v := -4) hx hb dX9_comb_44 (by decide) ?_
          refine mt_callV (index := 96) hx hb hml hown hts hK (ΩM.mono D d mp) hA hw hS hl.1 (tX9_told l D d mp (-4 : Int32) u44 hq) (ΩM.recv hK hw) q_525 q_34 q_522 q_524 q_17 nmhX9_told ⟨⟨Nat.le_of_ble_eq_true rfl, Nat.le_of_ble_eq_true rfl⟩, ⟨Nat.le_of_ble_eq_true rfl, Nat.le_of_ble_eq_true rfl⟩⟩ rfl (Nat.le_of_ble_eq_true rfl) dX9_comb_46 (fun _ u55 H locs hq hw hS => ?_)
          obtain ⟨r54, rfl, hq⟩ := hq
          refine W.eq (g2 := F0 m 49 ls [.int r54]) rfl ?_
          exact mt_reti hx hb hr hlocks hw hS (Nat.le_of_ble_eq_true rfl) (Nat.le_of_ble_eq_true rfl) dX9_comb_49 ⟨_, rfl, hq⟩
    · have hq := hq.2 hc
      refine lv_aload_n hx hb dX9_comb_16 rfl (lv_at hl 0 rfl) ?_
      refine lv_iconst (v := -1) hx hb dX9_comb_17 (by decide) ?_
      refine mt_callV (index := 96) hx hb hml hown hts hK (ΩM.mono D d mp) hA hw hS hl.1 (tX9_told l D d mp (-1 : Int32) u38 hq) (ΩM.recv hK hw) q_525 q_34 q_522 q_524 q_17 nmhX9_told ⟨⟨Nat.le_of_ble_eq_true rfl, Nat.le_of_ble_eq_true rfl⟩, ⟨Nat.le_of_ble_eq_true rfl, Nat.le_of_ble_eq_true rfl⟩⟩ rfl (Nat.le_of_ble_eq_true rfl) dX9_comb_18 (fun _ u57 H locs hq hw hS => ?_)
      obtain ⟨r56, rfl, hq⟩ := hq
      refine W.eq (g2 := F0 m 21 ls [.int r56]) rfl ?_
      exact mt_reti hx hb hr hlocks hw hS (Nat.le_of_ble_eq_true rfl) (Nat.le_of_ble_eq_true rfl) dX9_comb_21 ⟨_, rfl, hq⟩
abbrev rmX9_drop : Room := { frames := 2, cells := 0, slots := 0, locals := 47 }
theorem nmhX9_drop : NoMH yX9_drop 1 := by decide +kernel
def wX9_drop (x1 : Int32) (μ : MS) (Q : Int32 → MS → Prop) : Prop :=
    wX9_isComb x1 μ (fun r9 u10 => (r9 = 0 → wX9_told (-1 : Int32) u10 (fun r11 u12 => Q r11 u12)) ∧ (¬ r9 = 0 → (wX9_empties x1 u10 (fun r13 u14 => wX9_told r13 u14 (fun r15 u16 => Q r15 u16)))))
set_option maxHeartbeats 4000000 in
set_option maxRecDepth 100000 in
theorem tX9_drop (l : Launch) (D : va_G) (d : AC) (mp : Nat → Nat) (x1 : Int32) (μ : MS) {Q : Int32 → MS → Prop} (hq : wX9_drop x1 μ Q) : MT D d (ΩM D d mp) l yX9_drop (WS yX9_drop cX9_drop 2 (some (.int))) rmX9_drop [.ref (mp 0), .int x1] μ (qI Q) := by
  refine mt_of (ΩM.mono D d mp) (by decide +kernel) (Nat.le_of_ble_eq_true rfl) (fun p e s m below meth c A ls hx hb hr hml hown hts hlocks hnm hK hA hw hS hl => ?_)
  have hl : lv_has ls 2 [(0, .ref (mp 0)), (1, .int x1)] := hl
  have hown : s.vm.findClass RX9 = some m.cls := hown
  unfold wX9_drop at hq
  refine lv_aload_n hx hb dX9_drop_0 rfl (lv_at hl 0 rfl) ?_
  refine lv_aload_n hx hb dX9_drop_1 rfl (lv_at hl 0 rfl) ?_
  refine lv_iload_n hx hb dX9_drop_2 rfl (lv_at hl 1 rfl) ?_
  refine mt_callV (index := 62) hx hb hml hown hts hK (ΩM.mono D d mp) hA hw hS hl.1 (tX9_isComb l D d mp x1 μ hq) (ΩM.recv hK hw) q_644 q_34 q_641 q_643 q_29 nmhX9_isComb ⟨⟨Nat.le_of_ble_eq_true rfl, Nat.le_of_ble_eq_true rfl⟩, ⟨Nat.le_of_ble_eq_true rfl, Nat.le_of_ble_eq_true rfl⟩⟩ rfl (Nat.le_of_ble_eq_true rfl) dX9_drop_3 (fun _ u10 H locs hq hw hS => ?_)
  obtain ⟨r9, rfl, hzr9, hq⟩ := hq
  refine W.eq (g2 := F0 m 6 ls [.int r9, .ref (mp 0)]) rfl ?_
  refine lv_if_eq (tgt := 17) hx hb dX9_drop_6 (by decide) (fun hc => ?_) (fun hc => ?_)
  · have hq := hq.1 hc
    refine lv_iconst (v := -1) hx hb dX9_drop_17 (by decide) ?_
    refine mt_callV (index := 96) hx hb hml hown hts hK (ΩM.mono D d mp) hA hw hS hl.1 (tX9_told l D d mp (-1 : Int32) u10 hq) (ΩM.recv hK hw) q_525 q_34 q_522 q_524 q_17 nmhX9_told ⟨⟨Nat.le_of_ble_eq_true rfl, Nat.le_of_ble_eq_true rfl⟩, ⟨Nat.le_of_ble_eq_true rfl, Nat.le_of_ble_eq_true rfl⟩⟩ rfl (Nat.le_of_ble_eq_true rfl) dX9_drop_18 (fun _ u12 H locs hq hw hS => ?_)
    obtain ⟨r11, rfl, hq⟩ := hq
    refine W.eq (g2 := F0 m 21 ls [.int r11]) rfl ?_
    exact mt_reti hx hb hr hlocks hw hS (Nat.le_of_ble_eq_true rfl) (Nat.le_of_ble_eq_true rfl) dX9_drop_21 ⟨_, rfl, hq⟩
  · have hq := hq.2 hc
    refine lv_aload_n hx hb dX9_drop_9 rfl (lv_at hl 0 rfl) ?_
    refine lv_iload_n hx hb dX9_drop_10 rfl (lv_at hl 1 rfl) ?_
    refine mt_callV (index := 131) hx hb hml hown hts hK (ΩM.mono D d mp) hA hw hS hl.1 (tX9_empties l D d mp x1 u10 hq) (ΩM.recv hK hw) q_632 q_34 q_629 q_631 q_27 nmhX9_empties ⟨⟨Nat.le_of_ble_eq_true rfl, Nat.le_of_ble_eq_true rfl⟩, ⟨Nat.le_of_ble_eq_true rfl, Nat.le_of_ble_eq_true rfl⟩⟩ rfl (Nat.le_of_ble_eq_true rfl) dX9_drop_11 (fun _ u14 H locs hq hw hS => ?_)
    obtain ⟨r13, rfl, hq⟩ := hq
    refine W.eq (g2 := F0 m 14 ls [.int r13, .ref (mp 0)]) rfl ?_
    refine lv_goto (tgt := 18) hx hb dX9_drop_14 (by decide) ?_
    refine mt_callV (index := 96) hx hb hml hown hts hK (ΩM.mono D d mp) hA hw hS hl.1 (tX9_told l D d mp r13 u14 hq) (ΩM.recv hK hw) q_525 q_34 q_522 q_524 q_17 nmhX9_told ⟨⟨Nat.le_of_ble_eq_true rfl, Nat.le_of_ble_eq_true rfl⟩, ⟨Nat.le_of_ble_eq_true rfl, Nat.le_of_ble_eq_true rfl⟩⟩ rfl (Nat.le_of_ble_eq_true rfl) dX9_drop_18 (fun _ u16 H locs hq hw hS => ?_)
    obtain ⟨r15, rfl, hq⟩ := hq
    refine W.eq (g2 := F0 m 21 ls [.int r15]) rfl ?_
    exact mt_reti hx hb hr hlocks hw hS (Nat.le_of_ble_eq_true rfl) (Nat.le_of_ble_eq_true rfl) dX9_drop_21 ⟨_, rfl, hq⟩
abbrev rmX9_about : Room := { frames := 2, cells := 0, slots := 0, locals := 43 }
theorem nmhX9_about : NoMH yX9_about 2 := by decide +kernel
def wX9_about_b67 (x1 : Int32) (x2 : Int32) (K31 : Int32 → Int32 → Int32 → MS → Prop) (Q : Int32 → MS → Prop) (v3 : Int32) (v4 : Int32) (v5 : Int32) (v6 : Int32) (t0 : Int32) (t1 : Int32) (μ : MS) : Prop :=
    ∀ y57 : Int32, y57 = (t1 + t0) → ((0 ≤ v6 → (vp_in v6 202 ∧ (∀ y58 : Int32, y58 = (v4 + (mSize μ v6.toNatClampNeg)) → (∀ y59 : Int32, y59 = v5 + 1 → K31 y57 y58 y59 μ)))) ∧ (¬ 0 ≤ v6 → (∀ y60 : Int32, y60 = (v4 + (0 : Int32)) → (∀ y61 : Int32, y61 = v5 + 1 → K31 y57 y60 y61 μ))))
def wX9_about_b31 (x1 : Int32) (x2 : Int32) (Q : Int32 → MS → Prop) : Nat → Int32 → Int32 → Int32 → MS → Prop
  | 0, _, _, _, _ => False
  | n + 1, v3, v4, v5, μ =>
    vp_in x1 4 ∧ (((mCT μ x1.toNatClampNeg) ≤ v5 → ((¬ x2 = 0 → ((¬ x2 = (1 : Int32) → ((¬ x2 = (2 : Int32) → wX9_told v4 μ (fun r48 u49 => Q r48 u49)) ∧ (x2 = (2 : Int32) → wX9_told v3 μ (fun r50 u51 => Q r50 u51)))) ∧ (x2 = (1 : Int32) → (vp_in x1 4 ∧ wX9_told (mCT μ x1.toNatClampNeg) μ (fun r52 u53 => Q r52 u53))))) ∧ (x2 = 0 → (vp_in x1 4 ∧ wX9_told (mCK μ x1.toNatClampNeg) μ (fun r54 u55 => Q r54 u55))))) ∧ (¬ (mCT μ x1.toNatClampNeg) ≤ v5 → (vp_in (((40 : Int32) * x1) + v5) 160 ∧ (∀ y56 : Int32, y56 = (mTeeth μ (((40 : Int32) * x1) + v5).toNatClampNeg) → ((0 ≤ y56 → wX9_about_b67 x1 x2 (wX9_about_b31 x1 x2 Q n) Q v3 v4 v5 y56 (0 : Int32) v3 μ) ∧ (¬ 0 ≤ y56 → wX9_about_b67 x1 x2 (wX9_about_b31 x1 x2 Q n) Q v3 v4 v5 y56 (1 : Int32) v3 μ))))))
theorem wX9_about_b31_s (x1 : Int32) (x2 : Int32) (Q : Int32 → MS → Prop) (n : Nat) (v3 : Int32) (v4 : Int32) (v5 : Int32) (μ : MS) : wX9_about_b31 x1 x2 Q (n + 1) v3 v4 v5 μ = (
    vp_in x1 4 ∧ (((mCT μ x1.toNatClampNeg) ≤ v5 → ((¬ x2 = 0 → ((¬ x2 = (1 : Int32) → ((¬ x2 = (2 : Int32) → wX9_told v4 μ (fun r48 u49 => Q r48 u49)) ∧ (x2 = (2 : Int32) → wX9_told v3 μ (fun r50 u51 => Q r50 u51)))) ∧ (x2 = (1 : Int32) → (vp_in x1 4 ∧ wX9_told (mCT μ x1.toNatClampNeg) μ (fun r52 u53 => Q r52 u53))))) ∧ (x2 = 0 → (vp_in x1 4 ∧ wX9_told (mCK μ x1.toNatClampNeg) μ (fun r54 u55 => Q r54 u55))))) ∧ (¬ (mCT μ x1.toNatClampNeg) ≤ v5 → (vp_in (((40 : Int32) * x1) + v5) 160 ∧ (∀ y56 : Int32, y56 = (mTeeth μ (((40 : Int32) * x1) + v5).toNatClampNeg) → ((0 ≤ y56 → wX9_about_b67 x1 x2 (wX9_about_b31 x1 x2 Q n) Q v3 v4 v5 y56 (0 : Int32) v3 μ) ∧ (¬ 0 ≤ y56 → wX9_about_b67 x1 x2 (wX9_about_b31 x1 x2 Q n) Q v3 v4 v5 y56 (1 : Int32) v3 μ))))))) := rfl
def wX9_about (x1 : Int32) (x2 : Int32) (μ : MS) (Q : Int32 → MS → Prop) : Prop :=
    wX9_isComb x1 μ (fun r42 u43 => (r42 = 0 → wX9_told (-1 : Int32) u43 (fun r44 u45 => Q r44 u45)) ∧ (¬ r42 = 0 → (wX9_in x2 (0 : Int32) (3 : Int32) u43 (fun r46 u47 => (¬ r46 = 0 → (∃ k31 : Nat, wX9_about_b31 x1 x2 Q k31 (0 : Int32) (0 : Int32) (0 : Int32) u47)) ∧ (r46 = 0 → wX9_told (-1 : Int32) u47 (fun r62 u63 => Q r62 u63))))))
set_option maxHeartbeats 4000000 in
set_option maxRecDepth 100000 in
theorem tX9_about (l : Launch) (D : va_G) (d : AC) (mp : Nat → Nat) (x1 : Int32) (x2 : Int32) (μ : MS) {Q : Int32 → MS → Prop} (hq : wX9_about x1 x2 μ Q) : MT D d (ΩM D d mp) l yX9_about (WS yX9_about cX9_about 7 (some (.int))) rmX9_about [.ref (mp 0), .int x1, .int x2] μ (qI Q) := by
  refine mt_of (ΩM.mono D d mp) (by decide +kernel) (Nat.le_of_ble_eq_true rfl) (fun p e s m below meth c A ls hx hb hr hml hown hts hlocks hnm hK hA hw hS hl => ?_)
  have hl : lv_has ls 7 [(0, .ref (mp 0)), (1, .int x1), (2, .int x2)] := hl
  have hown : s.vm.findClass RX9 = some m.cls := hown
  have b67 : ∀ (K31 : Int32 → Int32 → Int32 → MS → Prop) (hK31 : ∀ (v3 : Int32) (v4 : Int32) (v5 : Int32) (μ : MS) (H : Heap) (locs : List Loc) (ls : Array Slot), K31 v3 v4 v5 μ → (ΩM D d mp) A μ H → va_S A s.heap H locs → lv_has ls 7 [(0, .ref (mp 0)), (1, .int x1), (2, .int x2), (3, .int v3), (4, .int v4), (5, .int v5)] → W p l e rmX9_about s m [.ref (mp 0), .int x1, .int x2].toArray below meth c H locs 0 0 (MQ below (Qo (qI Q) (fun u' t => (ΩM D d mp) A u' t.heap) A) [.ref (mp 0), .int x1, .int x2].toArray s rmX9_about.cells rmX9_about.slots A) (F0 m 31 ls [])) (v3 : Int32) (v4 : Int32) (v5 : Int32) (v6 : Int32) (t0 : Int32) (t1 : Int32) (μ : MS) (H : Heap) (locs : List Loc) (ls : Array Slot), wX9_about_b67 x1 x2 K31 Q v3 v4 v5 v6 t0 t1 μ → (ΩM D d mp) A μ H → va_S A s.heap H locs → lv_has ls 7 [(0, .ref (mp 0)), (1, .int x1), (2, .int x2), (3, .int v3), (4, .int v4), (5, .int v5), (6, .int v6)] → W p l e rmX9_about s m [.ref (mp 0), .int x1, .int x2].toArray below meth c H locs 0 0 (MQ below (Qo (qI Q) (fun u' t => (ΩM D d mp) A u' t.heap) A) [.ref (mp 0), .int x1, .int x2].toArray s rmX9_about.cells rmX9_about.slots A) (F0 m 67 ls [.int t0, .int t1]) := by
    intro K31 hK31 v3 v4 v5 v6 t0 t1 μ H locs ls hq hw hS hl
    unfold wX9_about_b67 at hq
    refine lv_iadd hx hb dX9_about_67 ?_
    refine lv_topi (fun y57 ey57 => ?_)
    have hq := hq y57 ey57
    refine lv_istore_n (lv' := [(3, .int y57), (0, .ref (mp 0)), (1, .int x1), (2, .int x2), (4, .int v4), (5, .int v5), (6, .int v6)]) hx hb dX9_about_68 rfl hl (by decide) rfl (fun ls hl => ?_)
    refine lv_iload hx hb dX9_about_69 (lv_at hl 4 rfl) ?_
    refine lv_iload hx hb dX9_about_71 (lv_at hl 6 rfl) ?_
    refine lv_if_ge (tgt := 80) hx hb dX9_about_73 (by decide) (fun hc => ?_) (fun hc => ?_)
    · have hq := hq.1 hc
      refine lv_aload_n hx hb dX9_about_80 rfl (lv_at hl 1 rfl) ?_
      refine va_get (D := D) (ci := 8) (v := .ref (mp 2)) (C := RX9) (T := TX9) (N := 15) hx hb hts inX9 hown hK.1 hw.1 0 rfl rfl 1 (by decide) (hts _ q_462) (fun _ h9 => h9) rfl dX9_about_81 ?_
      refine lv_iload hx hb dX9_about_84 (lv_at hl 6 rfl) ?_
      refine va_iald hx hb hK.1 hw.1 2 8 rfl rfl hq.1 dX9_about_86 ?_
      have hq := hq.2
      refine lv_iadd hx hb dX9_about_87 ?_
      refine lv_topi (fun y58 ey58 => ?_)
      have hq := hq y58 ey58
      refine lv_istore (lv' := [(4, .int y58), (3, .int y57), (0, .ref (mp 0)), (1, .int x1), (2, .int x2), (5, .int v5), (6, .int v6)]) hx hb dX9_about_88 hl (by decide) rfl (fun ls hl => ?_)
      obtain ⟨y59, ey59⟩ : ∃ z : Int32, z = v5 + 1 := ⟨_, rfl⟩
      have hq := hq y59 ey59
      refine lv_iinc (v := y59) (lv' := [(5, .int y59), (4, .int y58), (3, .int y57), (0, .ref (mp 0)), (1, .int x1), (2, .int x2), (6, .int v6)]) hx hb dX9_about_90 hl (k := 5) rfl (by rw [ey59]; rfl) (by decide) rfl (fun ls hl => ?_)
      refine lv_goto (tgt := 31) hx hb dX9_about_93 (by decide) ?_
      exact hK31 y57 y58 y59 μ _ _ _ hq hw hS (lv_sub hl [3, 4, 5, 2, 1, 0] rfl)
    · have hq := hq.2 hc
      refine lv_iconst (v := 0) hx hb dX9_about_76 (by decide) ?_
      refine lv_goto (tgt := 87) hx hb dX9_about_77 (by decide) ?_
      refine lv_iadd hx hb dX9_about_87 ?_
      refine lv_topi (fun y60 ey60 => ?_)
      have hq := hq y60 ey60
      refine lv_istore (lv' := [(4, .int y60), (3, .int y57), (0, .ref (mp 0)), (1, .int x1), (2, .int x2), (5, .int v5), (6, .int v6)]) hx hb dX9_about_88 hl (by decide) rfl (fun ls hl => ?_)
      obtain ⟨y61, ey61⟩ : ∃ z : Int32, z = v5 + 1 := ⟨_, rfl⟩
      have hq := hq y61 ey61
      refine lv_iinc (v := y61) (lv' := [(5, .int y61), (4, .int y60), (3, .int y57), (0, .ref (mp 0)), (1, .int x1), (2, .int x2), (6, .int v6)]) hx hb dX9_about_90 hl (k := 5) rfl (by rw [ey61]; rfl) (by decide) rfl (fun ls hl => ?_)
      refine lv_goto (tgt := 31) hx hb dX9_about_93 (by decide) ?_
      exact hK31 y57 y60 y61 μ _ _ _ hq hw hS (lv_sub hl [3, 4, 5, 2, 1, 0] rfl)
  have b31 : ∀ (n : Nat) (v3 : Int32) (v4 : Int32) (v5 : Int32) (μ : MS) (H : Heap) (locs : List Loc) (ls : Array Slot), wX9_about_b31 x1 x2 Q n v3 v4 v5 μ → (ΩM D d mp) A μ H → va_S A s.heap H locs → lv_has ls 7 [(0, .ref (mp 0)), (1, .int x1), (2, .int x2), (3, .int v3), (4, .int v4), (5, .int v5)] → W p l e rmX9_about s m [.ref (mp 0), .int x1, .int x2].toArray below meth c H locs 0 0 (MQ below (Qo (qI Q) (fun u' t => (ΩM D d mp) A u' t.heap) A) [.ref (mp 0), .int x1, .int x2].toArray s rmX9_about.cells rmX9_about.slots A) (F0 m 31 ls []) := by
    intro n
    induction n with
    | zero =>
      intro v3 v4 v5 μ H locs ls hq
      exact absurd hq id
    | succ n ih =>
      intro v3 v4 v5 μ H locs ls hq hw hS hl
      rw [wX9_about_b31_s] at hq
      refine lv_iload hx hb dX9_about_31 (lv_at hl 5 rfl) ?_
      refine lv_aload_n hx hb dX9_about_33 rfl (lv_at hl 0 rfl) ?_
      refine va_get (D := D) (ci := 8) (v := .ref (mp 7)) (C := RX9) (T := TX9) (N := 15) hx hb hts inX9 hown hK.1 hw.1 0 rfl rfl 6 (by decide) (hts _ q_467) (fun _ h9 => h9) rfl dX9_about_34 ?_
      refine lv_iload_n hx hb dX9_about_37 rfl (lv_at hl 1 rfl) ?_
      refine va_iald hx hb hK.1 hw.1 7 8 rfl rfl hq.1 dX9_about_38 ?_
      have hq := hq.2
      refine lv_icmp_ge (tgt := 96) hx hb dX9_about_39 (by decide) (fun hc => ?_) (fun hc => ?_)
      · have hq := hq.1 hc
        refine lv_aload_n hx hb dX9_about_96 rfl (lv_at hl 0 rfl) ?_
        refine lv_iload_n hx hb dX9_about_97 rfl (lv_at hl 2 rfl) ?_
        refine lv_if_ne (tgt := 110) hx hb dX9_about_98 (by decide) (fun hc => ?_) (fun hc => ?_)
        · have hq := hq.1 hc
          refine lv_iload_n hx hb dX9_about_110 rfl (lv_at hl 2 rfl) ?_
          refine lv_iconst (v := 1) hx hb dX9_about_111 (by decide) ?_
          refine lv_icmp_ne (tgt := 124) hx hb dX9_about_112 (by decide) (fun hc => ?_) (fun hc => ?_)
          · have hq := hq.1 hc
            refine lv_iload_n hx hb dX9_about_124 rfl (lv_at hl 2 rfl) ?_
            refine lv_iconst (v := 2) hx hb dX9_about_125 (by decide) ?_
            refine lv_icmp_ne (tgt := 133) hx hb dX9_about_126 (by decide) (fun hc => ?_) (fun hc => ?_)
            · have hq := hq.1 hc
              refine lv_iload hx hb dX9_about_133 (lv_at hl 4 rfl) ?_
              refine mt_callV (index := 96) hx hb hml hown hts hK (ΩM.mono D d mp) hA hw hS hl.1 (tX9_told l D d mp v4 μ hq) (ΩM.recv hK hw) q_525 q_34 q_522 q_524 q_17 nmhX9_told ⟨⟨Nat.le_of_ble_eq_true rfl, Nat.le_of_ble_eq_true rfl⟩, ⟨Nat.le_of_ble_eq_true rfl, Nat.le_of_ble_eq_true rfl⟩⟩ rfl (Nat.le_of_ble_eq_true rfl) dX9_about_135 (fun _ u49 H locs hq hw hS => ?_)
              obtain ⟨r48, rfl, hq⟩ := hq
              refine W.eq (g2 := F0 m 138 ls [.int r48]) rfl ?_
              exact mt_reti hx hb hr hlocks hw hS (Nat.le_of_ble_eq_true rfl) (Nat.le_of_ble_eq_true rfl) dX9_about_138 ⟨_, rfl, hq⟩
            · have hq := hq.2 hc
              refine lv_iload_n hx hb dX9_about_129 rfl (lv_at hl 3 rfl) ?_
              refine lv_goto (tgt := 135) hx hb dX9_about_130 (by decide) ?_
              refine mt_callV (index := 96) hx hb hml hown hts hK (ΩM.mono D d mp) hA hw hS hl.1 (tX9_told l D d mp v3 μ hq) (ΩM.recv hK hw) q_525 q_34 q_522 q_524 q_17 nmhX9_told ⟨⟨Nat.le_of_ble_eq_true rfl, Nat.le_of_ble_eq_true rfl⟩, ⟨Nat.le_of_ble_eq_true rfl, Nat.le_of_ble_eq_true rfl⟩⟩ rfl (Nat.le_of_ble_eq_true rfl) dX9_about_135 (fun _ u51 H locs hq hw hS => ?_)
              obtain ⟨r50, rfl, hq⟩ := hq
              refine W.eq (g2 := F0 m 138 ls [.int r50]) rfl ?_
              exact mt_reti hx hb hr hlocks hw hS (Nat.le_of_ble_eq_true rfl) (Nat.le_of_ble_eq_true rfl) dX9_about_138 ⟨_, rfl, hq⟩
          · have hq := hq.2 hc
            refine lv_aload_n hx hb dX9_about_115 rfl (lv_at hl 0 rfl) ?_
            refine va_get (D := D) (ci := 8) (v := .ref (mp 7)) (C := RX9) (T := TX9) (N := 15) hx hb hts inX9 hown hK.1 hw.1 0 rfl rfl 6 (by decide) (hts _ q_467) (fun _ h9 => h9) rfl dX9_about_116 ?_
            refine lv_iload_n hx hb dX9_about_119 rfl (lv_at hl 1 rfl) ?_
            refine va_iald hx hb hK.1 hw.1 7 8 rfl rfl hq.1 dX9_about_120 ?_
            have hq := hq.2
            refine lv_goto (tgt := 135) hx hb dX9_about_121 (by decide) ?_
            refine mt_callV (index := 96) hx hb hml hown hts hK (ΩM.mono D d mp) hA hw hS hl.1 (tX9_told l D d mp (mCT μ x1.toNatClampNeg) μ hq) (ΩM.recv hK hw) q_525 q_34 q_522 q_524 q_17 nmhX9_told ⟨⟨Nat.le_of_ble_eq_true rfl, Nat.le_of_ble_eq_true rfl⟩, ⟨Nat.le_of_ble_eq_true rfl, Nat.le_of_ble_eq_true rfl⟩⟩ rfl (Nat.le_of_ble_eq_true rfl) dX9_about_135 (fun _ u53 H locs hq hw hS => ?_)
            obtain ⟨r52, rfl, hq⟩ := hq
            refine W.eq (g2 := F0 m 138 ls [.int r52]) rfl ?_
            exact mt_reti hx hb hr hlocks hw hS (Nat.le_of_ble_eq_true rfl) (Nat.le_of_ble_eq_true rfl) dX9_about_138 ⟨_, rfl, hq⟩
        · have hq := hq.2 hc
          refine lv_aload_n hx hb dX9_about_101 rfl (lv_at hl 0 rfl) ?_
          refine va_get (D := D) (ci := 8) (v := .ref (mp 6)) (C := RX9) (T := TX9) (N := 15) hx hb hts inX9 hown hK.1 hw.1 0 rfl rfl 5 (by decide) (hts _ q_466) (fun _ h9 => h9) rfl dX9_about_102 ?_
          refine lv_iload_n hx hb dX9_about_105 rfl (lv_at hl 1 rfl) ?_
          refine va_iald hx hb hK.1 hw.1 6 8 rfl rfl hq.1 dX9_about_106 ?_
          have hq := hq.2
          refine lv_goto (tgt := 135) hx hb dX9_about_107 (by decide) ?_
          refine mt_callV (index := 96) hx hb hml hown hts hK (ΩM.mono D d mp) hA hw hS hl.1 (tX9_told l D d mp (mCK μ x1.toNatClampNeg) μ hq) (ΩM.recv hK hw) q_525 q_34 q_522 q_524 q_17 nmhX9_told ⟨⟨Nat.le_of_ble_eq_true rfl, Nat.le_of_ble_eq_true rfl⟩, ⟨Nat.le_of_ble_eq_true rfl, Nat.le_of_ble_eq_true rfl⟩⟩ rfl (Nat.le_of_ble_eq_true rfl) dX9_about_135 (fun _ u55 H locs hq hw hS => ?_)
          obtain ⟨r54, rfl, hq⟩ := hq
          refine W.eq (g2 := F0 m 138 ls [.int r54]) rfl ?_
          exact mt_reti hx hb hr hlocks hw hS (Nat.le_of_ble_eq_true rfl) (Nat.le_of_ble_eq_true rfl) dX9_about_138 ⟨_, rfl, hq⟩
      · have hq := hq.2 hc
        refine lv_aload_n hx hb dX9_about_42 rfl (lv_at hl 0 rfl) ?_
        refine va_get (D := D) (ci := 8) (v := .ref (mp 5)) (C := RX9) (T := TX9) (N := 15) hx hb hts inX9 hown hK.1 hw.1 0 rfl rfl 4 (by decide) (hts _ q_465) (fun _ h9 => h9) rfl dX9_about_43 ?_
        refine lv_bipush (v := 40) hx hb dX9_about_46 (by decide) ?_
        refine lv_iload_n hx hb dX9_about_48 rfl (lv_at hl 1 rfl) ?_
        refine lv_imul hx hb dX9_about_49 ?_
        refine lv_iload hx hb dX9_about_50 (lv_at hl 5 rfl) ?_
        refine lv_iadd hx hb dX9_about_52 ?_
        refine va_iald hx hb hK.1 hw.1 5 8 rfl rfl hq.1 dX9_about_53 ?_
        have hq := hq.2
        refine lv_topi (fun y56 ey56 => ?_)
        have hq := hq y56 ey56
        refine lv_istore (lv' := [(6, .int y56), (0, .ref (mp 0)), (1, .int x1), (2, .int x2), (3, .int v3), (4, .int v4), (5, .int v5)]) hx hb dX9_about_54 hl (by decide) rfl (fun ls hl => ?_)
        refine lv_iload_n hx hb dX9_about_56 rfl (lv_at hl 4 rfl) ?_
        refine lv_iload hx hb dX9_about_57 (lv_at hl 0 rfl) ?_
        refine lv_if_ge (tgt := 66) hx hb dX9_about_59 (by decide) (fun hc => ?_) (fun hc => ?_)
        · have hq := hq.1 hc
          refine lv_iconst (v := 0) hx hb dX9_about_66 (by decide) ?_
          exact b67 (wX9_about_b31 x1 x2 Q n) ih v3 v4 v5 y56 (0 : Int32) v3 μ _ _ _ hq hw hS (lv_sub hl [1, 2, 3, 4, 5, 6, 0] rfl)
        · have hq := hq.2 hc
          refine lv_iconst (v := 1) hx hb dX9_about_62 (by decide) ?_
          refine lv_goto (tgt := 67) hx hb dX9_about_63 (by decide) ?_
          exact b67 (wX9_about_b31 x1 x2 Q n) ih v3 v4 v5 y56 (1 : Int32) v3 μ _ _ _ hq hw hS (lv_sub hl [1, 2, 3, 4, 5, 6, 0] rfl)
  unfold wX9_about at hq
  refine lv_aload_n hx hb dX9_about_0 rfl (lv_at hl 0 rfl) ?_
  refine lv_iload_n hx hb dX9_about_1 rfl (lv_at hl 1 rfl) ?_
  refine mt_callV (index := 62) hx hb hml hown hts hK (ΩM.mono D d mp) hA hw hS hl.1 (tX9_isComb l D d mp x1 μ hq) (ΩM.recv hK hw) q_644 q_34 q_641 q_643 q_29 nmhX9_isComb ⟨⟨Nat.le_of_ble_eq_true rfl, Nat.le_of_ble_eq_true rfl⟩, ⟨Nat.le_of_ble_eq_true rfl, Nat.le_of_ble_eq_true rfl⟩⟩ rfl (Nat.le_of_ble_eq_true rfl) dX9_about_2 (fun _ u43 H locs hq hw hS => ?_)
  obtain ⟨r42, rfl, hzr42, hq⟩ := hq
  refine W.eq (g2 := F0 m 5 ls [.int r42]) rfl ?_
  refine lv_if_eq (tgt := 17) hx hb dX9_about_5 (by decide) (fun hc => ?_) (fun hc => ?_)
  · have hq := hq.1 hc
    refine lv_aload_n hx hb dX9_about_17 rfl (lv_at hl 0 rfl) ?_
    refine lv_iconst (v := -1) hx hb dX9_about_18 (by decide) ?_
    refine mt_callV (index := 96) hx hb hml hown hts hK (ΩM.mono D d mp) hA hw hS hl.1 (tX9_told l D d mp (-1 : Int32) u43 hq) (ΩM.recv hK hw) q_525 q_34 q_522 q_524 q_17 nmhX9_told ⟨⟨Nat.le_of_ble_eq_true rfl, Nat.le_of_ble_eq_true rfl⟩, ⟨Nat.le_of_ble_eq_true rfl, Nat.le_of_ble_eq_true rfl⟩⟩ rfl (Nat.le_of_ble_eq_true rfl) dX9_about_19 (fun _ u45 H locs hq hw hS => ?_)
    obtain ⟨r44, rfl, hq⟩ := hq
    refine W.eq (g2 := F0 m 22 ls [.int r44]) rfl ?_
    exact mt_reti hx hb hr hlocks hw hS (Nat.le_of_ble_eq_true rfl) (Nat.le_of_ble_eq_true rfl) dX9_about_22 ⟨_, rfl, hq⟩
  · have hq := hq.2 hc
    refine lv_iload_n hx hb dX9_about_8 rfl (lv_at hl 2 rfl) ?_
    refine lv_iconst (v := 0) hx hb dX9_about_9 (by decide) ?_
    refine lv_iconst (v := 3) hx hb dX9_about_10 (by decide) ?_
    refine mt_callS (index := 58) hx hb hml hown hts hK (ΩM.mono D d mp) hA hw hS hl.1 (tX9_in l D d mp x2 (0 : Int32) (3 : Int32) u43 hq) q_518 q_34 q_516 q_517 nmhX9_in ⟨⟨Nat.le_of_ble_eq_true rfl, Nat.le_of_ble_eq_true rfl⟩, ⟨Nat.le_of_ble_eq_true rfl, Nat.le_of_ble_eq_true rfl⟩⟩ rfl (Nat.le_of_ble_eq_true rfl) dX9_about_11 (fun _ u47 H locs hq hw hS => ?_)
    obtain ⟨r46, rfl, hzr46, hq⟩ := hq
    refine W.eq (g2 := F0 m 14 ls [.int r46]) rfl ?_
    refine lv_if_ne (tgt := 23) hx hb dX9_about_14 (by decide) (fun hc => ?_) (fun hc => ?_)
    · have hq := hq.1 hc
      refine lv_iconst (v := 0) hx hb dX9_about_23 (by decide) ?_
      refine lv_istore_n (lv' := [(3, .int (0 : Int32)), (0, .ref (mp 0)), (1, .int x1), (2, .int x2)]) hx hb dX9_about_24 rfl hl (by decide) rfl (fun ls hl => ?_)
      refine lv_iconst (v := 0) hx hb dX9_about_25 (by decide) ?_
      refine lv_istore (lv' := [(4, .int (0 : Int32)), (3, .int (0 : Int32)), (0, .ref (mp 0)), (1, .int x1), (2, .int x2)]) hx hb dX9_about_26 hl (by decide) rfl (fun ls hl => ?_)
      refine lv_iconst (v := 0) hx hb dX9_about_28 (by decide) ?_
      refine lv_istore (lv' := [(5, .int (0 : Int32)), (4, .int (0 : Int32)), (3, .int (0 : Int32)), (0, .ref (mp 0)), (1, .int x1), (2, .int x2)]) hx hb dX9_about_29 hl (by decide) rfl (fun ls hl => ?_)
      obtain ⟨k31, hq⟩ := hq
      exact b31 k31 (0 : Int32) (0 : Int32) (0 : Int32) u47 _ _ _ hq hw hS (lv_sub hl [3, 4, 5, 2, 1, 0] rfl)
    · have hq := hq.2 hc
      refine lv_aload_n hx hb dX9_about_17 rfl (lv_at hl 0 rfl) ?_
      refine lv_iconst (v := -1) hx hb dX9_about_18 (by decide) ?_
      refine mt_callV (index := 96) hx hb hml hown hts hK (ΩM.mono D d mp) hA hw hS hl.1 (tX9_told l D d mp (-1 : Int32) u47 hq) (ΩM.recv hK hw) q_525 q_34 q_522 q_524 q_17 nmhX9_told ⟨⟨Nat.le_of_ble_eq_true rfl, Nat.le_of_ble_eq_true rfl⟩, ⟨Nat.le_of_ble_eq_true rfl, Nat.le_of_ble_eq_true rfl⟩⟩ rfl (Nat.le_of_ble_eq_true rfl) dX9_about_19 (fun _ u63 H locs hq hw hS => ?_)
      obtain ⟨r62, rfl, hq⟩ := hq
      refine W.eq (g2 := F0 m 22 ls [.int r62]) rfl ?_
      exact mt_reti hx hb hr hlocks hw hS (Nat.le_of_ble_eq_true rfl) (Nat.le_of_ble_eq_true rfl) dX9_about_22 ⟨_, rfl, hq⟩
abbrev rmX9_loosen : Room := { frames := 3, cells := 0, slots := 0, locals := 65 }
theorem nmhX9_loosen : NoMH yX9_loosen 2 := by decide +kernel
def wX9_loosen (x1 : Int32) (x2 : Int32) (μ : MS) (Q : Int32 → MS → Prop) : Prop :=
    wX9_isTooth x1 x2 μ (fun r12 u13 => (¬ r12 = 0 → (vp_in (((40 : Int32) * x1) + x2) 160 ∧ (∀ y14 : Int32, y14 = (mTeeth u13 (((40 : Int32) * x1) + x2).toNatClampNeg) → ((0 ≤ y14 → (wX9_toothGets x1 x2 (-1 : Int32) u13 (fun u16 => vp_in y14 202 ∧ wX9_told (mSize u16 y14.toNatClampNeg) u16 (fun r17 u18 => Q r17 u18)))) ∧ (¬ 0 ≤ y14 → wX9_told (-2 : Int32) u13 (fun r19 u20 => Q r19 u20)))))) ∧ (r12 = 0 → wX9_told (-1 : Int32) u13 (fun r21 u22 => Q r21 u22)))
set_option maxHeartbeats 4000000 in
set_option maxRecDepth 100000 in
theorem tX9_loosen (l : Launch) (D : va_G) (d : AC) (mp : Nat → Nat) (x1 : Int32) (x2 : Int32) (μ : MS) {Q : Int32 → MS → Prop} (hq : wX9_loosen x1 x2 μ Q) : MT D d (ΩM D d mp) l yX9_loosen (WS yX9_loosen cX9_loosen 4 (some (.int))) rmX9_loosen [.ref (mp 0), .int x1, .int x2] μ (qI Q) := by
  refine mt_of (ΩM.mono D d mp) (by decide +kernel) (Nat.le_of_ble_eq_true rfl) (fun p e s m below meth c A ls hx hb hr hml hown hts hlocks hnm hK hA hw hS hl => ?_)
  have hl : lv_has ls 4 [(0, .ref (mp 0)), (1, .int x1), (2, .int x2)] := hl
  have hown : s.vm.findClass RX9 = some m.cls := hown
  unfold wX9_loosen at hq
  refine lv_aload_n hx hb dX9_loosen_0 rfl (lv_at hl 0 rfl) ?_
  refine lv_iload_n hx hb dX9_loosen_1 rfl (lv_at hl 1 rfl) ?_
  refine lv_iload_n hx hb dX9_loosen_2 rfl (lv_at hl 2 rfl) ?_
  refine mt_callV (index := 134) hx hb hml hown hts hK (ΩM.mono D d mp) hA hw hS hl.1 (tX9_isTooth l D d mp x1 x2 μ hq) (ΩM.recv hK hw) q_656 q_34 q_653 q_655 q_30 nmhX9_isTooth ⟨⟨Nat.le_of_ble_eq_true rfl, Nat.le_of_ble_eq_true rfl⟩, ⟨Nat.le_of_ble_eq_true rfl, Nat.le_of_ble_eq_true rfl⟩⟩ rfl (Nat.le_of_ble_eq_true rfl) dX9_loosen_3 (fun _ u13 H locs hq hw hS => ?_)
  obtain ⟨r12, rfl, hzr12, hq⟩ := hq
  refine W.eq (g2 := F0 m 6 ls [.int r12]) rfl ?_
  refine lv_if_ne (tgt := 15) hx hb dX9_loosen_6 (by decide) (fun hc => ?_) (fun hc => ?_)
  · have hq := hq.1 hc
    refine lv_aload_n hx hb dX9_loosen_15 rfl (lv_at hl 0 rfl) ?_
    refine va_get (D := D) (ci := 8) (v := .ref (mp 5)) (C := RX9) (T := TX9) (N := 15) hx hb hts inX9 hown hK.1 hw.1 0 rfl rfl 4 (by decide) (hts _ q_465) (fun _ h9 => h9) rfl dX9_loosen_16 ?_
    refine lv_bipush (v := 40) hx hb dX9_loosen_19 (by decide) ?_
    refine lv_iload_n hx hb dX9_loosen_21 rfl (lv_at hl 1 rfl) ?_
    refine lv_imul hx hb dX9_loosen_22 ?_
    refine lv_iload_n hx hb dX9_loosen_23 rfl (lv_at hl 2 rfl) ?_
    refine lv_iadd hx hb dX9_loosen_24 ?_
    refine va_iald hx hb hK.1 hw.1 5 8 rfl rfl hq.1 dX9_loosen_25 ?_
    have hq := hq.2
    refine lv_topi (fun y14 ey14 => ?_)
    have hq := hq y14 ey14
    refine lv_istore_n (lv' := [(3, .int y14), (0, .ref (mp 0)), (1, .int x1), (2, .int x2)]) hx hb dX9_loosen_26 rfl hl (by decide) rfl (fun ls hl => ?_)
    refine lv_iload_n hx hb dX9_loosen_27 rfl (lv_at hl 0 rfl) ?_
    refine lv_if_ge (tgt := 38) hx hb dX9_loosen_28 (by decide) (fun hc => ?_) (fun hc => ?_)
    · have hq := hq.1 hc
      refine lv_aload_n hx hb dX9_loosen_38 rfl (lv_at hl 1 rfl) ?_
      refine lv_iload_n hx hb dX9_loosen_39 rfl (lv_at hl 2 rfl) ?_
      refine lv_iload_n hx hb dX9_loosen_40 rfl (lv_at hl 3 rfl) ?_
      refine lv_iconst (v := -1) hx hb dX9_loosen_41 (by decide) ?_
      refine mt_callV (index := 128) hx hb hml hown hts hK (ΩM.mono D d mp) hA hw hS hl.1 (tX9_toothGets l D d mp x1 x2 (-1 : Int32) u13 hq) (ΩM.recv hK hw) q_636 q_34 q_633 q_635 q_28 nmhX9_toothGets ⟨⟨Nat.le_of_ble_eq_true rfl, Nat.le_of_ble_eq_true rfl⟩, ⟨Nat.le_of_ble_eq_true rfl, Nat.le_of_ble_eq_true rfl⟩⟩ rfl (Nat.le_of_ble_eq_true rfl) dX9_loosen_42 (fun _ u16 H locs hq hw hS => ?_)
      obtain ⟨rfl, hq⟩ := hq
      refine W.eq (g2 := F0 m 45 ls []) rfl ?_
      refine lv_aload_n hx hb dX9_loosen_45 rfl (lv_at hl 1 rfl) ?_
      refine lv_aload_n hx hb dX9_loosen_46 rfl (lv_at hl 1 rfl) ?_
      refine va_get (D := D) (ci := 8) (v := .ref (mp 2)) (C := RX9) (T := TX9) (N := 15) hx hb hts inX9 hown hK.1 hw.1 0 rfl rfl 1 (by decide) (hts _ q_462) (fun _ h9 => h9) rfl dX9_loosen_47 ?_
      refine lv_iload_n hx hb dX9_loosen_50 rfl (lv_at hl 0 rfl) ?_
      refine va_iald hx hb hK.1 hw.1 2 8 rfl rfl hq.1 dX9_loosen_51 ?_
      have hq := hq.2
      refine mt_callV (index := 96) hx hb hml hown hts hK (ΩM.mono D d mp) hA hw hS hl.1 (tX9_told l D d mp (mSize u16 y14.toNatClampNeg) u16 hq) (ΩM.recv hK hw) q_525 q_34 q_522 q_524 q_17 nmhX9_told ⟨⟨Nat.le_of_ble_eq_true rfl, Nat.le_of_ble_eq_true rfl⟩, ⟨Nat.le_of_ble_eq_true rfl, Nat.le_of_ble_eq_true rfl⟩⟩ rfl (Nat.le_of_ble_eq_true rfl) dX9_loosen_52 (fun _ u18 H locs hq hw hS => ?_)
      obtain ⟨r17, rfl, hq⟩ := hq
      refine W.eq (g2 := F0 m 55 ls [.int r17]) rfl ?_
      exact mt_reti hx hb hr hlocks hw hS (Nat.le_of_ble_eq_true rfl) (Nat.le_of_ble_eq_true rfl) dX9_loosen_55 ⟨_, rfl, hq⟩
    · have hq := hq.2 hc
      refine lv_aload_n hx hb dX9_loosen_31 rfl (lv_at hl 1 rfl) ?_
      refine lv_bipush (v := -2) hx hb dX9_loosen_32 (by decide) ?_
      refine mt_callV (index := 96) hx hb hml hown hts hK (ΩM.mono D d mp) hA hw hS hl.1 (tX9_told l D d mp (-2 : Int32) u13 hq) (ΩM.recv hK hw) q_525 q_34 q_522 q_524 q_17 nmhX9_told ⟨⟨Nat.le_of_ble_eq_true rfl, Nat.le_of_ble_eq_true rfl⟩, ⟨Nat.le_of_ble_eq_true rfl, Nat.le_of_ble_eq_true rfl⟩⟩ rfl (Nat.le_of_ble_eq_true rfl) dX9_loosen_34 (fun _ u20 H locs hq hw hS => ?_)
      obtain ⟨r19, rfl, hq⟩ := hq
      refine W.eq (g2 := F0 m 37 ls [.int r19]) rfl ?_
      exact mt_reti hx hb hr hlocks hw hS (Nat.le_of_ble_eq_true rfl) (Nat.le_of_ble_eq_true rfl) dX9_loosen_37 ⟨_, rfl, hq⟩
  · have hq := hq.2 hc
    refine lv_aload_n hx hb dX9_loosen_9 rfl (lv_at hl 0 rfl) ?_
    refine lv_iconst (v := -1) hx hb dX9_loosen_10 (by decide) ?_
    refine mt_callV (index := 96) hx hb hml hown hts hK (ΩM.mono D d mp) hA hw hS hl.1 (tX9_told l D d mp (-1 : Int32) u13 hq) (ΩM.recv hK hw) q_525 q_34 q_522 q_524 q_17 nmhX9_told ⟨⟨Nat.le_of_ble_eq_true rfl, Nat.le_of_ble_eq_true rfl⟩, ⟨Nat.le_of_ble_eq_true rfl, Nat.le_of_ble_eq_true rfl⟩⟩ rfl (Nat.le_of_ble_eq_true rfl) dX9_loosen_11 (fun _ u22 H locs hq hw hS => ?_)
    obtain ⟨r21, rfl, hq⟩ := hq
    refine W.eq (g2 := F0 m 14 ls [.int r21]) rfl ?_
    exact mt_reti hx hb hr hlocks hw hS (Nat.le_of_ble_eq_true rfl) (Nat.le_of_ble_eq_true rfl) dX9_loosen_14 ⟨_, rfl, hq⟩
abbrev rmX9_hang : Room := { frames := 3, cells := 0, slots := 0, locals := 65 }
theorem nmhX9_hang : NoMH yX9_hang 3 := by decide +kernel
def wX9_hang (x1 : Int32) (x2 : Int32) (x3 : Int32) (μ : MS) (Q : Int32 → MS → Prop) : Prop :=
    wX9_isTooth x1 x2 μ (fun r16 u17 => (r16 = 0 → wX9_told (-1 : Int32) u17 (fun r18 u19 => Q r18 u19)) ∧ (¬ r16 = 0 → (wX9_isDrum x3 u17 (fun r20 u21 => (¬ r20 = 0 → (vp_in x1 4 ∧ (vp_in (((5 : Int32) * x3) + (mCK u21 x1.toNatClampNeg)) 40 ∧ (∀ y22 : Int32, y22 = (mDrums u21 (((5 : Int32) * x3) + (mCK u21 x1.toNatClampNeg)).toNatClampNeg) → ((0 ≤ y22 → (wX9_toothGets x1 x2 y22 u21 (fun u24 => vp_in y22 202 ∧ wX9_told (mSize u24 y22.toNatClampNeg) u24 (fun r25 u26 => Q r25 u26)))) ∧ (¬ 0 ≤ y22 → wX9_told (-2 : Int32) u21 (fun r27 u28 => Q r27 u28))))))) ∧ (r20 = 0 → wX9_told (-1 : Int32) u21 (fun r29 u30 => Q r29 u30))))))
set_option maxHeartbeats 4000000 in
set_option maxRecDepth 100000 in
theorem tX9_hang (l : Launch) (D : va_G) (d : AC) (mp : Nat → Nat) (x1 : Int32) (x2 : Int32) (x3 : Int32) (μ : MS) {Q : Int32 → MS → Prop} (hq : wX9_hang x1 x2 x3 μ Q) : MT D d (ΩM D d mp) l yX9_hang (WS yX9_hang cX9_hang 5 (some (.int))) rmX9_hang [.ref (mp 0), .int x1, .int x2, .int x3] μ (qI Q) := by
  refine mt_of (ΩM.mono D d mp) (by decide +kernel) (Nat.le_of_ble_eq_true rfl) (fun p e s m below meth c A ls hx hb hr hml hown hts hlocks hnm hK hA hw hS hl => ?_)
  have hl : lv_has ls 5 [(0, .ref (mp 0)), (1, .int x1), (2, .int x2), (3, .int x3)] := hl
  have hown : s.vm.findClass RX9 = some m.cls := hown
  unfold wX9_hang at hq
  refine lv_aload_n hx hb dX9_hang_0 rfl (lv_at hl 0 rfl) ?_
  refine lv_iload_n hx hb dX9_hang_1 rfl (lv_at hl 1 rfl) ?_
  refine lv_iload_n hx hb dX9_hang_2 rfl (lv_at hl 2 rfl) ?_
  refine mt_callV (index := 134) hx hb hml hown hts hK (ΩM.mono D d mp) hA hw hS hl.1 (tX9_isTooth l D d mp x1 x2 μ hq) (ΩM.recv hK hw) q_656 q_34 q_653 q_655 q_30 nmhX9_isTooth ⟨⟨Nat.le_of_ble_eq_true rfl, Nat.le_of_ble_eq_true rfl⟩, ⟨Nat.le_of_ble_eq_true rfl, Nat.le_of_ble_eq_true rfl⟩⟩ rfl (Nat.le_of_ble_eq_true rfl) dX9_hang_3 (fun _ u17 H locs hq hw hS => ?_)
  obtain ⟨r16, rfl, hzr16, hq⟩ := hq
  refine W.eq (g2 := F0 m 6 ls [.int r16]) rfl ?_
  refine lv_if_eq (tgt := 16) hx hb dX9_hang_6 (by decide) (fun hc => ?_) (fun hc => ?_)
  · have hq := hq.1 hc
    refine lv_aload_n hx hb dX9_hang_16 rfl (lv_at hl 0 rfl) ?_
    refine lv_iconst (v := -1) hx hb dX9_hang_17 (by decide) ?_
    refine mt_callV (index := 96) hx hb hml hown hts hK (ΩM.mono D d mp) hA hw hS hl.1 (tX9_told l D d mp (-1 : Int32) u17 hq) (ΩM.recv hK hw) q_525 q_34 q_522 q_524 q_17 nmhX9_told ⟨⟨Nat.le_of_ble_eq_true rfl, Nat.le_of_ble_eq_true rfl⟩, ⟨Nat.le_of_ble_eq_true rfl, Nat.le_of_ble_eq_true rfl⟩⟩ rfl (Nat.le_of_ble_eq_true rfl) dX9_hang_18 (fun _ u19 H locs hq hw hS => ?_)
    obtain ⟨r18, rfl, hq⟩ := hq
    refine W.eq (g2 := F0 m 21 ls [.int r18]) rfl ?_
    exact mt_reti hx hb hr hlocks hw hS (Nat.le_of_ble_eq_true rfl) (Nat.le_of_ble_eq_true rfl) dX9_hang_21 ⟨_, rfl, hq⟩
  · have hq := hq.2 hc
    refine lv_iload_n hx hb dX9_hang_9 rfl (lv_at hl 3 rfl) ?_
    refine mt_callS (index := 90) hx hb hml hown hts hK (ΩM.mono D d mp) hA hw hS hl.1 (tX9_isDrum l D d mp x3 u17 hq) q_515 q_34 q_513 q_514 nmhX9_isDrum ⟨⟨Nat.le_of_ble_eq_true rfl, Nat.le_of_ble_eq_true rfl⟩, ⟨Nat.le_of_ble_eq_true rfl, Nat.le_of_ble_eq_true rfl⟩⟩ rfl (Nat.le_of_ble_eq_true rfl) dX9_hang_10 (fun _ u21 H locs hq hw hS => ?_)
    obtain ⟨r20, rfl, hzr20, hq⟩ := hq
    refine W.eq (g2 := F0 m 13 ls [.int r20]) rfl ?_
    refine lv_if_ne (tgt := 22) hx hb dX9_hang_13 (by decide) (fun hc => ?_) (fun hc => ?_)
    · have hq := hq.1 hc
      refine lv_aload_n hx hb dX9_hang_22 rfl (lv_at hl 0 rfl) ?_
      refine va_get (D := D) (ci := 8) (v := .ref (mp 4)) (C := RX9) (T := TX9) (N := 15) hx hb hts inX9 hown hK.1 hw.1 0 rfl rfl 3 (by decide) (hts _ q_464) (fun _ h9 => h9) rfl dX9_hang_23 ?_
      refine lv_iconst (v := 5) hx hb dX9_hang_26 (by decide) ?_
      refine lv_iload_n hx hb dX9_hang_27 rfl (lv_at hl 3 rfl) ?_
      refine lv_imul hx hb dX9_hang_28 ?_
      refine lv_aload_n hx hb dX9_hang_29 rfl (lv_at hl 0 rfl) ?_
      refine va_get (D := D) (ci := 8) (v := .ref (mp 6)) (C := RX9) (T := TX9) (N := 15) hx hb hts inX9 hown hK.1 hw.1 0 rfl rfl 5 (by decide) (hts _ q_466) (fun _ h9 => h9) rfl dX9_hang_30 ?_
      refine lv_iload_n hx hb dX9_hang_33 rfl (lv_at hl 1 rfl) ?_
      refine va_iald hx hb hK.1 hw.1 6 8 rfl rfl hq.1 dX9_hang_34 ?_
      have hq := hq.2
      refine lv_iadd hx hb dX9_hang_35 ?_
      refine va_iald hx hb hK.1 hw.1 4 8 rfl rfl hq.1 dX9_hang_36 ?_
      have hq := hq.2
      refine lv_topi (fun y22 ey22 => ?_)
      have hq := hq y22 ey22
      refine lv_istore (lv' := [(4, .int y22), (0, .ref (mp 0)), (1, .int x1), (2, .int x2), (3, .int x3)]) hx hb dX9_hang_37 hl (by decide) rfl (fun ls hl => ?_)
      refine lv_iload hx hb dX9_hang_39 (lv_at hl 0 rfl) ?_
      refine lv_if_ge (tgt := 51) hx hb dX9_hang_41 (by decide) (fun hc => ?_) (fun hc => ?_)
      · have hq := hq.1 hc
        refine lv_aload_n hx hb dX9_hang_51 rfl (lv_at hl 1 rfl) ?_
        refine lv_iload_n hx hb dX9_hang_52 rfl (lv_at hl 2 rfl) ?_
        refine lv_iload_n hx hb dX9_hang_53 rfl (lv_at hl 3 rfl) ?_
        refine lv_iload hx hb dX9_hang_54 (lv_at hl 0 rfl) ?_
        refine mt_callV (index := 128) hx hb hml hown hts hK (ΩM.mono D d mp) hA hw hS hl.1 (tX9_toothGets l D d mp x1 x2 y22 u21 hq) (ΩM.recv hK hw) q_636 q_34 q_633 q_635 q_28 nmhX9_toothGets ⟨⟨Nat.le_of_ble_eq_true rfl, Nat.le_of_ble_eq_true rfl⟩, ⟨Nat.le_of_ble_eq_true rfl, Nat.le_of_ble_eq_true rfl⟩⟩ rfl (Nat.le_of_ble_eq_true rfl) dX9_hang_56 (fun _ u24 H locs hq hw hS => ?_)
        obtain ⟨rfl, hq⟩ := hq
        refine W.eq (g2 := F0 m 59 ls []) rfl ?_
        refine lv_aload_n hx hb dX9_hang_59 rfl (lv_at hl 1 rfl) ?_
        refine lv_aload_n hx hb dX9_hang_60 rfl (lv_at hl 1 rfl) ?_
        refine va_get (D := D) (ci := 8) (v := .ref (mp 2)) (C := RX9) (T := TX9) (N := 15) hx hb hts inX9 hown hK.1 hw.1 0 rfl rfl 1 (by decide) (hts _ q_462) (fun _ h9 => h9) rfl dX9_hang_61 ?_
        refine lv_iload hx hb dX9_hang_64 (lv_at hl 0 rfl) ?_
        refine va_iald hx hb hK.1 hw.1 2 8 rfl rfl hq.1 dX9_hang_66 ?_
        have hq := hq.2
        refine mt_callV (index := 96) hx hb hml hown hts hK (ΩM.mono D d mp) hA hw hS hl.1 (tX9_told l D d mp (mSize u24 y22.toNatClampNeg) u24 hq) (ΩM.recv hK hw) q_525 q_34 q_522 q_524 q_17 nmhX9_told ⟨⟨Nat.le_of_ble_eq_true rfl, Nat.le_of_ble_eq_true rfl⟩, ⟨Nat.le_of_ble_eq_true rfl, Nat.le_of_ble_eq_true rfl⟩⟩ rfl (Nat.le_of_ble_eq_true rfl) dX9_hang_67 (fun _ u26 H locs hq hw hS => ?_)
        obtain ⟨r25, rfl, hq⟩ := hq
        refine W.eq (g2 := F0 m 70 ls [.int r25]) rfl ?_
        exact mt_reti hx hb hr hlocks hw hS (Nat.le_of_ble_eq_true rfl) (Nat.le_of_ble_eq_true rfl) dX9_hang_70 ⟨_, rfl, hq⟩
      · have hq := hq.2 hc
        refine lv_aload_n hx hb dX9_hang_44 rfl (lv_at hl 1 rfl) ?_
        refine lv_bipush (v := -2) hx hb dX9_hang_45 (by decide) ?_
        refine mt_callV (index := 96) hx hb hml hown hts hK (ΩM.mono D d mp) hA hw hS hl.1 (tX9_told l D d mp (-2 : Int32) u21 hq) (ΩM.recv hK hw) q_525 q_34 q_522 q_524 q_17 nmhX9_told ⟨⟨Nat.le_of_ble_eq_true rfl, Nat.le_of_ble_eq_true rfl⟩, ⟨Nat.le_of_ble_eq_true rfl, Nat.le_of_ble_eq_true rfl⟩⟩ rfl (Nat.le_of_ble_eq_true rfl) dX9_hang_47 (fun _ u28 H locs hq hw hS => ?_)
        obtain ⟨r27, rfl, hq⟩ := hq
        refine W.eq (g2 := F0 m 50 ls [.int r27]) rfl ?_
        exact mt_reti hx hb hr hlocks hw hS (Nat.le_of_ble_eq_true rfl) (Nat.le_of_ble_eq_true rfl) dX9_hang_50 ⟨_, rfl, hq⟩
    · have hq := hq.2 hc
      refine lv_aload_n hx hb dX9_hang_16 rfl (lv_at hl 0 rfl) ?_
      refine lv_iconst (v := -1) hx hb dX9_hang_17 (by decide) ?_
      refine mt_callV (index := 96) hx hb hml hown hts hK (ΩM.mono D d mp) hA hw hS hl.1 (tX9_told l D d mp (-1 : Int32) u21 hq) (ΩM.recv hK hw) q_525 q_34 q_522 q_524 q_17 nmhX9_told ⟨⟨Nat.le_of_ble_eq_true rfl, Nat.le_of_ble_eq_true rfl⟩, ⟨Nat.le_of_ble_eq_true rfl, Nat.le_of_ble_eq_true rfl⟩⟩ rfl (Nat.le_of_ble_eq_true rfl) dX9_hang_18 (fun _ u30 H locs hq hw hS => ?_)
      obtain ⟨r29, rfl, hq⟩ := hq
      refine W.eq (g2 := F0 m 21 ls [.int r29]) rfl ?_
      exact mt_reti hx hb hr hlocks hw hS (Nat.le_of_ble_eq_true rfl) (Nat.le_of_ble_eq_true rfl) dX9_hang_21 ⟨_, rfl, hq⟩
abbrev rmX9_fit : Room := { frames := 3, cells := 0, slots := 0, locals := 65 }
theorem nmhX9_fit : NoMH yX9_fit 3 := by decide +kernel
def wX9_fit (x1 : Int32) (x2 : Int32) (x3 : Int32) (μ : MS) (Q : Int32 → MS → Prop) : Prop :=
    wX9_isTooth x1 x2 μ (fun r16 u17 => (r16 = 0 → wX9_told (-1 : Int32) u17 (fun r18 u19 => Q r18 u19)) ∧ (¬ r16 = 0 → (wX9_isDrum x3 u17 (fun r20 u21 => (¬ r20 = 0 → (vp_in (((40 : Int32) * x1) + x2) 160 ∧ (∀ y22 : Int32, y22 = (mTeeth u21 (((40 : Int32) * x1) + x2).toNatClampNeg) → ((0 ≤ y22 → (vp_in x1 4 ∧ (wX9_drumGets x3 (mCK u21 x1.toNatClampNeg) y22 u21 (fun u24 => vp_in y22 202 ∧ wX9_told (mSize u24 y22.toNatClampNeg) u24 (fun r25 u26 => Q r25 u26))))) ∧ (¬ 0 ≤ y22 → wX9_told (-2 : Int32) u21 (fun r27 u28 => Q r27 u28)))))) ∧ (r20 = 0 → wX9_told (-1 : Int32) u21 (fun r29 u30 => Q r29 u30))))))
set_option maxHeartbeats 4000000 in
set_option maxRecDepth 100000 in
theorem tX9_fit (l : Launch) (D : va_G) (d : AC) (mp : Nat → Nat) (x1 : Int32) (x2 : Int32) (x3 : Int32) (μ : MS) {Q : Int32 → MS → Prop} (hq : wX9_fit x1 x2 x3 μ Q) : MT D d (ΩM D d mp) l yX9_fit (WS yX9_fit cX9_fit 5 (some (.int))) rmX9_fit [.ref (mp 0), .int x1, .int x2, .int x3] μ (qI Q) := by
  refine mt_of (ΩM.mono D d mp) (by decide +kernel) (Nat.le_of_ble_eq_true rfl) (fun p e s m below meth c A ls hx hb hr hml hown hts hlocks hnm hK hA hw hS hl => ?_)
  have hl : lv_has ls 5 [(0, .ref (mp 0)), (1, .int x1), (2, .int x2), (3, .int x3)] := hl
  have hown : s.vm.findClass RX9 = some m.cls := hown
  unfold wX9_fit at hq
  refine lv_aload_n hx hb dX9_fit_0 rfl (lv_at hl 0 rfl) ?_
  refine lv_iload_n hx hb dX9_fit_1 rfl (lv_at hl 1 rfl) ?_
  refine lv_iload_n hx hb dX9_fit_2 rfl (lv_at hl 2 rfl) ?_
  refine mt_callV (index := 134) hx hb hml hown hts hK (ΩM.mono D d mp) hA hw hS hl.1 (tX9_isTooth l D d mp x1 x2 μ hq) (ΩM.recv hK hw) q_656 q_34 q_653 q_655 q_30 nmhX9_isTooth ⟨⟨Nat.le_of_ble_eq_true rfl, Nat.le_of_ble_eq_true rfl⟩, ⟨Nat.le_of_ble_eq_true rfl, Nat.le_of_ble_eq_true rfl⟩⟩ rfl (Nat.le_of_ble_eq_true rfl) dX9_fit_3 (fun _ u17 H locs hq hw hS => ?_)
  obtain ⟨r16, rfl, hzr16, hq⟩ := hq
  refine W.eq (g2 := F0 m 6 ls [.int r16]) rfl ?_
  refine lv_if_eq (tgt := 16) hx hb dX9_fit_6 (by decide) (fun hc => ?_) (fun hc => ?_)
  · have hq := hq.1 hc
    refine lv_aload_n hx hb dX9_fit_16 rfl (lv_at hl 0 rfl) ?_
    refine lv_iconst (v := -1) hx hb dX9_fit_17 (by decide) ?_
    refine mt_callV (index := 96) hx hb hml hown hts hK (ΩM.mono D d mp) hA hw hS hl.1 (tX9_told l D d mp (-1 : Int32) u17 hq) (ΩM.recv hK hw) q_525 q_34 q_522 q_524 q_17 nmhX9_told ⟨⟨Nat.le_of_ble_eq_true rfl, Nat.le_of_ble_eq_true rfl⟩, ⟨Nat.le_of_ble_eq_true rfl, Nat.le_of_ble_eq_true rfl⟩⟩ rfl (Nat.le_of_ble_eq_true rfl) dX9_fit_18 (fun _ u19 H locs hq hw hS => ?_)
    obtain ⟨r18, rfl, hq⟩ := hq
    refine W.eq (g2 := F0 m 21 ls [.int r18]) rfl ?_
    exact mt_reti hx hb hr hlocks hw hS (Nat.le_of_ble_eq_true rfl) (Nat.le_of_ble_eq_true rfl) dX9_fit_21 ⟨_, rfl, hq⟩
  · have hq := hq.2 hc
    refine lv_iload_n hx hb dX9_fit_9 rfl (lv_at hl 3 rfl) ?_
    refine mt_callS (index := 90) hx hb hml hown hts hK (ΩM.mono D d mp) hA hw hS hl.1 (tX9_isDrum l D d mp x3 u17 hq) q_515 q_34 q_513 q_514 nmhX9_isDrum ⟨⟨Nat.le_of_ble_eq_true rfl, Nat.le_of_ble_eq_true rfl⟩, ⟨Nat.le_of_ble_eq_true rfl, Nat.le_of_ble_eq_true rfl⟩⟩ rfl (Nat.le_of_ble_eq_true rfl) dX9_fit_10 (fun _ u21 H locs hq hw hS => ?_)
    obtain ⟨r20, rfl, hzr20, hq⟩ := hq
    refine W.eq (g2 := F0 m 13 ls [.int r20]) rfl ?_
    refine lv_if_ne (tgt := 22) hx hb dX9_fit_13 (by decide) (fun hc => ?_) (fun hc => ?_)
    · have hq := hq.1 hc
      refine lv_aload_n hx hb dX9_fit_22 rfl (lv_at hl 0 rfl) ?_
      refine va_get (D := D) (ci := 8) (v := .ref (mp 5)) (C := RX9) (T := TX9) (N := 15) hx hb hts inX9 hown hK.1 hw.1 0 rfl rfl 4 (by decide) (hts _ q_465) (fun _ h9 => h9) rfl dX9_fit_23 ?_
      refine lv_bipush (v := 40) hx hb dX9_fit_26 (by decide) ?_
      refine lv_iload_n hx hb dX9_fit_28 rfl (lv_at hl 1 rfl) ?_
      refine lv_imul hx hb dX9_fit_29 ?_
      refine lv_iload_n hx hb dX9_fit_30 rfl (lv_at hl 2 rfl) ?_
      refine lv_iadd hx hb dX9_fit_31 ?_
      refine va_iald hx hb hK.1 hw.1 5 8 rfl rfl hq.1 dX9_fit_32 ?_
      have hq := hq.2
      refine lv_topi (fun y22 ey22 => ?_)
      have hq := hq y22 ey22
      refine lv_istore (lv' := [(4, .int y22), (0, .ref (mp 0)), (1, .int x1), (2, .int x2), (3, .int x3)]) hx hb dX9_fit_33 hl (by decide) rfl (fun ls hl => ?_)
      refine lv_iload hx hb dX9_fit_35 (lv_at hl 0 rfl) ?_
      refine lv_if_ge (tgt := 47) hx hb dX9_fit_37 (by decide) (fun hc => ?_) (fun hc => ?_)
      · have hq := hq.1 hc
        refine lv_aload_n hx hb dX9_fit_47 rfl (lv_at hl 1 rfl) ?_
        refine lv_iload_n hx hb dX9_fit_48 rfl (lv_at hl 4 rfl) ?_
        refine lv_aload_n hx hb dX9_fit_49 rfl (lv_at hl 1 rfl) ?_
        refine va_get (D := D) (ci := 8) (v := .ref (mp 6)) (C := RX9) (T := TX9) (N := 15) hx hb hts inX9 hown hK.1 hw.1 0 rfl rfl 5 (by decide) (hts _ q_466) (fun _ h9 => h9) rfl dX9_fit_50 ?_
        refine lv_iload_n hx hb dX9_fit_53 rfl (lv_at hl 2 rfl) ?_
        refine va_iald hx hb hK.1 hw.1 6 8 rfl rfl hq.1 dX9_fit_54 ?_
        have hq := hq.2
        refine lv_iload hx hb dX9_fit_55 (lv_at hl 0 rfl) ?_
        refine mt_callV (index := 103) hx hb hml hown hts hK (ΩM.mono D d mp) hA hw hS hl.1 (tX9_drumGets l D d mp x3 (mCK u21 x1.toNatClampNeg) y22 u21 hq) (ΩM.recv hK hw) q_533 q_34 q_530 q_532 q_19 nmhX9_drumGets ⟨⟨Nat.le_of_ble_eq_true rfl, Nat.le_of_ble_eq_true rfl⟩, ⟨Nat.le_of_ble_eq_true rfl, Nat.le_of_ble_eq_true rfl⟩⟩ rfl (Nat.le_of_ble_eq_true rfl) dX9_fit_57 (fun _ u24 H locs hq hw hS => ?_)
        obtain ⟨rfl, hq⟩ := hq
        refine W.eq (g2 := F0 m 60 ls []) rfl ?_
        refine lv_aload_n hx hb dX9_fit_60 rfl (lv_at hl 1 rfl) ?_
        refine lv_aload_n hx hb dX9_fit_61 rfl (lv_at hl 1 rfl) ?_
        refine va_get (D := D) (ci := 8) (v := .ref (mp 2)) (C := RX9) (T := TX9) (N := 15) hx hb hts inX9 hown hK.1 hw.1 0 rfl rfl 1 (by decide) (hts _ q_462) (fun _ h9 => h9) rfl dX9_fit_62 ?_
        refine lv_iload hx hb dX9_fit_65 (lv_at hl 0 rfl) ?_
        refine va_iald hx hb hK.1 hw.1 2 8 rfl rfl hq.1 dX9_fit_67 ?_
        have hq := hq.2
        refine mt_callV (index := 96) hx hb hml hown hts hK (ΩM.mono D d mp) hA hw hS hl.1 (tX9_told l D d mp (mSize u24 y22.toNatClampNeg) u24 hq) (ΩM.recv hK hw) q_525 q_34 q_522 q_524 q_17 nmhX9_told ⟨⟨Nat.le_of_ble_eq_true rfl, Nat.le_of_ble_eq_true rfl⟩, ⟨Nat.le_of_ble_eq_true rfl, Nat.le_of_ble_eq_true rfl⟩⟩ rfl (Nat.le_of_ble_eq_true rfl) dX9_fit_68 (fun _ u26 H locs hq hw hS => ?_)
        obtain ⟨r25, rfl, hq⟩ := hq
        refine W.eq (g2 := F0 m 71 ls [.int r25]) rfl ?_
        exact mt_reti hx hb hr hlocks hw hS (Nat.le_of_ble_eq_true rfl) (Nat.le_of_ble_eq_true rfl) dX9_fit_71 ⟨_, rfl, hq⟩
      · have hq := hq.2 hc
        refine lv_aload_n hx hb dX9_fit_40 rfl (lv_at hl 1 rfl) ?_
        refine lv_bipush (v := -2) hx hb dX9_fit_41 (by decide) ?_
        refine mt_callV (index := 96) hx hb hml hown hts hK (ΩM.mono D d mp) hA hw hS hl.1 (tX9_told l D d mp (-2 : Int32) u21 hq) (ΩM.recv hK hw) q_525 q_34 q_522 q_524 q_17 nmhX9_told ⟨⟨Nat.le_of_ble_eq_true rfl, Nat.le_of_ble_eq_true rfl⟩, ⟨Nat.le_of_ble_eq_true rfl, Nat.le_of_ble_eq_true rfl⟩⟩ rfl (Nat.le_of_ble_eq_true rfl) dX9_fit_43 (fun _ u28 H locs hq hw hS => ?_)
        obtain ⟨r27, rfl, hq⟩ := hq
        refine W.eq (g2 := F0 m 46 ls [.int r27]) rfl ?_
        exact mt_reti hx hb hr hlocks hw hS (Nat.le_of_ble_eq_true rfl) (Nat.le_of_ble_eq_true rfl) dX9_fit_46 ⟨_, rfl, hq⟩
    · have hq := hq.2 hc
      refine lv_aload_n hx hb dX9_fit_16 rfl (lv_at hl 0 rfl) ?_
      refine lv_iconst (v := -1) hx hb dX9_fit_17 (by decide) ?_
      refine mt_callV (index := 96) hx hb hml hown hts hK (ΩM.mono D d mp) hA hw hS hl.1 (tX9_told l D d mp (-1 : Int32) u21 hq) (ΩM.recv hK hw) q_525 q_34 q_522 q_524 q_17 nmhX9_told ⟨⟨Nat.le_of_ble_eq_true rfl, Nat.le_of_ble_eq_true rfl⟩, ⟨Nat.le_of_ble_eq_true rfl, Nat.le_of_ble_eq_true rfl⟩⟩ rfl (Nat.le_of_ble_eq_true rfl) dX9_fit_18 (fun _ u30 H locs hq hw hS => ?_)
      obtain ⟨r29, rfl, hq⟩ := hq
      refine W.eq (g2 := F0 m 21 ls [.int r29]) rfl ?_
      exact mt_reti hx hb hr hlocks hw hS (Nat.le_of_ble_eq_true rfl) (Nat.le_of_ble_eq_true rfl) dX9_fit_21 ⟨_, rfl, hq⟩
abbrev rmX9_cell : Room := { frames := 3, cells := 0, slots := 0, locals := 65 }
theorem nmhX9_cell : NoMH yX9_cell 3 := by decide +kernel
def wX9_cell (x1 : Int32) (x2 : Int32) (x3 : Int32) (μ : MS) (Q : Int32 → MS → Prop) : Prop :=
    wX9_isTooth x1 x2 μ (fun r5 u6 => (¬ r5 = 0 → (vp_in (((40 : Int32) * x1) + x2) 160 ∧ (wX9_reads (mTeeth u6 (((40 : Int32) * x1) + x2).toNatClampNeg) x3 u6 (fun r7 u8 => Q r7 u8)))) ∧ (r5 = 0 → (Q (0 : Int32) (nState u6 (-1 : Int32)))))
set_option maxHeartbeats 4000000 in
set_option maxRecDepth 100000 in
theorem tX9_cell (l : Launch) (D : va_G) (d : AC) (mp : Nat → Nat) (x1 : Int32) (x2 : Int32) (x3 : Int32) (μ : MS) {Q : Int32 → MS → Prop} (hq : wX9_cell x1 x2 x3 μ Q) : MT D d (ΩM D d mp) l yX9_cell (WS yX9_cell cX9_cell 4 (some (.int))) rmX9_cell [.ref (mp 0), .int x1, .int x2, .int x3] μ (qI Q) := by
  refine mt_of (ΩM.mono D d mp) (by decide +kernel) (Nat.le_of_ble_eq_true rfl) (fun p e s m below meth c A ls hx hb hr hml hown hts hlocks hnm hK hA hw hS hl => ?_)
  have hl : lv_has ls 4 [(0, .ref (mp 0)), (1, .int x1), (2, .int x2), (3, .int x3)] := hl
  have hown : s.vm.findClass RX9 = some m.cls := hown
  unfold wX9_cell at hq
  refine lv_aload_n hx hb dX9_cell_0 rfl (lv_at hl 0 rfl) ?_
  refine lv_iload_n hx hb dX9_cell_1 rfl (lv_at hl 1 rfl) ?_
  refine lv_iload_n hx hb dX9_cell_2 rfl (lv_at hl 2 rfl) ?_
  refine mt_callV (index := 134) hx hb hml hown hts hK (ΩM.mono D d mp) hA hw hS hl.1 (tX9_isTooth l D d mp x1 x2 μ hq) (ΩM.recv hK hw) q_656 q_34 q_653 q_655 q_30 nmhX9_isTooth ⟨⟨Nat.le_of_ble_eq_true rfl, Nat.le_of_ble_eq_true rfl⟩, ⟨Nat.le_of_ble_eq_true rfl, Nat.le_of_ble_eq_true rfl⟩⟩ rfl (Nat.le_of_ble_eq_true rfl) dX9_cell_3 (fun _ u6 H locs hq hw hS => ?_)
  obtain ⟨r5, rfl, hzr5, hq⟩ := hq
  refine W.eq (g2 := F0 m 6 ls [.int r5]) rfl ?_
  refine lv_if_ne (tgt := 16) hx hb dX9_cell_6 (by decide) (fun hc => ?_) (fun hc => ?_)
  · have hq := hq.1 hc
    refine lv_aload_n hx hb dX9_cell_16 rfl (lv_at hl 0 rfl) ?_
    refine lv_aload_n hx hb dX9_cell_17 rfl (lv_at hl 0 rfl) ?_
    refine va_get (D := D) (ci := 8) (v := .ref (mp 5)) (C := RX9) (T := TX9) (N := 15) hx hb hts inX9 hown hK.1 hw.1 0 rfl rfl 4 (by decide) (hts _ q_465) (fun _ h9 => h9) rfl dX9_cell_18 ?_
    refine lv_bipush (v := 40) hx hb dX9_cell_21 (by decide) ?_
    refine lv_iload_n hx hb dX9_cell_23 rfl (lv_at hl 1 rfl) ?_
    refine lv_imul hx hb dX9_cell_24 ?_
    refine lv_iload_n hx hb dX9_cell_25 rfl (lv_at hl 2 rfl) ?_
    refine lv_iadd hx hb dX9_cell_26 ?_
    refine va_iald hx hb hK.1 hw.1 5 8 rfl rfl hq.1 dX9_cell_27 ?_
    have hq := hq.2
    refine lv_iload_n hx hb dX9_cell_28 rfl (lv_at hl 3 rfl) ?_
    refine mt_callV (index := 107) hx hb hml hown hts hK (ΩM.mono D d mp) hA hw hS hl.1 (tX9_reads l D d mp (mTeeth u6 (((40 : Int32) * x1) + x2).toNatClampNeg) x3 u6 hq) (ΩM.recv hK hw) q_553 q_34 q_550 q_552 q_20 nmhX9_reads ⟨⟨Nat.le_of_ble_eq_true rfl, Nat.le_of_ble_eq_true rfl⟩, ⟨Nat.le_of_ble_eq_true rfl, Nat.le_of_ble_eq_true rfl⟩⟩ rfl (Nat.le_of_ble_eq_true rfl) dX9_cell_29 (fun _ u8 H locs hq hw hS => ?_)
    obtain ⟨r7, rfl, hq⟩ := hq
    refine W.eq (g2 := F0 m 32 ls [.int r7]) rfl ?_
    exact mt_reti hx hb hr hlocks hw hS (Nat.le_of_ble_eq_true rfl) (Nat.le_of_ble_eq_true rfl) dX9_cell_32 ⟨_, rfl, hq⟩
  · have hq := hq.2 hc
    refine lv_aload_n hx hb dX9_cell_9 rfl (lv_at hl 0 rfl) ?_
    refine lv_iconst (v := -1) hx hb dX9_cell_10 (by decide) ?_
    refine va_put (D := D) (ci := 8) (v := .int (-1 : Int32)) (ty := .int) (C := RX9) (T := TX9) (N := 15) hx hb hts inX9 tyX9 tyX9_ok nmX9 hown hK.1 hw.1 hw.2 hS 0 rfl rfl 14 (by decide) (hts _ q_475) (fun _ h9 => h9) rfl (by decide +kernel) rfl rfl (Nat.le_of_ble_eq_true rfl) dX9_cell_11 (fun H locs hP hD hS => ?_)
    have hw : ΩM D d mp A (nState u6 (-1 : Int32)) H := ⟨hP, hD⟩
    refine lv_iconst (v := 0) hx hb dX9_cell_14 (by decide) ?_
    exact mt_reti hx hb hr hlocks hw hS (Nat.le_of_ble_eq_true rfl) (Nat.le_of_ble_eq_true rfl) dX9_cell_15 ⟨_, rfl, hq⟩
abbrev rmX9_set : Room := { frames := 3, cells := 0, slots := 0, locals := 69 }
theorem nmhX9_set : NoMH yX9_set 4 := by decide +kernel
def wX9_set (x1 : Int32) (x2 : Int32) (x3 : Int32) (x4 : Int32) (μ : MS) (Q : Int32 → MS → Prop) : Prop :=
    wX9_isTooth x1 x2 μ (fun r9 u10 => (¬ r9 = 0 → (vp_in x1 4 ∧ (vp_in (((40 : Int32) * x1) + x2) 160 ∧ (wX9_writes (mCK u10 x1.toNatClampNeg) (mTeeth u10 (((40 : Int32) * x1) + x2).toNatClampNeg) x3 x4 u10 (fun r11 u12 => wX9_told r11 u12 (fun r13 u14 => Q r13 u14)))))) ∧ (r9 = 0 → wX9_told (-1 : Int32) u10 (fun r15 u16 => Q r15 u16)))
set_option maxHeartbeats 4000000 in
set_option maxRecDepth 100000 in
theorem tX9_set (l : Launch) (D : va_G) (d : AC) (mp : Nat → Nat) (x1 : Int32) (x2 : Int32) (x3 : Int32) (x4 : Int32) (μ : MS) {Q : Int32 → MS → Prop} (hq : wX9_set x1 x2 x3 x4 μ Q) : MT D d (ΩM D d mp) l yX9_set (WS yX9_set cX9_set 5 (some (.int))) rmX9_set [.ref (mp 0), .int x1, .int x2, .int x3, .int x4] μ (qI Q) := by
  refine mt_of (ΩM.mono D d mp) (by decide +kernel) (Nat.le_of_ble_eq_true rfl) (fun p e s m below meth c A ls hx hb hr hml hown hts hlocks hnm hK hA hw hS hl => ?_)
  have hl : lv_has ls 5 [(0, .ref (mp 0)), (1, .int x1), (2, .int x2), (3, .int x3), (4, .int x4)] := hl
  have hown : s.vm.findClass RX9 = some m.cls := hown
  unfold wX9_set at hq
  refine lv_aload_n hx hb dX9_set_0 rfl (lv_at hl 0 rfl) ?_
  refine lv_iload_n hx hb dX9_set_1 rfl (lv_at hl 1 rfl) ?_
  refine lv_iload_n hx hb dX9_set_2 rfl (lv_at hl 2 rfl) ?_
  refine mt_callV (index := 134) hx hb hml hown hts hK (ΩM.mono D d mp) hA hw hS hl.1 (tX9_isTooth l D d mp x1 x2 μ hq) (ΩM.recv hK hw) q_656 q_34 q_653 q_655 q_30 nmhX9_isTooth ⟨⟨Nat.le_of_ble_eq_true rfl, Nat.le_of_ble_eq_true rfl⟩, ⟨Nat.le_of_ble_eq_true rfl, Nat.le_of_ble_eq_true rfl⟩⟩ rfl (Nat.le_of_ble_eq_true rfl) dX9_set_3 (fun _ u10 H locs hq hw hS => ?_)
  obtain ⟨r9, rfl, hzr9, hq⟩ := hq
  refine W.eq (g2 := F0 m 6 ls [.int r9]) rfl ?_
  refine lv_if_ne (tgt := 15) hx hb dX9_set_6 (by decide) (fun hc => ?_) (fun hc => ?_)
  · have hq := hq.1 hc
    refine lv_aload_n hx hb dX9_set_15 rfl (lv_at hl 0 rfl) ?_
    refine lv_aload_n hx hb dX9_set_16 rfl (lv_at hl 0 rfl) ?_
    refine lv_aload_n hx hb dX9_set_17 rfl (lv_at hl 0 rfl) ?_
    refine va_get (D := D) (ci := 8) (v := .ref (mp 6)) (C := RX9) (T := TX9) (N := 15) hx hb hts inX9 hown hK.1 hw.1 0 rfl rfl 5 (by decide) (hts _ q_466) (fun _ h9 => h9) rfl dX9_set_18 ?_
    refine lv_iload_n hx hb dX9_set_21 rfl (lv_at hl 1 rfl) ?_
    refine va_iald hx hb hK.1 hw.1 6 8 rfl rfl hq.1 dX9_set_22 ?_
    have hq := hq.2
    refine lv_aload_n hx hb dX9_set_23 rfl (lv_at hl 0 rfl) ?_
    refine va_get (D := D) (ci := 8) (v := .ref (mp 5)) (C := RX9) (T := TX9) (N := 15) hx hb hts inX9 hown hK.1 hw.1 0 rfl rfl 4 (by decide) (hts _ q_465) (fun _ h9 => h9) rfl dX9_set_24 ?_
    refine lv_bipush (v := 40) hx hb dX9_set_27 (by decide) ?_
    refine lv_iload_n hx hb dX9_set_29 rfl (lv_at hl 1 rfl) ?_
    refine lv_imul hx hb dX9_set_30 ?_
    refine lv_iload_n hx hb dX9_set_31 rfl (lv_at hl 2 rfl) ?_
    refine lv_iadd hx hb dX9_set_32 ?_
    refine va_iald hx hb hK.1 hw.1 5 8 rfl rfl hq.1 dX9_set_33 ?_
    have hq := hq.2
    refine lv_iload_n hx hb dX9_set_34 rfl (lv_at hl 3 rfl) ?_
    refine lv_iload hx hb dX9_set_35 (lv_at hl 4 rfl) ?_
    refine mt_callV (index := 110) hx hb hml hown hts hK (ΩM.mono D d mp) hA hw hS hl.1 (tX9_writes l D d mp (mCK u10 x1.toNatClampNeg) (mTeeth u10 (((40 : Int32) * x1) + x2).toNatClampNeg) x3 x4 u10 hq) (ΩM.recv hK hw) q_565 q_34 q_562 q_564 q_22 nmhX9_writes ⟨⟨Nat.le_of_ble_eq_true rfl, Nat.le_of_ble_eq_true rfl⟩, ⟨Nat.le_of_ble_eq_true rfl, Nat.le_of_ble_eq_true rfl⟩⟩ rfl (Nat.le_of_ble_eq_true rfl) dX9_set_37 (fun _ u12 H locs hq hw hS => ?_)
    obtain ⟨r11, rfl, hq⟩ := hq
    refine W.eq (g2 := F0 m 40 ls [.int r11, .ref (mp 0)]) rfl ?_
    refine mt_callV (index := 96) hx hb hml hown hts hK (ΩM.mono D d mp) hA hw hS hl.1 (tX9_told l D d mp r11 u12 hq) (ΩM.recv hK hw) q_525 q_34 q_522 q_524 q_17 nmhX9_told ⟨⟨Nat.le_of_ble_eq_true rfl, Nat.le_of_ble_eq_true rfl⟩, ⟨Nat.le_of_ble_eq_true rfl, Nat.le_of_ble_eq_true rfl⟩⟩ rfl (Nat.le_of_ble_eq_true rfl) dX9_set_40 (fun _ u14 H locs hq hw hS => ?_)
    obtain ⟨r13, rfl, hq⟩ := hq
    refine W.eq (g2 := F0 m 43 ls [.int r13]) rfl ?_
    exact mt_reti hx hb hr hlocks hw hS (Nat.le_of_ble_eq_true rfl) (Nat.le_of_ble_eq_true rfl) dX9_set_43 ⟨_, rfl, hq⟩
  · have hq := hq.2 hc
    refine lv_aload_n hx hb dX9_set_9 rfl (lv_at hl 0 rfl) ?_
    refine lv_iconst (v := -1) hx hb dX9_set_10 (by decide) ?_
    refine mt_callV (index := 96) hx hb hml hown hts hK (ΩM.mono D d mp) hA hw hS hl.1 (tX9_told l D d mp (-1 : Int32) u10 hq) (ΩM.recv hK hw) q_525 q_34 q_522 q_524 q_17 nmhX9_told ⟨⟨Nat.le_of_ble_eq_true rfl, Nat.le_of_ble_eq_true rfl⟩, ⟨Nat.le_of_ble_eq_true rfl, Nat.le_of_ble_eq_true rfl⟩⟩ rfl (Nat.le_of_ble_eq_true rfl) dX9_set_11 (fun _ u16 H locs hq hw hS => ?_)
    obtain ⟨r15, rfl, hq⟩ := hq
    refine W.eq (g2 := F0 m 14 ls [.int r15]) rfl ?_
    exact mt_reti hx hb hr hlocks hw hS (Nat.le_of_ble_eq_true rfl) (Nat.le_of_ble_eq_true rfl) dX9_set_14 ⟨_, rfl, hq⟩
abbrev rmX9_twist : Room := { frames := 3, cells := 0, slots := 0, locals := 71 }
theorem nmhX9_twist : NoMH yX9_twist 4 := by decide +kernel
def wX9_twist (x1 : Int32) (x2 : Int32) (x3 : Int32) (x4 : Int32) (μ : MS) (Q : Int32 → MS → Prop) : Prop :=
    wX9_isTooth x1 x2 μ (fun r9 u10 => (¬ r9 = 0 → (vp_in x1 4 ∧ (vp_in (((40 : Int32) * x1) + x2) 160 ∧ (wX9_turns (mCK u10 x1.toNatClampNeg) (mTeeth u10 (((40 : Int32) * x1) + x2).toNatClampNeg) x3 x4 u10 (fun r11 u12 => wX9_told r11 u12 (fun r13 u14 => Q r13 u14)))))) ∧ (r9 = 0 → wX9_told (-1 : Int32) u10 (fun r15 u16 => Q r15 u16)))
set_option maxHeartbeats 4000000 in
set_option maxRecDepth 100000 in
theorem tX9_twist (l : Launch) (D : va_G) (d : AC) (mp : Nat → Nat) (x1 : Int32) (x2 : Int32) (x3 : Int32) (x4 : Int32) (μ : MS) {Q : Int32 → MS → Prop} (hq : wX9_twist x1 x2 x3 x4 μ Q) : MT D d (ΩM D d mp) l yX9_twist (WS yX9_twist cX9_twist 5 (some (.int))) rmX9_twist [.ref (mp 0), .int x1, .int x2, .int x3, .int x4] μ (qI Q) := by
  refine mt_of (ΩM.mono D d mp) (by decide +kernel) (Nat.le_of_ble_eq_true rfl) (fun p e s m below meth c A ls hx hb hr hml hown hts hlocks hnm hK hA hw hS hl => ?_)
  have hl : lv_has ls 5 [(0, .ref (mp 0)), (1, .int x1), (2, .int x2), (3, .int x3), (4, .int x4)] := hl
  have hown : s.vm.findClass RX9 = some m.cls := hown
  unfold wX9_twist at hq
  refine lv_aload_n hx hb dX9_twist_0 rfl (lv_at hl 0 rfl) ?_
  refine lv_iload_n hx hb dX9_twist_1 rfl (lv_at hl 1 rfl) ?_
  refine lv_iload_n hx hb dX9_twist_2 rfl (lv_at hl 2 rfl) ?_
  refine mt_callV (index := 134) hx hb hml hown hts hK (ΩM.mono D d mp) hA hw hS hl.1 (tX9_isTooth l D d mp x1 x2 μ hq) (ΩM.recv hK hw) q_656 q_34 q_653 q_655 q_30 nmhX9_isTooth ⟨⟨Nat.le_of_ble_eq_true rfl, Nat.le_of_ble_eq_true rfl⟩, ⟨Nat.le_of_ble_eq_true rfl, Nat.le_of_ble_eq_true rfl⟩⟩ rfl (Nat.le_of_ble_eq_true rfl) dX9_twist_3 (fun _ u10 H locs hq hw hS => ?_)
  obtain ⟨r9, rfl, hzr9, hq⟩ := hq
  refine W.eq (g2 := F0 m 6 ls [.int r9]) rfl ?_
  refine lv_if_ne (tgt := 15) hx hb dX9_twist_6 (by decide) (fun hc => ?_) (fun hc => ?_)
  · have hq := hq.1 hc
    refine lv_aload_n hx hb dX9_twist_15 rfl (lv_at hl 0 rfl) ?_
    refine lv_aload_n hx hb dX9_twist_16 rfl (lv_at hl 0 rfl) ?_
    refine lv_aload_n hx hb dX9_twist_17 rfl (lv_at hl 0 rfl) ?_
    refine va_get (D := D) (ci := 8) (v := .ref (mp 6)) (C := RX9) (T := TX9) (N := 15) hx hb hts inX9 hown hK.1 hw.1 0 rfl rfl 5 (by decide) (hts _ q_466) (fun _ h9 => h9) rfl dX9_twist_18 ?_
    refine lv_iload_n hx hb dX9_twist_21 rfl (lv_at hl 1 rfl) ?_
    refine va_iald hx hb hK.1 hw.1 6 8 rfl rfl hq.1 dX9_twist_22 ?_
    have hq := hq.2
    refine lv_aload_n hx hb dX9_twist_23 rfl (lv_at hl 0 rfl) ?_
    refine va_get (D := D) (ci := 8) (v := .ref (mp 5)) (C := RX9) (T := TX9) (N := 15) hx hb hts inX9 hown hK.1 hw.1 0 rfl rfl 4 (by decide) (hts _ q_465) (fun _ h9 => h9) rfl dX9_twist_24 ?_
    refine lv_bipush (v := 40) hx hb dX9_twist_27 (by decide) ?_
    refine lv_iload_n hx hb dX9_twist_29 rfl (lv_at hl 1 rfl) ?_
    refine lv_imul hx hb dX9_twist_30 ?_
    refine lv_iload_n hx hb dX9_twist_31 rfl (lv_at hl 2 rfl) ?_
    refine lv_iadd hx hb dX9_twist_32 ?_
    refine va_iald hx hb hK.1 hw.1 5 8 rfl rfl hq.1 dX9_twist_33 ?_
    have hq := hq.2
    refine lv_iload_n hx hb dX9_twist_34 rfl (lv_at hl 3 rfl) ?_
    refine lv_iload hx hb dX9_twist_35 (lv_at hl 4 rfl) ?_
    refine mt_callV (index := 114) hx hb hml hown hts hK (ΩM.mono D d mp) hA hw hS hl.1 (tX9_turns l D d mp (mCK u10 x1.toNatClampNeg) (mTeeth u10 (((40 : Int32) * x1) + x2).toNatClampNeg) x3 x4 u10 hq) (ΩM.recv hK hw) q_590 q_34 q_587 q_589 q_23 nmhX9_turns ⟨⟨Nat.le_of_ble_eq_true rfl, Nat.le_of_ble_eq_true rfl⟩, ⟨Nat.le_of_ble_eq_true rfl, Nat.le_of_ble_eq_true rfl⟩⟩ rfl (Nat.le_of_ble_eq_true rfl) dX9_twist_37 (fun _ u12 H locs hq hw hS => ?_)
    obtain ⟨r11, rfl, hq⟩ := hq
    refine W.eq (g2 := F0 m 40 ls [.int r11, .ref (mp 0)]) rfl ?_
    refine mt_callV (index := 96) hx hb hml hown hts hK (ΩM.mono D d mp) hA hw hS hl.1 (tX9_told l D d mp r11 u12 hq) (ΩM.recv hK hw) q_525 q_34 q_522 q_524 q_17 nmhX9_told ⟨⟨Nat.le_of_ble_eq_true rfl, Nat.le_of_ble_eq_true rfl⟩, ⟨Nat.le_of_ble_eq_true rfl, Nat.le_of_ble_eq_true rfl⟩⟩ rfl (Nat.le_of_ble_eq_true rfl) dX9_twist_40 (fun _ u14 H locs hq hw hS => ?_)
    obtain ⟨r13, rfl, hq⟩ := hq
    refine W.eq (g2 := F0 m 43 ls [.int r13]) rfl ?_
    exact mt_reti hx hb hr hlocks hw hS (Nat.le_of_ble_eq_true rfl) (Nat.le_of_ble_eq_true rfl) dX9_twist_43 ⟨_, rfl, hq⟩
  · have hq := hq.2 hc
    refine lv_aload_n hx hb dX9_twist_9 rfl (lv_at hl 0 rfl) ?_
    refine lv_iconst (v := -1) hx hb dX9_twist_10 (by decide) ?_
    refine mt_callV (index := 96) hx hb hml hown hts hK (ΩM.mono D d mp) hA hw hS hl.1 (tX9_told l D d mp (-1 : Int32) u10 hq) (ΩM.recv hK hw) q_525 q_34 q_522 q_524 q_17 nmhX9_told ⟨⟨Nat.le_of_ble_eq_true rfl, Nat.le_of_ble_eq_true rfl⟩, ⟨Nat.le_of_ble_eq_true rfl, Nat.le_of_ble_eq_true rfl⟩⟩ rfl (Nat.le_of_ble_eq_true rfl) dX9_twist_11 (fun _ u16 H locs hq hw hS => ?_)
    obtain ⟨r15, rfl, hq⟩ := hq
    refine W.eq (g2 := F0 m 14 ls [.int r15]) rfl ?_
    exact mt_reti hx hb hr hlocks hw hS (Nat.le_of_ble_eq_true rfl) (Nat.le_of_ble_eq_true rfl) dX9_twist_14 ⟨_, rfl, hq⟩
abbrev rmX9_state : Room := { frames := 0, cells := 0, slots := 0, locals := 0 }
theorem nmhX9_state : NoMH yX9_state 0 := by decide +kernel
def wX9_state (μ : MS) (Q : Int32 → MS → Prop) : Prop :=
    Q (mState μ) μ
set_option maxHeartbeats 4000000 in
set_option maxRecDepth 100000 in
theorem tX9_state (l : Launch) (D : va_G) (d : AC) (mp : Nat → Nat) (μ : MS) {Q : Int32 → MS → Prop} (hq : wX9_state  μ Q) : MT D d (ΩM D d mp) l yX9_state (WS yX9_state cX9_state 1 (some (.int))) rmX9_state [.ref (mp 0)] μ (qI Q) := by
  refine mt_of (ΩM.mono D d mp) (by decide +kernel) (Nat.le_of_ble_eq_true rfl) (fun p e s m below meth c A ls hx hb hr hml hown hts hlocks hnm hK hA hw hS hl => ?_)
  have hl : lv_has ls 1 [(0, .ref (mp 0))] := hl
  have hown : s.vm.findClass RX9 = some m.cls := hown
  unfold wX9_state at hq
  refine lv_aload_n hx hb dX9_state_0 rfl (lv_at hl 0 rfl) ?_
  refine va_get (D := D) (ci := 8) (v := .int (mState μ)) (C := RX9) (T := TX9) (N := 15) hx hb hts inX9 hown hK.1 hw.1 0 rfl rfl 14 (by decide) (hts _ q_475) (fun _ h9 => h9) rfl dX9_state_1 ?_
  exact mt_reti hx hb hr hlocks hw hS (Nat.le_of_ble_eq_true rfl) (Nat.le_of_ble_eq_true rfl) dX9_state_4 ⟨_, rfl, hq⟩
end
section
/-! ===== the world of the class ===== -/
/-- a drum's fields: head, notes, places, gaps, weights, highest, greatest -/
abbrev DF : Type := Int32 × Int32 × Int32 × Int32 × Int64 × Int32 × UInt32
/-- a track: kind, places, where its cells lie, what they hold (floats by their bits) -/
abbrev TK : Type := Nat × Nat × Nat × (Nat → Int32)
/-- a comb: kind, how many teeth, where they lie, which they are -/
abbrev CM : Type := Int32 × Nat × Nat × (Nat → Option Nat)
/-- the class's state: refusal, slots of drums, drums, combs' slots, combs, tracks -/
abbrev CS : Type := Int32 × (Nat → Nat → Option Nat) × (Nat → DF) × (Nat → Option Nat) × (Nat → Option CM) × (Nat → Option TK)
abbrev sRf (σ : CS) : Int32 := σ.1
abbrev sSl (σ : CS) : Nat → Nat → Option Nat := σ.2.1
abbrev sDf (σ : CS) : Nat → DF := σ.2.2.1
abbrev sCb (σ : CS) : Nat → Option Nat := σ.2.2.2.1
abbrev sCm (σ : CS) : Nat → Option CM := σ.2.2.2.2.1
abbrev sTk (σ : CS) : Nat → Option TK := σ.2.2.2.2.2
abbrev pRf (σ : CS) (v : Int32) : CS := (v, σ.2)
abbrev pSl (σ : CS) (i k : Nat) (o : Option Nat) : CS := (σ.1, va_up σ.2.1 i (va_up (σ.2.1 i) k o), σ.2.2)
abbrev pDf (σ : CS) (i : Nat) (v : DF) : CS := (σ.1, σ.2.1, va_up σ.2.2.1 i v, σ.2.2.2)
abbrev pCb (σ : CS) (i : Nat) (o : Option Nat) : CS := (σ.1, σ.2.1, σ.2.2.1, va_up σ.2.2.2.1 i o, σ.2.2.2.2)
abbrev pCm (σ : CS) (b : Nat) (m : CM) : CS := (σ.1, σ.2.1, σ.2.2.1, σ.2.2.2.1, va_up σ.2.2.2.2.1 b (some m), σ.2.2.2.2.2)
abbrev pTk (σ : CS) (a : Nat) (t : TK) : CS := (σ.1, σ.2.1, σ.2.2.1, σ.2.2.2.1, σ.2.2.2.2.1, va_up σ.2.2.2.2.2 a (some t))
/-- where the fixed things lie: the object, its two arrays, the drums, their rows of tracks -/
abbrev CP : Type := Nat × Nat × Nat × (Nat → Nat) × (Nat → Nat)
abbrev aX (cp : CP) : Nat := cp.1
abbrev aD (cp : CP) : Nat := cp.2.1
abbrev aC (cp : CP) : Nat := cp.2.2.1
abbrev aDr (cp : CP) : Nat → Nat := cp.2.2.2.1
abbrev aDt (cp : CP) : Nat → Nat := cp.2.2.2.2
abbrev rrow (c : ClassId) (n : Nat) (f : Nat → Option Nat) : va_E := .inl (c, n, .inr (.inr (.inr (.inr f))))
def tci : Nat → Nat
  | 0 => 5
  | 1 => 6
  | 2 => 3
  | 3 => 4
  | _ => 0
def arrE (d : AC) (kd n : Nat) (f : Nat → Int32) : va_E := match kd with
  | 3 => .inl (d 3, n, .inr (.inr (.inl (fun k => (f k).toUInt32))))
  | k => .inl (d k, n, .inl f)
abbrev drumE (t : Nat) (v : DF) : va_E := .inr (2, [.ref t, .int v.1, .int v.2.1, .int v.2.2.1, .int v.2.2.2.1, .long v.2.2.2.2.1, .int v.2.2.2.2.2.1, .float v.2.2.2.2.2.2])
abbrev combE (k : Int32) (te : Nat) : va_E := .inr (1, [.int k, .ref te])
abbrev trackE (kd n c : Nat) : va_E := .inr (tci kd, [.int (nI n), .ref c])
abbrev boxE (da ca : Nat) (rf : Int32) : va_E := .inr (7, [.ref da, .ref ca, .int rf])
/-- kinds of cells that are never one -/
def tagE : va_E → Nat
  | .inr (1, _) => 1
  | .inr (2, _) => 2
  | .inr (7, _) => 7
  | .inr _ => 3
  | .inl (_, _, .inr (.inr (.inr (.inr _)))) => 4
  | .inl _ => 5
theorem tag_track (kd n c : Nat) : tagE (trackE kd n c) = 3 := by
  rcases kd with _ | _ | _ | _ | _ <;> rfl
theorem tag_arr (d : AC) (kd n : Nat) (f : Nat → Int32) : tagE (arrE d kd n f) = 5 := by
  rcases kd with _ | _ | _ | _ | _ <;> rfl
theorem ap_tag {G : Pic} {a b : Nat} {e1 e2 : va_E} (h1 : G a = some e1) (h2 : G b = some e2) (h : tagE e1 ≠ tagE e2) : a ≠ b := fun e => by
  subst e
  rw [h1] at h2
  exact h (congrArg tagE (Option.some.inj h2))
def CRep (d : AC) (cp : CP) (σ : CS) (G : Pic) : Prop :=
  G (aX cp) = some (boxE (aD cp) (aC cp) (sRf σ)) ∧
  (∃ f, G (aD cp) = some (rrow (d 6) 8 f) ∧ ∀ i, i < 8 → f i = some (aDr cp i)) ∧
  G (aC cp) = some (rrow (d 7) 4 (sCb σ)) ∧
  (∀ i, i < 8 → G (aDr cp i) = some (drumE (aDt cp i) (sDf σ i))) ∧
  (∀ i, i < 8 → G (aDt cp i) = some (rrow (d 5) 5 (sSl σ i))) ∧
  (∀ b m, sCm σ b = some m → G b = some (combE m.1 m.2.2.1) ∧ G m.2.2.1 = some (rrow (d 5) m.2.1 m.2.2.2)) ∧
  (∀ a t, sTk σ a = some t → t.1 < 5 ∧ G a = some (trackE t.1 t.2.1 t.2.2.1) ∧ G t.2.2.1 = some (arrE d t.1 t.2.1 t.2.2.2)) ∧
  (∀ i j, i < 8 → j < 8 → aDr cp i = aDr cp j → i = j) ∧ (∀ i j, i < 8 → j < 8 → aDt cp i = aDt cp j → i = j) ∧
  (∀ b m, sCm σ b = some m → aD cp ≠ m.2.2.1 ∧ aC cp ≠ m.2.2.1 ∧ ∀ i, i < 8 → aDt cp i ≠ m.2.2.1) ∧
  (∀ b b' m m', sCm σ b = some m → sCm σ b' = some m' → m.2.2.1 = m'.2.2.1 → b = b') ∧
  (∀ a a' t t', sTk σ a = some t → sTk σ a' = some t' → t.2.2.1 = t'.2.2.1 → a = a') ∧
  aD cp ≠ aC cp ∧ (∀ i, i < 8 → aD cp ≠ aDt cp i ∧ aC cp ≠ aDt cp i)
theorem CRep.rf {d : AC} {cp : CP} {σ : CS} {G : Pic} (h : CRep d cp σ G) (v : Int32) : CRep d cp (pRf σ v) (pset G (aX cp) (boxE (aD cp) (aC cp) v)) := by
  obtain ⟨h1, ⟨f, h2, h2'⟩, h3, h4, h5, h6, h7, h8, h9, h10, h11, h12, h13, h14⟩ := h
  refine ⟨pset_self, ⟨f, ?_, h2'⟩, ?_, fun i hi => ?_, fun i hi => ?_, fun b m hb => ⟨?_, ?_⟩, fun a t ha => ⟨(h7 a t ha).1, ?_, ?_⟩, h8, h9, h10, h11, h12, h13, h14⟩
  · rw [pset_ne (ap_tag h2 h1 (Nat.ne_of_beq_eq_false rfl))]; exact h2
  · rw [pset_ne (ap_tag h3 h1 (Nat.ne_of_beq_eq_false rfl))]; exact h3
  · rw [pset_ne (ap_tag (h4 i hi) h1 (Nat.ne_of_beq_eq_false rfl))]; exact h4 i hi
  · rw [pset_ne (ap_tag (h5 i hi) h1 (Nat.ne_of_beq_eq_false rfl))]; exact h5 i hi
  · rw [pset_ne (ap_tag (h6 b m hb).1 h1 (Nat.ne_of_beq_eq_false rfl))]; exact (h6 b m hb).1
  · rw [pset_ne (ap_tag (h6 b m hb).2 h1 (Nat.ne_of_beq_eq_false rfl))]; exact (h6 b m hb).2
  · rw [pset_ne (ap_tag (h7 a t ha).2.1 h1 (by rw [tag_track]; exact Nat.ne_of_beq_eq_false rfl))]; exact (h7 a t ha).2.1
  · rw [pset_ne (ap_tag (h7 a t ha).2.2 h1 (by rw [tag_arr]; exact Nat.ne_of_beq_eq_false rfl))]; exact (h7 a t ha).2.2
theorem CRep.df {d : AC} {cp : CP} {σ : CS} {G : Pic} (h : CRep d cp σ G) {j : Nat} (hj : j < 8) (v : DF) : CRep d cp (pDf σ j v) (pset G (aDr cp j) (drumE (aDt cp j) v)) := by
  obtain ⟨h1, ⟨f, h2, h2'⟩, h3, h4, h5, h6, h7, h8, h9, h10, h11, h12, h13, h14⟩ := h
  have k := h4 j hj
  refine ⟨?_, ⟨f, ?_, h2'⟩, ?_, fun i hi => ?_, fun i hi => ?_, fun b m hb => ⟨?_, ?_⟩, fun a t ha => ⟨(h7 a t ha).1, ?_, ?_⟩, h8, h9, h10, h11, h12, h13, h14⟩
  · rw [pset_ne (ap_tag h1 k (Nat.ne_of_beq_eq_false rfl))]; exact h1
  · rw [pset_ne (ap_tag h2 k (Nat.ne_of_beq_eq_false rfl))]; exact h2
  · rw [pset_ne (ap_tag h3 k (Nat.ne_of_beq_eq_false rfl))]; exact h3
  · by_cases hij : i = j
    · subst hij
      rw [pset_self]
      show some (drumE (aDt cp i) v) = some (drumE (aDt cp i) (va_up σ.2.2.1 i v i))
      rw [va_up_self]
    · rw [pset_ne (fun e => hij (h8 i j hi hj e)), h4 i hi]
      show some (drumE (aDt cp i) (σ.2.2.1 i)) = some (drumE (aDt cp i) (va_up σ.2.2.1 j v i))
      rw [va_up_ne _ _ hij]
  · rw [pset_ne (ap_tag (h5 i hi) k (Nat.ne_of_beq_eq_false rfl))]; exact h5 i hi
  · rw [pset_ne (ap_tag (h6 b m hb).1 k (Nat.ne_of_beq_eq_false rfl))]; exact (h6 b m hb).1
  · rw [pset_ne (ap_tag (h6 b m hb).2 k (Nat.ne_of_beq_eq_false rfl))]; exact (h6 b m hb).2
  · rw [pset_ne (ap_tag (h7 a t ha).2.1 k (by rw [tag_track]; exact Nat.ne_of_beq_eq_false rfl))]; exact (h7 a t ha).2.1
  · rw [pset_ne (ap_tag (h7 a t ha).2.2 k (by rw [tag_arr]; exact Nat.ne_of_beq_eq_false rfl))]; exact (h7 a t ha).2.2
theorem CRep.sl {d : AC} {cp : CP} {σ : CS} {G : Pic} (h : CRep d cp σ G) {j : Nat} (hj : j < 8) (k : Nat) (o : Option Nat) : CRep d cp (pSl σ j k o) (pset G (aDt cp j) (rrow (d 5) 5 (va_up (sSl σ j) k o))) := by
  obtain ⟨h1, ⟨f, h2, h2'⟩, h3, h4, h5, h6, h7, h8, h9, h10, h11, h12, h13, h14⟩ := h
  have kk := h5 j hj
  refine ⟨?_, ⟨f, ?_, h2'⟩, ?_, fun i hi => ?_, fun i hi => ?_, fun b m hb => ⟨?_, ?_⟩, fun a t ha => ⟨(h7 a t ha).1, ?_, ?_⟩, h8, h9, h10, h11, h12, h13, h14⟩
  · rw [pset_ne (ap_tag h1 kk (Nat.ne_of_beq_eq_false rfl))]; exact h1
  · rw [pset_ne (h14 j hj).1]; exact h2
  · rw [pset_ne (h14 j hj).2]; exact h3
  · rw [pset_ne (ap_tag (h4 i hi) kk (Nat.ne_of_beq_eq_false rfl))]; exact h4 i hi
  · by_cases hij : i = j
    · subst hij
      rw [pset_self]
      show some (rrow (d 5) 5 (va_up (sSl σ i) k o)) = some (rrow (d 5) 5 (va_up σ.2.1 i (va_up (σ.2.1 i) k o) i))
      rw [va_up_self]
    · rw [pset_ne (fun e => hij (h9 i j hi hj e)), h5 i hi]
      show some (rrow (d 5) 5 (σ.2.1 i)) = some (rrow (d 5) 5 (va_up σ.2.1 j (va_up (σ.2.1 j) k o) i))
      rw [va_up_ne _ _ hij]
  · rw [pset_ne (ap_tag (h6 b m hb).1 kk (Nat.ne_of_beq_eq_false rfl))]; exact (h6 b m hb).1
  · rw [pset_ne (Ne.symm ((h10 b m hb).2.2 j hj))]; exact (h6 b m hb).2
  · rw [pset_ne (ap_tag (h7 a t ha).2.1 kk (by rw [tag_track]; exact Nat.ne_of_beq_eq_false rfl))]; exact (h7 a t ha).2.1
  · rw [pset_ne (ap_tag (h7 a t ha).2.2 kk (by rw [tag_arr]; exact Nat.ne_of_beq_eq_false rfl))]; exact (h7 a t ha).2.2
theorem CRep.cb {d : AC} {cp : CP} {σ : CS} {G : Pic} (h : CRep d cp σ G) (k : Nat) (o : Option Nat) : CRep d cp (pCb σ k o) (pset G (aC cp) (rrow (d 7) 4 (va_up (sCb σ) k o))) := by
  obtain ⟨h1, ⟨f, h2, h2'⟩, h3, h4, h5, h6, h7, h8, h9, h10, h11, h12, h13, h14⟩ := h
  refine ⟨?_, ⟨f, ?_, h2'⟩, pset_self, fun i hi => ?_, fun i hi => ?_, fun b m hb => ⟨?_, ?_⟩, fun a t ha => ⟨(h7 a t ha).1, ?_, ?_⟩, h8, h9, h10, h11, h12, h13, h14⟩
  · rw [pset_ne (ap_tag h1 h3 (Nat.ne_of_beq_eq_false rfl))]; exact h1
  · rw [pset_ne h13]; exact h2
  · rw [pset_ne (ap_tag (h4 i hi) h3 (Nat.ne_of_beq_eq_false rfl))]; exact h4 i hi
  · rw [pset_ne (Ne.symm (h14 i hi).2)]; exact h5 i hi
  · rw [pset_ne (ap_tag (h6 b m hb).1 h3 (Nat.ne_of_beq_eq_false rfl))]; exact (h6 b m hb).1
  · rw [pset_ne (Ne.symm (h10 b m hb).2.1)]; exact (h6 b m hb).2
  · rw [pset_ne (ap_tag (h7 a t ha).2.1 h3 (by rw [tag_track]; exact Nat.ne_of_beq_eq_false rfl))]; exact (h7 a t ha).2.1
  · rw [pset_ne (ap_tag (h7 a t ha).2.2 h3 (by rw [tag_arr]; exact Nat.ne_of_beq_eq_false rfl))]; exact (h7 a t ha).2.2
theorem CRep.cm {d : AC} {cp : CP} {σ : CS} {G : Pic} (h : CRep d cp σ G) {b0 : Nat} {k0 : Int32} {n0 te : Nat} {tt : Nat → Option Nat} (hb0 : sCm σ b0 = some (k0, n0, te, tt)) (k : Nat) (o : Option Nat) : CRep d cp (pCm σ b0 (k0, n0, te, va_up tt k o)) (pset G te (rrow (d 5) n0 (va_up tt k o))) := by
  obtain ⟨h1, ⟨f, h2, h2'⟩, h3, h4, h5, h6, h7, h8, h9, h10, h11, h12, h13, h14⟩ := h
  have kk := (h6 b0 _ hb0).2
  have hap := h10 b0 _ hb0
  have old : ∀ b m, va_up σ.2.2.2.2.1 b0 (some (k0, n0, te, va_up tt k o)) b = some m → ∃ m0, sCm σ b = some m0 ∧ m0.1 = m.1 ∧ m0.2.2.1 = m.2.2.1 ∧ (b ≠ b0 → m0 = m) ∧ (b = b0 → m = (k0, n0, te, va_up tt k o)) := by
    intro b m hb
    by_cases hbb : b = b0
    · subst hbb
      rw [va_up_self] at hb
      cases hb
      exact ⟨_, hb0, rfl, rfl, fun h => absurd rfl h, fun _ => rfl⟩
    · rw [va_up_ne _ _ hbb] at hb
      exact ⟨m, hb, rfl, rfl, fun _ => rfl, fun h => absurd h hbb⟩
  refine ⟨?_, ⟨f, ?_, h2'⟩, ?_, fun i hi => ?_, fun i hi => ?_, fun b m hb => ?_, fun a t ha => ⟨(h7 a t ha).1, ?_, ?_⟩, h8, h9, fun b m hb => ?_, fun b b' m m' hb hb' e => ?_, h12, h13, h14⟩
  · rw [pset_ne (ap_tag h1 kk (Nat.ne_of_beq_eq_false rfl))]; exact h1
  · rw [pset_ne hap.1]; exact h2
  · rw [pset_ne hap.2.1]; exact h3
  · rw [pset_ne (ap_tag (h4 i hi) kk (Nat.ne_of_beq_eq_false rfl))]; exact h4 i hi
  · rw [pset_ne (hap.2.2 i hi)]; exact h5 i hi
  · obtain ⟨m0, a1, a2, a3, a4, a5⟩ := old b m hb
    refine ⟨?_, ?_⟩
    · rw [pset_ne (ap_tag (h6 b m0 a1).1 kk (Nat.ne_of_beq_eq_false rfl)), (h6 b m0 a1).1, a2, a3]
    · by_cases hbb : b = b0
      · have := a5 hbb
        subst this
        exact pset_self
      · have := a4 hbb
        subst this
        rw [pset_ne (fun e => hbb (h11 b b0 m0 _ a1 hb0 e))]
        exact (h6 b m0 a1).2
  · rw [pset_ne (ap_tag (h7 a t ha).2.1 kk (by rw [tag_track]; exact Nat.ne_of_beq_eq_false rfl))]; exact (h7 a t ha).2.1
  · rw [pset_ne (ap_tag (h7 a t ha).2.2 kk (by rw [tag_arr]; exact Nat.ne_of_beq_eq_false rfl))]; exact (h7 a t ha).2.2
  · obtain ⟨m0, a1, a2, a3, a4, a5⟩ := old b m hb
    rw [← a3]
    exact h10 b m0 a1
  · obtain ⟨m0, a1, a2, a3, a4, a5⟩ := old b m hb
    obtain ⟨m1, c1, c2, c3, c4, c5⟩ := old b' m' hb'
    exact h11 b b' m0 m1 a1 c1 (by rw [a3, c3]; exact e)
theorem CRep.tk {d : AC} {cp : CP} {σ : CS} {G : Pic} (h : CRep d cp σ G) {a0 kd n c : Nat} {f0 : Nat → Int32} (ha0 : sTk σ a0 = some (kd, n, c, f0)) (g : Nat → Int32) : CRep d cp (pTk σ a0 (kd, n, c, g)) (pset G c (arrE d kd n g)) := by
  obtain ⟨h1, ⟨f, h2, h2'⟩, h3, h4, h5, h6, h7, h8, h9, h10, h11, h12, h13, h14⟩ := h
  have kk := (h7 a0 _ ha0).2.2
  have old : ∀ a t, va_up σ.2.2.2.2.2 a0 (some (kd, n, c, g)) a = some t → ∃ t0, sTk σ a = some t0 ∧ t0.1 = t.1 ∧ t0.2.1 = t.2.1 ∧ t0.2.2.1 = t.2.2.1 ∧ (a ≠ a0 → t0 = t) ∧ (a = a0 → t = (kd, n, c, g)) := by
    intro a t ha
    by_cases haa : a = a0
    · subst haa
      rw [va_up_self] at ha
      cases ha
      exact ⟨_, ha0, rfl, rfl, rfl, fun h => absurd rfl h, fun _ => rfl⟩
    · rw [va_up_ne _ _ haa] at ha
      exact ⟨t, ha, rfl, rfl, rfl, fun _ => rfl, fun h => absurd h haa⟩
  have tg := tag_arr d kd n f0
  refine ⟨?_, ⟨f, ?_, h2'⟩, ?_, fun i hi => ?_, fun i hi => ?_, fun b m hb => ⟨?_, ?_⟩, fun a t ha => ?_, h8, h9, h10, h11, fun a a' t t' ha ha' e => ?_, h13, h14⟩
  · rw [pset_ne (ap_tag h1 kk (by rw [tag_arr]; exact Nat.ne_of_beq_eq_false rfl))]; exact h1
  · rw [pset_ne (ap_tag h2 kk (by rw [tag_arr]; exact Nat.ne_of_beq_eq_false rfl))]; exact h2
  · rw [pset_ne (ap_tag h3 kk (by rw [tag_arr]; exact Nat.ne_of_beq_eq_false rfl))]; exact h3
  · rw [pset_ne (ap_tag (h4 i hi) kk (by rw [tag_arr]; exact Nat.ne_of_beq_eq_false rfl))]; exact h4 i hi
  · rw [pset_ne (ap_tag (h5 i hi) kk (by rw [tag_arr]; exact Nat.ne_of_beq_eq_false rfl))]; exact h5 i hi
  · rw [pset_ne (ap_tag (h6 b m hb).1 kk (by rw [tag_arr]; exact Nat.ne_of_beq_eq_false rfl))]; exact (h6 b m hb).1
  · rw [pset_ne (ap_tag (h6 b m hb).2 kk (by rw [tag_arr]; exact Nat.ne_of_beq_eq_false rfl))]; exact (h6 b m hb).2
  · obtain ⟨t0, a1, a2, a3, a4, a5, a6⟩ := old a t ha
    refine ⟨by rw [← a2]; exact (h7 a t0 a1).1, ?_, ?_⟩
    · rw [pset_ne (ap_tag (h7 a t0 a1).2.1 kk (by rw [tag_track, tag_arr]; exact Nat.ne_of_beq_eq_false rfl)), (h7 a t0 a1).2.1, a2, a3, a4]
    · by_cases haa : a = a0
      · have := a6 haa
        subst this
        exact pset_self
      · have := a5 haa
        subst this
        rw [pset_ne (fun e => haa (h12 a a0 t0 _ a1 ha0 e))]
        exact (h7 a t0 a1).2.2
  · obtain ⟨t0, a1, a2, a3, a4, a5, a6⟩ := old a t ha
    obtain ⟨t1, c1, c2, c3, c4, c5, c6⟩ := old a' t' ha'
    exact h12 a a' t0 t1 a1 c1 (by rw [a4, c4]; exact e)
/-- cells that aren't there come: the rest stays -/
theorem CRep.grow {d : AC} {cp : CP} {σ : CS} {G : Pic} (h : CRep d cp σ G) {q : Nat} (hq : G q = none) (e : va_E) : CRep d cp σ (pset G q e) := by
  have key : ∀ {a : Nat} {e1 : va_E}, G a = some e1 → pset G q e a = some e1 := fun {a} {e1} ha => by
    rw [pset_ne (fun z => by rw [z, hq] at ha; cases ha)]; exact ha
  obtain ⟨h1, ⟨f, h2, h2'⟩, h3, h4, h5, h6, h7, h8, h9, h10, h11, h12, h13, h14⟩ := h
  exact ⟨key h1, ⟨f, key h2, h2'⟩, key h3, fun i hi => key (h4 i hi), fun i hi => key (h5 i hi), fun b m hb => ⟨key (h6 b m hb).1, key (h6 b m hb).2⟩, fun a t ha => ⟨(h7 a t ha).1, key (h7 a t ha).2.1, key (h7 a t ha).2.2⟩, h8, h9, h10, h11, h12, h13, h14⟩
/-- a picture that holds all that the first one held -/
theorem CRep.more {d : AC} {cp : CP} {σ : CS} {G G1 : Pic} (h : CRep d cp σ G) (key : ∀ (a : Nat) (e : va_E), G a = some e → G1 a = some e) : CRep d cp σ G1 := by
  obtain ⟨h1, ⟨f, h2, h2'⟩, h3, h4, h5, h6, h7, h8, h9, h10, h11, h12, h13, h14⟩ := h
  exact ⟨key _ _ h1, ⟨f, key _ _ h2, h2'⟩, key _ _ h3, fun i hi => key _ _ (h4 i hi), fun i hi => key _ _ (h5 i hi), fun b m hb => ⟨key _ _ (h6 b m hb).1, key _ _ (h6 b m hb).2⟩, fun a t ha => ⟨(h7 a t ha).1, key _ _ (h7 a t ha).2.1, key _ _ (h7 a t ha).2.2⟩, h8, h9, h10, h11, h12, h13, h14⟩
/-- a new track: two cells that weren't there -/
theorem CRep.newTk {d : AC} {cp : CP} {σ : CS} {G G1 : Pic} (h : CRep d cp σ G) (key : ∀ (a : Nat) (e : va_E), G a = some e → G1 a = some e) {a c kd n : Nat} (hkd : kd < 5) {g : Nat → Int32} (ha : G a = none) (hc : G c = none) (h1 : G1 a = some (trackE kd n c)) (h2 : G1 c = some (arrE d kd n g)) : sTk σ a = none ∧ CRep d cp (pTk σ a (kd, n, c, g)) G1 := by
  have hn : sTk σ a = none := by
    cases hs : sTk σ a with
    | none => rfl
    | some t => have := (h.2.2.2.2.2.2.1 a t hs).2.1; rw [ha] at this; cases this
  refine ⟨hn, ?_⟩
  obtain ⟨h1', h2', h3, h4, h5, h6, h7, h8, h9, h10, h11, h12, h13, h14⟩ := h.more key
  have h7o := h.2.2.2.2.2.2.1
  have old : ∀ x t, va_up σ.2.2.2.2.2 a (some (kd, n, c, g)) x = some t → (x = a ∧ t = (kd, n, c, g)) ∨ (x ≠ a ∧ sTk σ x = some t) := by
    intro x t hx
    by_cases hxa : x = a
    · subst hxa
      rw [va_up_self] at hx
      cases hx
      exact Or.inl ⟨rfl, rfl⟩
    · rw [va_up_ne _ _ hxa] at hx
      exact Or.inr ⟨hxa, hx⟩
  have nc : ∀ x t, sTk σ x = some t → t.2.2.1 ≠ c := fun x t hx e => by
    have := (h7o x t hx).2.2
    rw [e, hc] at this
    cases this
  refine ⟨h1', h2', h3, h4, h5, h6, fun x t hx => ?_, h8, h9, h10, h11, fun x x' t t' hx hx' e => ?_, h13, h14⟩
  · rcases old x t hx with ⟨rfl, rfl⟩ | ⟨-, hx⟩
    · exact ⟨hkd, h1, h2⟩
    · exact h7 x t hx
  · rcases old x t hx with ⟨e1, e2⟩ | ⟨-, hy⟩
    · rcases old x' t' hx' with ⟨e3, e4⟩ | ⟨-, hy'⟩
      · rw [e1, e3]
      · exact absurd (by rw [← e, e2]) (nc x' t' hy')
    · rcases old x' t' hx' with ⟨e3, e4⟩ | ⟨-, hy'⟩
      · exact absurd (by rw [e, e4]) (nc x t hy)
      · exact h12 x x' t t' hy hy' e
/-- a new comb: two cells that weren't there -/
theorem CRep.newCm {d : AC} {cp : CP} {σ : CS} {G G1 : Pic} (h : CRep d cp σ G) (key : ∀ (a : Nat) (e : va_E), G a = some e → G1 a = some e) {b te n : Nat} {k : Int32} {g : Nat → Option Nat} (hb : G b = none) (hte : G te = none) (h1 : G1 b = some (combE k te)) (h2 : G1 te = some (rrow (d 5) n g)) : sCm σ b = none ∧ CRep d cp (pCm σ b (k, n, te, g)) G1 := by
  have hn : sCm σ b = none := by
    cases hs : sCm σ b with
    | none => rfl
    | some t => have := (h.2.2.2.2.2.1 b t hs).1; rw [hb] at this; cases this
  refine ⟨hn, ?_⟩
  have h6o := h.2.2.2.2.2.1
  have hD := h.2.1
  have hC := h.2.2.1
  have hT := h.2.2.2.2.1
  obtain ⟨h1', h2', h3, h4, h5, h6, h7, h8, h9, h10, h11, h12, h13, h14⟩ := h.more key
  have old : ∀ x t, va_up σ.2.2.2.2.1 b (some (k, n, te, g)) x = some t → (x = b ∧ t = (k, n, te, g)) ∨ (x ≠ b ∧ sCm σ x = some t) := by
    intro x t hx
    by_cases hxa : x = b
    · subst hxa
      rw [va_up_self] at hx
      cases hx
      exact Or.inl ⟨rfl, rfl⟩
    · rw [va_up_ne _ _ hxa] at hx
      exact Or.inr ⟨hxa, hx⟩
  have nn : ∀ {x : Nat} {e : va_E}, G x = some e → x ≠ te := fun {x} {e} hx z => by rw [z, hte] at hx; cases hx
  refine ⟨h1', h2', h3, h4, h5, fun x t hx => ?_, h7, h8, h9, fun x t hx => ?_, fun x x' t t' hx hx' e => ?_, h12, h13, h14⟩
  · rcases old x t hx with ⟨rfl, rfl⟩ | ⟨-, hx⟩
    · exact ⟨h1, h2⟩
    · exact h6 x t hx
  · rcases old x t hx with ⟨rfl, rfl⟩ | ⟨-, hx⟩
    · obtain ⟨f, hD, -⟩ := hD
      exact ⟨nn hD, nn hC, fun i hi => nn (hT i hi)⟩
    · exact h10 x t hx
  · rcases old x t hx with ⟨e1, e2⟩ | ⟨-, hy⟩
    · rcases old x' t' hx' with ⟨e3, e4⟩ | ⟨-, hy'⟩
      · rw [e1, e3]
      · exact absurd (by rw [← e, e2]) (nn (h6o x' t' hy').2)
    · rcases old x' t' hx' with ⟨e3, e4⟩ | ⟨-, hy'⟩
      · exact absurd (by rw [e, e4]) (nn (h6o x t hy).2)
      · exact h11 x x' t t' hy hy' e
def ΩC (D : va_G) (d : AC) (cp : CP) : Wld CS := fun F σ H => ∃ G, ΩG D F G H ∧ CRep d cp σ G
theorem ΩC.mono (D : va_G) (d : AC) (cp : CP) : Mono (ΩC D d cp) := fun F F' _ H h hw => by
  obtain ⟨G, h1, h2⟩ := hw
  exact ⟨G, ΩG.mono D F F' G H h h1, h2⟩
end
section
/-! ===== the rules of the class's world ===== -/
theorem vwCl_get (kd : Nat) (h : kd < 5) : ∃ q : vw_C, vwCl[tci kd]? = some q := by
  rcases kd with _ | _ | _ | _ | _ | _
  · exact ⟨_, rfl⟩
  · exact ⟨_, rfl⟩
  · exact ⟨_, rfl⟩
  · exact ⟨_, rfl⟩
  · exact ⟨_, rfl⟩
  · omega
section RULESC
variable {p : Program} {l : Launch} {e : Env} {R : Room} {s : State} {m : MethodId} {args : Array Value} {below : List Frame} {meth : Method} {c : Code} {H : Heap} {locs : List Loc} {cells slots : Nat} {Q : State → Prop}
variable {cc : ByteArray} {pc : Nat} {ls : Array Slot} {rest : List Value} {D : va_G} {d : AC} {cp : CP} {A : Nat → Prop} {σ : CS} {own ref : String} {index : Nat}
theorem c_recvX (hK : KK D d s) (hw : ΩC D d cp A σ H) : ∃ cell : Cell, H[aX cp]? = some cell ∧ cell.vm.isStatics = false ∧ s.vm.findClass RX8 = some cell.cls := by
  obtain ⟨G, hG, hR⟩ := hw
  exact g_recv hK hG (ci := 7) (q := (RX8, TX8, 3)) rfl hR.1
theorem c_recvD (hK : KK D d s) (hw : ΩC D d cp A σ H) {i : Nat} (hi : i < 8) : ∃ cell : Cell, H[aDr cp i]? = some cell ∧ cell.vm.isStatics = false ∧ s.vm.findClass RX2 = some cell.cls := by
  obtain ⟨G, hG, hR⟩ := hw
  exact g_recv hK hG (ci := 2) (q := (RX2, TX2, 8)) rfl (hR.2.2.2.1 i hi)
theorem c_recvB (hK : KK D d s) (hw : ΩC D d cp A σ H) {b : Nat} {mm : CM} (hb : sCm σ b = some mm) : ∃ cell : Cell, H[b]? = some cell ∧ cell.vm.isStatics = false ∧ s.vm.findClass RX1 = some cell.cls := by
  obtain ⟨G, hG, hR⟩ := hw
  exact g_recv hK hG (ci := 1) (q := (RX1, TX1, 2)) rfl (hR.2.2.2.2.2.1 b mm hb).1
theorem c_recvT (hK : KK D d s) (hw : ΩC D d cp A σ H) {a : Nat} {t : TK} (ha : sTk σ a = some t) {q : vw_C} (hq : vwCl[tci t.1]? = some q) : ∃ cell : Cell, H[a]? = some cell ∧ cell.vm.isStatics = false ∧ s.vm.findClass q.1 = some cell.cls := by
  obtain ⟨G, hG, hR⟩ := hw
  exact g_recv hK hG hq (hR.2.2.2.2.2.2.1 a t ha).2.1
theorem c_getx (hx : p.tables.exec = Jvm.exec) (hb : c.code = cc) (hts : ∀ w ∈ lw_ok, w.before args s = true) (hown : s.vm.findClass own = some m.cls) (hK : KK D d s) (hw : ΩC D d cp A σ H) (k : Nat) (hk : k < 3) (hlink : (Cond.fieldLink own index ref (TX8 k).2.1 (TX8 k).2.2.1).before args s = true) (hsame : ∀ x, s.fieldFound? (TX8 k).1 (TX8 k).2.1 (TX8 k).2.2.1 = some x → s.fieldFound? ref (TX8 k).2.1 (TX8 k).2.2.1 = some x) {v : Value} (hv : ([.ref (aD cp), .ref (aC cp), .int (sRf σ)] : List Value)[k]? = some v) (hdg : decode cc pc = .ok (.getfield index, 3)) (kk : W p l e R s m args below meth c H locs cells slots Q (F0 m (pc + 3) ls (v :: rest))) : W p l e R s m args below meth c H locs cells slots Q (F0 m pc ls (.ref (aX cp) :: rest)) := by
  obtain ⟨G, hG, hR⟩ := hw
  exact g_get hx hb hts inX8 hown hK hG (ci := 7) hR.1 rfl k hk hlink hsame hv hdg kk
theorem c_putx (hx : p.tables.exec = Jvm.exec) (hb : c.code = cc) (hts : ∀ w ∈ lw_ok, w.before args s = true) (hown : s.vm.findClass own = some m.cls) (hK : KK D d s) (hw : ΩC D d cp A σ H) (hS : va_S A s.heap H locs) (hlink : (Cond.fieldLink own index ref (TX8 2).2.1 (TX8 2).2.2.1).before args s = true) (hsame : ∀ x, s.fieldFound? (TX8 2).1 (TX8 2).2.1 (TX8 2).2.2.1 = some x → s.fieldFound? ref (TX8 2).2.1 (TX8 2).2.2.1 = some x) {v : Int32} (hdg : decode cc pc = .ok (.putfield index, 3)) (kk : ∀ (H1 : Heap) (locs1 : List Loc), ΩC D d cp A (pRf σ v) H1 → va_S A s.heap H1 locs1 → W p l e R s m args below meth c H1 locs1 cells slots Q (F0 m (pc + 3) ls rest)) : W p l e R s m args below meth c H locs cells slots Q (F0 m pc ls (.int v :: .ref (aX cp) :: rest)) := by
  obtain ⟨G, hG, hR⟩ := hw
  exact g_put hx hb hts inX8 tyX8 tyX8_ok nmX8 hown hK hG hS (ci := 7) hR.1 rfl 2 (by decide) hlink hsame rfl (ty := .int) (by decide +kernel) rfl rfl (Nat.le_of_ble_eq_true rfl) hdg (fun H1 locs1 hG1 hS1 => kk H1 locs1 ⟨_, hG1, hR.rf v⟩ hS1)
theorem c_getd (hx : p.tables.exec = Jvm.exec) (hb : c.code = cc) (hts : ∀ w ∈ lw_ok, w.before args s = true) (hown : s.vm.findClass own = some m.cls) (hK : KK D d s) (hw : ΩC D d cp A σ H) {i : Nat} (hi : i < 8) (k : Nat) (hk : k < 8) (hlink : (Cond.fieldLink own index ref (TX2 k).2.1 (TX2 k).2.2.1).before args s = true) (hsame : ∀ x, s.fieldFound? (TX2 k).1 (TX2 k).2.1 (TX2 k).2.2.1 = some x → s.fieldFound? ref (TX2 k).2.1 (TX2 k).2.2.1 = some x) {v : Value} (hv : ([.ref (aDt cp i), .int (sDf σ i).1, .int (sDf σ i).2.1, .int (sDf σ i).2.2.1, .int (sDf σ i).2.2.2.1, .long (sDf σ i).2.2.2.2.1, .int (sDf σ i).2.2.2.2.2.1, .float (sDf σ i).2.2.2.2.2.2] : List Value)[k]? = some v) (hdg : decode cc pc = .ok (.getfield index, 3)) (kk : W p l e R s m args below meth c H locs cells slots Q (F0 m (pc + 3) ls (v :: rest))) : W p l e R s m args below meth c H locs cells slots Q (F0 m pc ls (.ref (aDr cp i) :: rest)) := by
  obtain ⟨G, hG, hR⟩ := hw
  exact g_get hx hb hts inX2 hown hK hG (ci := 2) (hR.2.2.2.1 i hi) rfl k hk hlink hsame hv hdg kk
theorem c_putd (hx : p.tables.exec = Jvm.exec) (hb : c.code = cc) (hts : ∀ w ∈ lw_ok, w.before args s = true) (hown : s.vm.findClass own = some m.cls) (hK : KK D d s) (hw : ΩC D d cp A σ H) (hS : va_S A s.heap H locs) {i : Nat} (hi : i < 8) (k : Nat) (hk : k < 8) (hlink : (Cond.fieldLink own index ref (TX2 k).2.1 (TX2 k).2.2.1).before args s = true) (hsame : ∀ x, s.fieldFound? (TX2 k).1 (TX2 k).2.1 (TX2 k).2.2.1 = some x → s.fieldFound? ref (TX2 k).2.1 (TX2 k).2.2.1 = some x) (hfin : (TX2 k).2.2.2 = false) {ty : FieldType} {v : Value} (v2 : DF) (hset : ([.ref (aDt cp i), .int (sDf σ i).1, .int (sDf σ i).2.1, .int (sDf σ i).2.2.1, .int (sDf σ i).2.2.2.1, .long (sDf σ i).2.2.2.2.1, .int (sDf σ i).2.2.2.2.2.1, .float (sDf σ i).2.2.2.2.2.2] : List Value).set k v = ([.ref (aDt cp i), .int v2.1, .int v2.2.1, .int v2.2.2.1, .int v2.2.2.2.1, .long v2.2.2.2.2.1, .int v2.2.2.2.2.2.1, .float v2.2.2.2.2.2.2] : List Value)) (hd : parseFieldDescriptor (TX2 k).2.2.1 = some ty) (hn : narrow ty v = v) (hfit : fits ty v = true) (hdg : decode cc pc = .ok (.putfield index, 3)) (kk : ∀ (H1 : Heap) (locs1 : List Loc), ΩC D d cp A (pDf σ i v2) H1 → va_S A s.heap H1 locs1 → W p l e R s m args below meth c H1 locs1 cells slots Q (F0 m (pc + 3) ls rest)) : W p l e R s m args below meth c H locs cells slots Q (F0 m pc ls (v :: .ref (aDr cp i) :: rest)) := by
  obtain ⟨G, hG, hR⟩ := hw
  refine g_put hx hb hts inX2 tyX2 tyX2_ok nmX2 hown hK hG hS (ci := 2) (hR.2.2.2.1 i hi) rfl k hk hlink hsame hfin hd hn hfit hk hdg (fun H1 locs1 hG1 hS1 => kk H1 locs1 ⟨_, hG1, ?_⟩ hS1)
  rw [hset]
  exact hR.df hi v2
theorem c_ldda (hx : p.tables.exec = Jvm.exec) (hb : c.code = cc) (hK : KK D d s) (hw : ΩC D d cp A σ H) {i : Int32} (hin : vp_in i 8) (hdg : decode cc pc = .ok (.aaload, 1)) (kk : W p l e R s m args below meth c H locs cells slots Q (F0 m (pc + 1) ls (.ref (aDr cp i.toNatClampNeg) :: rest))) : W p l e R s m args below meth c H locs cells slots Q (F0 m pc ls (.int i :: .ref (aD cp) :: rest)) := by
  obtain ⟨G, hG, hR⟩ := hw
  obtain ⟨f, h2, h2'⟩ := hR.2.1
  have hlt : i.toNatClampNeg < 8 := Nat.not_le.mp fun q => hin (Or.inr q)
  refine g_aldq hx hb hK hG 6 h2 rfl hin hdg ?_
  rw [h2' _ hlt]
  exact kk
theorem c_lddt (hx : p.tables.exec = Jvm.exec) (hb : c.code = cc) (hK : KK D d s) (hw : ΩC D d cp A σ H) {j : Nat} (hj : j < 8) {i : Int32} (hin : vp_in i 5) (hdg : decode cc pc = .ok (.aaload, 1)) (kk : W p l e R s m args below meth c H locs cells slots Q (F0 m (pc + 1) ls (va_rf (sSl σ j i.toNatClampNeg) :: rest))) : W p l e R s m args below meth c H locs cells slots Q (F0 m pc ls (.int i :: .ref (aDt cp j) :: rest)) := by
  obtain ⟨G, hG, hR⟩ := hw
  exact g_aldq hx hb hK hG 5 (hR.2.2.2.2.1 j hj) rfl hin hdg kk
theorem c_ldca (hx : p.tables.exec = Jvm.exec) (hb : c.code = cc) (hK : KK D d s) (hw : ΩC D d cp A σ H) {i : Int32} (hin : vp_in i 4) (hdg : decode cc pc = .ok (.aaload, 1)) (kk : W p l e R s m args below meth c H locs cells slots Q (F0 m (pc + 1) ls (va_rf (sCb σ i.toNatClampNeg) :: rest))) : W p l e R s m args below meth c H locs cells slots Q (F0 m pc ls (.int i :: .ref (aC cp) :: rest)) := by
  obtain ⟨G, hG, hR⟩ := hw
  exact g_aldq hx hb hK hG 7 hR.2.2.1 rfl hin hdg kk
theorem c_ldte (hx : p.tables.exec = Jvm.exec) (hb : c.code = cc) (hK : KK D d s) (hw : ΩC D d cp A σ H) {b te n : Nat} {k0 : Int32} {tt : Nat → Option Nat} (hcm : sCm σ b = some (k0, n, te, tt)) {i : Int32} (hin : vp_in i n) (hdg : decode cc pc = .ok (.aaload, 1)) (kk : W p l e R s m args below meth c H locs cells slots Q (F0 m (pc + 1) ls (va_rf (tt i.toNatClampNeg) :: rest))) : W p l e R s m args below meth c H locs cells slots Q (F0 m pc ls (.int i :: .ref te :: rest)) := by
  obtain ⟨G, hG, hR⟩ := hw
  exact g_aldq hx hb hK hG 5 (hR.2.2.2.2.2.1 b _ hcm).2 rfl hin hdg kk
theorem c_lente (hx : p.tables.exec = Jvm.exec) (hb : c.code = cc) (hK : KK D d s) (hw : ΩC D d cp A σ H) {b te n : Nat} {k0 : Int32} {tt : Nat → Option Nat} (hcm : sCm σ b = some (k0, n, te, tt)) (hdg : decode cc pc = .ok (.arraylength, 1)) (kk : W p l e R s m args below meth c H locs cells slots Q (F0 m (pc + 1) ls (.int (nI n) :: rest))) : W p l e R s m args below meth c H locs cells slots Q (F0 m pc ls (.ref te :: rest)) := by
  obtain ⟨G, hG, hR⟩ := hw
  exact va_alen hx hb hK.1 (hG.1.one (hR.2.2.2.2.2.1 b _ hcm).2) 0 5 rfl rfl rfl hdg kk
theorem c_getc (hx : p.tables.exec = Jvm.exec) (hb : c.code = cc) (hts : ∀ w ∈ lw_ok, w.before args s = true) (hown : s.vm.findClass own = some m.cls) (hK : KK D d s) (hw : ΩC D d cp A σ H) {b te n : Nat} {k0 : Int32} {tt : Nat → Option Nat} (hcm : sCm σ b = some (k0, n, te, tt)) (k : Nat) (hk : k < 2) (hlink : (Cond.fieldLink own index ref (TX1 k).2.1 (TX1 k).2.2.1).before args s = true) (hsame : ∀ x, s.fieldFound? (TX1 k).1 (TX1 k).2.1 (TX1 k).2.2.1 = some x → s.fieldFound? ref (TX1 k).2.1 (TX1 k).2.2.1 = some x) {v : Value} (hv : ([.int k0, .ref te] : List Value)[k]? = some v) (hdg : decode cc pc = .ok (.getfield index, 3)) (kk : W p l e R s m args below meth c H locs cells slots Q (F0 m (pc + 3) ls (v :: rest))) : W p l e R s m args below meth c H locs cells slots Q (F0 m pc ls (.ref b :: rest)) := by
  obtain ⟨G, hG, hR⟩ := hw
  exact g_get hx hb hts inX1 hown hK hG (ci := 1) (hR.2.2.2.2.2.1 b _ hcm).1 rfl k hk hlink hsame hv hdg kk
theorem c_stdtN (hx : p.tables.exec = Jvm.exec) (hb : c.code = cc) (hK : KK D d s) (hw : ΩC D d cp A σ H) (hS : va_S A s.heap H locs) {j : Nat} (hj : j < 8) {i : Int32} (hin : vp_in i 5) (hdg : decode cc pc = .ok (.aastore, 1)) (kk : ∀ (H1 : Heap) (locs1 : List Loc), ΩC D d cp A (pSl σ j i.toNatClampNeg none) H1 → va_S A s.heap H1 locs1 → W p l e R s m args below meth c H1 locs1 cells slots Q (F0 m (pc + 1) ls rest)) : W p l e R s m args below meth c H locs cells slots Q (F0 m pc ls (.null :: .int i :: .ref (aDt cp j) :: rest)) := by
  obtain ⟨G, hG, hR⟩ := hw
  exact g_astqN hx hb hK hG hS 5 (hR.2.2.2.2.1 j hj) rfl hin hdg (fun H1 locs1 hG1 hS1 => kk H1 locs1 ⟨_, hG1, hR.sl hj i.toNatClampNeg none⟩ hS1)
theorem c_stdtT (hx : p.tables.exec = Jvm.exec) (hb : c.code = cc) (hK : KK D d s) (hw : ΩC D d cp A σ H) (hS : va_S A s.heap H locs) {j : Nat} (hj : j < 8) {a : Nat} {t : TK} (ha : sTk σ a = some t) {i : Int32} (hin : vp_in i 5) (hdg : decode cc pc = .ok (.aastore, 1)) (kk : ∀ (H1 : Heap) (locs1 : List Loc), ΩC D d cp A (pSl σ j i.toNatClampNeg (some a)) H1 → va_S A s.heap H1 locs1 → W p l e R s m args below meth c H1 locs1 cells slots Q (F0 m (pc + 1) ls rest)) : W p l e R s m args below meth c H locs cells slots Q (F0 m pc ls (.ref a :: .int i :: .ref (aDt cp j) :: rest)) := by
  obtain ⟨G, hG, hR⟩ := hw
  obtain ⟨kd, n0, c0, f0⟩ := t
  obtain ⟨h1, h2, -⟩ := hR.2.2.2.2.2.2.1 a _ ha
  have kk := fun H1 locs1 hG1 hS1 => kk H1 locs1 ⟨_, hG1, hR.sl hj i.toNatClampNeg (some a)⟩ hS1
  rcases kd with _ | _ | _ | _ | _ | _
  · exact g_astqO hx hb hK hG hS 5 (hR.2.2.2.2.1 j hj) rfl (r := (RX5, TX5, 2)) hK.2.2.1.1 h2 rfl hin hdg kk
  · exact g_astqO hx hb hK hG hS 5 (hR.2.2.2.2.1 j hj) rfl (r := (RX6, TX6, 2)) hK.2.2.1.2.1 h2 rfl hin hdg kk
  · exact g_astqO hx hb hK hG hS 5 (hR.2.2.2.2.1 j hj) rfl (r := (RX3, TX3, 2)) hK.2.2.1.2.2.1 h2 rfl hin hdg kk
  · exact g_astqO hx hb hK hG hS 5 (hR.2.2.2.2.1 j hj) rfl (r := (RX4, TX4, 2)) hK.2.2.1.2.2.2.1 h2 rfl hin hdg kk
  · exact g_astqO hx hb hK hG hS 5 (hR.2.2.2.2.1 j hj) rfl (r := (RX0, TX0, 2)) hK.2.2.1.2.2.2.2 h2 rfl hin hdg kk
  · exact absurd h1 (by show ¬ _ + 5 < 5; omega)
theorem c_stteN (hx : p.tables.exec = Jvm.exec) (hb : c.code = cc) (hK : KK D d s) (hw : ΩC D d cp A σ H) (hS : va_S A s.heap H locs) {b te n : Nat} {k0 : Int32} {tt : Nat → Option Nat} (hcm : sCm σ b = some (k0, n, te, tt)) {i : Int32} (hin : vp_in i n) (hdg : decode cc pc = .ok (.aastore, 1)) (kk : ∀ (H1 : Heap) (locs1 : List Loc), ΩC D d cp A (pCm σ b (k0, n, te, va_up tt i.toNatClampNeg none)) H1 → va_S A s.heap H1 locs1 → W p l e R s m args below meth c H1 locs1 cells slots Q (F0 m (pc + 1) ls rest)) : W p l e R s m args below meth c H locs cells slots Q (F0 m pc ls (.null :: .int i :: .ref te :: rest)) := by
  obtain ⟨G, hG, hR⟩ := hw
  exact g_astqN hx hb hK hG hS 5 (hR.2.2.2.2.2.1 b _ hcm).2 rfl hin hdg (fun H1 locs1 hG1 hS1 => kk H1 locs1 ⟨_, hG1, hR.cm hcm i.toNatClampNeg none⟩ hS1)
theorem c_stteT (hx : p.tables.exec = Jvm.exec) (hb : c.code = cc) (hK : KK D d s) (hw : ΩC D d cp A σ H) (hS : va_S A s.heap H locs) {b te n : Nat} {k0 : Int32} {tt : Nat → Option Nat} (hcm : sCm σ b = some (k0, n, te, tt)) {a : Nat} {t : TK} (ha : sTk σ a = some t) {i : Int32} (hin : vp_in i n) (hdg : decode cc pc = .ok (.aastore, 1)) (kk : ∀ (H1 : Heap) (locs1 : List Loc), ΩC D d cp A (pCm σ b (k0, n, te, va_up tt i.toNatClampNeg (some a))) H1 → va_S A s.heap H1 locs1 → W p l e R s m args below meth c H1 locs1 cells slots Q (F0 m (pc + 1) ls rest)) : W p l e R s m args below meth c H locs cells slots Q (F0 m pc ls (.ref a :: .int i :: .ref te :: rest)) := by
  obtain ⟨G, hG, hR⟩ := hw
  obtain ⟨kd, n0, c0, f0⟩ := t
  obtain ⟨h1, h2, -⟩ := hR.2.2.2.2.2.2.1 a _ ha
  have kk := fun H1 locs1 hG1 hS1 => kk H1 locs1 ⟨_, hG1, hR.cm hcm i.toNatClampNeg (some a)⟩ hS1
  rcases kd with _ | _ | _ | _ | _ | _
  · exact g_astqO hx hb hK hG hS 5 (hR.2.2.2.2.2.1 b _ hcm).2 rfl (r := (RX5, TX5, 2)) hK.2.2.1.1 h2 rfl hin hdg kk
  · exact g_astqO hx hb hK hG hS 5 (hR.2.2.2.2.2.1 b _ hcm).2 rfl (r := (RX6, TX6, 2)) hK.2.2.1.2.1 h2 rfl hin hdg kk
  · exact g_astqO hx hb hK hG hS 5 (hR.2.2.2.2.2.1 b _ hcm).2 rfl (r := (RX3, TX3, 2)) hK.2.2.1.2.2.1 h2 rfl hin hdg kk
  · exact g_astqO hx hb hK hG hS 5 (hR.2.2.2.2.2.1 b _ hcm).2 rfl (r := (RX4, TX4, 2)) hK.2.2.1.2.2.2.1 h2 rfl hin hdg kk
  · exact g_astqO hx hb hK hG hS 5 (hR.2.2.2.2.2.1 b _ hcm).2 rfl (r := (RX0, TX0, 2)) hK.2.2.1.2.2.2.2 h2 rfl hin hdg kk
  · exact absurd h1 (by show ¬ _ + 5 < 5; omega)
theorem c_stcaN (hx : p.tables.exec = Jvm.exec) (hb : c.code = cc) (hK : KK D d s) (hw : ΩC D d cp A σ H) (hS : va_S A s.heap H locs)  {i : Int32} (hin : vp_in i 4) (hdg : decode cc pc = .ok (.aastore, 1)) (kk : ∀ (H1 : Heap) (locs1 : List Loc), ΩC D d cp A (pCb σ i.toNatClampNeg none) H1 → va_S A s.heap H1 locs1 → W p l e R s m args below meth c H1 locs1 cells slots Q (F0 m (pc + 1) ls rest)) : W p l e R s m args below meth c H locs cells slots Q (F0 m pc ls (.null :: .int i :: .ref (aC cp) :: rest)) := by
  obtain ⟨G, hG, hR⟩ := hw
  exact g_astqN hx hb hK hG hS 7 hR.2.2.1 rfl hin hdg (fun H1 locs1 hG1 hS1 => kk H1 locs1 ⟨_, hG1, hR.cb i.toNatClampNeg none⟩ hS1)
theorem c_stcaB (hx : p.tables.exec = Jvm.exec) (hb : c.code = cc) (hK : KK D d s) (hw : ΩC D d cp A σ H) (hS : va_S A s.heap H locs) {b : Nat} {mm : CM} (hcm : sCm σ b = some mm) {i : Int32} (hin : vp_in i 4) (hdg : decode cc pc = .ok (.aastore, 1)) (kk : ∀ (H1 : Heap) (locs1 : List Loc), ΩC D d cp A (pCb σ i.toNatClampNeg (some b)) H1 → va_S A s.heap H1 locs1 → W p l e R s m args below meth c H1 locs1 cells slots Q (F0 m (pc + 1) ls rest)) : W p l e R s m args below meth c H locs cells slots Q (F0 m pc ls (.ref b :: .int i :: .ref (aC cp) :: rest)) := by
  obtain ⟨G, hG, hR⟩ := hw
  exact g_astq hx hb hK hG hS 7 hR.2.2.1 (r := (RX1, TX1, 2)) rfl (hR.2.2.2.2.2.1 b mm hcm).1 rfl hin hdg (fun H1 locs1 hG1 hS1 => kk H1 locs1 ⟨_, hG1, hR.cb i.toNatClampNeg (some b)⟩ hS1)
theorem c_gete (hx : p.tables.exec = Jvm.exec) (hb : c.code = cc) (hts : ∀ w ∈ lw_ok, w.before args s = true) (hown : s.vm.findClass own = some m.cls) (hK : KK D d s) (hw : ΩC D d cp A σ H) {a kd n c0 : Nat} {f : Nat → Int32} (ha : sTk σ a = some (kd, n, c0, f)) (hlink : (Cond.fieldLink own index "MusicBoxes$Track" "extent" "I").before args s = true) (hdg : decode cc pc = .ok (.getfield index, 3)) (kk : W p l e R s m args below meth c H locs cells slots Q (F0 m (pc + 3) ls (.int (nI n) :: rest))) : W p l e R s m args below meth c H locs cells slots Q (F0 m pc ls (.ref a :: rest)) := by
  obtain ⟨G, hG, hR⟩ := hw
  obtain ⟨h1, h2, -⟩ := hR.2.2.2.2.2.2.1 a _ ha
  rcases kd with _ | _ | _ | _ | _ | _
  · exact g_get hx hb hts inX5 hown hK hG (C := RX5) (T := TX5) (N := 2) h2 rfl 0 (by decide) hlink (fun _ h => h) rfl hdg kk
  · exact g_get hx hb hts inX6 hown hK hG (C := RX6) (T := TX6) (N := 2) h2 rfl 0 (by decide) hlink (fun _ h => h) rfl hdg kk
  · exact g_get hx hb hts inX3 hown hK hG (C := RX3) (T := TX3) (N := 2) h2 rfl 0 (by decide) hlink (fun _ h => h) rfl hdg kk
  · exact g_get hx hb hts inX4 hown hK hG (C := RX4) (T := TX4) (N := 2) h2 rfl 0 (by decide) hlink (fun _ h => h) rfl hdg kk
  · exact g_get hx hb hts inX0 hown hK hG (C := RX0) (T := TX0) (N := 2) h2 rfl 0 (by decide) hlink (fun _ h => h) rfl hdg kk
  · exact absurd h1 (by show ¬ _ + 5 < 5; omega)
theorem c_cells0 (hx : p.tables.exec = Jvm.exec) (hb : c.code = cc) (hts : ∀ w ∈ lw_ok, w.before args s = true) (hown : s.vm.findClass own = some m.cls) (hK : KK D d s) (hw : ΩC D d cp A σ H) {a n c0 : Nat} {f : Nat → Int32} (ha : sTk σ a = some (0, n, c0, f)) (hlink : (Cond.fieldLink own index ref (TX5 1).2.1 (TX5 1).2.2.1).before args s = true) (hsame : ∀ x, s.fieldFound? (TX5 1).1 (TX5 1).2.1 (TX5 1).2.2.1 = some x → s.fieldFound? ref (TX5 1).2.1 (TX5 1).2.2.1 = some x) (hdg : decode cc pc = .ok (.getfield index, 3)) (kk : W p l e R s m args below meth c H locs cells slots Q (F0 m (pc + 3) ls (.ref c0 :: rest))) : W p l e R s m args below meth c H locs cells slots Q (F0 m pc ls (.ref a :: rest)) := by
  obtain ⟨G, hG, hR⟩ := hw
  exact g_get hx hb hts inX5 hown hK hG (C := RX5) (T := TX5) (N := 2) (hR.2.2.2.2.2.2.1 a _ ha).2.1 rfl 1 (by decide) hlink hsame rfl hdg kk
theorem c_ld0 (hx : p.tables.exec = Jvm.exec) (hb : c.code = cc) (hK : KK D d s) (hw : ΩC D d cp A σ H) {a n c0 : Nat} {f : Nat → Int32} (ha : sTk σ a = some (0, n, c0, f)) {i : Int32} (hin : vp_in i n) (hdg : decode cc pc = .ok (.baload, 1)) (kk : W p l e R s m args below meth c H locs cells slots Q (F0 m (pc + 1) ls (.int (f i.toNatClampNeg) :: rest))) : W p l e R s m args below meth c H locs cells slots Q (F0 m pc ls (.int i :: .ref c0 :: rest)) := by
  obtain ⟨G, hG, hR⟩ := hw
  exact va_zald hx hb hK.1 (hG.1.one (hR.2.2.2.2.2.2.1 a _ ha).2.2) 0 0 rfl rfl hin hdg kk
theorem c_st0 (hx : p.tables.exec = Jvm.exec) (hb : c.code = cc) (hK : KK D d s) (hw : ΩC D d cp A σ H) (hS : va_S A s.heap H locs) {a n c0 : Nat} {f : Nat → Int32} (ha : sTk σ a = some (0, n, c0, f)) {i x : Int32} (hin : vp_in i n) (hdg : decode cc pc = .ok (.bastore, 1)) (kk : ∀ (H1 : Heap) (locs1 : List Loc), ΩC D d cp A (pTk σ a (0, n, c0, upd f i.toNatClampNeg (vp_nar .boolean x))) H1 → va_S A s.heap H1 locs1 → W p l e R s m args below meth c H1 locs1 cells slots Q (F0 m (pc + 1) ls rest)) : W p l e R s m args below meth c H locs cells slots Q (F0 m pc ls (.int x :: .int i :: .ref c0 :: rest)) := by
  obtain ⟨G, hG, hR⟩ := hw
  obtain ⟨ws, hP, hD, hws⟩ := gp_ws hG.1 hG.2
  have he := (hR.2.2.2.2.2.2.1 a _ ha).2.2
  obtain ⟨q0, hq⟩ := hws _ _ he
  exact va_zast hx hb hK.1 hP hD hS q0 0 hq rfl hin hdg (fun H1 locs1 hP1 _ hS1 => kk H1 locs1 ⟨_, ⟨gp_set hws hq hP1, dom_set hG.2 (hG.2 _ _ he)⟩, hR.tk ha (upd f i.toNatClampNeg (vp_nar .boolean x))⟩ hS1)
theorem c_cells1 (hx : p.tables.exec = Jvm.exec) (hb : c.code = cc) (hts : ∀ w ∈ lw_ok, w.before args s = true) (hown : s.vm.findClass own = some m.cls) (hK : KK D d s) (hw : ΩC D d cp A σ H) {a n c0 : Nat} {f : Nat → Int32} (ha : sTk σ a = some (1, n, c0, f)) (hlink : (Cond.fieldLink own index ref (TX6 1).2.1 (TX6 1).2.2.1).before args s = true) (hsame : ∀ x, s.fieldFound? (TX6 1).1 (TX6 1).2.1 (TX6 1).2.2.1 = some x → s.fieldFound? ref (TX6 1).2.1 (TX6 1).2.2.1 = some x) (hdg : decode cc pc = .ok (.getfield index, 3)) (kk : W p l e R s m args below meth c H locs cells slots Q (F0 m (pc + 3) ls (.ref c0 :: rest))) : W p l e R s m args below meth c H locs cells slots Q (F0 m pc ls (.ref a :: rest)) := by
  obtain ⟨G, hG, hR⟩ := hw
  exact g_get hx hb hts inX6 hown hK hG (C := RX6) (T := TX6) (N := 2) (hR.2.2.2.2.2.2.1 a _ ha).2.1 rfl 1 (by decide) hlink hsame rfl hdg kk
theorem c_ld1 (hx : p.tables.exec = Jvm.exec) (hb : c.code = cc) (hK : KK D d s) (hw : ΩC D d cp A σ H) {a n c0 : Nat} {f : Nat → Int32} (ha : sTk σ a = some (1, n, c0, f)) {i : Int32} (hin : vp_in i n) (hdg : decode cc pc = .ok (.caload, 1)) (kk : W p l e R s m args below meth c H locs cells slots Q (F0 m (pc + 1) ls (.int (f i.toNatClampNeg) :: rest))) : W p l e R s m args below meth c H locs cells slots Q (F0 m pc ls (.int i :: .ref c0 :: rest)) := by
  obtain ⟨G, hG, hR⟩ := hw
  exact va_cald hx hb hK.1 (hG.1.one (hR.2.2.2.2.2.2.1 a _ ha).2.2) 0 1 rfl rfl hin hdg kk
theorem c_st1 (hx : p.tables.exec = Jvm.exec) (hb : c.code = cc) (hK : KK D d s) (hw : ΩC D d cp A σ H) (hS : va_S A s.heap H locs) {a n c0 : Nat} {f : Nat → Int32} (ha : sTk σ a = some (1, n, c0, f)) {i x : Int32} (hin : vp_in i n) (hdg : decode cc pc = .ok (.castore, 1)) (kk : ∀ (H1 : Heap) (locs1 : List Loc), ΩC D d cp A (pTk σ a (1, n, c0, upd f i.toNatClampNeg (vp_nar .char x))) H1 → va_S A s.heap H1 locs1 → W p l e R s m args below meth c H1 locs1 cells slots Q (F0 m (pc + 1) ls rest)) : W p l e R s m args below meth c H locs cells slots Q (F0 m pc ls (.int x :: .int i :: .ref c0 :: rest)) := by
  obtain ⟨G, hG, hR⟩ := hw
  obtain ⟨ws, hP, hD, hws⟩ := gp_ws hG.1 hG.2
  have he := (hR.2.2.2.2.2.2.1 a _ ha).2.2
  obtain ⟨q0, hq⟩ := hws _ _ he
  exact va_cast hx hb hK.1 hP hD hS q0 1 hq rfl hin hdg (fun H1 locs1 hP1 _ hS1 => kk H1 locs1 ⟨_, ⟨gp_set hws hq hP1, dom_set hG.2 (hG.2 _ _ he)⟩, hR.tk ha (upd f i.toNatClampNeg (vp_nar .char x))⟩ hS1)
theorem c_cells2 (hx : p.tables.exec = Jvm.exec) (hb : c.code = cc) (hts : ∀ w ∈ lw_ok, w.before args s = true) (hown : s.vm.findClass own = some m.cls) (hK : KK D d s) (hw : ΩC D d cp A σ H) {a n c0 : Nat} {f : Nat → Int32} (ha : sTk σ a = some (2, n, c0, f)) (hlink : (Cond.fieldLink own index ref (TX3 1).2.1 (TX3 1).2.2.1).before args s = true) (hsame : ∀ x, s.fieldFound? (TX3 1).1 (TX3 1).2.1 (TX3 1).2.2.1 = some x → s.fieldFound? ref (TX3 1).2.1 (TX3 1).2.2.1 = some x) (hdg : decode cc pc = .ok (.getfield index, 3)) (kk : W p l e R s m args below meth c H locs cells slots Q (F0 m (pc + 3) ls (.ref c0 :: rest))) : W p l e R s m args below meth c H locs cells slots Q (F0 m pc ls (.ref a :: rest)) := by
  obtain ⟨G, hG, hR⟩ := hw
  exact g_get hx hb hts inX3 hown hK hG (C := RX3) (T := TX3) (N := 2) (hR.2.2.2.2.2.2.1 a _ ha).2.1 rfl 1 (by decide) hlink hsame rfl hdg kk
theorem c_ld2 (hx : p.tables.exec = Jvm.exec) (hb : c.code = cc) (hK : KK D d s) (hw : ΩC D d cp A σ H) {a n c0 : Nat} {f : Nat → Int32} (ha : sTk σ a = some (2, n, c0, f)) {i : Int32} (hin : vp_in i n) (hdg : decode cc pc = .ok (.saload, 1)) (kk : W p l e R s m args below meth c H locs cells slots Q (F0 m (pc + 1) ls (.int (f i.toNatClampNeg) :: rest))) : W p l e R s m args below meth c H locs cells slots Q (F0 m pc ls (.int i :: .ref c0 :: rest)) := by
  obtain ⟨G, hG, hR⟩ := hw
  exact va_sald hx hb hK.1 (hG.1.one (hR.2.2.2.2.2.2.1 a _ ha).2.2) 0 2 rfl rfl hin hdg kk
theorem c_st2 (hx : p.tables.exec = Jvm.exec) (hb : c.code = cc) (hK : KK D d s) (hw : ΩC D d cp A σ H) (hS : va_S A s.heap H locs) {a n c0 : Nat} {f : Nat → Int32} (ha : sTk σ a = some (2, n, c0, f)) {i x : Int32} (hin : vp_in i n) (hdg : decode cc pc = .ok (.sastore, 1)) (kk : ∀ (H1 : Heap) (locs1 : List Loc), ΩC D d cp A (pTk σ a (2, n, c0, upd f i.toNatClampNeg (vp_nar .short x))) H1 → va_S A s.heap H1 locs1 → W p l e R s m args below meth c H1 locs1 cells slots Q (F0 m (pc + 1) ls rest)) : W p l e R s m args below meth c H locs cells slots Q (F0 m pc ls (.int x :: .int i :: .ref c0 :: rest)) := by
  obtain ⟨G, hG, hR⟩ := hw
  obtain ⟨ws, hP, hD, hws⟩ := gp_ws hG.1 hG.2
  have he := (hR.2.2.2.2.2.2.1 a _ ha).2.2
  obtain ⟨q0, hq⟩ := hws _ _ he
  exact va_sast hx hb hK.1 hP hD hS q0 2 hq rfl hin hdg (fun H1 locs1 hP1 _ hS1 => kk H1 locs1 ⟨_, ⟨gp_set hws hq hP1, dom_set hG.2 (hG.2 _ _ he)⟩, hR.tk ha (upd f i.toNatClampNeg (vp_nar .short x))⟩ hS1)
theorem c_cells3 (hx : p.tables.exec = Jvm.exec) (hb : c.code = cc) (hts : ∀ w ∈ lw_ok, w.before args s = true) (hown : s.vm.findClass own = some m.cls) (hK : KK D d s) (hw : ΩC D d cp A σ H) {a n c0 : Nat} {f : Nat → Int32} (ha : sTk σ a = some (3, n, c0, f)) (hlink : (Cond.fieldLink own index ref (TX4 1).2.1 (TX4 1).2.2.1).before args s = true) (hsame : ∀ x, s.fieldFound? (TX4 1).1 (TX4 1).2.1 (TX4 1).2.2.1 = some x → s.fieldFound? ref (TX4 1).2.1 (TX4 1).2.2.1 = some x) (hdg : decode cc pc = .ok (.getfield index, 3)) (kk : W p l e R s m args below meth c H locs cells slots Q (F0 m (pc + 3) ls (.ref c0 :: rest))) : W p l e R s m args below meth c H locs cells slots Q (F0 m pc ls (.ref a :: rest)) := by
  obtain ⟨G, hG, hR⟩ := hw
  exact g_get hx hb hts inX4 hown hK hG (C := RX4) (T := TX4) (N := 2) (hR.2.2.2.2.2.2.1 a _ ha).2.1 rfl 1 (by decide) hlink hsame rfl hdg kk
theorem c_ld3 (hx : p.tables.exec = Jvm.exec) (hb : c.code = cc) (hK : KK D d s) (hw : ΩC D d cp A σ H) {a n c0 : Nat} {f : Nat → Int32} (ha : sTk σ a = some (3, n, c0, f)) {i : Int32} (hin : vp_in i n) (hdg : decode cc pc = .ok (.faload, 1)) (kk : W p l e R s m args below meth c H locs cells slots Q (F0 m (pc + 1) ls (.float (f i.toNatClampNeg).toUInt32 :: rest))) : W p l e R s m args below meth c H locs cells slots Q (F0 m pc ls (.int i :: .ref c0 :: rest)) := by
  obtain ⟨G, hG, hR⟩ := hw
  exact va_fald hx hb hK.1 (hG.1.one (hR.2.2.2.2.2.2.1 a _ ha).2.2) 0 3 rfl rfl hin hdg kk
theorem fl_upd (f : Nat → Int32) (i : Nat) (x : UInt32) : vf_upd (fun k => (f k).toUInt32) i x = fun k => (upd f i x.toInt32 k).toUInt32 := by
  funext k
  by_cases h : k = i
  · simp [vf_upd, upd, h]
  · simp [vf_upd, upd, h]
theorem c_st3 (hx : p.tables.exec = Jvm.exec) (hb : c.code = cc) (hK : KK D d s) (hw : ΩC D d cp A σ H) (hS : va_S A s.heap H locs) {a n c0 : Nat} {f : Nat → Int32} (ha : sTk σ a = some (3, n, c0, f)) {i : Int32} {x : UInt32} (hin : vp_in i n) (hdg : decode cc pc = .ok (.fastore, 1)) (kk : ∀ (H1 : Heap) (locs1 : List Loc), ΩC D d cp A (pTk σ a (3, n, c0, upd f i.toNatClampNeg x.toInt32)) H1 → va_S A s.heap H1 locs1 → W p l e R s m args below meth c H1 locs1 cells slots Q (F0 m (pc + 1) ls rest)) : W p l e R s m args below meth c H locs cells slots Q (F0 m pc ls (.float x :: .int i :: .ref c0 :: rest)) := by
  obtain ⟨G, hG, hR⟩ := hw
  obtain ⟨ws, hP, hD, hws⟩ := gp_ws hG.1 hG.2
  have he := (hR.2.2.2.2.2.2.1 a _ ha).2.2
  obtain ⟨q0, hq⟩ := hws _ _ he
  refine va_fast hx hb hK.1 hP hD hS q0 3 hq rfl hin hdg (fun H1 locs1 hP1 _ hS1 => kk H1 locs1 ⟨_, ⟨gp_set hws hq hP1, dom_set hG.2 (hG.2 _ _ he)⟩, ?_⟩ hS1)
  rw [fl_upd]
  exact hR.tk ha (upd f i.toNatClampNeg x.toInt32)
theorem c_cells4 (hx : p.tables.exec = Jvm.exec) (hb : c.code = cc) (hts : ∀ w ∈ lw_ok, w.before args s = true) (hown : s.vm.findClass own = some m.cls) (hK : KK D d s) (hw : ΩC D d cp A σ H) {a n c0 : Nat} {f : Nat → Int32} (ha : sTk σ a = some (4, n, c0, f)) (hlink : (Cond.fieldLink own index ref (TX0 1).2.1 (TX0 1).2.2.1).before args s = true) (hsame : ∀ x, s.fieldFound? (TX0 1).1 (TX0 1).2.1 (TX0 1).2.2.1 = some x → s.fieldFound? ref (TX0 1).2.1 (TX0 1).2.2.1 = some x) (hdg : decode cc pc = .ok (.getfield index, 3)) (kk : W p l e R s m args below meth c H locs cells slots Q (F0 m (pc + 3) ls (.ref c0 :: rest))) : W p l e R s m args below meth c H locs cells slots Q (F0 m pc ls (.ref a :: rest)) := by
  obtain ⟨G, hG, hR⟩ := hw
  exact g_get hx hb hts inX0 hown hK hG (C := RX0) (T := TX0) (N := 2) (hR.2.2.2.2.2.2.1 a _ ha).2.1 rfl 1 (by decide) hlink hsame rfl hdg kk
theorem c_ld4 (hx : p.tables.exec = Jvm.exec) (hb : c.code = cc) (hK : KK D d s) (hw : ΩC D d cp A σ H) {a n c0 : Nat} {f : Nat → Int32} (ha : sTk σ a = some (4, n, c0, f)) {i : Int32} (hin : vp_in i n) (hdg : decode cc pc = .ok (.baload, 1)) (kk : W p l e R s m args below meth c H locs cells slots Q (F0 m (pc + 1) ls (.int (f i.toNatClampNeg) :: rest))) : W p l e R s m args below meth c H locs cells slots Q (F0 m pc ls (.int i :: .ref c0 :: rest)) := by
  obtain ⟨G, hG, hR⟩ := hw
  exact va_bald hx hb hK.1 (hG.1.one (hR.2.2.2.2.2.2.1 a _ ha).2.2) 0 4 rfl rfl hin hdg kk
theorem c_st4 (hx : p.tables.exec = Jvm.exec) (hb : c.code = cc) (hK : KK D d s) (hw : ΩC D d cp A σ H) (hS : va_S A s.heap H locs) {a n c0 : Nat} {f : Nat → Int32} (ha : sTk σ a = some (4, n, c0, f)) {i x : Int32} (hin : vp_in i n) (hdg : decode cc pc = .ok (.bastore, 1)) (kk : ∀ (H1 : Heap) (locs1 : List Loc), ΩC D d cp A (pTk σ a (4, n, c0, upd f i.toNatClampNeg (vp_nar .byte x))) H1 → va_S A s.heap H1 locs1 → W p l e R s m args below meth c H1 locs1 cells slots Q (F0 m (pc + 1) ls rest)) : W p l e R s m args below meth c H locs cells slots Q (F0 m pc ls (.int x :: .int i :: .ref c0 :: rest)) := by
  obtain ⟨G, hG, hR⟩ := hw
  obtain ⟨ws, hP, hD, hws⟩ := gp_ws hG.1 hG.2
  have he := (hR.2.2.2.2.2.2.1 a _ ha).2.2
  obtain ⟨q0, hq⟩ := hws _ _ he
  exact va_bast hx hb hK.1 hP hD hS q0 4 hq rfl hin hdg (fun H1 locs1 hP1 _ hS1 => kk H1 locs1 ⟨_, ⟨gp_set hws hq hP1, dom_set hG.2 (hG.2 _ _ he)⟩, hR.tk ha (upd f i.toNatClampNeg (vp_nar .byte x))⟩ hS1)
end RULESC
end
section
theorem vp_lt {i : Int32} {n : Nat} (h : vp_in i n) : i.toNatClampNeg < n := Nat.not_le.mp fun q => h (Or.inr q)
section CASEQ
variable {p : Program} {l : Launch} {e : Env} {R : Room} {s : State} {m : MethodId} {args : Array Value} {below : List Frame} {meth : Method} {c : Code} {H : Heap} {locs : List Loc} {cells slots : Nat} {Q : State → Prop} {pc : Nat} {ls : Array Slot} {rest : List Value}
theorem lv_caseq {o : Option Nat} (kn : o = none → W p l e R s m args below meth c H locs cells slots Q (F0 m pc ls (va_rf o :: rest))) (ks : ∀ a : Nat, o = some a → W p l e R s m args below meth c H locs cells slots Q (F0 m pc ls (va_rf o :: rest))) : W p l e R s m args below meth c H locs cells slots Q (F0 m pc ls (va_rf o :: rest)) := by
  cases ho : o with
  | none => rw [ho] at kn; exact kn rfl
  | some a => rw [ho] at ks; exact ks a rfl
end CASEQ
abbrev rmX7_hasPlace : Room := { frames := 0, cells := 0, slots := 0, locals := 0 }
theorem nmhX7_hasPlace : NoMH yX7_hasPlace 1 := by decide +kernel
def wX7_hasPlace (a : Nat) (x1 : Int32) (σ : CS) (Q : Int32 → CS → Prop) : Prop :=
    (x1 < 0 → Q (0 : Int32) σ) ∧ (¬ x1 < 0 → (∃ (kd2 n2 c2 : Nat) (f2 : Nat → Int32), sTk σ a = some (kd2, n2, c2, f2) ∧ (((nI n2) ≤ x1 → Q (0 : Int32) σ) ∧ (¬ (nI n2) ≤ x1 → Q (1 : Int32) σ))))
set_option maxHeartbeats 4000000 in
set_option maxRecDepth 100000 in
theorem tX7_hasPlace (l : Launch) (D : va_G) (d : AC) (cp : CP) (a : Nat) (x1 : Int32) (σ : CS) {Q : Int32 → CS → Prop} (hq : wX7_hasPlace a x1 σ Q) : MT D d (ΩC D d cp) l yX7_hasPlace (WS yX7_hasPlace cX7_hasPlace 2 (some (.boolean))) rmX7_hasPlace [.ref a, .int x1] σ (qZ Q) := by
  refine mt_of (ΩC.mono D d cp) (by decide +kernel) (Nat.le_of_ble_eq_true rfl) (fun p e s m below meth c A ls hx hb hr hml hown hts hlocks hnm hK hA hw hS hl => ?_)
  have hl : lv_has ls 2 [(0, .ref a), (1, .int x1)] := hl
  have hown : s.vm.findClass RX7 = some m.cls := hown
  unfold wX7_hasPlace at hq
  refine lv_iload_n hx hb dX7_hasPlace_0 rfl (lv_at hl 1 rfl) ?_
  refine lv_if_lt (tgt := 16) hx hb dX7_hasPlace_1 (by decide) (fun hc => ?_) (fun hc => ?_)
  · have hq := hq.1 hc
    refine lv_iconst (v := 0) hx hb dX7_hasPlace_16 (by decide) ?_
    exact mt_retz hx hb hr hlocks hw hS (Nat.le_of_ble_eq_true rfl) (Nat.le_of_ble_eq_true rfl) dX7_hasPlace_17 rfl ⟨_, rfl, Or.inl rfl, hq⟩
  · have hq := hq.2 hc
    refine lv_iload_n hx hb dX7_hasPlace_4 rfl (lv_at hl 1 rfl) ?_
    refine lv_aload_n hx hb dX7_hasPlace_5 rfl (lv_at hl 0 rfl) ?_
    obtain ⟨kd2, n2, c2, f2, hm2, hq⟩ := hq
    refine c_gete hx hb hts hown hK hw hm2 (hts _ q_130) dX7_hasPlace_6 ?_
    refine lv_icmp_ge (tgt := 16) hx hb dX7_hasPlace_9 (by decide) (fun hc => ?_) (fun hc => ?_)
    · have hq := hq.1 hc
      refine lv_iconst (v := 0) hx hb dX7_hasPlace_16 (by decide) ?_
      exact mt_retz hx hb hr hlocks hw hS (Nat.le_of_ble_eq_true rfl) (Nat.le_of_ble_eq_true rfl) dX7_hasPlace_17 rfl ⟨_, rfl, Or.inl rfl, hq⟩
    · have hq := hq.2 hc
      refine lv_iconst (v := 1) hx hb dX7_hasPlace_12 (by decide) ?_
      refine lv_goto (tgt := 17) hx hb dX7_hasPlace_13 (by decide) ?_
      exact mt_retz hx hb hr hlocks hw hS (Nat.le_of_ble_eq_true rfl) (Nat.le_of_ble_eq_true rfl) dX7_hasPlace_17 rfl ⟨_, rfl, Or.inr rfl, hq⟩
abbrev rmX5_valueAt : Room := { frames := 0, cells := 0, slots := 0, locals := 0 }
theorem nmhX5_valueAt : NoMH yX5_valueAt 1 := by decide +kernel
def wX5_valueAt (a : Nat) (x1 : Int32) (σ : CS) (Q : Int32 → CS → Prop) : Prop :=
    ∃ (n2 c2 : Nat) (f2 : Nat → Int32), sTk σ a = some (0, n2, c2, f2) ∧ (vp_in x1 n2 ∧ (((f2 x1.toNatClampNeg) = 0 → Q (0 : Int32) σ) ∧ (¬ (f2 x1.toNatClampNeg) = 0 → Q (1 : Int32) σ)))
set_option maxHeartbeats 4000000 in
set_option maxRecDepth 100000 in
theorem tX5_valueAt (l : Launch) (D : va_G) (d : AC) (cp : CP) (a : Nat) (x1 : Int32) (σ : CS) {Q : Int32 → CS → Prop} (hq : wX5_valueAt a x1 σ Q) : MT D d (ΩC D d cp) l yX5_valueAt (WS yX5_valueAt cX5_valueAt 2 (some (.int))) rmX5_valueAt [.ref a, .int x1] σ (qI Q) := by
  refine mt_of (ΩC.mono D d cp) (by decide +kernel) (Nat.le_of_ble_eq_true rfl) (fun p e s m below meth c A ls hx hb hr hml hown hts hlocks hnm hK hA hw hS hl => ?_)
  have hl : lv_has ls 2 [(0, .ref a), (1, .int x1)] := hl
  have hown : s.vm.findClass RX5 = some m.cls := hown
  unfold wX5_valueAt at hq
  refine lv_aload_n hx hb dX5_valueAt_0 rfl (lv_at hl 0 rfl) ?_
  obtain ⟨n2, c2, f2, hm2, hq⟩ := hq
  refine c_cells0 hx hb hts hown hK hw hm2 (hts _ q_129) (fun _ h9 => h9) dX5_valueAt_1 ?_
  refine lv_iload_n hx hb dX5_valueAt_4 rfl (lv_at hl 1 rfl) ?_
  refine c_ld0 hx hb hK hw hm2 hq.1 dX5_valueAt_5 ?_
  have hq := hq.2
  refine lv_if_eq (tgt := 13) hx hb dX5_valueAt_6 (by decide) (fun hc => ?_) (fun hc => ?_)
  · have hq := hq.1 hc
    refine lv_iconst (v := 0) hx hb dX5_valueAt_13 (by decide) ?_
    exact mt_reti hx hb hr hlocks hw hS (Nat.le_of_ble_eq_true rfl) (Nat.le_of_ble_eq_true rfl) dX5_valueAt_14 ⟨_, rfl, hq⟩
  · have hq := hq.2 hc
    refine lv_iconst (v := 1) hx hb dX5_valueAt_9 (by decide) ?_
    refine lv_goto (tgt := 14) hx hb dX5_valueAt_10 (by decide) ?_
    exact mt_reti hx hb hr hlocks hw hS (Nat.le_of_ble_eq_true rfl) (Nat.le_of_ble_eq_true rfl) dX5_valueAt_14 ⟨_, rfl, hq⟩
abbrev rmX6_valueAt : Room := { frames := 0, cells := 0, slots := 0, locals := 0 }
theorem nmhX6_valueAt : NoMH yX6_valueAt 1 := by decide +kernel
def wX6_valueAt (a : Nat) (x1 : Int32) (σ : CS) (Q : Int32 → CS → Prop) : Prop :=
    ∃ (n2 c2 : Nat) (f2 : Nat → Int32), sTk σ a = some (1, n2, c2, f2) ∧ (vp_in x1 n2 ∧ Q (f2 x1.toNatClampNeg) σ)
set_option maxHeartbeats 4000000 in
set_option maxRecDepth 100000 in
theorem tX6_valueAt (l : Launch) (D : va_G) (d : AC) (cp : CP) (a : Nat) (x1 : Int32) (σ : CS) {Q : Int32 → CS → Prop} (hq : wX6_valueAt a x1 σ Q) : MT D d (ΩC D d cp) l yX6_valueAt (WS yX6_valueAt cX6_valueAt 2 (some (.int))) rmX6_valueAt [.ref a, .int x1] σ (qI Q) := by
  refine mt_of (ΩC.mono D d cp) (by decide +kernel) (Nat.le_of_ble_eq_true rfl) (fun p e s m below meth c A ls hx hb hr hml hown hts hlocks hnm hK hA hw hS hl => ?_)
  have hl : lv_has ls 2 [(0, .ref a), (1, .int x1)] := hl
  have hown : s.vm.findClass RX6 = some m.cls := hown
  unfold wX6_valueAt at hq
  refine lv_aload_n hx hb dX6_valueAt_0 rfl (lv_at hl 0 rfl) ?_
  obtain ⟨n2, c2, f2, hm2, hq⟩ := hq
  refine c_cells1 hx hb hts hown hK hw hm2 (hts _ q_145) (fun _ h9 => h9) dX6_valueAt_1 ?_
  refine lv_iload_n hx hb dX6_valueAt_4 rfl (lv_at hl 1 rfl) ?_
  refine c_ld1 hx hb hK hw hm2 hq.1 dX6_valueAt_5 ?_
  have hq := hq.2
  exact mt_reti hx hb hr hlocks hw hS (Nat.le_of_ble_eq_true rfl) (Nat.le_of_ble_eq_true rfl) dX6_valueAt_6 ⟨_, rfl, hq⟩
abbrev rmX3_valueAt : Room := { frames := 0, cells := 0, slots := 0, locals := 0 }
theorem nmhX3_valueAt : NoMH yX3_valueAt 1 := by decide +kernel
def wX3_valueAt (a : Nat) (x1 : Int32) (σ : CS) (Q : Int32 → CS → Prop) : Prop :=
    ∃ (n2 c2 : Nat) (f2 : Nat → Int32), sTk σ a = some (2, n2, c2, f2) ∧ (vp_in x1 n2 ∧ Q (f2 x1.toNatClampNeg) σ)
set_option maxHeartbeats 4000000 in
set_option maxRecDepth 100000 in
theorem tX3_valueAt (l : Launch) (D : va_G) (d : AC) (cp : CP) (a : Nat) (x1 : Int32) (σ : CS) {Q : Int32 → CS → Prop} (hq : wX3_valueAt a x1 σ Q) : MT D d (ΩC D d cp) l yX3_valueAt (WS yX3_valueAt cX3_valueAt 2 (some (.int))) rmX3_valueAt [.ref a, .int x1] σ (qI Q) := by
  refine mt_of (ΩC.mono D d cp) (by decide +kernel) (Nat.le_of_ble_eq_true rfl) (fun p e s m below meth c A ls hx hb hr hml hown hts hlocks hnm hK hA hw hS hl => ?_)
  have hl : lv_has ls 2 [(0, .ref a), (1, .int x1)] := hl
  have hown : s.vm.findClass RX3 = some m.cls := hown
  unfold wX3_valueAt at hq
  refine lv_aload_n hx hb dX3_valueAt_0 rfl (lv_at hl 0 rfl) ?_
  obtain ⟨n2, c2, f2, hm2, hq⟩ := hq
  refine c_cells2 hx hb hts hown hK hw hm2 (hts _ q_157) (fun _ h9 => h9) dX3_valueAt_1 ?_
  refine lv_iload_n hx hb dX3_valueAt_4 rfl (lv_at hl 1 rfl) ?_
  refine c_ld2 hx hb hK hw hm2 hq.1 dX3_valueAt_5 ?_
  have hq := hq.2
  exact mt_reti hx hb hr hlocks hw hS (Nat.le_of_ble_eq_true rfl) (Nat.le_of_ble_eq_true rfl) dX3_valueAt_6 ⟨_, rfl, hq⟩
abbrev rmX4_isNegative : Room := { frames := 0, cells := 0, slots := 0, locals := 0 }
theorem nmhX4_isNegative : NoMH yX4_isNegative 1 := by decide +kernel
def wX4_isNegative (x0 : UInt32) (σ : CS) (Q : Int32 → CS → Prop) : Prop :=
    (¬ (Op.cmpValue (FP.fcmp x0 FP.fconst0) CmpOp.l) = 0 → ((0 ≤ (Op.cmpValue (FP.fcmp x0 FP.fconst0) CmpOp.g) → Q (0 : Int32) σ) ∧ (¬ 0 ≤ (Op.cmpValue (FP.fcmp x0 FP.fconst0) CmpOp.g) → Q (1 : Int32) σ))) ∧ ((Op.cmpValue (FP.fcmp x0 FP.fconst0) CmpOp.l) = 0 → (vf_n32 (FP.fdiv FP.fconst1 x0) ∧ ((0 ≤ (Op.cmpValue (FP.fcmp (FP.fdiv FP.fconst1 x0) FP.fconst0) CmpOp.g) → Q (0 : Int32) σ) ∧ (¬ 0 ≤ (Op.cmpValue (FP.fcmp (FP.fdiv FP.fconst1 x0) FP.fconst0) CmpOp.g) → Q (1 : Int32) σ))))
set_option maxHeartbeats 4000000 in
set_option maxRecDepth 100000 in
theorem tX4_isNegative (l : Launch) (D : va_G) (d : AC) (cp : CP) (x0 : UInt32) (σ : CS) {Q : Int32 → CS → Prop} (hq : wX4_isNegative x0 σ Q) : MT D d (ΩC D d cp) l yX4_isNegative (WS yX4_isNegative cX4_isNegative 1 (some (.boolean))) rmX4_isNegative [.float x0] σ (qZ Q) := by
  refine mt_of (ΩC.mono D d cp) (by decide +kernel) (Nat.le_of_ble_eq_true rfl) (fun p e s m below meth c A ls hx hb hr hml hown hts hlocks hnm hK hA hw hS hl => ?_)
  have hl : lv_has ls 1 [(0, .float x0)] := hl
  have hown : s.vm.findClass RX4 = some m.cls := hown
  unfold wX4_isNegative at hq
  refine lv_fload_n hx hb dX4_isNegative_0 rfl (lv_at hl 0 rfl) ?_
  refine lv_fconst0 hx hb dX4_isNegative_1 ?_
  refine lv_fcmp hx hb dX4_isNegative_2 ?_
  refine lv_if_ne (tgt := 22) hx hb dX4_isNegative_3 (by decide) (fun hc => ?_) (fun hc => ?_)
  · have hq := hq.1 hc
    refine lv_fload_n hx hb dX4_isNegative_22 rfl (lv_at hl 0 rfl) ?_
    refine lv_fconst0 hx hb dX4_isNegative_23 ?_
    refine lv_fcmp hx hb dX4_isNegative_24 ?_
    refine lv_if_ge (tgt := 32) hx hb dX4_isNegative_25 (by decide) (fun hc => ?_) (fun hc => ?_)
    · have hq := hq.1 hc
      refine lv_iconst (v := 0) hx hb dX4_isNegative_32 (by decide) ?_
      exact mt_retz hx hb hr hlocks hw hS (Nat.le_of_ble_eq_true rfl) (Nat.le_of_ble_eq_true rfl) dX4_isNegative_33 rfl ⟨_, rfl, Or.inl rfl, hq⟩
    · have hq := hq.2 hc
      refine lv_iconst (v := 1) hx hb dX4_isNegative_28 (by decide) ?_
      refine lv_goto (tgt := 33) hx hb dX4_isNegative_29 (by decide) ?_
      exact mt_retz hx hb hr hlocks hw hS (Nat.le_of_ble_eq_true rfl) (Nat.le_of_ble_eq_true rfl) dX4_isNegative_33 rfl ⟨_, rfl, Or.inr rfl, hq⟩
  · have hq := hq.2 hc
    refine lv_fconst1 hx hb dX4_isNegative_6 ?_
    refine lv_fload_n hx hb dX4_isNegative_7 rfl (lv_at hl 0 rfl) ?_
    refine lv_fdiv hx hb dX4_isNegative_8 hq.1 ?_
    have hq := hq.2
    refine lv_fconst0 hx hb dX4_isNegative_9 ?_
    refine lv_fcmp hx hb dX4_isNegative_10 ?_
    refine lv_if_ge (tgt := 18) hx hb dX4_isNegative_11 (by decide) (fun hc => ?_) (fun hc => ?_)
    · have hq := hq.1 hc
      refine lv_iconst (v := 0) hx hb dX4_isNegative_18 (by decide) ?_
      refine lv_goto (tgt := 33) hx hb dX4_isNegative_19 (by decide) ?_
      exact mt_retz hx hb hr hlocks hw hS (Nat.le_of_ble_eq_true rfl) (Nat.le_of_ble_eq_true rfl) dX4_isNegative_33 rfl ⟨_, rfl, Or.inl rfl, hq⟩
    · have hq := hq.2 hc
      refine lv_iconst (v := 1) hx hb dX4_isNegative_14 (by decide) ?_
      refine lv_goto (tgt := 33) hx hb dX4_isNegative_15 (by decide) ?_
      exact mt_retz hx hb hr hlocks hw hS (Nat.le_of_ble_eq_true rfl) (Nat.le_of_ble_eq_true rfl) dX4_isNegative_33 rfl ⟨_, rfl, Or.inr rfl, hq⟩
abbrev rmX4_bitsOf : Room := { frames := 1, cells := 0, slots := 0, locals := 20 }
theorem nmhX4_bitsOf : NoMH yX4_bitsOf 1 := by decide +kernel
def wX4_bitsOf_b60 (x0 : UInt32) (Q : Int32 → CS → Prop) (v1 : Int32) (v2 : UInt32) (v3 : Int32) (σ : CS) : Prop :=
    Q (v1 ||| ((v3 <<< ((23 : Int32) &&& 31)) + (FP.f2i v2))) σ
def wX4_bitsOf_b39 (x0 : UInt32) (Q : Int32 → CS → Prop) : Nat → Int32 → UInt32 → Int32 → CS → Prop
  | 0, _, _, _, _ => False
  | n + 1, v1, v2, v3, σ =>
    (v3 ≤ 0 → wX4_bitsOf_b60 x0 Q v1 v2 v3 σ) ∧ (¬ v3 ≤ 0 → ((0 ≤ (Op.cmpValue (FP.fcmp v2 (1258291200 : UInt32)) CmpOp.g) → wX4_bitsOf_b60 x0 Q v1 v2 v3 σ) ∧ (¬ 0 ≤ (Op.cmpValue (FP.fcmp v2 (1258291200 : UInt32)) CmpOp.g) → (vf_n32 (FP.fmul v2 FP.fconst2) ∧ (∀ y13 : UInt32, y13 = (FP.fmul v2 FP.fconst2) → (∀ y14 : Int32, y14 = v3 + (-1) → (wX4_bitsOf_b39 x0 Q n v1 y13 y14 σ)))))))
theorem wX4_bitsOf_b39_s (x0 : UInt32) (Q : Int32 → CS → Prop) (n : Nat) (v1 : Int32) (v2 : UInt32) (v3 : Int32) (σ : CS) : wX4_bitsOf_b39 x0 Q (n + 1) v1 v2 v3 σ = (
    (v3 ≤ 0 → wX4_bitsOf_b60 x0 Q v1 v2 v3 σ) ∧ (¬ v3 ≤ 0 → ((0 ≤ (Op.cmpValue (FP.fcmp v2 (1258291200 : UInt32)) CmpOp.g) → wX4_bitsOf_b60 x0 Q v1 v2 v3 σ) ∧ (¬ 0 ≤ (Op.cmpValue (FP.fcmp v2 (1258291200 : UInt32)) CmpOp.g) → (vf_n32 (FP.fmul v2 FP.fconst2) ∧ (∀ y13 : UInt32, y13 = (FP.fmul v2 FP.fconst2) → (∀ y14 : Int32, y14 = v3 + (-1) → (wX4_bitsOf_b39 x0 Q n v1 y13 y14 σ)))))))) := rfl
def wX4_bitsOf_b13 (x0 : UInt32) (Q : Int32 → CS → Prop) (t0 : Int32) (σ : CS) : Prop :=
    (¬ (Op.cmpValue (FP.fcmp x0 FP.fconst0) CmpOp.l) = 0 → ((0 ≤ (Op.cmpValue (FP.fcmp x0 FP.fconst0) CmpOp.g) → (∃ k39 : Nat, wX4_bitsOf_b39 x0 Q k39 t0 x0 (149 : Int32) σ)) ∧ (¬ 0 ≤ (Op.cmpValue (FP.fcmp x0 FP.fconst0) CmpOp.g) → (∀ y15 : UInt32, y15 = (FP.fneg x0) → (∃ k39 : Nat, wX4_bitsOf_b39 x0 Q k39 t0 y15 (149 : Int32) σ))))) ∧ ((Op.cmpValue (FP.fcmp x0 FP.fconst0) CmpOp.l) = 0 → Q t0 σ)
def wX4_bitsOf (x0 : UInt32) (σ : CS) (Q : Int32 → CS → Prop) : Prop :=
    wX4_isNegative x0 σ (fun r11 u12 => (r11 = 0 → wX4_bitsOf_b13 x0 Q (0 : Int32) u12) ∧ (¬ r11 = 0 → wX4_bitsOf_b13 x0 Q (-2147483648 : Int32) u12))
set_option maxHeartbeats 4000000 in
set_option maxRecDepth 100000 in
theorem tX4_bitsOf (l : Launch) (D : va_G) (d : AC) (cp : CP) (x0 : UInt32) (σ : CS) {Q : Int32 → CS → Prop} (hq : wX4_bitsOf x0 σ Q) : MT D d (ΩC D d cp) l yX4_bitsOf (WS yX4_bitsOf cX4_bitsOf 4 (some (.int))) rmX4_bitsOf [.float x0] σ (qI Q) := by
  refine mt_of (ΩC.mono D d cp) (by decide +kernel) (Nat.le_of_ble_eq_true rfl) (fun p e s m below meth c A ls hx hb hr hml hown hts hlocks hnm hK hA hw hS hl => ?_)
  have hl : lv_has ls 4 [(0, .float x0)] := hl
  have hown : s.vm.findClass RX4 = some m.cls := hown
  have b60 : ∀ (v1 : Int32) (v2 : UInt32) (v3 : Int32) (σ : CS) (H : Heap) (locs : List Loc) (ls : Array Slot), wX4_bitsOf_b60 x0 Q v1 v2 v3 σ → (ΩC D d cp) A σ H → va_S A s.heap H locs → lv_has ls 4 [(0, .float x0), (1, .int v1), (2, .float v2), (3, .int v3)] → W p l e rmX4_bitsOf s m [.float x0].toArray below meth c H locs 0 0 (MQ below (Qo (qI Q) (fun u' t => (ΩC D d cp) A u' t.heap) A) [.float x0].toArray s rmX4_bitsOf.cells rmX4_bitsOf.slots A) (F0 m 60 ls []) := by
    intro v1 v2 v3 σ H locs ls hq hw hS hl
    unfold wX4_bitsOf_b60 at hq
    refine lv_iload_n hx hb dX4_bitsOf_60 rfl (lv_at hl 1 rfl) ?_
    refine lv_iload_n hx hb dX4_bitsOf_61 rfl (lv_at hl 3 rfl) ?_
    refine lv_bipush (v := 23) hx hb dX4_bitsOf_62 (by decide) ?_
    refine lv_ishl hx hb dX4_bitsOf_64 ?_
    refine lv_fload_n hx hb dX4_bitsOf_65 rfl (lv_at hl 2 rfl) ?_
    refine lv_f2i hx hb dX4_bitsOf_66 ?_
    refine lv_iadd hx hb dX4_bitsOf_67 ?_
    refine lv_ior hx hb dX4_bitsOf_68 ?_
    exact mt_reti hx hb hr hlocks hw hS (Nat.le_of_ble_eq_true rfl) (Nat.le_of_ble_eq_true rfl) dX4_bitsOf_69 ⟨_, rfl, hq⟩
  have b39 : ∀ (n : Nat) (v1 : Int32) (v2 : UInt32) (v3 : Int32) (σ : CS) (H : Heap) (locs : List Loc) (ls : Array Slot), wX4_bitsOf_b39 x0 Q n v1 v2 v3 σ → (ΩC D d cp) A σ H → va_S A s.heap H locs → lv_has ls 4 [(0, .float x0), (1, .int v1), (2, .float v2), (3, .int v3)] → W p l e rmX4_bitsOf s m [.float x0].toArray below meth c H locs 0 0 (MQ below (Qo (qI Q) (fun u' t => (ΩC D d cp) A u' t.heap) A) [.float x0].toArray s rmX4_bitsOf.cells rmX4_bitsOf.slots A) (F0 m 39 ls []) := by
    intro n
    induction n with
    | zero =>
      intro v1 v2 v3 σ H locs ls hq
      exact absurd hq id
    | succ n ih =>
      intro v1 v2 v3 σ H locs ls hq hw hS hl
      rw [wX4_bitsOf_b39_s] at hq
      refine lv_iload_n hx hb dX4_bitsOf_39 rfl (lv_at hl 3 rfl) ?_
      refine lv_if_le (tgt := 60) hx hb dX4_bitsOf_40 (by decide) (fun hc => ?_) (fun hc => ?_)
      · have hq := hq.1 hc
        exact b60 v1 v2 v3 σ _ _ _ hq hw hS (lv_sub hl [0, 1, 2, 3] rfl)
      · have hq := hq.2 hc
        refine lv_fload_n hx hb dX4_bitsOf_43 rfl (lv_at hl 2 rfl) ?_
        refine lv_ldcf (v := 1258291200) hx hb hown (hts _ q_247) dX4_bitsOf_44 ?_
        refine lv_fcmp hx hb dX4_bitsOf_46 ?_
        refine lv_if_ge (tgt := 60) hx hb dX4_bitsOf_47 (by decide) (fun hc => ?_) (fun hc => ?_)
        · have hq := hq.1 hc
          exact b60 v1 v2 v3 σ _ _ _ hq hw hS (lv_sub hl [0, 1, 2, 3] rfl)
        · have hq := hq.2 hc
          refine lv_fload_n hx hb dX4_bitsOf_50 rfl (lv_at hl 2 rfl) ?_
          refine lv_fconst2 hx hb dX4_bitsOf_51 ?_
          refine lv_fmul hx hb dX4_bitsOf_52 hq.1 ?_
          have hq := hq.2
          refine lv_topf (fun y13 ey13 => ?_)
          have hq := hq y13 ey13
          refine lv_fstore_n (lv' := [(2, .float y13), (0, .float x0), (1, .int v1), (3, .int v3)]) hx hb dX4_bitsOf_53 rfl hl (by decide) rfl (fun ls hl => ?_)
          obtain ⟨y14, ey14⟩ : ∃ z : Int32, z = v3 + (-1) := ⟨_, rfl⟩
          have hq := hq y14 ey14
          refine lv_iinc (v := y14) (lv' := [(3, .int y14), (2, .float y13), (0, .float x0), (1, .int v1)]) hx hb dX4_bitsOf_54 hl (k := 3) rfl (by rw [ey14]; rfl) (by decide) rfl (fun ls hl => ?_)
          refine lv_goto (tgt := 39) hx hb dX4_bitsOf_57 (by decide) ?_
          exact ih v1 y13 y14 σ _ _ _ hq hw hS (lv_sub hl [2, 3, 1, 0] rfl)
  have b13 : ∀ (t0 : Int32) (σ : CS) (H : Heap) (locs : List Loc) (ls : Array Slot), wX4_bitsOf_b13 x0 Q t0 σ → (ΩC D d cp) A σ H → va_S A s.heap H locs → lv_has ls 4 [(0, .float x0)] → W p l e rmX4_bitsOf s m [.float x0].toArray below meth c H locs 0 0 (MQ below (Qo (qI Q) (fun u' t => (ΩC D d cp) A u' t.heap) A) [.float x0].toArray s rmX4_bitsOf.cells rmX4_bitsOf.slots A) (F0 m 13 ls [.int t0]) := by
    intro t0 σ H locs ls hq hw hS hl
    unfold wX4_bitsOf_b13 at hq
    refine lv_istore_n (lv' := [(1, .int t0), (0, .float x0)]) hx hb dX4_bitsOf_13 rfl hl (by decide) rfl (fun ls hl => ?_)
    refine lv_fload_n hx hb dX4_bitsOf_14 rfl (lv_at hl 1 rfl) ?_
    refine lv_fconst0 hx hb dX4_bitsOf_15 ?_
    refine lv_fcmp hx hb dX4_bitsOf_16 ?_
    refine lv_if_ne (tgt := 22) hx hb dX4_bitsOf_17 (by decide) (fun hc => ?_) (fun hc => ?_)
    · have hq := hq.1 hc
      refine lv_fload_n hx hb dX4_bitsOf_22 rfl (lv_at hl 1 rfl) ?_
      refine lv_fconst0 hx hb dX4_bitsOf_23 ?_
      refine lv_fcmp hx hb dX4_bitsOf_24 ?_
      refine lv_if_ge (tgt := 33) hx hb dX4_bitsOf_25 (by decide) (fun hc => ?_) (fun hc => ?_)
      · have hq := hq.1 hc
        refine lv_fload_n hx hb dX4_bitsOf_33 rfl (lv_at hl 1 rfl) ?_
        refine lv_fstore_n (lv' := [(2, .float x0), (1, .int t0), (0, .float x0)]) hx hb dX4_bitsOf_34 rfl hl (by decide) rfl (fun ls hl => ?_)
        refine lv_sipush (v := 149) hx hb dX4_bitsOf_35 (by decide) ?_
        refine lv_istore_n (lv' := [(3, .int (149 : Int32)), (2, .float x0), (1, .int t0), (0, .float x0)]) hx hb dX4_bitsOf_38 rfl hl (by decide) rfl (fun ls hl => ?_)
        obtain ⟨k39, hq⟩ := hq
        exact b39 k39 t0 x0 (149 : Int32) σ _ _ _ hq hw hS (lv_sub hl [3, 2, 1, 0] rfl)
      · have hq := hq.2 hc
        refine lv_fload_n hx hb dX4_bitsOf_28 rfl (lv_at hl 1 rfl) ?_
        refine lv_fneg hx hb dX4_bitsOf_29 ?_
        refine lv_goto (tgt := 34) hx hb dX4_bitsOf_30 (by decide) ?_
        refine lv_topf (fun y15 ey15 => ?_)
        have hq := hq y15 ey15
        refine lv_fstore_n (lv' := [(2, .float y15), (1, .int t0), (0, .float x0)]) hx hb dX4_bitsOf_34 rfl hl (by decide) rfl (fun ls hl => ?_)
        refine lv_sipush (v := 149) hx hb dX4_bitsOf_35 (by decide) ?_
        refine lv_istore_n (lv' := [(3, .int (149 : Int32)), (2, .float y15), (1, .int t0), (0, .float x0)]) hx hb dX4_bitsOf_38 rfl hl (by decide) rfl (fun ls hl => ?_)
        obtain ⟨k39, hq⟩ := hq
        exact b39 k39 t0 y15 (149 : Int32) σ _ _ _ hq hw hS (lv_sub hl [3, 2, 1, 0] rfl)
    · have hq := hq.2 hc
      refine lv_iload_n hx hb dX4_bitsOf_20 rfl (lv_at hl 0 rfl) ?_
      exact mt_reti hx hb hr hlocks hw hS (Nat.le_of_ble_eq_true rfl) (Nat.le_of_ble_eq_true rfl) dX4_bitsOf_21 ⟨_, rfl, hq⟩
  unfold wX4_bitsOf at hq
  refine lv_fload_n hx hb dX4_bitsOf_0 rfl (lv_at hl 0 rfl) ?_
  refine mt_callS (index := 25) hx hb hml hown hts hK (ΩC.mono D d cp) hA hw hS hl.1 (tX4_isNegative l D d cp x0 σ hq) q_245 q_39 q_243 q_244 nmhX4_isNegative ⟨⟨Nat.le_of_ble_eq_true rfl, Nat.le_of_ble_eq_true rfl⟩, ⟨Nat.le_of_ble_eq_true rfl, Nat.le_of_ble_eq_true rfl⟩⟩ rfl (Nat.le_of_ble_eq_true rfl) dX4_bitsOf_1 (fun _ u12 H locs hq hw hS => ?_)
  obtain ⟨r11, rfl, hzr11, hq⟩ := hq
  refine W.eq (g2 := F0 m 4 ls [.int r11]) rfl ?_
  refine lv_if_eq (tgt := 12) hx hb dX4_bitsOf_4 (by decide) (fun hc => ?_) (fun hc => ?_)
  · have hq := hq.1 hc
    refine lv_iconst (v := 0) hx hb dX4_bitsOf_12 (by decide) ?_
    exact b13 (0 : Int32) u12 _ _ _ hq hw hS (lv_sub hl [0] rfl)
  · have hq := hq.2 hc
    refine lv_ldc (v := -2147483648) hx hb hown (hts _ q_246) dX4_bitsOf_7 ?_
    refine lv_goto (tgt := 13) hx hb dX4_bitsOf_9 (by decide) ?_
    exact b13 (-2147483648 : Int32) u12 _ _ _ hq hw hS (lv_sub hl [0] rfl)
abbrev rmX4_valueAt : Room := { frames := 2, cells := 0, slots := 0, locals := 43 }
theorem nmhX4_valueAt : NoMH yX4_valueAt 1 := by decide +kernel
def wX4_valueAt (a : Nat) (x1 : Int32) (σ : CS) (Q : Int32 → CS → Prop) : Prop :=
    ∃ (n4 c4 : Nat) (f4 : Nat → Int32), sTk σ a = some (3, n4, c4, f4) ∧ (vp_in x1 n4 ∧ (wX4_bitsOf ((f4 x1.toNatClampNeg).toUInt32) σ (fun r5 u6 => Q r5 u6)))
set_option maxHeartbeats 4000000 in
set_option maxRecDepth 100000 in
theorem tX4_valueAt (l : Launch) (D : va_G) (d : AC) (cp : CP) (a : Nat) (x1 : Int32) (σ : CS) {Q : Int32 → CS → Prop} (hq : wX4_valueAt a x1 σ Q) : MT D d (ΩC D d cp) l yX4_valueAt (WS yX4_valueAt cX4_valueAt 2 (some (.int))) rmX4_valueAt [.ref a, .int x1] σ (qI Q) := by
  refine mt_of (ΩC.mono D d cp) (by decide +kernel) (Nat.le_of_ble_eq_true rfl) (fun p e s m below meth c A ls hx hb hr hml hown hts hlocks hnm hK hA hw hS hl => ?_)
  have hl : lv_has ls 2 [(0, .ref a), (1, .int x1)] := hl
  have hown : s.vm.findClass RX4 = some m.cls := hown
  unfold wX4_valueAt at hq
  refine lv_aload_n hx hb dX4_valueAt_0 rfl (lv_at hl 0 rfl) ?_
  obtain ⟨n4, c4, f4, hm4, hq⟩ := hq
  refine c_cells3 hx hb hts hown hK hw hm4 (hts _ q_169) (fun _ h9 => h9) dX4_valueAt_1 ?_
  refine lv_iload_n hx hb dX4_valueAt_4 rfl (lv_at hl 1 rfl) ?_
  refine c_ld3 hx hb hK hw hm4 hq.1 dX4_valueAt_5 ?_
  have hq := hq.2
  refine mt_callS (index := 15) hx hb hml hown hts hK (ΩC.mono D d cp) hA hw hS hl.1 (tX4_bitsOf l D d cp ((f4 x1.toNatClampNeg).toUInt32) σ hq) q_242 q_39 q_240 q_241 nmhX4_bitsOf ⟨⟨Nat.le_of_ble_eq_true rfl, Nat.le_of_ble_eq_true rfl⟩, ⟨Nat.le_of_ble_eq_true rfl, Nat.le_of_ble_eq_true rfl⟩⟩ rfl (Nat.le_of_ble_eq_true rfl) dX4_valueAt_6 (fun _ u6 H locs hq hw hS => ?_)
  obtain ⟨r5, rfl, hq⟩ := hq
  refine W.eq (g2 := F0 m 9 ls [.int r5]) rfl ?_
  exact mt_reti hx hb hr hlocks hw hS (Nat.le_of_ble_eq_true rfl) (Nat.le_of_ble_eq_true rfl) dX4_valueAt_9 ⟨_, rfl, hq⟩
abbrev rmX4_levelAt : Room := { frames := 0, cells := 0, slots := 0, locals := 0 }
theorem nmhX4_levelAt : NoMH yX4_levelAt 1 := by decide +kernel
def wX4_levelAt (a : Nat) (x1 : Int32) (σ : CS) (Q : UInt32 → CS → Prop) : Prop :=
    ∃ (n2 c2 : Nat) (f2 : Nat → Int32), sTk σ a = some (3, n2, c2, f2) ∧ (vp_in x1 n2 ∧ (Q ((f2 x1.toNatClampNeg).toUInt32) σ))
set_option maxHeartbeats 4000000 in
set_option maxRecDepth 100000 in
theorem tX4_levelAt (l : Launch) (D : va_G) (d : AC) (cp : CP) (a : Nat) (x1 : Int32) (σ : CS) {Q : UInt32 → CS → Prop} (hq : wX4_levelAt a x1 σ Q) : MT D d (ΩC D d cp) l yX4_levelAt (WS yX4_levelAt cX4_levelAt 2 (some (.float))) rmX4_levelAt [.ref a, .int x1] σ (qF Q) := by
  refine mt_of (ΩC.mono D d cp) (by decide +kernel) (Nat.le_of_ble_eq_true rfl) (fun p e s m below meth c A ls hx hb hr hml hown hts hlocks hnm hK hA hw hS hl => ?_)
  have hl : lv_has ls 2 [(0, .ref a), (1, .int x1)] := hl
  have hown : s.vm.findClass RX4 = some m.cls := hown
  unfold wX4_levelAt at hq
  refine lv_aload_n hx hb dX4_levelAt_0 rfl (lv_at hl 0 rfl) ?_
  obtain ⟨n2, c2, f2, hm2, hq⟩ := hq
  refine c_cells3 hx hb hts hown hK hw hm2 (hts _ q_169) (fun _ h9 => h9) dX4_levelAt_1 ?_
  refine lv_iload_n hx hb dX4_levelAt_4 rfl (lv_at hl 1 rfl) ?_
  refine c_ld3 hx hb hK hw hm2 hq.1 dX4_levelAt_5 ?_
  have hq := hq.2
  exact mt_retf hx hb hr hlocks hw hS (Nat.le_of_ble_eq_true rfl) (Nat.le_of_ble_eq_true rfl) dX4_levelAt_6 ⟨_, rfl, hq⟩
abbrev rmX0_valueAt : Room := { frames := 0, cells := 0, slots := 0, locals := 0 }
theorem nmhX0_valueAt : NoMH yX0_valueAt 1 := by decide +kernel
def wX0_valueAt (a : Nat) (x1 : Int32) (σ : CS) (Q : Int32 → CS → Prop) : Prop :=
    ∃ (n2 c2 : Nat) (f2 : Nat → Int32), sTk σ a = some (4, n2, c2, f2) ∧ (vp_in x1 n2 ∧ Q (f2 x1.toNatClampNeg) σ)
set_option maxHeartbeats 4000000 in
set_option maxRecDepth 100000 in
theorem tX0_valueAt (l : Launch) (D : va_G) (d : AC) (cp : CP) (a : Nat) (x1 : Int32) (σ : CS) {Q : Int32 → CS → Prop} (hq : wX0_valueAt a x1 σ Q) : MT D d (ΩC D d cp) l yX0_valueAt (WS yX0_valueAt cX0_valueAt 2 (some (.int))) rmX0_valueAt [.ref a, .int x1] σ (qI Q) := by
  refine mt_of (ΩC.mono D d cp) (by decide +kernel) (Nat.le_of_ble_eq_true rfl) (fun p e s m below meth c A ls hx hb hr hml hown hts hlocks hnm hK hA hw hS hl => ?_)
  have hl : lv_has ls 2 [(0, .ref a), (1, .int x1)] := hl
  have hown : s.vm.findClass RX0 = some m.cls := hown
  unfold wX0_valueAt at hq
  refine lv_aload_n hx hb dX0_valueAt_0 rfl (lv_at hl 0 rfl) ?_
  obtain ⟨n2, c2, f2, hm2, hq⟩ := hq
  refine c_cells4 hx hb hts hown hK hw hm2 (hts _ q_181) (fun _ h9 => h9) dX0_valueAt_1 ?_
  refine lv_iload_n hx hb dX0_valueAt_4 rfl (lv_at hl 1 rfl) ?_
  refine c_ld4 hx hb hK hw hm2 hq.1 dX0_valueAt_5 ?_
  have hq := hq.2
  exact mt_reti hx hb hr hlocks hw hS (Nat.le_of_ble_eq_true rfl) (Nat.le_of_ble_eq_true rfl) dX0_valueAt_6 ⟨_, rfl, hq⟩
abbrev rmX5_put : Room := { frames := 0, cells := 0, slots := 0, locals := 0 }
theorem nmhX5_put : NoMH yX5_put 2 := by decide +kernel
def wX5_put (a : Nat) (x1 : Int32) (x2 : Int32) (σ : CS) (Q : Int32 → CS → Prop) : Prop :=
    ∃ (n2 c2 : Nat) (f2 : Nat → Int32), sTk σ a = some (0, n2, c2, f2) ∧ ((x2 = 0 → (vp_in x1 n2 ∧ (Q (1 : Int32) (pTk σ a (0, n2, c2, upd f2 x1.toNatClampNeg (vp_nar .boolean (0 : Int32))))))) ∧ (¬ x2 = 0 → (vp_in x1 n2 ∧ (Q (1 : Int32) (pTk σ a (0, n2, c2, upd f2 x1.toNatClampNeg (vp_nar .boolean (1 : Int32))))))))
set_option maxHeartbeats 4000000 in
set_option maxRecDepth 100000 in
theorem tX5_put (l : Launch) (D : va_G) (d : AC) (cp : CP) (a : Nat) (x1 : Int32) (x2 : Int32) (σ : CS) {Q : Int32 → CS → Prop} (hq : wX5_put a x1 x2 σ Q) : MT D d (ΩC D d cp) l yX5_put (WS yX5_put cX5_put 3 (some (.boolean))) rmX5_put [.ref a, .int x1, .int x2] σ (qZ Q) := by
  refine mt_of (ΩC.mono D d cp) (by decide +kernel) (Nat.le_of_ble_eq_true rfl) (fun p e s m below meth c A ls hx hb hr hml hown hts hlocks hnm hK hA hw hS hl => ?_)
  have hl : lv_has ls 3 [(0, .ref a), (1, .int x1), (2, .int x2)] := hl
  have hown : s.vm.findClass RX5 = some m.cls := hown
  unfold wX5_put at hq
  refine lv_aload_n hx hb dX5_put_0 rfl (lv_at hl 0 rfl) ?_
  obtain ⟨n2, c2, f2, hm2, hq⟩ := hq
  refine c_cells0 hx hb hts hown hK hw hm2 (hts _ q_129) (fun _ h9 => h9) dX5_put_1 ?_
  refine lv_iload_n hx hb dX5_put_4 rfl (lv_at hl 1 rfl) ?_
  refine lv_iload_n hx hb dX5_put_5 rfl (lv_at hl 2 rfl) ?_
  refine lv_if_eq (tgt := 13) hx hb dX5_put_6 (by decide) (fun hc => ?_) (fun hc => ?_)
  · have hq := hq.1 hc
    refine lv_iconst (v := 0) hx hb dX5_put_13 (by decide) ?_
    refine c_st0 hx hb hK hw hS hm2 hq.1 dX5_put_14 (fun H locs hw hS => ?_)
    have hq := hq.2
    refine lv_iconst (v := 1) hx hb dX5_put_15 (by decide) ?_
    exact mt_retz hx hb hr hlocks hw hS (Nat.le_of_ble_eq_true rfl) (Nat.le_of_ble_eq_true rfl) dX5_put_16 rfl ⟨_, rfl, Or.inr rfl, hq⟩
  · have hq := hq.2 hc
    refine lv_iconst (v := 1) hx hb dX5_put_9 (by decide) ?_
    refine lv_goto (tgt := 14) hx hb dX5_put_10 (by decide) ?_
    refine c_st0 hx hb hK hw hS hm2 hq.1 dX5_put_14 (fun H locs hw hS => ?_)
    have hq := hq.2
    refine lv_iconst (v := 1) hx hb dX5_put_15 (by decide) ?_
    exact mt_retz hx hb hr hlocks hw hS (Nat.le_of_ble_eq_true rfl) (Nat.le_of_ble_eq_true rfl) dX5_put_16 rfl ⟨_, rfl, Or.inr rfl, hq⟩
abbrev rmX6_put : Room := { frames := 0, cells := 0, slots := 0, locals := 0 }
theorem nmhX6_put : NoMH yX6_put 2 := by decide +kernel
def wX6_put (a : Nat) (x1 : Int32) (x2 : Int32) (σ : CS) (Q : Int32 → CS → Prop) : Prop :=
    ∃ (n2 c2 : Nat) (f2 : Nat → Int32), sTk σ a = some (1, n2, c2, f2) ∧ (vp_in x1 n2 ∧ (Q (1 : Int32) (pTk σ a (1, n2, c2, upd f2 x1.toNatClampNeg (vp_nar .char ((x2.toUInt32 % 65536).toInt32))))))
set_option maxHeartbeats 4000000 in
set_option maxRecDepth 100000 in
theorem tX6_put (l : Launch) (D : va_G) (d : AC) (cp : CP) (a : Nat) (x1 : Int32) (x2 : Int32) (σ : CS) {Q : Int32 → CS → Prop} (hq : wX6_put a x1 x2 σ Q) : MT D d (ΩC D d cp) l yX6_put (WS yX6_put cX6_put 3 (some (.boolean))) rmX6_put [.ref a, .int x1, .int x2] σ (qZ Q) := by
  refine mt_of (ΩC.mono D d cp) (by decide +kernel) (Nat.le_of_ble_eq_true rfl) (fun p e s m below meth c A ls hx hb hr hml hown hts hlocks hnm hK hA hw hS hl => ?_)
  have hl : lv_has ls 3 [(0, .ref a), (1, .int x1), (2, .int x2)] := hl
  have hown : s.vm.findClass RX6 = some m.cls := hown
  unfold wX6_put at hq
  refine lv_aload_n hx hb dX6_put_0 rfl (lv_at hl 0 rfl) ?_
  obtain ⟨n2, c2, f2, hm2, hq⟩ := hq
  refine c_cells1 hx hb hts hown hK hw hm2 (hts _ q_145) (fun _ h9 => h9) dX6_put_1 ?_
  refine lv_iload_n hx hb dX6_put_4 rfl (lv_at hl 1 rfl) ?_
  refine lv_iload_n hx hb dX6_put_5 rfl (lv_at hl 2 rfl) ?_
  refine lv_i2c hx hb dX6_put_6 rfl ?_
  refine c_st1 hx hb hK hw hS hm2 hq.1 dX6_put_7 (fun H locs hw hS => ?_)
  have hq := hq.2
  refine lv_iconst (v := 1) hx hb dX6_put_8 (by decide) ?_
  exact mt_retz hx hb hr hlocks hw hS (Nat.le_of_ble_eq_true rfl) (Nat.le_of_ble_eq_true rfl) dX6_put_9 rfl ⟨_, rfl, Or.inr rfl, hq⟩
abbrev rmX3_put : Room := { frames := 0, cells := 0, slots := 0, locals := 0 }
theorem nmhX3_put : NoMH yX3_put 2 := by decide +kernel
def wX3_put (a : Nat) (x1 : Int32) (x2 : Int32) (σ : CS) (Q : Int32 → CS → Prop) : Prop :=
    ∃ (n2 c2 : Nat) (f2 : Nat → Int32), sTk σ a = some (2, n2, c2, f2) ∧ (vp_in x1 n2 ∧ (Q (1 : Int32) (pTk σ a (2, n2, c2, upd f2 x1.toNatClampNeg (vp_nar .short x2.toInt16.toInt32)))))
set_option maxHeartbeats 4000000 in
set_option maxRecDepth 100000 in
theorem tX3_put (l : Launch) (D : va_G) (d : AC) (cp : CP) (a : Nat) (x1 : Int32) (x2 : Int32) (σ : CS) {Q : Int32 → CS → Prop} (hq : wX3_put a x1 x2 σ Q) : MT D d (ΩC D d cp) l yX3_put (WS yX3_put cX3_put 3 (some (.boolean))) rmX3_put [.ref a, .int x1, .int x2] σ (qZ Q) := by
  refine mt_of (ΩC.mono D d cp) (by decide +kernel) (Nat.le_of_ble_eq_true rfl) (fun p e s m below meth c A ls hx hb hr hml hown hts hlocks hnm hK hA hw hS hl => ?_)
  have hl : lv_has ls 3 [(0, .ref a), (1, .int x1), (2, .int x2)] := hl
  have hown : s.vm.findClass RX3 = some m.cls := hown
  unfold wX3_put at hq
  refine lv_aload_n hx hb dX3_put_0 rfl (lv_at hl 0 rfl) ?_
  obtain ⟨n2, c2, f2, hm2, hq⟩ := hq
  refine c_cells2 hx hb hts hown hK hw hm2 (hts _ q_157) (fun _ h9 => h9) dX3_put_1 ?_
  refine lv_iload_n hx hb dX3_put_4 rfl (lv_at hl 1 rfl) ?_
  refine lv_iload_n hx hb dX3_put_5 rfl (lv_at hl 2 rfl) ?_
  refine lv_i2s hx hb dX3_put_6 rfl ?_
  refine c_st2 hx hb hK hw hS hm2 hq.1 dX3_put_7 (fun H locs hw hS => ?_)
  have hq := hq.2
  refine lv_iconst (v := 1) hx hb dX3_put_8 (by decide) ?_
  exact mt_retz hx hb hr hlocks hw hS (Nat.le_of_ble_eq_true rfl) (Nat.le_of_ble_eq_true rfl) dX3_put_9 rfl ⟨_, rfl, Or.inr rfl, hq⟩
abbrev rmX4_put : Room := { frames := 0, cells := 0, slots := 0, locals := 0 }
theorem nmhX4_put : NoMH yX4_put 2 := by decide +kernel
def wX4_put (a : Nat) (x1 : Int32) (x2 : Int32) (σ : CS) (Q : Int32 → CS → Prop) : Prop :=
    (x2 < (-8000000 : Int32) → Q (0 : Int32) σ) ∧ (¬ x2 < (-8000000 : Int32) → ((x2 ≤ (8000000 : Int32) → (∃ (n2 c2 : Nat) (f2 : Nat → Int32), sTk σ a = some (3, n2, c2, f2) ∧ (vf_n32 (FP.fdiv (FP.i2f x2) (1090519040 : UInt32)) ∧ (vp_in x1 n2 ∧ (Q (1 : Int32) (pTk σ a (3, n2, c2, upd f2 x1.toNatClampNeg (FP.fdiv (FP.i2f x2) (1090519040 : UInt32)).toInt32))))))) ∧ (¬ x2 ≤ (8000000 : Int32) → Q (0 : Int32) σ)))
set_option maxHeartbeats 4000000 in
set_option maxRecDepth 100000 in
theorem tX4_put (l : Launch) (D : va_G) (d : AC) (cp : CP) (a : Nat) (x1 : Int32) (x2 : Int32) (σ : CS) {Q : Int32 → CS → Prop} (hq : wX4_put a x1 x2 σ Q) : MT D d (ΩC D d cp) l yX4_put (WS yX4_put cX4_put 3 (some (.boolean))) rmX4_put [.ref a, .int x1, .int x2] σ (qZ Q) := by
  refine mt_of (ΩC.mono D d cp) (by decide +kernel) (Nat.le_of_ble_eq_true rfl) (fun p e s m below meth c A ls hx hb hr hml hown hts hlocks hnm hK hA hw hS hl => ?_)
  have hl : lv_has ls 3 [(0, .ref a), (1, .int x1), (2, .int x2)] := hl
  have hown : s.vm.findClass RX4 = some m.cls := hown
  unfold wX4_put at hq
  refine lv_iload_n hx hb dX4_put_0 rfl (lv_at hl 2 rfl) ?_
  refine lv_ldc (v := -8000000) hx hb hown (hts _ q_274) dX4_put_1 ?_
  refine lv_icmp_lt (tgt := 12) hx hb dX4_put_3 (by decide) (fun hc => ?_) (fun hc => ?_)
  · have hq := hq.1 hc
    refine lv_iconst (v := 0) hx hb dX4_put_12 (by decide) ?_
    exact mt_retz hx hb hr hlocks hw hS (Nat.le_of_ble_eq_true rfl) (Nat.le_of_ble_eq_true rfl) dX4_put_13 rfl ⟨_, rfl, Or.inl rfl, hq⟩
  · have hq := hq.2 hc
    refine lv_iload_n hx hb dX4_put_6 rfl (lv_at hl 2 rfl) ?_
    refine lv_ldc (v := 8000000) hx hb hown (hts _ q_275) dX4_put_7 ?_
    refine lv_icmp_le (tgt := 14) hx hb dX4_put_9 (by decide) (fun hc => ?_) (fun hc => ?_)
    · have hq := hq.1 hc
      refine lv_aload_n hx hb dX4_put_14 rfl (lv_at hl 0 rfl) ?_
      obtain ⟨n2, c2, f2, hm2, hq⟩ := hq
      refine c_cells3 hx hb hts hown hK hw hm2 (hts _ q_169) (fun _ h9 => h9) dX4_put_15 ?_
      refine lv_iload_n hx hb dX4_put_18 rfl (lv_at hl 1 rfl) ?_
      refine lv_iload_n hx hb dX4_put_19 rfl (lv_at hl 2 rfl) ?_
      refine lv_i2f hx hb dX4_put_20 ?_
      refine lv_ldcf (v := 1090519040) hx hb hown (hts _ q_276) dX4_put_21 ?_
      refine lv_fdiv hx hb dX4_put_23 hq.1 ?_
      have hq := hq.2
      refine c_st3 hx hb hK hw hS hm2 hq.1 dX4_put_24 (fun H locs hw hS => ?_)
      have hq := hq.2
      refine lv_iconst (v := 1) hx hb dX4_put_25 (by decide) ?_
      exact mt_retz hx hb hr hlocks hw hS (Nat.le_of_ble_eq_true rfl) (Nat.le_of_ble_eq_true rfl) dX4_put_26 rfl ⟨_, rfl, Or.inr rfl, hq⟩
    · have hq := hq.2 hc
      refine lv_iconst (v := 0) hx hb dX4_put_12 (by decide) ?_
      exact mt_retz hx hb hr hlocks hw hS (Nat.le_of_ble_eq_true rfl) (Nat.le_of_ble_eq_true rfl) dX4_put_13 rfl ⟨_, rfl, Or.inl rfl, hq⟩
abbrev rmX0_put : Room := { frames := 0, cells := 0, slots := 0, locals := 0 }
theorem nmhX0_put : NoMH yX0_put 2 := by decide +kernel
def wX0_put (a : Nat) (x1 : Int32) (x2 : Int32) (σ : CS) (Q : Int32 → CS → Prop) : Prop :=
    ∃ (n2 c2 : Nat) (f2 : Nat → Int32), sTk σ a = some (4, n2, c2, f2) ∧ (vp_in x1 n2 ∧ (Q (1 : Int32) (pTk σ a (4, n2, c2, upd f2 x1.toNatClampNeg (vp_nar .byte x2.toInt8.toInt32)))))
set_option maxHeartbeats 4000000 in
set_option maxRecDepth 100000 in
theorem tX0_put (l : Launch) (D : va_G) (d : AC) (cp : CP) (a : Nat) (x1 : Int32) (x2 : Int32) (σ : CS) {Q : Int32 → CS → Prop} (hq : wX0_put a x1 x2 σ Q) : MT D d (ΩC D d cp) l yX0_put (WS yX0_put cX0_put 3 (some (.boolean))) rmX0_put [.ref a, .int x1, .int x2] σ (qZ Q) := by
  refine mt_of (ΩC.mono D d cp) (by decide +kernel) (Nat.le_of_ble_eq_true rfl) (fun p e s m below meth c A ls hx hb hr hml hown hts hlocks hnm hK hA hw hS hl => ?_)
  have hl : lv_has ls 3 [(0, .ref a), (1, .int x1), (2, .int x2)] := hl
  have hown : s.vm.findClass RX0 = some m.cls := hown
  unfold wX0_put at hq
  refine lv_aload_n hx hb dX0_put_0 rfl (lv_at hl 0 rfl) ?_
  obtain ⟨n2, c2, f2, hm2, hq⟩ := hq
  refine c_cells4 hx hb hts hown hK hw hm2 (hts _ q_181) (fun _ h9 => h9) dX0_put_1 ?_
  refine lv_iload_n hx hb dX0_put_4 rfl (lv_at hl 1 rfl) ?_
  refine lv_iload_n hx hb dX0_put_5 rfl (lv_at hl 2 rfl) ?_
  refine lv_i2b hx hb dX0_put_6 rfl ?_
  refine c_st4 hx hb hK hw hS hm2 hq.1 dX0_put_7 (fun H locs hw hS => ?_)
  have hq := hq.2
  refine lv_iconst (v := 1) hx hb dX0_put_8 (by decide) ?_
  exact mt_retz hx hb hr hlocks hw hS (Nat.le_of_ble_eq_true rfl) (Nat.le_of_ble_eq_true rfl) dX0_put_9 rfl ⟨_, rfl, Or.inr rfl, hq⟩
abbrev rmX5_alter : Room := { frames := 0, cells := 0, slots := 0, locals := 0 }
theorem nmhX5_alter : NoMH yX5_alter 2 := by decide +kernel
def wX5_alter (a : Nat) (x1 : Int32) (x2 : Int32) (σ : CS) (Q : Int32 → CS → Prop) : Prop :=
    ((x2 &&& (1 : Int32)) = 0 → Q (1 : Int32) σ) ∧ (¬ (x2 &&& (1 : Int32)) = 0 → (∃ (n3 c3 : Nat) (f3 : Nat → Int32), sTk σ a = some (0, n3, c3, f3) ∧ (∃ (n4 c4 : Nat) (f4 : Nat → Int32), sTk σ a = some (0, n4, c4, f4) ∧ (vp_in x1 n4 ∧ ((¬ (f4 x1.toNatClampNeg) = 0 → (vp_in x1 n3 ∧ (Q (1 : Int32) (pTk σ a (0, n3, c3, upd f3 x1.toNatClampNeg (vp_nar .boolean (0 : Int32))))))) ∧ ((f4 x1.toNatClampNeg) = 0 → (vp_in x1 n3 ∧ (Q (1 : Int32) (pTk σ a (0, n3, c3, upd f3 x1.toNatClampNeg (vp_nar .boolean (1 : Int32))))))))))))
set_option maxHeartbeats 4000000 in
set_option maxRecDepth 100000 in
theorem tX5_alter (l : Launch) (D : va_G) (d : AC) (cp : CP) (a : Nat) (x1 : Int32) (x2 : Int32) (σ : CS) {Q : Int32 → CS → Prop} (hq : wX5_alter a x1 x2 σ Q) : MT D d (ΩC D d cp) l yX5_alter (WS yX5_alter cX5_alter 3 (some (.boolean))) rmX5_alter [.ref a, .int x1, .int x2] σ (qZ Q) := by
  refine mt_of (ΩC.mono D d cp) (by decide +kernel) (Nat.le_of_ble_eq_true rfl) (fun p e s m below meth c A ls hx hb hr hml hown hts hlocks hnm hK hA hw hS hl => ?_)
  have hl : lv_has ls 3 [(0, .ref a), (1, .int x1), (2, .int x2)] := hl
  have hown : s.vm.findClass RX5 = some m.cls := hown
  unfold wX5_alter at hq
  refine lv_iload_n hx hb dX5_alter_0 rfl (lv_at hl 2 rfl) ?_
  refine lv_iconst (v := 1) hx hb dX5_alter_1 (by decide) ?_
  refine lv_iand hx hb dX5_alter_2 ?_
  refine lv_if_eq (tgt := 26) hx hb dX5_alter_3 (by decide) (fun hc => ?_) (fun hc => ?_)
  · have hq := hq.1 hc
    refine lv_iconst (v := 1) hx hb dX5_alter_26 (by decide) ?_
    exact mt_retz hx hb hr hlocks hw hS (Nat.le_of_ble_eq_true rfl) (Nat.le_of_ble_eq_true rfl) dX5_alter_27 rfl ⟨_, rfl, Or.inr rfl, hq⟩
  · have hq := hq.2 hc
    refine lv_aload_n hx hb dX5_alter_6 rfl (lv_at hl 0 rfl) ?_
    obtain ⟨n3, c3, f3, hm3, hq⟩ := hq
    refine c_cells0 hx hb hts hown hK hw hm3 (hts _ q_129) (fun _ h9 => h9) dX5_alter_7 ?_
    refine lv_iload_n hx hb dX5_alter_10 rfl (lv_at hl 1 rfl) ?_
    refine lv_aload_n hx hb dX5_alter_11 rfl (lv_at hl 0 rfl) ?_
    obtain ⟨n4, c4, f4, hm4, hq⟩ := hq
    refine c_cells0 hx hb hts hown hK hw hm4 (hts _ q_129) (fun _ h9 => h9) dX5_alter_12 ?_
    refine lv_iload_n hx hb dX5_alter_15 rfl (lv_at hl 1 rfl) ?_
    refine c_ld0 hx hb hK hw hm4 hq.1 dX5_alter_16 ?_
    have hq := hq.2
    refine lv_if_ne (tgt := 24) hx hb dX5_alter_17 (by decide) (fun hc => ?_) (fun hc => ?_)
    · have hq := hq.1 hc
      refine lv_iconst (v := 0) hx hb dX5_alter_24 (by decide) ?_
      refine c_st0 hx hb hK hw hS hm3 hq.1 dX5_alter_25 (fun H locs hw hS => ?_)
      have hq := hq.2
      refine lv_iconst (v := 1) hx hb dX5_alter_26 (by decide) ?_
      exact mt_retz hx hb hr hlocks hw hS (Nat.le_of_ble_eq_true rfl) (Nat.le_of_ble_eq_true rfl) dX5_alter_27 rfl ⟨_, rfl, Or.inr rfl, hq⟩
    · have hq := hq.2 hc
      refine lv_iconst (v := 1) hx hb dX5_alter_20 (by decide) ?_
      refine lv_goto (tgt := 25) hx hb dX5_alter_21 (by decide) ?_
      refine c_st0 hx hb hK hw hS hm3 hq.1 dX5_alter_25 (fun H locs hw hS => ?_)
      have hq := hq.2
      refine lv_iconst (v := 1) hx hb dX5_alter_26 (by decide) ?_
      exact mt_retz hx hb hr hlocks hw hS (Nat.le_of_ble_eq_true rfl) (Nat.le_of_ble_eq_true rfl) dX5_alter_27 rfl ⟨_, rfl, Or.inr rfl, hq⟩
abbrev rmX6_alter : Room := { frames := 0, cells := 0, slots := 0, locals := 0 }
theorem nmhX6_alter : NoMH yX6_alter 2 := by decide +kernel
def wX6_alter (a : Nat) (x1 : Int32) (x2 : Int32) (σ : CS) (Q : Int32 → CS → Prop) : Prop :=
    ∃ (n3 c3 : Nat) (f3 : Nat → Int32), sTk σ a = some (1, n3, c3, f3) ∧ (∃ (n4 c4 : Nat) (f4 : Nat → Int32), sTk σ a = some (1, n4, c4, f4) ∧ (vp_in x1 n4 ∧ (vp_in x1 n3 ∧ (Q (1 : Int32) (pTk σ a (1, n3, c3, upd f3 x1.toNatClampNeg (vp_nar .char ((((f4 x1.toNatClampNeg) + x2).toUInt32 % 65536).toInt32))))))))
set_option maxHeartbeats 4000000 in
set_option maxRecDepth 100000 in
theorem tX6_alter (l : Launch) (D : va_G) (d : AC) (cp : CP) (a : Nat) (x1 : Int32) (x2 : Int32) (σ : CS) {Q : Int32 → CS → Prop} (hq : wX6_alter a x1 x2 σ Q) : MT D d (ΩC D d cp) l yX6_alter (WS yX6_alter cX6_alter 3 (some (.boolean))) rmX6_alter [.ref a, .int x1, .int x2] σ (qZ Q) := by
  refine mt_of (ΩC.mono D d cp) (by decide +kernel) (Nat.le_of_ble_eq_true rfl) (fun p e s m below meth c A ls hx hb hr hml hown hts hlocks hnm hK hA hw hS hl => ?_)
  have hl : lv_has ls 3 [(0, .ref a), (1, .int x1), (2, .int x2)] := hl
  have hown : s.vm.findClass RX6 = some m.cls := hown
  unfold wX6_alter at hq
  refine lv_aload_n hx hb dX6_alter_0 rfl (lv_at hl 0 rfl) ?_
  obtain ⟨n3, c3, f3, hm3, hq⟩ := hq
  refine c_cells1 hx hb hts hown hK hw hm3 (hts _ q_145) (fun _ h9 => h9) dX6_alter_1 ?_
  refine lv_iload_n hx hb dX6_alter_4 rfl (lv_at hl 1 rfl) ?_
  refine lv_aload_n hx hb dX6_alter_5 rfl (lv_at hl 0 rfl) ?_
  obtain ⟨n4, c4, f4, hm4, hq⟩ := hq
  refine c_cells1 hx hb hts hown hK hw hm4 (hts _ q_145) (fun _ h9 => h9) dX6_alter_6 ?_
  refine lv_iload_n hx hb dX6_alter_9 rfl (lv_at hl 1 rfl) ?_
  refine c_ld1 hx hb hK hw hm4 hq.1 dX6_alter_10 ?_
  have hq := hq.2
  refine lv_iload_n hx hb dX6_alter_11 rfl (lv_at hl 2 rfl) ?_
  refine lv_iadd hx hb dX6_alter_12 ?_
  refine lv_i2c hx hb dX6_alter_13 rfl ?_
  refine c_st1 hx hb hK hw hS hm3 hq.1 dX6_alter_14 (fun H locs hw hS => ?_)
  have hq := hq.2
  refine lv_iconst (v := 1) hx hb dX6_alter_15 (by decide) ?_
  exact mt_retz hx hb hr hlocks hw hS (Nat.le_of_ble_eq_true rfl) (Nat.le_of_ble_eq_true rfl) dX6_alter_16 rfl ⟨_, rfl, Or.inr rfl, hq⟩
abbrev rmX3_alter : Room := { frames := 0, cells := 0, slots := 0, locals := 0 }
theorem nmhX3_alter : NoMH yX3_alter 2 := by decide +kernel
def wX3_alter (a : Nat) (x1 : Int32) (x2 : Int32) (σ : CS) (Q : Int32 → CS → Prop) : Prop :=
    ∃ (n3 c3 : Nat) (f3 : Nat → Int32), sTk σ a = some (2, n3, c3, f3) ∧ (∃ (n4 c4 : Nat) (f4 : Nat → Int32), sTk σ a = some (2, n4, c4, f4) ∧ (vp_in x1 n4 ∧ (vp_in x1 n3 ∧ (Q (1 : Int32) (pTk σ a (2, n3, c3, upd f3 x1.toNatClampNeg (vp_nar .short (((f4 x1.toNatClampNeg) * x2).toInt16.toInt32))))))))
set_option maxHeartbeats 4000000 in
set_option maxRecDepth 100000 in
theorem tX3_alter (l : Launch) (D : va_G) (d : AC) (cp : CP) (a : Nat) (x1 : Int32) (x2 : Int32) (σ : CS) {Q : Int32 → CS → Prop} (hq : wX3_alter a x1 x2 σ Q) : MT D d (ΩC D d cp) l yX3_alter (WS yX3_alter cX3_alter 3 (some (.boolean))) rmX3_alter [.ref a, .int x1, .int x2] σ (qZ Q) := by
  refine mt_of (ΩC.mono D d cp) (by decide +kernel) (Nat.le_of_ble_eq_true rfl) (fun p e s m below meth c A ls hx hb hr hml hown hts hlocks hnm hK hA hw hS hl => ?_)
  have hl : lv_has ls 3 [(0, .ref a), (1, .int x1), (2, .int x2)] := hl
  have hown : s.vm.findClass RX3 = some m.cls := hown
  unfold wX3_alter at hq
  refine lv_aload_n hx hb dX3_alter_0 rfl (lv_at hl 0 rfl) ?_
  obtain ⟨n3, c3, f3, hm3, hq⟩ := hq
  refine c_cells2 hx hb hts hown hK hw hm3 (hts _ q_157) (fun _ h9 => h9) dX3_alter_1 ?_
  refine lv_iload_n hx hb dX3_alter_4 rfl (lv_at hl 1 rfl) ?_
  refine lv_aload_n hx hb dX3_alter_5 rfl (lv_at hl 0 rfl) ?_
  obtain ⟨n4, c4, f4, hm4, hq⟩ := hq
  refine c_cells2 hx hb hts hown hK hw hm4 (hts _ q_157) (fun _ h9 => h9) dX3_alter_6 ?_
  refine lv_iload_n hx hb dX3_alter_9 rfl (lv_at hl 1 rfl) ?_
  refine c_ld2 hx hb hK hw hm4 hq.1 dX3_alter_10 ?_
  have hq := hq.2
  refine lv_iload_n hx hb dX3_alter_11 rfl (lv_at hl 2 rfl) ?_
  refine lv_imul hx hb dX3_alter_12 ?_
  refine lv_i2s hx hb dX3_alter_13 rfl ?_
  refine c_st2 hx hb hK hw hS hm3 hq.1 dX3_alter_14 (fun H locs hw hS => ?_)
  have hq := hq.2
  refine lv_iconst (v := 1) hx hb dX3_alter_15 (by decide) ?_
  exact mt_retz hx hb hr hlocks hw hS (Nat.le_of_ble_eq_true rfl) (Nat.le_of_ble_eq_true rfl) dX3_alter_16 rfl ⟨_, rfl, Or.inr rfl, hq⟩
abbrev rmX4_alter : Room := { frames := 0, cells := 0, slots := 0, locals := 0 }
theorem nmhX4_alter : NoMH yX4_alter 2 := by decide +kernel
def wX4_alter (a : Nat) (x1 : Int32) (x2 : Int32) (σ : CS) (Q : Int32 → CS → Prop) : Prop :=
    (x2 < (-4000 : Int32) → Q (0 : Int32) σ) ∧ (¬ x2 < (-4000 : Int32) → ((x2 ≤ (4000 : Int32) → (∃ (n4 c4 : Nat) (f4 : Nat → Int32), sTk σ a = some (3, n4, c4, f4) ∧ (vp_in x1 n4 ∧ (vf_n32 (FP.fdiv (FP.i2f x2) (1082130432 : UInt32)) ∧ (vf_n32 (FP.fmul ((f4 x1.toNatClampNeg).toUInt32) (FP.fdiv (FP.i2f x2) (1082130432 : UInt32))) ∧ (∀ y5 : UInt32, y5 = (FP.fmul ((f4 x1.toNatClampNeg).toUInt32) (FP.fdiv (FP.i2f x2) (1082130432 : UInt32))) → (((Op.cmpValue (FP.fcmp y5 (3379831808 : UInt32)) CmpOp.g) < 0 → Q (0 : Int32) σ) ∧ (¬ (Op.cmpValue (FP.fcmp y5 (3379831808 : UInt32)) CmpOp.g) < 0 → (((Op.cmpValue (FP.fcmp y5 (1232348160 : UInt32)) CmpOp.l) ≤ 0 → (∃ (n6 c6 : Nat) (f6 : Nat → Int32), sTk σ a = some (3, n6, c6, f6) ∧ (vp_in x1 n6 ∧ (Q (1 : Int32) (pTk σ a (3, n6, c6, upd f6 x1.toNatClampNeg y5.toInt32)))))) ∧ (¬ (Op.cmpValue (FP.fcmp y5 (1232348160 : UInt32)) CmpOp.l) ≤ 0 → Q (0 : Int32) σ)))))))))) ∧ (¬ x2 ≤ (4000 : Int32) → Q (0 : Int32) σ)))
set_option maxHeartbeats 4000000 in
set_option maxRecDepth 100000 in
theorem tX4_alter (l : Launch) (D : va_G) (d : AC) (cp : CP) (a : Nat) (x1 : Int32) (x2 : Int32) (σ : CS) {Q : Int32 → CS → Prop} (hq : wX4_alter a x1 x2 σ Q) : MT D d (ΩC D d cp) l yX4_alter (WS yX4_alter cX4_alter 4 (some (.boolean))) rmX4_alter [.ref a, .int x1, .int x2] σ (qZ Q) := by
  refine mt_of (ΩC.mono D d cp) (by decide +kernel) (Nat.le_of_ble_eq_true rfl) (fun p e s m below meth c A ls hx hb hr hml hown hts hlocks hnm hK hA hw hS hl => ?_)
  have hl : lv_has ls 4 [(0, .ref a), (1, .int x1), (2, .int x2)] := hl
  have hown : s.vm.findClass RX4 = some m.cls := hown
  unfold wX4_alter at hq
  refine lv_iload_n hx hb dX4_alter_0 rfl (lv_at hl 2 rfl) ?_
  refine lv_sipush (v := -4000) hx hb dX4_alter_1 (by decide) ?_
  refine lv_icmp_lt (tgt := 14) hx hb dX4_alter_4 (by decide) (fun hc => ?_) (fun hc => ?_)
  · have hq := hq.1 hc
    refine lv_iconst (v := 0) hx hb dX4_alter_14 (by decide) ?_
    exact mt_retz hx hb hr hlocks hw hS (Nat.le_of_ble_eq_true rfl) (Nat.le_of_ble_eq_true rfl) dX4_alter_15 rfl ⟨_, rfl, Or.inl rfl, hq⟩
  · have hq := hq.2 hc
    refine lv_iload_n hx hb dX4_alter_7 rfl (lv_at hl 2 rfl) ?_
    refine lv_sipush (v := 4000) hx hb dX4_alter_8 (by decide) ?_
    refine lv_icmp_le (tgt := 16) hx hb dX4_alter_11 (by decide) (fun hc => ?_) (fun hc => ?_)
    · have hq := hq.1 hc
      refine lv_aload_n hx hb dX4_alter_16 rfl (lv_at hl 0 rfl) ?_
      obtain ⟨n4, c4, f4, hm4, hq⟩ := hq
      refine c_cells3 hx hb hts hown hK hw hm4 (hts _ q_169) (fun _ h9 => h9) dX4_alter_17 ?_
      refine lv_iload_n hx hb dX4_alter_20 rfl (lv_at hl 1 rfl) ?_
      refine c_ld3 hx hb hK hw hm4 hq.1 dX4_alter_21 ?_
      have hq := hq.2
      refine lv_iload_n hx hb dX4_alter_22 rfl (lv_at hl 2 rfl) ?_
      refine lv_i2f hx hb dX4_alter_23 ?_
      refine lv_ldcf (v := 1082130432) hx hb hown (hts _ q_303) dX4_alter_24 ?_
      refine lv_fdiv hx hb dX4_alter_26 hq.1 ?_
      have hq := hq.2
      refine lv_fmul hx hb dX4_alter_27 hq.1 ?_
      have hq := hq.2
      refine lv_topf (fun y5 ey5 => ?_)
      have hq := hq y5 ey5
      refine lv_fstore_n (lv' := [(3, .float y5), (0, .ref a), (1, .int x1), (2, .int x2)]) hx hb dX4_alter_28 rfl hl (by decide) rfl (fun ls hl => ?_)
      refine lv_fload_n hx hb dX4_alter_29 rfl (lv_at hl 0 rfl) ?_
      refine lv_ldcf (v := 3379831808) hx hb hown (hts _ q_304) dX4_alter_30 ?_
      refine lv_fcmp hx hb dX4_alter_32 ?_
      refine lv_if_lt (tgt := 43) hx hb dX4_alter_33 (by decide) (fun hc => ?_) (fun hc => ?_)
      · have hq := hq.1 hc
        refine lv_iconst (v := 0) hx hb dX4_alter_43 (by decide) ?_
        exact mt_retz hx hb hr hlocks hw hS (Nat.le_of_ble_eq_true rfl) (Nat.le_of_ble_eq_true rfl) dX4_alter_44 rfl ⟨_, rfl, Or.inl rfl, hq⟩
      · have hq := hq.2 hc
        refine lv_fload_n hx hb dX4_alter_36 rfl (lv_at hl 0 rfl) ?_
        refine lv_ldcf (v := 1232348160) hx hb hown (hts _ q_305) dX4_alter_37 ?_
        refine lv_fcmp hx hb dX4_alter_39 ?_
        refine lv_if_le (tgt := 45) hx hb dX4_alter_40 (by decide) (fun hc => ?_) (fun hc => ?_)
        · have hq := hq.1 hc
          refine lv_aload_n hx hb dX4_alter_45 rfl (lv_at hl 1 rfl) ?_
          obtain ⟨n6, c6, f6, hm6, hq⟩ := hq
          refine c_cells3 hx hb hts hown hK hw hm6 (hts _ q_169) (fun _ h9 => h9) dX4_alter_46 ?_
          refine lv_iload_n hx hb dX4_alter_49 rfl (lv_at hl 2 rfl) ?_
          refine lv_fload_n hx hb dX4_alter_50 rfl (lv_at hl 0 rfl) ?_
          refine c_st3 hx hb hK hw hS hm6 hq.1 dX4_alter_51 (fun H locs hw hS => ?_)
          have hq := hq.2
          refine lv_iconst (v := 1) hx hb dX4_alter_52 (by decide) ?_
          exact mt_retz hx hb hr hlocks hw hS (Nat.le_of_ble_eq_true rfl) (Nat.le_of_ble_eq_true rfl) dX4_alter_53 rfl ⟨_, rfl, Or.inr rfl, hq⟩
        · have hq := hq.2 hc
          refine lv_iconst (v := 0) hx hb dX4_alter_43 (by decide) ?_
          exact mt_retz hx hb hr hlocks hw hS (Nat.le_of_ble_eq_true rfl) (Nat.le_of_ble_eq_true rfl) dX4_alter_44 rfl ⟨_, rfl, Or.inl rfl, hq⟩
    · have hq := hq.2 hc
      refine lv_iconst (v := 0) hx hb dX4_alter_14 (by decide) ?_
      exact mt_retz hx hb hr hlocks hw hS (Nat.le_of_ble_eq_true rfl) (Nat.le_of_ble_eq_true rfl) dX4_alter_15 rfl ⟨_, rfl, Or.inl rfl, hq⟩
abbrev rmX0_alter : Room := { frames := 0, cells := 0, slots := 0, locals := 0 }
theorem nmhX0_alter : NoMH yX0_alter 2 := by decide +kernel
def wX0_alter (a : Nat) (x1 : Int32) (x2 : Int32) (σ : CS) (Q : Int32 → CS → Prop) : Prop :=
    ∃ (n3 c3 : Nat) (f3 : Nat → Int32), sTk σ a = some (4, n3, c3, f3) ∧ (∃ (n4 c4 : Nat) (f4 : Nat → Int32), sTk σ a = some (4, n4, c4, f4) ∧ (vp_in x1 n4 ∧ (vp_in x1 n3 ∧ (Q (1 : Int32) (pTk σ a (4, n3, c3, upd f3 x1.toNatClampNeg (vp_nar .byte (((f4 x1.toNatClampNeg) - x2).toInt8.toInt32))))))))
set_option maxHeartbeats 4000000 in
set_option maxRecDepth 100000 in
theorem tX0_alter (l : Launch) (D : va_G) (d : AC) (cp : CP) (a : Nat) (x1 : Int32) (x2 : Int32) (σ : CS) {Q : Int32 → CS → Prop} (hq : wX0_alter a x1 x2 σ Q) : MT D d (ΩC D d cp) l yX0_alter (WS yX0_alter cX0_alter 3 (some (.boolean))) rmX0_alter [.ref a, .int x1, .int x2] σ (qZ Q) := by
  refine mt_of (ΩC.mono D d cp) (by decide +kernel) (Nat.le_of_ble_eq_true rfl) (fun p e s m below meth c A ls hx hb hr hml hown hts hlocks hnm hK hA hw hS hl => ?_)
  have hl : lv_has ls 3 [(0, .ref a), (1, .int x1), (2, .int x2)] := hl
  have hown : s.vm.findClass RX0 = some m.cls := hown
  unfold wX0_alter at hq
  refine lv_aload_n hx hb dX0_alter_0 rfl (lv_at hl 0 rfl) ?_
  obtain ⟨n3, c3, f3, hm3, hq⟩ := hq
  refine c_cells4 hx hb hts hown hK hw hm3 (hts _ q_181) (fun _ h9 => h9) dX0_alter_1 ?_
  refine lv_iload_n hx hb dX0_alter_4 rfl (lv_at hl 1 rfl) ?_
  refine lv_aload_n hx hb dX0_alter_5 rfl (lv_at hl 0 rfl) ?_
  obtain ⟨n4, c4, f4, hm4, hq⟩ := hq
  refine c_cells4 hx hb hts hown hK hw hm4 (hts _ q_181) (fun _ h9 => h9) dX0_alter_6 ?_
  refine lv_iload_n hx hb dX0_alter_9 rfl (lv_at hl 1 rfl) ?_
  refine c_ld4 hx hb hK hw hm4 hq.1 dX0_alter_10 ?_
  have hq := hq.2
  refine lv_iload_n hx hb dX0_alter_11 rfl (lv_at hl 2 rfl) ?_
  refine lv_isub hx hb dX0_alter_12 ?_
  refine lv_i2b hx hb dX0_alter_13 rfl ?_
  refine c_st4 hx hb hK hw hS hm3 hq.1 dX0_alter_14 (fun H locs hw hS => ?_)
  have hq := hq.2
  refine lv_iconst (v := 1) hx hb dX0_alter_15 (by decide) ?_
  exact mt_retz hx hb hr hlocks hw hS (Nat.le_of_ble_eq_true rfl) (Nat.le_of_ble_eq_true rfl) dX0_alter_16 rfl ⟨_, rfl, Or.inr rfl, hq⟩
end
section
theorem pd_Z1 : (parseMethodDescriptor "(I)Z").map (fun d => d.parameters.length) = some 1 := by decide +kernel
theorem pd_I1 : (parseMethodDescriptor "(I)I").map (fun d => d.parameters.length) = some 1 := by decide +kernel
theorem pd_Z2 : (parseMethodDescriptor "(II)Z").map (fun d => d.parameters.length) = some 2 := by decide +kernel
section VIRT
variable {p : Program} {l : Launch} {e : Env} {R : Room} {s : State} {m : MethodId} {args : Array Value} {below : List Frame} {meth : Method} {c : Code} {H : Heap} {locs : List Loc} {cells slots : Nat} {Qw : State → Prop}
variable {cc : ByteArray} {pc : Nat} {ls : Array Slot} {rest st0 : List Value} {D : va_G} {d : AC} {cp : CP} {F : Nat → Prop} {σ : CS} {own : String} {index nL : Nat}
def wT_hasPlace (a : Nat) (x1 : Int32) (σ : CS) (Q : Int32 → CS → Prop) : Prop := ∃ (kd n c : Nat) (f : Nat → Int32), sTk σ a = some (kd, n, c, f) ∧ wX7_hasPlace a x1 σ Q
theorem mt_ThasPlace (hx : p.tables.exec = Jvm.exec) (hb : c.code = cc) (hml : c.maxLocals = nL) (hown : s.vm.findClass own = some m.cls) (hts : ∀ w ∈ lw_ok, w.before args s = true) (hK : KK D d s) (hA : ∀ q, s.heap.size ≤ q → F q) (hw : ΩC D d cp F σ H) (hS : va_S F s.heap H locs) (hlz : ls.size = nL) {a : Nat} {x1 : Int32} {Q : Int32 → CS → Prop} (hq : wT_hasPlace a x1 σ Q) (hl : Cond.methodLink own index ⟨"MusicBoxes$Track", "hasPlace", "(I)Z"⟩ ∈ lw_ok) (hf1 : 1 ≤ R.frames) (hf2 : 21 ≤ R.locals) (hf3 : cells ≤ R.cells) (hf4 : slots ≤ R.slots) (hstack : st0 = [.int x1].reverse ++ .ref a :: rest) (hW : (rest.map fun v => v.category).sum ≤ 8) (hdg : decode cc pc = .ok (.invokevirtual index, 3))
    (kk : ∀ (r : Option Value) (u' : CS) (H1 : Heap) (locs1 : List Loc), qZ Q r u' → ΩC D d cp F u' H1 → va_S F s.heap H1 locs1 → W p l e R s m args below meth c H1 locs1 cells slots Qw (F0 m (pc + 3) ls (r.toList ++ rest))) : W p l e R s m args below meth c H locs cells slots Qw (F0 m pc ls st0) := by
  obtain ⟨kd, n, c0, f, hm, hq⟩ := hq
  have h5 : kd < 5 := by obtain ⟨G, hG, hR⟩ := hw; exact (hR.2.2.2.2.2.2.1 a _ hm).1
  rcases kd with _ | _ | _ | _ | _ | _
  · exact mt_callA (C := RX5) (owner := "MusicBoxes$Track") (x := ⟨"MusicBoxes$Track", "hasPlace", "(I)Z"⟩) (rm := rmX7_hasPlace) hx hb hml hown hts hK (ΩC.mono D d cp) hA hw hS hlz (tX7_hasPlace l D d cp a x1 σ hq) (c_recvT hK hw hm (q := (RX5, TX5, 2)) rfl) q_227 q_35 hl q_221 q_220 q_225 hK.2.2.2.2.2.2 ⟨by decide, by decide, pd_Z1⟩ ⟨⟨Nat.le_trans (Nat.le_of_ble_eq_true rfl) hf1, Nat.le_trans (Nat.le_of_ble_eq_true rfl) hf2⟩, ⟨hf3, hf4⟩⟩ hstack hW hdg kk
  · exact mt_callA (C := RX6) (owner := "MusicBoxes$Track") (x := ⟨"MusicBoxes$Track", "hasPlace", "(I)Z"⟩) (rm := rmX7_hasPlace) hx hb hml hown hts hK (ΩC.mono D d cp) hA hw hS hlz (tX7_hasPlace l D d cp a x1 σ hq) (c_recvT hK hw hm (q := (RX6, TX6, 2)) rfl) q_227 q_35 hl q_221 q_220 q_226 hK.2.2.2.2.2.2 ⟨by decide, by decide, pd_Z1⟩ ⟨⟨Nat.le_trans (Nat.le_of_ble_eq_true rfl) hf1, Nat.le_trans (Nat.le_of_ble_eq_true rfl) hf2⟩, ⟨hf3, hf4⟩⟩ hstack hW hdg kk
  · exact mt_callA (C := RX3) (owner := "MusicBoxes$Track") (x := ⟨"MusicBoxes$Track", "hasPlace", "(I)Z"⟩) (rm := rmX7_hasPlace) hx hb hml hown hts hK (ΩC.mono D d cp) hA hw hS hlz (tX7_hasPlace l D d cp a x1 σ hq) (c_recvT hK hw hm (q := (RX3, TX3, 2)) rfl) q_227 q_35 hl q_221 q_220 q_223 hK.2.2.2.2.2.2 ⟨by decide, by decide, pd_Z1⟩ ⟨⟨Nat.le_trans (Nat.le_of_ble_eq_true rfl) hf1, Nat.le_trans (Nat.le_of_ble_eq_true rfl) hf2⟩, ⟨hf3, hf4⟩⟩ hstack hW hdg kk
  · exact mt_callA (C := RX4) (owner := "MusicBoxes$Track") (x := ⟨"MusicBoxes$Track", "hasPlace", "(I)Z"⟩) (rm := rmX7_hasPlace) hx hb hml hown hts hK (ΩC.mono D d cp) hA hw hS hlz (tX7_hasPlace l D d cp a x1 σ hq) (c_recvT hK hw hm (q := (RX4, TX4, 2)) rfl) q_227 q_35 hl q_221 q_220 q_224 hK.2.2.2.2.2.2 ⟨by decide, by decide, pd_Z1⟩ ⟨⟨Nat.le_trans (Nat.le_of_ble_eq_true rfl) hf1, Nat.le_trans (Nat.le_of_ble_eq_true rfl) hf2⟩, ⟨hf3, hf4⟩⟩ hstack hW hdg kk
  · exact mt_callA (C := RX0) (owner := "MusicBoxes$Track") (x := ⟨"MusicBoxes$Track", "hasPlace", "(I)Z"⟩) (rm := rmX7_hasPlace) hx hb hml hown hts hK (ΩC.mono D d cp) hA hw hS hlz (tX7_hasPlace l D d cp a x1 σ hq) (c_recvT hK hw hm (q := (RX0, TX0, 2)) rfl) q_227 q_35 hl q_221 q_220 q_222 hK.2.2.2.2.2.2 ⟨by decide, by decide, pd_Z1⟩ ⟨⟨Nat.le_trans (Nat.le_of_ble_eq_true rfl) hf1, Nat.le_trans (Nat.le_of_ble_eq_true rfl) hf2⟩, ⟨hf3, hf4⟩⟩ hstack hW hdg kk
  · exact absurd h5 (by omega)
def wT_hasPlaceL (a : Nat) (x1 : Int32) (σ : CS) (Q : Int32 → CS → Prop) : Prop := ∃ (n c : Nat) (f : Nat → Int32), sTk σ a = some (3, n, c, f) ∧ wX7_hasPlace a x1 σ Q
theorem mt_ThasPlaceL (hx : p.tables.exec = Jvm.exec) (hb : c.code = cc) (hml : c.maxLocals = nL) (hown : s.vm.findClass own = some m.cls) (hts : ∀ w ∈ lw_ok, w.before args s = true) (hK : KK D d s) (hA : ∀ q, s.heap.size ≤ q → F q) (hw : ΩC D d cp F σ H) (hS : va_S F s.heap H locs) (hlz : ls.size = nL) {a : Nat} {x1 : Int32} {Q : Int32 → CS → Prop} (hq : wT_hasPlaceL a x1 σ Q) (hl : Cond.methodLink own index ⟨"MusicBoxes$LevelTrack", "hasPlace", "(I)Z"⟩ ∈ lw_ok) (hf1 : 1 ≤ R.frames) (hf2 : 21 ≤ R.locals) (hf3 : cells ≤ R.cells) (hf4 : slots ≤ R.slots) (hstack : st0 = [.int x1].reverse ++ .ref a :: rest) (hW : (rest.map fun v => v.category).sum ≤ 8) (hdg : decode cc pc = .ok (.invokevirtual index, 3))
    (kk : ∀ (r : Option Value) (u' : CS) (H1 : Heap) (locs1 : List Loc), qZ Q r u' → ΩC D d cp F u' H1 → va_S F s.heap H1 locs1 → W p l e R s m args below meth c H1 locs1 cells slots Qw (F0 m (pc + 3) ls (r.toList ++ rest))) : W p l e R s m args below meth c H locs cells slots Qw (F0 m pc ls st0) := by
  obtain ⟨n, c0, f, hm, hq⟩ := hq
  exact mt_callA (C := RX4) (owner := "MusicBoxes$Track") (x := ⟨"MusicBoxes$LevelTrack", "hasPlace", "(I)Z"⟩) (rm := rmX7_hasPlace) hx hb hml hown hts hK (ΩC.mono D d cp) hA hw hS hlz (tX7_hasPlace l D d cp a x1 σ hq) (c_recvT hK hw hm (q := (RX4, TX4, 2)) rfl) q_227 q_35 hl q_344 q_220 q_346 hK.2.2.2.2.2.2 ⟨by decide, by decide, pd_Z1⟩ ⟨⟨Nat.le_trans (Nat.le_of_ble_eq_true rfl) hf1, Nat.le_trans (Nat.le_of_ble_eq_true rfl) hf2⟩, ⟨hf3, hf4⟩⟩ hstack hW hdg kk
def wT_valueAt (a : Nat) (x1 : Int32) (σ : CS) (Q : Int32 → CS → Prop) : Prop := ∃ (kd n c : Nat) (f : Nat → Int32), sTk σ a = some (kd, n, c, f) ∧ (kd = 0 → wX5_valueAt a x1 σ Q) ∧ (kd = 1 → wX6_valueAt a x1 σ Q) ∧ (kd = 2 → wX3_valueAt a x1 σ Q) ∧ (kd = 3 → wX4_valueAt a x1 σ Q) ∧ (kd = 4 → wX0_valueAt a x1 σ Q)
theorem mt_TvalueAt (hx : p.tables.exec = Jvm.exec) (hb : c.code = cc) (hml : c.maxLocals = nL) (hown : s.vm.findClass own = some m.cls) (hts : ∀ w ∈ lw_ok, w.before args s = true) (hK : KK D d s) (hA : ∀ q, s.heap.size ≤ q → F q) (hw : ΩC D d cp F σ H) (hS : va_S F s.heap H locs) (hlz : ls.size = nL) {a : Nat} {x1 : Int32} {Q : Int32 → CS → Prop} (hq : wT_valueAt a x1 σ Q) (hl : Cond.methodLink own index ⟨"MusicBoxes$Track", "valueAt", "(I)I"⟩ ∈ lw_ok) (hf1 : 3 ≤ R.frames) (hf2 : 64 ≤ R.locals) (hf3 : cells ≤ R.cells) (hf4 : slots ≤ R.slots) (hstack : st0 = [.int x1].reverse ++ .ref a :: rest) (hW : (rest.map fun v => v.category).sum ≤ 8) (hdg : decode cc pc = .ok (.invokevirtual index, 3))
    (kk : ∀ (r : Option Value) (u' : CS) (H1 : Heap) (locs1 : List Loc), qI Q r u' → ΩC D d cp F u' H1 → va_S F s.heap H1 locs1 → W p l e R s m args below meth c H1 locs1 cells slots Qw (F0 m (pc + 3) ls (r.toList ++ rest))) : W p l e R s m args below meth c H locs cells slots Qw (F0 m pc ls st0) := by
  obtain ⟨kd, n, c0, f, hm, hq⟩ := hq
  have h5 : kd < 5 := by obtain ⟨G, hG, hR⟩ := hw; exact (hR.2.2.2.2.2.2.1 a _ hm).1
  obtain ⟨q0, q1, q2, q3, q4⟩ := hq
  rcases kd with _ | _ | _ | _ | _ | _
  · exact mt_callA (C := RX5) (owner := "MusicBoxes$Track") (x := ⟨"MusicBoxes$Track", "valueAt", "(I)I"⟩) (rm := rmX5_valueAt) hx hb hml hown hts hK (ΩC.mono D d cp) hA hw hS hlz (tX5_valueAt l D d cp a x1 σ (q0 rfl)) (c_recvT hK hw hm (q := (RX5, TX5, 2)) rfl) q_250 q_36 hl q_230 q_249 q_248 hK.2.2.2.1 ⟨by decide, by decide, pd_I1⟩ ⟨⟨Nat.le_trans (Nat.le_of_ble_eq_true rfl) hf1, Nat.le_trans (Nat.le_of_ble_eq_true rfl) hf2⟩, ⟨hf3, hf4⟩⟩ hstack hW hdg kk
  · exact mt_callA (C := RX6) (owner := "MusicBoxes$Track") (x := ⟨"MusicBoxes$Track", "valueAt", "(I)I"⟩) (rm := rmX6_valueAt) hx hb hml hown hts hK (ΩC.mono D d cp) hA hw hS hlz (tX6_valueAt l D d cp a x1 σ (q1 rfl)) (c_recvT hK hw hm (q := (RX6, TX6, 2)) rfl) q_253 q_37 hl q_230 q_252 q_251 hK.2.2.2.1 ⟨by decide, by decide, pd_I1⟩ ⟨⟨Nat.le_trans (Nat.le_of_ble_eq_true rfl) hf1, Nat.le_trans (Nat.le_of_ble_eq_true rfl) hf2⟩, ⟨hf3, hf4⟩⟩ hstack hW hdg kk
  · exact mt_callA (C := RX3) (owner := "MusicBoxes$Track") (x := ⟨"MusicBoxes$Track", "valueAt", "(I)I"⟩) (rm := rmX3_valueAt) hx hb hml hown hts hK (ΩC.mono D d cp) hA hw hS hlz (tX3_valueAt l D d cp a x1 σ (q2 rfl)) (c_recvT hK hw hm (q := (RX3, TX3, 2)) rfl) q_236 q_38 hl q_230 q_235 q_234 hK.2.2.2.1 ⟨by decide, by decide, pd_I1⟩ ⟨⟨Nat.le_trans (Nat.le_of_ble_eq_true rfl) hf1, Nat.le_trans (Nat.le_of_ble_eq_true rfl) hf2⟩, ⟨hf3, hf4⟩⟩ hstack hW hdg kk
  · exact mt_callA (C := RX4) (owner := "MusicBoxes$Track") (x := ⟨"MusicBoxes$Track", "valueAt", "(I)I"⟩) (rm := rmX4_valueAt) hx hb hml hown hts hK (ΩC.mono D d cp) hA hw hS hlz (tX4_valueAt l D d cp a x1 σ (q3 rfl)) (c_recvT hK hw hm (q := (RX4, TX4, 2)) rfl) q_239 q_39 hl q_230 q_238 q_237 hK.2.2.2.1 ⟨by decide, by decide, pd_I1⟩ ⟨⟨Nat.le_trans (Nat.le_of_ble_eq_true rfl) hf1, Nat.le_trans (Nat.le_of_ble_eq_true rfl) hf2⟩, ⟨hf3, hf4⟩⟩ hstack hW hdg kk
  · exact mt_callA (C := RX0) (owner := "MusicBoxes$Track") (x := ⟨"MusicBoxes$Track", "valueAt", "(I)I"⟩) (rm := rmX0_valueAt) hx hb hml hown hts hK (ΩC.mono D d cp) hA hw hS hlz (tX0_valueAt l D d cp a x1 σ (q4 rfl)) (c_recvT hK hw hm (q := (RX0, TX0, 2)) rfl) q_233 q_40 hl q_230 q_232 q_231 hK.2.2.2.1 ⟨by decide, by decide, pd_I1⟩ ⟨⟨Nat.le_trans (Nat.le_of_ble_eq_true rfl) hf1, Nat.le_trans (Nat.le_of_ble_eq_true rfl) hf2⟩, ⟨hf3, hf4⟩⟩ hstack hW hdg kk
  · exact absurd h5 (by omega)
def wT_put (a : Nat) (x1 x2 : Int32) (σ : CS) (Q : Int32 → CS → Prop) : Prop := ∃ (kd n c : Nat) (f : Nat → Int32), sTk σ a = some (kd, n, c, f) ∧ (kd = 0 → wX5_put a x1 x2 σ Q) ∧ (kd = 1 → wX6_put a x1 x2 σ Q) ∧ (kd = 2 → wX3_put a x1 x2 σ Q) ∧ (kd = 3 → wX4_put a x1 x2 σ Q) ∧ (kd = 4 → wX0_put a x1 x2 σ Q)
theorem mt_Tput (hx : p.tables.exec = Jvm.exec) (hb : c.code = cc) (hml : c.maxLocals = nL) (hown : s.vm.findClass own = some m.cls) (hts : ∀ w ∈ lw_ok, w.before args s = true) (hK : KK D d s) (hA : ∀ q, s.heap.size ≤ q → F q) (hw : ΩC D d cp F σ H) (hS : va_S F s.heap H locs) (hlz : ls.size = nL) {a : Nat} {x1 x2 : Int32} {Q : Int32 → CS → Prop} (hq : wT_put a x1 x2 σ Q) (hl : Cond.methodLink own index ⟨"MusicBoxes$Track", "put", "(II)Z"⟩ ∈ lw_ok) (hf1 : 1 ≤ R.frames) (hf2 : 22 ≤ R.locals) (hf3 : cells ≤ R.cells) (hf4 : slots ≤ R.slots) (hstack : st0 = [.int x1, .int x2].reverse ++ .ref a :: rest) (hW : (rest.map fun v => v.category).sum ≤ 8) (hdg : decode cc pc = .ok (.invokevirtual index, 3))
    (kk : ∀ (r : Option Value) (u' : CS) (H1 : Heap) (locs1 : List Loc), qZ Q r u' → ΩC D d cp F u' H1 → va_S F s.heap H1 locs1 → W p l e R s m args below meth c H1 locs1 cells slots Qw (F0 m (pc + 3) ls (r.toList ++ rest))) : W p l e R s m args below meth c H locs cells slots Qw (F0 m pc ls st0) := by
  obtain ⟨kd, n, c0, f, hm, hq⟩ := hq
  have h5 : kd < 5 := by obtain ⟨G, hG, hR⟩ := hw; exact (hR.2.2.2.2.2.2.1 a _ hm).1
  obtain ⟨q0, q1, q2, q3, q4⟩ := hq
  rcases kd with _ | _ | _ | _ | _ | _
  · exact mt_callA (C := RX5) (owner := "MusicBoxes$Track") (x := ⟨"MusicBoxes$Track", "put", "(II)Z"⟩) (rm := rmX5_put) hx hb hml hown hts hK (ΩC.mono D d cp) hA hw hS hlz (tX5_put l D d cp a x1 x2 σ (q0 rfl)) (c_recvT hK hw hm (q := (RX5, TX5, 2)) rfl) q_279 q_36 hl q_264 q_278 q_277 hK.2.2.2.2.1 ⟨by decide, by decide, pd_Z2⟩ ⟨⟨Nat.le_trans (Nat.le_of_ble_eq_true rfl) hf1, Nat.le_trans (Nat.le_of_ble_eq_true rfl) hf2⟩, ⟨hf3, hf4⟩⟩ hstack hW hdg kk
  · exact mt_callA (C := RX6) (owner := "MusicBoxes$Track") (x := ⟨"MusicBoxes$Track", "put", "(II)Z"⟩) (rm := rmX6_put) hx hb hml hown hts hK (ΩC.mono D d cp) hA hw hS hlz (tX6_put l D d cp a x1 x2 σ (q1 rfl)) (c_recvT hK hw hm (q := (RX6, TX6, 2)) rfl) q_282 q_37 hl q_264 q_281 q_280 hK.2.2.2.2.1 ⟨by decide, by decide, pd_Z2⟩ ⟨⟨Nat.le_trans (Nat.le_of_ble_eq_true rfl) hf1, Nat.le_trans (Nat.le_of_ble_eq_true rfl) hf2⟩, ⟨hf3, hf4⟩⟩ hstack hW hdg kk
  · exact mt_callA (C := RX3) (owner := "MusicBoxes$Track") (x := ⟨"MusicBoxes$Track", "put", "(II)Z"⟩) (rm := rmX3_put) hx hb hml hown hts hK (ΩC.mono D d cp) hA hw hS hlz (tX3_put l D d cp a x1 x2 σ (q2 rfl)) (c_recvT hK hw hm (q := (RX3, TX3, 2)) rfl) q_270 q_38 hl q_264 q_269 q_268 hK.2.2.2.2.1 ⟨by decide, by decide, pd_Z2⟩ ⟨⟨Nat.le_trans (Nat.le_of_ble_eq_true rfl) hf1, Nat.le_trans (Nat.le_of_ble_eq_true rfl) hf2⟩, ⟨hf3, hf4⟩⟩ hstack hW hdg kk
  · exact mt_callA (C := RX4) (owner := "MusicBoxes$Track") (x := ⟨"MusicBoxes$Track", "put", "(II)Z"⟩) (rm := rmX4_put) hx hb hml hown hts hK (ΩC.mono D d cp) hA hw hS hlz (tX4_put l D d cp a x1 x2 σ (q3 rfl)) (c_recvT hK hw hm (q := (RX4, TX4, 2)) rfl) q_273 q_39 hl q_264 q_272 q_271 hK.2.2.2.2.1 ⟨by decide, by decide, pd_Z2⟩ ⟨⟨Nat.le_trans (Nat.le_of_ble_eq_true rfl) hf1, Nat.le_trans (Nat.le_of_ble_eq_true rfl) hf2⟩, ⟨hf3, hf4⟩⟩ hstack hW hdg kk
  · exact mt_callA (C := RX0) (owner := "MusicBoxes$Track") (x := ⟨"MusicBoxes$Track", "put", "(II)Z"⟩) (rm := rmX0_put) hx hb hml hown hts hK (ΩC.mono D d cp) hA hw hS hlz (tX0_put l D d cp a x1 x2 σ (q4 rfl)) (c_recvT hK hw hm (q := (RX0, TX0, 2)) rfl) q_267 q_40 hl q_264 q_266 q_265 hK.2.2.2.2.1 ⟨by decide, by decide, pd_Z2⟩ ⟨⟨Nat.le_trans (Nat.le_of_ble_eq_true rfl) hf1, Nat.le_trans (Nat.le_of_ble_eq_true rfl) hf2⟩, ⟨hf3, hf4⟩⟩ hstack hW hdg kk
  · exact absurd h5 (by omega)
def wT_alter (a : Nat) (x1 x2 : Int32) (σ : CS) (Q : Int32 → CS → Prop) : Prop := ∃ (kd n c : Nat) (f : Nat → Int32), sTk σ a = some (kd, n, c, f) ∧ (kd = 0 → wX5_alter a x1 x2 σ Q) ∧ (kd = 1 → wX6_alter a x1 x2 σ Q) ∧ (kd = 2 → wX3_alter a x1 x2 σ Q) ∧ (kd = 3 → wX4_alter a x1 x2 σ Q) ∧ (kd = 4 → wX0_alter a x1 x2 σ Q)
theorem mt_Talter (hx : p.tables.exec = Jvm.exec) (hb : c.code = cc) (hml : c.maxLocals = nL) (hown : s.vm.findClass own = some m.cls) (hts : ∀ w ∈ lw_ok, w.before args s = true) (hK : KK D d s) (hA : ∀ q, s.heap.size ≤ q → F q) (hw : ΩC D d cp F σ H) (hS : va_S F s.heap H locs) (hlz : ls.size = nL) {a : Nat} {x1 x2 : Int32} {Q : Int32 → CS → Prop} (hq : wT_alter a x1 x2 σ Q) (hl : Cond.methodLink own index ⟨"MusicBoxes$Track", "alter", "(II)Z"⟩ ∈ lw_ok) (hf1 : 1 ≤ R.frames) (hf2 : 23 ≤ R.locals) (hf3 : cells ≤ R.cells) (hf4 : slots ≤ R.slots) (hstack : st0 = [.int x1, .int x2].reverse ++ .ref a :: rest) (hW : (rest.map fun v => v.category).sum ≤ 8) (hdg : decode cc pc = .ok (.invokevirtual index, 3))
    (kk : ∀ (r : Option Value) (u' : CS) (H1 : Heap) (locs1 : List Loc), qZ Q r u' → ΩC D d cp F u' H1 → va_S F s.heap H1 locs1 → W p l e R s m args below meth c H1 locs1 cells slots Qw (F0 m (pc + 3) ls (r.toList ++ rest))) : W p l e R s m args below meth c H locs cells slots Qw (F0 m pc ls st0) := by
  obtain ⟨kd, n, c0, f, hm, hq⟩ := hq
  have h5 : kd < 5 := by obtain ⟨G, hG, hR⟩ := hw; exact (hR.2.2.2.2.2.2.1 a _ hm).1
  obtain ⟨q0, q1, q2, q3, q4⟩ := hq
  rcases kd with _ | _ | _ | _ | _ | _
  · exact mt_callA (C := RX5) (owner := "MusicBoxes$Track") (x := ⟨"MusicBoxes$Track", "alter", "(II)Z"⟩) (rm := rmX5_alter) hx hb hml hown hts hK (ΩC.mono D d cp) hA hw hS hlz (tX5_alter l D d cp a x1 x2 σ (q0 rfl)) (c_recvT hK hw hm (q := (RX5, TX5, 2)) rfl) q_308 q_36 hl q_293 q_307 q_306 hK.2.2.2.2.2.1 ⟨by decide, by decide, pd_Z2⟩ ⟨⟨Nat.le_trans (Nat.le_of_ble_eq_true rfl) hf1, Nat.le_trans (Nat.le_of_ble_eq_true rfl) hf2⟩, ⟨hf3, hf4⟩⟩ hstack hW hdg kk
  · exact mt_callA (C := RX6) (owner := "MusicBoxes$Track") (x := ⟨"MusicBoxes$Track", "alter", "(II)Z"⟩) (rm := rmX6_alter) hx hb hml hown hts hK (ΩC.mono D d cp) hA hw hS hlz (tX6_alter l D d cp a x1 x2 σ (q1 rfl)) (c_recvT hK hw hm (q := (RX6, TX6, 2)) rfl) q_311 q_37 hl q_293 q_310 q_309 hK.2.2.2.2.2.1 ⟨by decide, by decide, pd_Z2⟩ ⟨⟨Nat.le_trans (Nat.le_of_ble_eq_true rfl) hf1, Nat.le_trans (Nat.le_of_ble_eq_true rfl) hf2⟩, ⟨hf3, hf4⟩⟩ hstack hW hdg kk
  · exact mt_callA (C := RX3) (owner := "MusicBoxes$Track") (x := ⟨"MusicBoxes$Track", "alter", "(II)Z"⟩) (rm := rmX3_alter) hx hb hml hown hts hK (ΩC.mono D d cp) hA hw hS hlz (tX3_alter l D d cp a x1 x2 σ (q2 rfl)) (c_recvT hK hw hm (q := (RX3, TX3, 2)) rfl) q_299 q_38 hl q_293 q_298 q_297 hK.2.2.2.2.2.1 ⟨by decide, by decide, pd_Z2⟩ ⟨⟨Nat.le_trans (Nat.le_of_ble_eq_true rfl) hf1, Nat.le_trans (Nat.le_of_ble_eq_true rfl) hf2⟩, ⟨hf3, hf4⟩⟩ hstack hW hdg kk
  · exact mt_callA (C := RX4) (owner := "MusicBoxes$Track") (x := ⟨"MusicBoxes$Track", "alter", "(II)Z"⟩) (rm := rmX4_alter) hx hb hml hown hts hK (ΩC.mono D d cp) hA hw hS hlz (tX4_alter l D d cp a x1 x2 σ (q3 rfl)) (c_recvT hK hw hm (q := (RX4, TX4, 2)) rfl) q_302 q_39 hl q_293 q_301 q_300 hK.2.2.2.2.2.1 ⟨by decide, by decide, pd_Z2⟩ ⟨⟨Nat.le_trans (Nat.le_of_ble_eq_true rfl) hf1, Nat.le_trans (Nat.le_of_ble_eq_true rfl) hf2⟩, ⟨hf3, hf4⟩⟩ hstack hW hdg kk
  · exact mt_callA (C := RX0) (owner := "MusicBoxes$Track") (x := ⟨"MusicBoxes$Track", "alter", "(II)Z"⟩) (rm := rmX0_alter) hx hb hml hown hts hK (ΩC.mono D d cp) hA hw hS hlz (tX0_alter l D d cp a x1 x2 σ (q4 rfl)) (c_recvT hK hw hm (q := (RX0, TX0, 2)) rfl) q_296 q_40 hl q_293 q_295 q_294 hK.2.2.2.2.2.1 ⟨by decide, by decide, pd_Z2⟩ ⟨⟨Nat.le_trans (Nat.le_of_ble_eq_true rfl) hf1, Nat.le_trans (Nat.le_of_ble_eq_true rfl) hf2⟩, ⟨hf3, hf4⟩⟩ hstack hW hdg kk
  · exact absurd h5 (by omega)
end VIRT
end
section
abbrev rmX7_init : Room := { frames := 1, cells := 0, slots := 0, locals := 20 }
theorem nmhX7_init : NoMH yX7_init 1 := by decide +kernel
set_option maxHeartbeats 4000000 in
set_option maxRecDepth 100000 in
theorem tX7_init (l : Launch) (D : va_G) (d : AC) (a kd : Nat) (x1 : Int32) (G : Pic) {Q : Pic → Prop} (hk : kd < 5) (hg : G a = some (.inr (tci kd, [.int 0, .null]))) (hq : Q (pset G a (.inr (tci kd, [.int x1, .null])))) : MT D d (ΩG D) l yX7_init (WS yX7_init cX7_init 2 none) rmX7_init [.ref a, .int x1] G (qV Q) := by
  refine mt_of (ΩG.mono D) (by decide +kernel) (Nat.le_of_ble_eq_true rfl) (fun p e s m below meth c A ls hx hb hr hml hown hts hlocks hnm hK hA hw hS hl => ?_)
  have hl : lv_has ls 2 [(0, .ref a), (1, .int x1)] := hl
  have hown : s.vm.findClass RX7 = some m.cls := hown
  refine lv_aload_n hx hb dX7_init_0 rfl (lv_at hl 0 rfl) ?_
  refine W.objInit hx hb hown (hts _ q_128) (hts _ q_49) (hts _ q_50) rfl (by rw [hml]; exact hl.1) rfl dX7_init_1 (Nat.le_of_ble_eq_true rfl) (Nat.le_of_ble_eq_true rfl) ?_
  refine W.eq (g2 := F0 m 4 ls []) rfl ?_
  refine lv_aload_n hx hb dX7_init_4 rfl (lv_at hl 0 rfl) ?_
  refine lv_iload_n hx hb dX7_init_5 rfl (lv_at hl 1 rfl) ?_
  rcases kd with _ | _ | _ | _ | _ | _
  · refine g_putF (ci := tci 0) (C := RX5) (T := TX5) (N := 2) hx hb hts inX5 tyX5 tyX5_ok nmX5 hown hK hw hS hg rfl 0 (by decide) (hts _ q_130) (fun _ h9 => h9) rfl hnm rfl (ty := .int) (by decide +kernel) rfl rfl (Nat.le_of_ble_eq_true rfl) dX7_init_6 (fun H locs hw hS => ?_)
    exact mt_retv hx hb hr hlocks hw hS (Nat.le_of_ble_eq_true rfl) (Nat.le_of_ble_eq_true rfl) dX7_init_9 ⟨rfl, hq⟩
  · refine g_putF (ci := tci 1) (C := RX6) (T := TX6) (N := 2) hx hb hts inX6 tyX6 tyX6_ok nmX6 hown hK hw hS hg rfl 0 (by decide) (hts _ q_130) (fun _ h9 => h9) rfl hnm rfl (ty := .int) (by decide +kernel) rfl rfl (Nat.le_of_ble_eq_true rfl) dX7_init_6 (fun H locs hw hS => ?_)
    exact mt_retv hx hb hr hlocks hw hS (Nat.le_of_ble_eq_true rfl) (Nat.le_of_ble_eq_true rfl) dX7_init_9 ⟨rfl, hq⟩
  · refine g_putF (ci := tci 2) (C := RX3) (T := TX3) (N := 2) hx hb hts inX3 tyX3 tyX3_ok nmX3 hown hK hw hS hg rfl 0 (by decide) (hts _ q_130) (fun _ h9 => h9) rfl hnm rfl (ty := .int) (by decide +kernel) rfl rfl (Nat.le_of_ble_eq_true rfl) dX7_init_6 (fun H locs hw hS => ?_)
    exact mt_retv hx hb hr hlocks hw hS (Nat.le_of_ble_eq_true rfl) (Nat.le_of_ble_eq_true rfl) dX7_init_9 ⟨rfl, hq⟩
  · refine g_putF (ci := tci 3) (C := RX4) (T := TX4) (N := 2) hx hb hts inX4 tyX4 tyX4_ok nmX4 hown hK hw hS hg rfl 0 (by decide) (hts _ q_130) (fun _ h9 => h9) rfl hnm rfl (ty := .int) (by decide +kernel) rfl rfl (Nat.le_of_ble_eq_true rfl) dX7_init_6 (fun H locs hw hS => ?_)
    exact mt_retv hx hb hr hlocks hw hS (Nat.le_of_ble_eq_true rfl) (Nat.le_of_ble_eq_true rfl) dX7_init_9 ⟨rfl, hq⟩
  · refine g_putF (ci := tci 4) (C := RX0) (T := TX0) (N := 2) hx hb hts inX0 tyX0 tyX0_ok nmX0 hown hK hw hS hg rfl 0 (by decide) (hts _ q_130) (fun _ h9 => h9) rfl hnm rfl (ty := .int) (by decide +kernel) rfl rfl (Nat.le_of_ble_eq_true rfl) dX7_init_6 (fun H locs hw hS => ?_)
    exact mt_retv hx hb hr hlocks hw hS (Nat.le_of_ble_eq_true rfl) (Nat.le_of_ble_eq_true rfl) dX7_init_9 ⟨rfl, hq⟩
  · exact absurd hk (by omega)
abbrev rmX5_init (NN : Nat) : Room := { frames := 2, cells := 1, slots := NN, locals := 41 }
theorem nmhX5_init : NoMH yX5_init 1 := by decide +kernel
set_option maxHeartbeats 4000000 in
set_option maxRecDepth 100000 in
theorem tX5_init (l : Launch) (D : va_G) (d : AC) (a : Nat) (x1 : Int32) (NN : Nat) (G : Pic) {Q : Pic → Prop} (hg : G a = some (.inr (tci 0, [.int 0, .null]))) (h0 : ¬ x1 < 0) (hN : x1.toNatClampNeg ≤ NN) (hNN : NN ≤ 300) (hq : ∀ (c : Nat) (G1 : Pic), G c = none → (∀ (b : Nat) (e : va_E), b ≠ a → G b = some e → G1 b = some e) → G1 a = some (.inr (tci 0, [.int x1, .ref c])) → G1 c = some (arrE d 0 x1.toNatClampNeg (fun _ => 0)) → Q G1) : MT D d (ΩG D) l yX5_init (WS yX5_init cX5_init 2 none) (rmX5_init NN) [.ref a, .int x1] G (qV Q) := by
  refine mt_of (ΩG.mono D) (by decide +kernel) (Nat.le_of_ble_eq_true rfl) (fun p e s m below meth c A ls hx hb hr hml hown hts hlocks hnm hK hA hw hS hl => ?_)
  have hl : lv_has ls 2 [(0, .ref a), (1, .int x1)] := hl
  have hown : s.vm.findClass RX5 = some m.cls := hown
  refine lv_aload_n hx hb dX5_init_0 rfl (lv_at hl 0 rfl) ?_
  refine lv_iload_n hx hb dX5_init_1 rfl (lv_at hl 1 rfl) ?_
  refine mt_callI (index := 1) hx hb hml hown hts hK (ΩG.mono D) hA hw hS hl.1 (tX7_init l D d a 0 x1 G (Q := fun u => u = pset G a (.inr (tci 0, [.int x1, .null]))) (by decide) hg rfl) q_127 q_35 q_125 q_126 rfl nmhX7_init ⟨⟨(Nat.le_of_ble_eq_true rfl), (Nat.le_of_ble_eq_true rfl)⟩, ⟨(Nat.le_of_ble_eq_true rfl), Nat.zero_le _⟩⟩ rfl (Nat.le_of_ble_eq_true rfl) dX5_init_2 (fun _ u H locs hu hw hS => ?_)
  obtain ⟨rfl, rfl⟩ := hu
  refine W.eq (g2 := F0 m 5 ls []) rfl ?_
  refine lv_aload_n hx hb dX5_init_5 rfl (lv_at hl 0 rfl) ?_
  refine lv_iload_n hx hb dX5_init_6 rfl (lv_at hl 1 rfl) ?_
  refine g_newa (atype := .boolean) (a0 := (x1.toNatClampNeg, .inl (fun _ => 0))) (ty := .boolean) (cA := d 0) hx hb (hts _ q_138) rfl hK hw hS hA 0 rfl (fun _ => rfl) h0 rfl (Nat.le_trans (Nat.mul_le_mul_right _ (Nat.le_trans hN hNN)) (by decide)) (Nat.le_of_ble_eq_true rfl) (by show 0 + 0 + _ ≤ NN; omega) dX5_init_7 (fun q H hqn hw hS => ?_)
  have hqa : q ≠ a := fun h => by rw [h, pset_self] at hqn; cases hqn
  have hg2 : pset (pset G a (.inr (tci 0, [.int x1, .null]))) q (.inl (d 0, (x1.toNatClampNeg, .inl (fun _ => 0)))) a = some (.inr (tci 0, [.int x1, .null])) := by rw [pset_ne (Ne.symm hqa), pset_self]
  refine g_putF (ci := tci 0) (C := RX5) (T := TX5) (N := 2) hx hb hts inX5 tyX5 tyX5_ok nmX5 hown hK hw hS hg2 rfl 1 (by decide) (hts _ q_129) (fun _ h9 => h9) rfl hnm rfl (ty := .array .boolean) (v := .ref q) (by decide +kernel) rfl rfl (Nat.le_of_ble_eq_true rfl) dX5_init_9 (fun H locs hw hS => ?_)
  refine mt_retv hx hb hr hlocks hw hS (Nat.le_of_ble_eq_true rfl) (by show 0 + 0 + _ ≤ NN; omega) dX5_init_12 ⟨rfl, hq q _ ?_ ?_ ?_ ?_⟩
  · rw [← hqn, pset_ne hqa]
  · intro b e hb he
    have hbq : b ≠ q := fun h => by rw [h, ← pset_ne (G := G) (e := .inr (tci 0, [.int x1, .null])) hqa, hqn] at he; cases he
    rw [pset_ne hb, pset_ne hbq, pset_ne hb]; exact he
  · exact pset_self
  · rw [pset_ne hqa, pset_self]; rfl
abbrev rmX6_init (NN : Nat) : Room := { frames := 2, cells := 1, slots := NN, locals := 41 }
theorem nmhX6_init : NoMH yX6_init 1 := by decide +kernel
set_option maxHeartbeats 4000000 in
set_option maxRecDepth 100000 in
theorem tX6_init (l : Launch) (D : va_G) (d : AC) (a : Nat) (x1 : Int32) (NN : Nat) (G : Pic) {Q : Pic → Prop} (hg : G a = some (.inr (tci 1, [.int 0, .null]))) (h0 : ¬ x1 < 0) (hN : x1.toNatClampNeg ≤ NN) (hNN : NN ≤ 300) (hq : ∀ (c : Nat) (G1 : Pic), G c = none → (∀ (b : Nat) (e : va_E), b ≠ a → G b = some e → G1 b = some e) → G1 a = some (.inr (tci 1, [.int x1, .ref c])) → G1 c = some (arrE d 1 x1.toNatClampNeg (fun _ => 0)) → Q G1) : MT D d (ΩG D) l yX6_init (WS yX6_init cX6_init 2 none) (rmX6_init NN) [.ref a, .int x1] G (qV Q) := by
  refine mt_of (ΩG.mono D) (by decide +kernel) (Nat.le_of_ble_eq_true rfl) (fun p e s m below meth c A ls hx hb hr hml hown hts hlocks hnm hK hA hw hS hl => ?_)
  have hl : lv_has ls 2 [(0, .ref a), (1, .int x1)] := hl
  have hown : s.vm.findClass RX6 = some m.cls := hown
  refine lv_aload_n hx hb dX6_init_0 rfl (lv_at hl 0 rfl) ?_
  refine lv_iload_n hx hb dX6_init_1 rfl (lv_at hl 1 rfl) ?_
  refine mt_callI (index := 1) hx hb hml hown hts hK (ΩG.mono D) hA hw hS hl.1 (tX7_init l D d a 1 x1 G (Q := fun u => u = pset G a (.inr (tci 1, [.int x1, .null]))) (by decide) hg rfl) q_127 q_35 q_144 q_126 rfl nmhX7_init ⟨⟨(Nat.le_of_ble_eq_true rfl), (Nat.le_of_ble_eq_true rfl)⟩, ⟨(Nat.le_of_ble_eq_true rfl), Nat.zero_le _⟩⟩ rfl (Nat.le_of_ble_eq_true rfl) dX6_init_2 (fun _ u H locs hu hw hS => ?_)
  obtain ⟨rfl, rfl⟩ := hu
  refine W.eq (g2 := F0 m 5 ls []) rfl ?_
  refine lv_aload_n hx hb dX6_init_5 rfl (lv_at hl 0 rfl) ?_
  refine lv_iload_n hx hb dX6_init_6 rfl (lv_at hl 1 rfl) ?_
  refine g_newa (atype := .char) (a0 := (x1.toNatClampNeg, .inl (fun _ => 0))) (ty := .char) (cA := d 1) hx hb (hts _ q_150) rfl hK hw hS hA 1 rfl (fun _ => rfl) h0 rfl (Nat.le_trans (Nat.mul_le_mul_right _ (Nat.le_trans hN hNN)) (by decide)) (Nat.le_of_ble_eq_true rfl) (by show 0 + 0 + _ ≤ NN; omega) dX6_init_7 (fun q H hqn hw hS => ?_)
  have hqa : q ≠ a := fun h => by rw [h, pset_self] at hqn; cases hqn
  have hg2 : pset (pset G a (.inr (tci 1, [.int x1, .null]))) q (.inl (d 1, (x1.toNatClampNeg, .inl (fun _ => 0)))) a = some (.inr (tci 1, [.int x1, .null])) := by rw [pset_ne (Ne.symm hqa), pset_self]
  refine g_putF (ci := tci 1) (C := RX6) (T := TX6) (N := 2) hx hb hts inX6 tyX6 tyX6_ok nmX6 hown hK hw hS hg2 rfl 1 (by decide) (hts _ q_145) (fun _ h9 => h9) rfl hnm rfl (ty := .array .char) (v := .ref q) (by decide +kernel) rfl rfl (Nat.le_of_ble_eq_true rfl) dX6_init_9 (fun H locs hw hS => ?_)
  refine mt_retv hx hb hr hlocks hw hS (Nat.le_of_ble_eq_true rfl) (by show 0 + 0 + _ ≤ NN; omega) dX6_init_12 ⟨rfl, hq q _ ?_ ?_ ?_ ?_⟩
  · rw [← hqn, pset_ne hqa]
  · intro b e hb he
    have hbq : b ≠ q := fun h => by rw [h, ← pset_ne (G := G) (e := .inr (tci 1, [.int x1, .null])) hqa, hqn] at he; cases he
    rw [pset_ne hb, pset_ne hbq, pset_ne hb]; exact he
  · exact pset_self
  · rw [pset_ne hqa, pset_self]; rfl
abbrev rmX3_init (NN : Nat) : Room := { frames := 2, cells := 1, slots := NN, locals := 41 }
theorem nmhX3_init : NoMH yX3_init 1 := by decide +kernel
set_option maxHeartbeats 4000000 in
set_option maxRecDepth 100000 in
theorem tX3_init (l : Launch) (D : va_G) (d : AC) (a : Nat) (x1 : Int32) (NN : Nat) (G : Pic) {Q : Pic → Prop} (hg : G a = some (.inr (tci 2, [.int 0, .null]))) (h0 : ¬ x1 < 0) (hN : x1.toNatClampNeg ≤ NN) (hNN : NN ≤ 300) (hq : ∀ (c : Nat) (G1 : Pic), G c = none → (∀ (b : Nat) (e : va_E), b ≠ a → G b = some e → G1 b = some e) → G1 a = some (.inr (tci 2, [.int x1, .ref c])) → G1 c = some (arrE d 2 x1.toNatClampNeg (fun _ => 0)) → Q G1) : MT D d (ΩG D) l yX3_init (WS yX3_init cX3_init 2 none) (rmX3_init NN) [.ref a, .int x1] G (qV Q) := by
  refine mt_of (ΩG.mono D) (by decide +kernel) (Nat.le_of_ble_eq_true rfl) (fun p e s m below meth c A ls hx hb hr hml hown hts hlocks hnm hK hA hw hS hl => ?_)
  have hl : lv_has ls 2 [(0, .ref a), (1, .int x1)] := hl
  have hown : s.vm.findClass RX3 = some m.cls := hown
  refine lv_aload_n hx hb dX3_init_0 rfl (lv_at hl 0 rfl) ?_
  refine lv_iload_n hx hb dX3_init_1 rfl (lv_at hl 1 rfl) ?_
  refine mt_callI (index := 1) hx hb hml hown hts hK (ΩG.mono D) hA hw hS hl.1 (tX7_init l D d a 2 x1 G (Q := fun u => u = pset G a (.inr (tci 2, [.int x1, .null]))) (by decide) hg rfl) q_127 q_35 q_156 q_126 rfl nmhX7_init ⟨⟨(Nat.le_of_ble_eq_true rfl), (Nat.le_of_ble_eq_true rfl)⟩, ⟨(Nat.le_of_ble_eq_true rfl), Nat.zero_le _⟩⟩ rfl (Nat.le_of_ble_eq_true rfl) dX3_init_2 (fun _ u H locs hu hw hS => ?_)
  obtain ⟨rfl, rfl⟩ := hu
  refine W.eq (g2 := F0 m 5 ls []) rfl ?_
  refine lv_aload_n hx hb dX3_init_5 rfl (lv_at hl 0 rfl) ?_
  refine lv_iload_n hx hb dX3_init_6 rfl (lv_at hl 1 rfl) ?_
  refine g_newa (atype := .short) (a0 := (x1.toNatClampNeg, .inl (fun _ => 0))) (ty := .short) (cA := d 2) hx hb (hts _ q_162) rfl hK hw hS hA 2 rfl (fun _ => rfl) h0 rfl (Nat.le_trans (Nat.mul_le_mul_right _ (Nat.le_trans hN hNN)) (by decide)) (Nat.le_of_ble_eq_true rfl) (by show 0 + 0 + _ ≤ NN; omega) dX3_init_7 (fun q H hqn hw hS => ?_)
  have hqa : q ≠ a := fun h => by rw [h, pset_self] at hqn; cases hqn
  have hg2 : pset (pset G a (.inr (tci 2, [.int x1, .null]))) q (.inl (d 2, (x1.toNatClampNeg, .inl (fun _ => 0)))) a = some (.inr (tci 2, [.int x1, .null])) := by rw [pset_ne (Ne.symm hqa), pset_self]
  refine g_putF (ci := tci 2) (C := RX3) (T := TX3) (N := 2) hx hb hts inX3 tyX3 tyX3_ok nmX3 hown hK hw hS hg2 rfl 1 (by decide) (hts _ q_157) (fun _ h9 => h9) rfl hnm rfl (ty := .array .short) (v := .ref q) (by decide +kernel) rfl rfl (Nat.le_of_ble_eq_true rfl) dX3_init_9 (fun H locs hw hS => ?_)
  refine mt_retv hx hb hr hlocks hw hS (Nat.le_of_ble_eq_true rfl) (by show 0 + 0 + _ ≤ NN; omega) dX3_init_12 ⟨rfl, hq q _ ?_ ?_ ?_ ?_⟩
  · rw [← hqn, pset_ne hqa]
  · intro b e hb he
    have hbq : b ≠ q := fun h => by rw [h, ← pset_ne (G := G) (e := .inr (tci 2, [.int x1, .null])) hqa, hqn] at he; cases he
    rw [pset_ne hb, pset_ne hbq, pset_ne hb]; exact he
  · exact pset_self
  · rw [pset_ne hqa, pset_self]; rfl
abbrev rmX4_init (NN : Nat) : Room := { frames := 2, cells := 1, slots := NN, locals := 41 }
theorem nmhX4_init : NoMH yX4_init 1 := by decide +kernel
set_option maxHeartbeats 4000000 in
set_option maxRecDepth 100000 in
theorem tX4_init (l : Launch) (D : va_G) (d : AC) (a : Nat) (x1 : Int32) (NN : Nat) (G : Pic) {Q : Pic → Prop} (hg : G a = some (.inr (tci 3, [.int 0, .null]))) (h0 : ¬ x1 < 0) (hN : x1.toNatClampNeg ≤ NN) (hNN : NN ≤ 300) (hq : ∀ (c : Nat) (G1 : Pic), G c = none → (∀ (b : Nat) (e : va_E), b ≠ a → G b = some e → G1 b = some e) → G1 a = some (.inr (tci 3, [.int x1, .ref c])) → G1 c = some (arrE d 3 x1.toNatClampNeg (fun _ => 0)) → Q G1) : MT D d (ΩG D) l yX4_init (WS yX4_init cX4_init 2 none) (rmX4_init NN) [.ref a, .int x1] G (qV Q) := by
  refine mt_of (ΩG.mono D) (by decide +kernel) (Nat.le_of_ble_eq_true rfl) (fun p e s m below meth c A ls hx hb hr hml hown hts hlocks hnm hK hA hw hS hl => ?_)
  have hl : lv_has ls 2 [(0, .ref a), (1, .int x1)] := hl
  have hown : s.vm.findClass RX4 = some m.cls := hown
  refine lv_aload_n hx hb dX4_init_0 rfl (lv_at hl 0 rfl) ?_
  refine lv_iload_n hx hb dX4_init_1 rfl (lv_at hl 1 rfl) ?_
  refine mt_callI (index := 3) hx hb hml hown hts hK (ΩG.mono D) hA hw hS hl.1 (tX7_init l D d a 3 x1 G (Q := fun u => u = pset G a (.inr (tci 3, [.int x1, .null]))) (by decide) hg rfl) q_127 q_35 q_168 q_126 rfl nmhX7_init ⟨⟨(Nat.le_of_ble_eq_true rfl), (Nat.le_of_ble_eq_true rfl)⟩, ⟨(Nat.le_of_ble_eq_true rfl), Nat.zero_le _⟩⟩ rfl (Nat.le_of_ble_eq_true rfl) dX4_init_2 (fun _ u H locs hu hw hS => ?_)
  obtain ⟨rfl, rfl⟩ := hu
  refine W.eq (g2 := F0 m 5 ls []) rfl ?_
  refine lv_aload_n hx hb dX4_init_5 rfl (lv_at hl 0 rfl) ?_
  refine lv_iload_n hx hb dX4_init_6 rfl (lv_at hl 1 rfl) ?_
  refine g_newa (atype := .float) (a0 := (x1.toNatClampNeg, .inr (.inr (.inl (fun _ => (0 : Int32).toUInt32))))) (ty := .float) (cA := d 3) hx hb (hts _ q_174) rfl hK hw hS hA 3 rfl (fun _ => rfl) h0 rfl (Nat.le_trans (Nat.mul_le_mul_right _ (Nat.le_trans hN hNN)) (by decide)) (Nat.le_of_ble_eq_true rfl) (by show 0 + 0 + _ ≤ NN; omega) dX4_init_7 (fun q H hqn hw hS => ?_)
  have hqa : q ≠ a := fun h => by rw [h, pset_self] at hqn; cases hqn
  have hg2 : pset (pset G a (.inr (tci 3, [.int x1, .null]))) q (.inl (d 3, (x1.toNatClampNeg, .inr (.inr (.inl (fun _ => (0 : Int32).toUInt32)))))) a = some (.inr (tci 3, [.int x1, .null])) := by rw [pset_ne (Ne.symm hqa), pset_self]
  refine g_putF (ci := tci 3) (C := RX4) (T := TX4) (N := 2) hx hb hts inX4 tyX4 tyX4_ok nmX4 hown hK hw hS hg2 rfl 1 (by decide) (hts _ q_169) (fun _ h9 => h9) rfl hnm rfl (ty := .array .float) (v := .ref q) (by decide +kernel) rfl rfl (Nat.le_of_ble_eq_true rfl) dX4_init_9 (fun H locs hw hS => ?_)
  refine mt_retv hx hb hr hlocks hw hS (Nat.le_of_ble_eq_true rfl) (by show 0 + 0 + _ ≤ NN; omega) dX4_init_12 ⟨rfl, hq q _ ?_ ?_ ?_ ?_⟩
  · rw [← hqn, pset_ne hqa]
  · intro b e hb he
    have hbq : b ≠ q := fun h => by rw [h, ← pset_ne (G := G) (e := .inr (tci 3, [.int x1, .null])) hqa, hqn] at he; cases he
    rw [pset_ne hb, pset_ne hbq, pset_ne hb]; exact he
  · exact pset_self
  · rw [pset_ne hqa, pset_self]; rfl
abbrev rmX0_init (NN : Nat) : Room := { frames := 2, cells := 1, slots := NN, locals := 41 }
theorem nmhX0_init : NoMH yX0_init 1 := by decide +kernel
set_option maxHeartbeats 4000000 in
set_option maxRecDepth 100000 in
theorem tX0_init (l : Launch) (D : va_G) (d : AC) (a : Nat) (x1 : Int32) (NN : Nat) (G : Pic) {Q : Pic → Prop} (hg : G a = some (.inr (tci 4, [.int 0, .null]))) (h0 : ¬ x1 < 0) (hN : x1.toNatClampNeg ≤ NN) (hNN : NN ≤ 300) (hq : ∀ (c : Nat) (G1 : Pic), G c = none → (∀ (b : Nat) (e : va_E), b ≠ a → G b = some e → G1 b = some e) → G1 a = some (.inr (tci 4, [.int x1, .ref c])) → G1 c = some (arrE d 4 x1.toNatClampNeg (fun _ => 0)) → Q G1) : MT D d (ΩG D) l yX0_init (WS yX0_init cX0_init 2 none) (rmX0_init NN) [.ref a, .int x1] G (qV Q) := by
  refine mt_of (ΩG.mono D) (by decide +kernel) (Nat.le_of_ble_eq_true rfl) (fun p e s m below meth c A ls hx hb hr hml hown hts hlocks hnm hK hA hw hS hl => ?_)
  have hl : lv_has ls 2 [(0, .ref a), (1, .int x1)] := hl
  have hown : s.vm.findClass RX0 = some m.cls := hown
  refine lv_aload_n hx hb dX0_init_0 rfl (lv_at hl 0 rfl) ?_
  refine lv_iload_n hx hb dX0_init_1 rfl (lv_at hl 1 rfl) ?_
  refine mt_callI (index := 1) hx hb hml hown hts hK (ΩG.mono D) hA hw hS hl.1 (tX7_init l D d a 4 x1 G (Q := fun u => u = pset G a (.inr (tci 4, [.int x1, .null]))) (by decide) hg rfl) q_127 q_35 q_180 q_126 rfl nmhX7_init ⟨⟨(Nat.le_of_ble_eq_true rfl), (Nat.le_of_ble_eq_true rfl)⟩, ⟨(Nat.le_of_ble_eq_true rfl), Nat.zero_le _⟩⟩ rfl (Nat.le_of_ble_eq_true rfl) dX0_init_2 (fun _ u H locs hu hw hS => ?_)
  obtain ⟨rfl, rfl⟩ := hu
  refine W.eq (g2 := F0 m 5 ls []) rfl ?_
  refine lv_aload_n hx hb dX0_init_5 rfl (lv_at hl 0 rfl) ?_
  refine lv_iload_n hx hb dX0_init_6 rfl (lv_at hl 1 rfl) ?_
  refine g_newa (atype := .byte) (a0 := (x1.toNatClampNeg, .inl (fun _ => 0))) (ty := .byte) (cA := d 4) hx hb (hts _ q_186) rfl hK hw hS hA 4 rfl (fun _ => rfl) h0 rfl (Nat.le_trans (Nat.mul_le_mul_right _ (Nat.le_trans hN hNN)) (by decide)) (Nat.le_of_ble_eq_true rfl) (by show 0 + 0 + _ ≤ NN; omega) dX0_init_7 (fun q H hqn hw hS => ?_)
  have hqa : q ≠ a := fun h => by rw [h, pset_self] at hqn; cases hqn
  have hg2 : pset (pset G a (.inr (tci 4, [.int x1, .null]))) q (.inl (d 4, (x1.toNatClampNeg, .inl (fun _ => 0)))) a = some (.inr (tci 4, [.int x1, .null])) := by rw [pset_ne (Ne.symm hqa), pset_self]
  refine g_putF (ci := tci 4) (C := RX0) (T := TX0) (N := 2) hx hb hts inX0 tyX0 tyX0_ok nmX0 hown hK hw hS hg2 rfl 1 (by decide) (hts _ q_181) (fun _ h9 => h9) rfl hnm rfl (ty := .array .byte) (v := .ref q) (by decide +kernel) rfl rfl (Nat.le_of_ble_eq_true rfl) dX0_init_9 (fun H locs hw hS => ?_)
  refine mt_retv hx hb hr hlocks hw hS (Nat.le_of_ble_eq_true rfl) (by show 0 + 0 + _ ≤ NN; omega) dX0_init_12 ⟨rfl, hq q _ ?_ ?_ ?_ ?_⟩
  · rw [← hqn, pset_ne hqa]
  · intro b e hb he
    have hbq : b ≠ q := fun h => by rw [h, ← pset_ne (G := G) (e := .inr (tci 4, [.int x1, .null])) hqa, hqn] at he; cases he
    rw [pset_ne hb, pset_ne hbq, pset_ne hb]; exact he
  · exact pset_self
  · rw [pset_ne hqa, pset_self]; rfl
abbrev rmX8_newTrack (NN : Nat) : Room := { frames := 3, cells := 2, slots := 2 + NN, locals := 62 }
theorem nmhX8_newTrack : NoMH yX8_newTrack 2 := by decide +kernel
theorem sw4 (x : Int32) : (x.toInt < 0 ∨ 3 < x.toInt) ∨ x.toInt = 0 ∨ x.toInt = 1 ∨ x.toInt = 2 ∨ x.toInt = 3 := by omega
/-- which kind a number makes -/
def kOf (x : Int32) : Nat := if x.toInt = 0 then 0 else if x.toInt = 1 then 1 else if x.toInt = 2 then 2 else if x.toInt = 3 then 3 else 4
def wX8_newTrack (x0 x1 : Int32) (NN : Nat) (σ : CS) (Q : Option Nat → CS → Prop) : Prop := ¬ x1 < 0 ∧ x1.toNatClampNeg ≤ NN ∧ NN ≤ 300 ∧ ∀ a c : Nat, sTk σ a = none → Q (some a) (pTk σ a (kOf x0, x1.toNatClampNeg, c, fun _ => 0))
theorem nI_back {x : Int32} (h : ¬ x < 0) : nI x.toNatClampNeg = x := by
  obtain ⟨j, hj, rfl⟩ := nI_of h
  rw [nI_clamp hj]
set_option maxHeartbeats 4000000 in
set_option maxRecDepth 100000 in
theorem tX8_newTrack (l : Launch) (D : va_G) (d : AC) (cp : CP) (x0 x1 : Int32) (NN : Nat) (σ : CS) {Q : Option Nat → CS → Prop} (hq : wX8_newTrack x0 x1 NN σ Q) : MT D d (ΩC D d cp) l yX8_newTrack (WS yX8_newTrack cX8_newTrack 2 (some (.object "MusicBoxes$Track"))) (rmX8_newTrack NN) [.int x0, .int x1] σ (qA Q) := by
  refine mt_of (ΩC.mono D d cp) (by decide +kernel) (Nat.le_of_ble_eq_true rfl) (fun p e s m below meth c A ls hx hb hr hml hown hts hlocks hnm hK hA hw hS hl => ?_)
  have hl : lv_has ls 2 [(0, .int x0), (1, .int x1)] := hl
  have hown : s.vm.findClass RX8 = some m.cls := hown
  obtain ⟨h0, hN, hNN, hq⟩ := hq
  obtain ⟨G, hG, hR⟩ := hw
  refine lv_iload_n hx hb dX8_newTrack_0 rfl (lv_at hl 0 rfl) ?_
  rcases sw4 x0 with hc | hc | hc | hc | hc
  · have hkd : kOf x0 = 4 := by unfold kOf; repeat (first | rw [if_neg (by omega)])
    refine lv_tableOut (tgt := 68) hx hb dX8_newTrack_1 hc (by decide) ?_
    refine g_new (ci := tci 4) (fs := [.int 0, .null]) (C := RX0) (T := TX0) (N := 2) hx hb hts inX0 tyX0 tyX0_ok hown (hts _ q_175) (hts _ q_176) (hts _ q_40) hK hG hS hA rfl (fun j hj => by rcases (show j = 0 ∨ j = 1 by omega) with rfl | rfl <;> rfl) (by show 0 + 1 ≤ 2; omega) (by show 0 + 2 ≤ 2 + NN; omega) dX8_newTrack_68 (fun q H hqn hG1 hS => ?_)
    refine lv_dup hx hb dX8_newTrack_71 rfl ?_
    refine lv_iload_n hx hb dX8_newTrack_72 rfl (lv_at hl 1 rfl) ?_
    refine mt_callI (index := 145) hx hb hml hown hts hK (ΩG.mono D) hA hG1 hS hl.1 (tX0_init l D d q x1 NN _ (Q := fun G1 => ∃ c : Nat, G c = none ∧ (∀ (b : Nat) (e : va_E), G b = some e → G1 b = some e) ∧ G1 q = some (trackE 4 x1.toNatClampNeg c) ∧ G1 c = some (arrE d 4 x1.toNatClampNeg (fun _ => 0))) pset_self h0 hN hNN (fun c G1 e1 e2 e3 e4 => ?_)) q_179 q_40 q_177 q_178 rfl nmhX0_init ⟨⟨(Nat.le_of_ble_eq_true rfl), (Nat.le_of_ble_eq_true rfl)⟩, ⟨(Nat.le_of_ble_eq_true rfl), by show 0 + 2 + NN ≤ 2 + NN; omega⟩⟩ rfl (Nat.le_of_ble_eq_true rfl) dX8_newTrack_73 (fun _ u H locs hu hG2 hS => ?_)
    · have hcq : c ≠ q := fun h => by rw [h, pset_self] at e1; cases e1
      refine ⟨c, by rw [← e1, pset_ne hcq], fun b e he => e2 b e (fun h => by rw [h, hqn] at he; cases he) (by rw [pset_ne (fun h => by rw [h, hqn] at he; cases he)]; exact he), ?_, e4⟩
      rw [e3]; show some (Sum.inr (tci 4, [Value.int x1, Value.ref c])) = some (Sum.inr (tci 4, [Value.int (nI x1.toNatClampNeg), Value.ref c])); rw [nI_back h0]
    · obtain ⟨rfl, c1, e1, e2, e3, e4⟩ := hu
      obtain ⟨hn, hR2⟩ := hR.newTk e2 (by decide) hqn e1 e3 e4
      refine W.eq (g2 := F0 m 76 ls [va_rf (some q)]) rfl ?_
      refine mt_reta (o := some q) hx hb hr hlocks (Ω := ΩC D d cp) ⟨u, hG2, hR2⟩ hS (by show 0 + 1 + 1 ≤ 2; omega) (by show 0 + 2 + NN ≤ 2 + NN; omega) dX8_newTrack_76 ⟨_, rfl, ?_⟩
      have := hq q c1 hn
      rw [hkd] at this
      exact this
  · have hkd : kOf x0 = 0 := by unfold kOf; repeat (first | rw [if_pos hc] | rw [if_neg (by omega)])
    refine lv_tableIn (tgt := 32) hx hb dX8_newTrack_1 (by rw [hc]; decide) (by rw [hc]; decide) (by rw [hc]; rfl) (by decide) ?_
    refine g_new (ci := tci 0) (fs := [.int 0, .null]) (C := RX5) (T := TX5) (N := 2) hx hb hts inX5 tyX5 tyX5_ok hown (hts _ q_120) (hts _ q_121) (hts _ q_36) hK hG hS hA rfl (fun j hj => by rcases (show j = 0 ∨ j = 1 by omega) with rfl | rfl <;> rfl) (by show 0 + 1 ≤ 2; omega) (by show 0 + 2 ≤ 2 + NN; omega) dX8_newTrack_32 (fun q H hqn hG1 hS => ?_)
    refine lv_dup hx hb dX8_newTrack_35 rfl ?_
    refine lv_iload_n hx hb dX8_newTrack_36 rfl (lv_at hl 1 rfl) ?_
    refine mt_callI (index := 131) hx hb hml hown hts hK (ΩG.mono D) hA hG1 hS hl.1 (tX5_init l D d q x1 NN _ (Q := fun G1 => ∃ c : Nat, G c = none ∧ (∀ (b : Nat) (e : va_E), G b = some e → G1 b = some e) ∧ G1 q = some (trackE 0 x1.toNatClampNeg c) ∧ G1 c = some (arrE d 0 x1.toNatClampNeg (fun _ => 0))) pset_self h0 hN hNN (fun c G1 e1 e2 e3 e4 => ?_)) q_124 q_36 q_122 q_123 rfl nmhX5_init ⟨⟨(Nat.le_of_ble_eq_true rfl), (Nat.le_of_ble_eq_true rfl)⟩, ⟨(Nat.le_of_ble_eq_true rfl), by show 0 + 2 + NN ≤ 2 + NN; omega⟩⟩ rfl (Nat.le_of_ble_eq_true rfl) dX8_newTrack_37 (fun _ u H locs hu hG2 hS => ?_)
    · have hcq : c ≠ q := fun h => by rw [h, pset_self] at e1; cases e1
      refine ⟨c, by rw [← e1, pset_ne hcq], fun b e he => e2 b e (fun h => by rw [h, hqn] at he; cases he) (by rw [pset_ne (fun h => by rw [h, hqn] at he; cases he)]; exact he), ?_, e4⟩
      rw [e3]; show some (Sum.inr (tci 0, [Value.int x1, Value.ref c])) = some (Sum.inr (tci 0, [Value.int (nI x1.toNatClampNeg), Value.ref c])); rw [nI_back h0]
    · obtain ⟨rfl, c1, e1, e2, e3, e4⟩ := hu
      obtain ⟨hn, hR2⟩ := hR.newTk e2 (by decide) hqn e1 e3 e4
      refine W.eq (g2 := F0 m 40 ls [va_rf (some q)]) rfl ?_
      refine mt_reta (o := some q) hx hb hr hlocks (Ω := ΩC D d cp) ⟨u, hG2, hR2⟩ hS (by show 0 + 1 + 1 ≤ 2; omega) (by show 0 + 2 + NN ≤ 2 + NN; omega) dX8_newTrack_40 ⟨_, rfl, ?_⟩
      have := hq q c1 hn
      rw [hkd] at this
      exact this
  · have hkd : kOf x0 = 1 := by unfold kOf; repeat (first | rw [if_pos hc] | rw [if_neg (by omega)])
    refine lv_tableIn (tgt := 41) hx hb dX8_newTrack_1 (by rw [hc]; decide) (by rw [hc]; decide) (by rw [hc]; rfl) (by decide) ?_
    refine g_new (ci := tci 1) (fs := [.int 0, .null]) (C := RX6) (T := TX6) (N := 2) hx hb hts inX6 tyX6 tyX6_ok hown (hts _ q_139) (hts _ q_140) (hts _ q_37) hK hG hS hA rfl (fun j hj => by rcases (show j = 0 ∨ j = 1 by omega) with rfl | rfl <;> rfl) (by show 0 + 1 ≤ 2; omega) (by show 0 + 2 ≤ 2 + NN; omega) dX8_newTrack_41 (fun q H hqn hG1 hS => ?_)
    refine lv_dup hx hb dX8_newTrack_44 rfl ?_
    refine lv_iload_n hx hb dX8_newTrack_45 rfl (lv_at hl 1 rfl) ?_
    refine mt_callI (index := 136) hx hb hml hown hts hK (ΩG.mono D) hA hG1 hS hl.1 (tX6_init l D d q x1 NN _ (Q := fun G1 => ∃ c : Nat, G c = none ∧ (∀ (b : Nat) (e : va_E), G b = some e → G1 b = some e) ∧ G1 q = some (trackE 1 x1.toNatClampNeg c) ∧ G1 c = some (arrE d 1 x1.toNatClampNeg (fun _ => 0))) pset_self h0 hN hNN (fun c G1 e1 e2 e3 e4 => ?_)) q_143 q_37 q_141 q_142 rfl nmhX6_init ⟨⟨(Nat.le_of_ble_eq_true rfl), (Nat.le_of_ble_eq_true rfl)⟩, ⟨(Nat.le_of_ble_eq_true rfl), by show 0 + 2 + NN ≤ 2 + NN; omega⟩⟩ rfl (Nat.le_of_ble_eq_true rfl) dX8_newTrack_46 (fun _ u H locs hu hG2 hS => ?_)
    · have hcq : c ≠ q := fun h => by rw [h, pset_self] at e1; cases e1
      refine ⟨c, by rw [← e1, pset_ne hcq], fun b e he => e2 b e (fun h => by rw [h, hqn] at he; cases he) (by rw [pset_ne (fun h => by rw [h, hqn] at he; cases he)]; exact he), ?_, e4⟩
      rw [e3]; show some (Sum.inr (tci 1, [Value.int x1, Value.ref c])) = some (Sum.inr (tci 1, [Value.int (nI x1.toNatClampNeg), Value.ref c])); rw [nI_back h0]
    · obtain ⟨rfl, c1, e1, e2, e3, e4⟩ := hu
      obtain ⟨hn, hR2⟩ := hR.newTk e2 (by decide) hqn e1 e3 e4
      refine W.eq (g2 := F0 m 49 ls [va_rf (some q)]) rfl ?_
      refine mt_reta (o := some q) hx hb hr hlocks (Ω := ΩC D d cp) ⟨u, hG2, hR2⟩ hS (by show 0 + 1 + 1 ≤ 2; omega) (by show 0 + 2 + NN ≤ 2 + NN; omega) dX8_newTrack_49 ⟨_, rfl, ?_⟩
      have := hq q c1 hn
      rw [hkd] at this
      exact this
  · have hkd : kOf x0 = 2 := by unfold kOf; repeat (first | rw [if_pos hc] | rw [if_neg (by omega)])
    refine lv_tableIn (tgt := 50) hx hb dX8_newTrack_1 (by rw [hc]; decide) (by rw [hc]; decide) (by rw [hc]; rfl) (by decide) ?_
    refine g_new (ci := tci 2) (fs := [.int 0, .null]) (C := RX3) (T := TX3) (N := 2) hx hb hts inX3 tyX3 tyX3_ok hown (hts _ q_151) (hts _ q_152) (hts _ q_38) hK hG hS hA rfl (fun j hj => by rcases (show j = 0 ∨ j = 1 by omega) with rfl | rfl <;> rfl) (by show 0 + 1 ≤ 2; omega) (by show 0 + 2 ≤ 2 + NN; omega) dX8_newTrack_50 (fun q H hqn hG1 hS => ?_)
    refine lv_dup hx hb dX8_newTrack_53 rfl ?_
    refine lv_iload_n hx hb dX8_newTrack_54 rfl (lv_at hl 1 rfl) ?_
    refine mt_callI (index := 139) hx hb hml hown hts hK (ΩG.mono D) hA hG1 hS hl.1 (tX3_init l D d q x1 NN _ (Q := fun G1 => ∃ c : Nat, G c = none ∧ (∀ (b : Nat) (e : va_E), G b = some e → G1 b = some e) ∧ G1 q = some (trackE 2 x1.toNatClampNeg c) ∧ G1 c = some (arrE d 2 x1.toNatClampNeg (fun _ => 0))) pset_self h0 hN hNN (fun c G1 e1 e2 e3 e4 => ?_)) q_155 q_38 q_153 q_154 rfl nmhX3_init ⟨⟨(Nat.le_of_ble_eq_true rfl), (Nat.le_of_ble_eq_true rfl)⟩, ⟨(Nat.le_of_ble_eq_true rfl), by show 0 + 2 + NN ≤ 2 + NN; omega⟩⟩ rfl (Nat.le_of_ble_eq_true rfl) dX8_newTrack_55 (fun _ u H locs hu hG2 hS => ?_)
    · have hcq : c ≠ q := fun h => by rw [h, pset_self] at e1; cases e1
      refine ⟨c, by rw [← e1, pset_ne hcq], fun b e he => e2 b e (fun h => by rw [h, hqn] at he; cases he) (by rw [pset_ne (fun h => by rw [h, hqn] at he; cases he)]; exact he), ?_, e4⟩
      rw [e3]; show some (Sum.inr (tci 2, [Value.int x1, Value.ref c])) = some (Sum.inr (tci 2, [Value.int (nI x1.toNatClampNeg), Value.ref c])); rw [nI_back h0]
    · obtain ⟨rfl, c1, e1, e2, e3, e4⟩ := hu
      obtain ⟨hn, hR2⟩ := hR.newTk e2 (by decide) hqn e1 e3 e4
      refine W.eq (g2 := F0 m 58 ls [va_rf (some q)]) rfl ?_
      refine mt_reta (o := some q) hx hb hr hlocks (Ω := ΩC D d cp) ⟨u, hG2, hR2⟩ hS (by show 0 + 1 + 1 ≤ 2; omega) (by show 0 + 2 + NN ≤ 2 + NN; omega) dX8_newTrack_58 ⟨_, rfl, ?_⟩
      have := hq q c1 hn
      rw [hkd] at this
      exact this
  · have hkd : kOf x0 = 3 := by unfold kOf; repeat (first | rw [if_pos hc] | rw [if_neg (by omega)])
    refine lv_tableIn (tgt := 59) hx hb dX8_newTrack_1 (by rw [hc]; decide) (by rw [hc]; decide) (by rw [hc]; rfl) (by decide) ?_
    refine g_new (ci := tci 3) (fs := [.int 0, .null]) (C := RX4) (T := TX4) (N := 2) hx hb hts inX4 tyX4 tyX4_ok hown (hts _ q_163) (hts _ q_164) (hts _ q_39) hK hG hS hA rfl (fun j hj => by rcases (show j = 0 ∨ j = 1 by omega) with rfl | rfl <;> rfl) (by show 0 + 1 ≤ 2; omega) (by show 0 + 2 ≤ 2 + NN; omega) dX8_newTrack_59 (fun q H hqn hG1 hS => ?_)
    refine lv_dup hx hb dX8_newTrack_62 rfl ?_
    refine lv_iload_n hx hb dX8_newTrack_63 rfl (lv_at hl 1 rfl) ?_
    refine mt_callI (index := 142) hx hb hml hown hts hK (ΩG.mono D) hA hG1 hS hl.1 (tX4_init l D d q x1 NN _ (Q := fun G1 => ∃ c : Nat, G c = none ∧ (∀ (b : Nat) (e : va_E), G b = some e → G1 b = some e) ∧ G1 q = some (trackE 3 x1.toNatClampNeg c) ∧ G1 c = some (arrE d 3 x1.toNatClampNeg (fun _ => 0))) pset_self h0 hN hNN (fun c G1 e1 e2 e3 e4 => ?_)) q_167 q_39 q_165 q_166 rfl nmhX4_init ⟨⟨(Nat.le_of_ble_eq_true rfl), (Nat.le_of_ble_eq_true rfl)⟩, ⟨(Nat.le_of_ble_eq_true rfl), by show 0 + 2 + NN ≤ 2 + NN; omega⟩⟩ rfl (Nat.le_of_ble_eq_true rfl) dX8_newTrack_64 (fun _ u H locs hu hG2 hS => ?_)
    · have hcq : c ≠ q := fun h => by rw [h, pset_self] at e1; cases e1
      refine ⟨c, by rw [← e1, pset_ne hcq], fun b e he => e2 b e (fun h => by rw [h, hqn] at he; cases he) (by rw [pset_ne (fun h => by rw [h, hqn] at he; cases he)]; exact he), ?_, e4⟩
      rw [e3]; show some (Sum.inr (tci 3, [Value.int x1, Value.ref c])) = some (Sum.inr (tci 3, [Value.int (nI x1.toNatClampNeg), Value.ref c])); rw [nI_back h0]
    · obtain ⟨rfl, c1, e1, e2, e3, e4⟩ := hu
      obtain ⟨hn, hR2⟩ := hR.newTk e2 (by decide) hqn e1 e3 e4
      refine W.eq (g2 := F0 m 67 ls [va_rf (some q)]) rfl ?_
      refine mt_reta (o := some q) hx hb hr hlocks (Ω := ΩC D d cp) ⟨u, hG2, hR2⟩ hS (by show 0 + 1 + 1 ≤ 2; omega) (by show 0 + 2 + NN ≤ 2 + NN; omega) dX8_newTrack_67 ⟨_, rfl, ?_⟩
      have := hq q c1 hn
      rw [hkd] at this
      exact this
abbrev rmX1_init : Room := { frames := 1, cells := 1, slots := 40, locals := 20 }
theorem nmhX1_init : NoMH yX1_init 2 := by decide +kernel
set_option maxHeartbeats 4000000 in
set_option maxRecDepth 100000 in
theorem tX1_init (l : Launch) (D : va_G) (d : AC) (a : Nat) (x1 x2 : Int32) (G : Pic) {Q : Pic → Prop} (hg : G a = some (.inr (1, [.int 0, .null]))) (h0 : ¬ x2 < 0) (hN : x2.toNatClampNeg ≤ 40) (hq : ∀ (c : Nat) (G1 : Pic), G c = none → (∀ (b : Nat) (e : va_E), b ≠ a → G b = some e → G1 b = some e) → G1 a = some (combE x1 c) → G1 c = some (rrow (d 5) x2.toNatClampNeg (fun _ => none)) → Q G1) : MT D d (ΩG D) l yX1_init (WS yX1_init cX1_init 3 none) rmX1_init [.ref a, .int x1, .int x2] G (qV Q) := by
  refine mt_of (ΩG.mono D) (by decide +kernel) (Nat.le_of_ble_eq_true rfl) (fun p e s m below meth c A ls hx hb hr hml hown hts hlocks hnm hK hA hw hS hl => ?_)
  have hl : lv_has ls 3 [(0, .ref a), (1, .int x1), (2, .int x2)] := hl
  have hown : s.vm.findClass RX1 = some m.cls := hown
  refine lv_aload_n hx hb dX1_init_0 rfl (lv_at hl 0 rfl) ?_
  refine W.objInit hx hb hown (hts _ q_383) (hts _ q_49) (hts _ q_50) rfl (by rw [hml]; exact hl.1) rfl dX1_init_1 (Nat.le_of_ble_eq_true rfl) (Nat.le_of_ble_eq_true rfl) ?_
  refine W.eq (g2 := F0 m 4 ls []) rfl ?_
  refine lv_aload_n hx hb dX1_init_4 rfl (lv_at hl 0 rfl) ?_
  refine lv_iload_n hx hb dX1_init_5 rfl (lv_at hl 1 rfl) ?_
  refine g_putF (ci := 1) (C := RX1) (T := TX1) (N := 2) hx hb hts inX1 tyX1 tyX1_ok nmX1 hown hK hw hS hg rfl 0 (by decide) (hts _ q_385) (fun _ h9 => h9) rfl hnm rfl (ty := .int) (by decide +kernel) rfl rfl (Nat.le_of_ble_eq_true rfl) dX1_init_6 (fun H locs hw hS => ?_)
  refine lv_aload_n hx hb dX1_init_9 rfl (lv_at hl 0 rfl) ?_
  refine lv_iload_n hx hb dX1_init_10 rfl (lv_at hl 2 rfl) ?_
  refine g_newq (cA := d 5) hx hb hown (hts _ q_384) hK.2.1.1 hK hw hS hA 5 rfl h0 rfl (by omega) (Nat.le_of_ble_eq_true rfl) (by show 0 + _ ≤ 40; omega) dX1_init_11 (fun q H hqn hw hS => ?_)
  have hqa : q ≠ a := fun h => by rw [h, pset_self] at hqn; cases hqn
  have hg2 : pset (pset G a (.inr (1, [.int x1, .null]))) q (rrow (d 5) x2.toNatClampNeg (fun _ => none)) a = some (.inr (1, [.int x1, .null])) := by rw [pset_ne (Ne.symm hqa), pset_self]
  refine g_putF (ci := 1) (C := RX1) (T := TX1) (N := 2) hx hb hts inX1 tyX1 tyX1_ok nmX1 hown hK hw hS hg2 rfl 1 (by decide) (hts _ q_387) (fun _ h9 => h9) rfl hnm rfl (ty := .array (.object "MusicBoxes$Track")) (v := .ref q) (by decide +kernel) rfl rfl (Nat.le_of_ble_eq_true rfl) dX1_init_14 (fun H locs hw hS => ?_)
  refine mt_retv hx hb hr hlocks hw hS (Nat.le_of_ble_eq_true rfl) (by show 0 + _ ≤ 40; omega) dX1_init_17 ⟨rfl, hq q _ ?_ ?_ ?_ ?_⟩
  · rw [← hqn]; exact (pset_ne hqa).symm
  · intro b e hb he
    have hbq : b ≠ q := fun h => by rw [h] at he; have h2 : pset G a (.inr (1, [.int x1, .null])) q = some e := by rw [pset_ne hqa]; exact he
                                    have h3 := hqn.symm.trans h2
                                    cases h3
    rw [pset_ne hb, pset_ne hbq]; show pset G a _ b = some e; rw [pset_ne hb]; exact he
  · exact pset_self
  · rw [pset_ne hqa, pset_self]
section NEWCOMB
variable {p : Program} {l : Launch} {e : Env} {R : Room} {s : State} {m : MethodId} {args : Array Value} {below : List Frame} {meth : Method} {c : Code} {H : Heap} {locs : List Loc} {cells slots : Nat} {Qw : State → Prop} {ls : Array Slot} {D : va_G} {d : AC} {cp : CP} {A : Nat → Prop} {σ : CS}
set_option maxHeartbeats 4000000 in
set_option maxRecDepth 100000 in
theorem c_newComb {x2 x3 : Int32} (hx : p.tables.exec = Jvm.exec) (hb : c.code = cX8_comb) (hml : c.maxLocals = 7) (hown : s.vm.findClass RX8 = some m.cls) (hts : ∀ w ∈ lw_ok, w.before args s = true) (hK : KK D d s) (hA : ∀ q, s.heap.size ≤ q → A q) (hw : ΩC D d cp A σ H) (hS : va_S A s.heap H locs) (hlz : ls.size = 7) (h2 : ls[2]? = some (.val (.int x2))) (h3 : ls[3]? = some (.val (.int x3))) (h0 : ¬ x3 < 0) (hN : x3.toNatClampNeg ≤ 40) (hf1 : 2 ≤ R.frames) (hf2 : 42 ≤ R.locals) (hf3 : cells + 2 ≤ R.cells) (hf4 : slots + 42 ≤ R.slots)
    (kk : ∀ (b te : Nat) (H1 : Heap) (locs1 : List Loc), sCm σ b = none → ΩC D d cp A (pCm σ b (x2, x3.toNatClampNeg, te, fun _ => none)) H1 → va_S A s.heap H1 locs1 → W p l e R s m args below meth c H1 locs1 (cells + 2) (slots + 42) Qw (F0 m 55 ls [.ref b])) : W p l e R s m args below meth c H locs cells slots Qw (F0 m 46 ls []) := by
  obtain ⟨G, hG, hR⟩ := hw
  refine g_new (ci := 1) (fs := [.int 0, .null]) (C := RX1) (T := TX1) (N := 2) hx hb hts inX1 tyX1 tyX1_ok hown (hts _ q_88) (hts _ q_379) (hts _ q_42) hK hG hS hA rfl (fun j hj => by rcases (show j = 0 ∨ j = 1 by omega) with rfl | rfl <;> rfl) (by omega) (by omega) dX8_comb_46 (fun q H hqn hG1 hS => ?_)
  refine lv_dup hx hb dX8_comb_49 rfl ?_
  refine lv_iload_n hx hb dX8_comb_50 rfl h2 ?_
  refine lv_iload_n hx hb dX8_comb_51 rfl h3 ?_
  refine mt_callI (index := 90) hx hb hml hown hts hK (ΩG.mono D) hA hG1 hS hlz (tX1_init l D d q x2 x3 _ (Q := fun G1 => ∃ c : Nat, G c = none ∧ (∀ (b : Nat) (e : va_E), G b = some e → G1 b = some e) ∧ G1 q = some (combE x2 c) ∧ G1 c = some (rrow (d 5) x3.toNatClampNeg (fun _ => none))) pset_self h0 hN (fun c G1 e1 e2 e3 e4 => ?_)) q_382 q_42 q_380 q_381 rfl nmhX1_init ⟨⟨Nat.le_trans (Nat.le_of_ble_eq_true rfl) hf1, Nat.le_trans (Nat.le_of_ble_eq_true rfl) hf2⟩, ⟨by show cells + 1 + 1 ≤ R.cells; omega, by show slots + 2 + 40 ≤ R.slots; omega⟩⟩ rfl (Nat.le_of_ble_eq_true rfl) dX8_comb_52 (fun _ u H locs hu hG2 hS => ?_)
  · have hcq : c ≠ q := fun h => by rw [h, pset_self] at e1; cases e1
    exact ⟨c, by rw [← e1, pset_ne hcq], fun b e he => e2 b e (fun h => by rw [h, hqn] at he; cases he) (by rw [pset_ne (fun h => by rw [h, hqn] at he; cases he)]; exact he), e3, e4⟩
  · obtain ⟨rfl, c1, e1, e2, e3, e4⟩ := hu
    obtain ⟨hn, hR2⟩ := hR.newCm e2 hqn e1 e3 e4
    exact kk q c1 H locs hn ⟨u, hG2, hR2⟩ hS
end NEWCOMB
end
