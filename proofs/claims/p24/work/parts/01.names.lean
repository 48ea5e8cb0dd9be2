-- ===== PART A: goes FIRST, ahead of the names: the tables' words, and 'selects' of the private methods out of them =====
/-- a private method of a class that the tables say can be made, by its rows of tables_1 -/
def lw_okq (q : MethodName × Nat) : Prop := (q.1.cls ≠ "java/lang/invoke/MethodHandle" ∧ q.1.cls ≠ "java/lang/invoke/VarHandle") ∧ Cond.instantiable q.1.cls q.2 ∈ tables_1 ∧ Cond.privateMethod q.1 ∈ tables_1 ∧ Cond.instanceMethod q.1 ∈ tables_1
theorem lw_p0 : lw_okq (⟨"QuireSigns$History", "dropOldest", "()V"⟩, 2) := ⟨⟨by decide +kernel, by decide +kernel⟩, List.mem_of_getElem? (i := 84) (by decide +kernel), List.mem_of_getElem? (i := 190) (by decide +kernel), List.mem_of_getElem? (i := 191) (by decide +kernel)⟩
theorem lw_p1 : lw_okq (⟨"QuireSigns$History", "bookAt", "(I)LQuireSigns$Book;"⟩, 2) := ⟨⟨by decide +kernel, by decide +kernel⟩, List.mem_of_getElem? (i := 84) (by decide +kernel), List.mem_of_getElem? (i := 194) (by decide +kernel), List.mem_of_getElem? (i := 195) (by decide +kernel)⟩
theorem lw_p2 : lw_okq (⟨"QuireSigns$Text", "readEntries", "(LQuireSigns$Alphabet;Z)I"⟩, 6) := ⟨⟨by decide +kernel, by decide +kernel⟩, List.mem_of_getElem? (i := 100) (by decide +kernel), List.mem_of_getElem? (i := 255) (by decide +kernel), List.mem_of_getElem? (i := 256) (by decide +kernel)⟩
theorem lw_p3 : lw_okq (⟨"QuireSigns$Text", "readEntry", "(LQuireSigns$Alphabet;Z)Z"⟩, 6) := ⟨⟨by decide +kernel, by decide +kernel⟩, List.mem_of_getElem? (i := 100) (by decide +kernel), List.mem_of_getElem? (i := 264) (by decide +kernel), List.mem_of_getElem? (i := 265) (by decide +kernel)⟩
theorem lw_p4 : lw_okq (⟨"QuireSigns$Text", "readSign", "(LQuireSigns$Alphabet;)I"⟩, 6) := ⟨⟨by decide +kernel, by decide +kernel⟩, List.mem_of_getElem? (i := 100) (by decide +kernel), List.mem_of_getElem? (i := 268) (by decide +kernel), List.mem_of_getElem? (i := 269) (by decide +kernel)⟩
theorem lw_p5 : lw_okq (⟨"QuireSigns$Text", "readStars", "()I"⟩, 6) := ⟨⟨by decide +kernel, by decide +kernel⟩, List.mem_of_getElem? (i := 100) (by decide +kernel), List.mem_of_getElem? (i := 273) (by decide +kernel), List.mem_of_getElem? (i := 274) (by decide +kernel)⟩
theorem lw_p6 : lw_okq (⟨"QuireSigns$Text", "readLetters", "(LQuireSigns$Alphabet;)I"⟩, 6) := ⟨⟨by decide +kernel, by decide +kernel⟩, List.mem_of_getElem? (i := 100) (by decide +kernel), List.mem_of_getElem? (i := 280) (by decide +kernel), List.mem_of_getElem? (i := 281) (by decide +kernel)⟩
theorem lw_p7 : lw_okq (⟨"QuireSigns$Text", "readLastSign", "(LQuireSigns$Alphabet;I)I"⟩, 6) := ⟨⟨by decide +kernel, by decide +kernel⟩, List.mem_of_getElem? (i := 100) (by decide +kernel), List.mem_of_getElem? (i := 291) (by decide +kernel), List.mem_of_getElem? (i := 292) (by decide +kernel)⟩
theorem lw_p8 : lw_okq (⟨"QuireSigns$Text", "readNumber", "()I"⟩, 6) := ⟨⟨by decide +kernel, by decide +kernel⟩, List.mem_of_getElem? (i := 100) (by decide +kernel), List.mem_of_getElem? (i := 299) (by decide +kernel), List.mem_of_getElem? (i := 300) (by decide +kernel)⟩
theorem lw_p9 : lw_okq (⟨"QuireSigns$Text", "digitAt", "(I)I"⟩, 6) := ⟨⟨by decide +kernel, by decide +kernel⟩, List.mem_of_getElem? (i := 100) (by decide +kernel), List.mem_of_getElem? (i := 303) (by decide +kernel), List.mem_of_getElem? (i := 304) (by decide +kernel)⟩
theorem lw_p10 : lw_okq (⟨"QuireSigns", "quiresOfText", "()I"⟩, 7) := ⟨⟨by decide +kernel, by decide +kernel⟩, List.mem_of_getElem? (i := 13) (by decide +kernel), List.mem_of_getElem? (i := 316) (by decide +kernel), List.mem_of_getElem? (i := 317) (by decide +kernel)⟩
theorem lw_p11 : lw_okq (⟨"QuireSigns", "addEntry", "(I)V"⟩, 7) := ⟨⟨by decide +kernel, by decide +kernel⟩, List.mem_of_getElem? (i := 13) (by decide +kernel), List.mem_of_getElem? (i := 340) (by decide +kernel), List.mem_of_getElem? (i := 341) (by decide +kernel)⟩
theorem lw_p12 : lw_okq (⟨"QuireSigns", "leafHangingWith", "(I)I"⟩, 7) := ⟨⟨by decide +kernel, by decide +kernel⟩, List.mem_of_getElem? (i := 13) (by decide +kernel), List.mem_of_getElem? (i := 496) (by decide +kernel), List.mem_of_getElem? (i := 497) (by decide +kernel)⟩
theorem lw_p13 : lw_okq (⟨"QuireSigns$Writer", "beginEntry", "(I)V"⟩, 2) := ⟨⟨by decide +kernel, by decide +kernel⟩, List.mem_of_getElem? (i := 129) (by decide +kernel), List.mem_of_getElem? (i := 558) (by decide +kernel), List.mem_of_getElem? (i := 559) (by decide +kernel)⟩
theorem lw_p14 : lw_okq (⟨"QuireSigns$Writer", "writeSign", "(I)V"⟩, 2) := ⟨⟨by decide +kernel, by decide +kernel⟩, List.mem_of_getElem? (i := 129) (by decide +kernel), List.mem_of_getElem? (i := 563) (by decide +kernel), List.mem_of_getElem? (i := 564) (by decide +kernel)⟩
theorem lw_p15 : lw_okq (⟨"QuireSigns$Writer", "writeNumber", "(I)V"⟩, 2) := ⟨⟨by decide +kernel, by decide +kernel⟩, List.mem_of_getElem? (i := 129) (by decide +kernel), List.mem_of_getElem? (i := 569) (by decide +kernel), List.mem_of_getElem? (i := 570) (by decide +kernel)⟩
def lw_privs_1 : List (MethodName × Nat) := [(⟨"QuireSigns$History", "dropOldest", "()V"⟩, 2), (⟨"QuireSigns$History", "bookAt", "(I)LQuireSigns$Book;"⟩, 2), (⟨"QuireSigns$Text", "readEntries", "(LQuireSigns$Alphabet;Z)I"⟩, 6), (⟨"QuireSigns$Text", "readEntry", "(LQuireSigns$Alphabet;Z)Z"⟩, 6), (⟨"QuireSigns$Text", "readSign", "(LQuireSigns$Alphabet;)I"⟩, 6), (⟨"QuireSigns$Text", "readStars", "()I"⟩, 6), (⟨"QuireSigns$Text", "readLetters", "(LQuireSigns$Alphabet;)I"⟩, 6), (⟨"QuireSigns$Text", "readLastSign", "(LQuireSigns$Alphabet;I)I"⟩, 6), (⟨"QuireSigns$Text", "readNumber", "()I"⟩, 6), (⟨"QuireSigns$Text", "digitAt", "(I)I"⟩, 6), (⟨"QuireSigns", "quiresOfText", "()I"⟩, 7), (⟨"QuireSigns", "addEntry", "(I)V"⟩, 7), (⟨"QuireSigns", "leafHangingWith", "(I)I"⟩, 7), (⟨"QuireSigns$Writer", "beginEntry", "(I)V"⟩, 2), (⟨"QuireSigns$Writer", "writeSign", "(I)V"⟩, 2), (⟨"QuireSigns$Writer", "writeNumber", "(I)V"⟩, 2)]
theorem lw_r1 : ∀ q ∈ lw_privs_1, lw_okq q := List.forall_mem_cons.mpr ⟨lw_p0, List.forall_mem_cons.mpr ⟨lw_p1, List.forall_mem_cons.mpr ⟨lw_p2, List.forall_mem_cons.mpr ⟨lw_p3, List.forall_mem_cons.mpr ⟨lw_p4, List.forall_mem_cons.mpr ⟨lw_p5, List.forall_mem_cons.mpr ⟨lw_p6, List.forall_mem_cons.mpr ⟨lw_p7, List.forall_mem_cons.mpr ⟨lw_p8, List.forall_mem_cons.mpr ⟨lw_p9, List.forall_mem_cons.mpr ⟨lw_p10, List.forall_mem_cons.mpr ⟨lw_p11, List.forall_mem_cons.mpr ⟨lw_p12, List.forall_mem_cons.mpr ⟨lw_p13, List.forall_mem_cons.mpr ⟨lw_p14, List.forall_mem_cons.mpr ⟨lw_p15, fun _ h => absurd h List.not_mem_nil⟩⟩⟩⟩⟩⟩⟩⟩⟩⟩⟩⟩⟩⟩⟩⟩
def lw_privs : List (MethodName × Nat) := lw_privs_1
def lw_tbl : List Cond := k2_sels lw_privs ++ tables_1
theorem lw_privs_ok : ∀ q ∈ lw_privs, lw_okq q := lw_r1
def RX0 : String := "QuireSigns$Alphabet"
def TX0 : u_T := fun k => match k with
  | _ => ("QuireSigns$Alphabet", "out", "I", false)
def tyX0 : Nat → FieldType := fun k => match k with
  | _ => .int
abbrev wsX00 : List Cond := u_ws RX0 TX0 1
theorem nmX0 : ∀ a, a < 1 → ∀ b, b < 1 → a ≠ b → (TX0 a).2.1 ≠ (TX0 b).2.1 := by decide +kernel
theorem tyX0_ok : ∀ k, k < 1 → parseFieldDescriptor (TX0 k).2.2.1 = some (tyX0 k) := by decide +kernel
abbrev cX0_init : ByteArray := prog_2_method_1_code
def yX0_init : MethodName := ⟨RX0, "<init>", "(I)V"⟩
abbrev cX0_has : ByteArray := prog_2_method_2_code
def yX0_has : MethodName := ⟨RX0, "has", "(I)Z"⟩
abbrev cX0_letters : ByteArray := prog_2_method_3_code
def yX0_letters : MethodName := ⟨RX0, "letters", "()I"⟩
abbrev cX0_turn : ByteArray := prog_2_method_4_code
def yX0_turn : MethodName := ⟨RX0, "turn", "(I)V"⟩
abbrev cX0_nextSign : ByteArray := prog_2_method_5_code
def yX0_nextSign : MethodName := ⟨RX0, "nextSign", "(I)I"⟩
abbrev cX0_signsBetween : ByteArray := prog_2_method_6_code
def yX0_signsBetween : MethodName := ⟨RX0, "signsBetween", "(II)I"⟩
abbrev cX0_become : ByteArray := prog_2_method_7_code
def yX0_become : MethodName := ⟨RX0, "become", "(LQuireSigns$Alphabet;)V"⟩
def RX1 : String := "QuireSigns$Book"
def TX1 : u_T := fun k => match k with
  | 0 => ("QuireSigns$Book", "alphabet", "LQuireSigns$Alphabet;", true)
  | 1 => ("QuireSigns$Book", "signing", "I", false)
  | 2 => ("QuireSigns$Book", "signs", "LQuireSigns$Row;", true)
  | 3 => ("QuireSigns$Book", "sizes", "LQuireSigns$Row;", true)
  | 4 => ("QuireSigns$Book", "lost", "LQuireSigns$Row;", true)
  | _ => ("QuireSigns$Book", "pile", "LQuireSigns$Row;", true)
def tyX1 : Nat → FieldType := fun k => match k with
  | 0 => .object "QuireSigns$Alphabet"
  | 1 => .int
  | 2 => .object "QuireSigns$Row"
  | 3 => .object "QuireSigns$Row"
  | 4 => .object "QuireSigns$Row"
  | _ => .object "QuireSigns$Row"
abbrev wsX10 : List Cond := u_ws RX1 TX1 6
theorem nmX1 : ∀ a, a < 6 → ∀ b, b < 6 → a ≠ b → (TX1 a).2.1 ≠ (TX1 b).2.1 := by decide +kernel
theorem tyX1_ok : ∀ k, k < 6 → parseFieldDescriptor (TX1 k).2.2.1 = some (tyX1 k) := by decide +kernel
abbrev cX1_init : ByteArray := prog_3_method_1_code
def yX1_init : MethodName := ⟨RX1, "<init>", "()V"⟩
abbrev cX1_become : ByteArray := prog_3_method_2_code
def yX1_become : MethodName := ⟨RX1, "become", "(LQuireSigns$Book;)V"⟩
abbrev cX1_quires : ByteArray := prog_3_method_3_code
def yX1_quires : MethodName := ⟨RX1, "quires", "()I"⟩
abbrev cX1_hasQuire : ByteArray := prog_3_method_4_code
def yX1_hasQuire : MethodName := ⟨RX1, "hasQuire", "(I)Z"⟩
abbrev cX1_addQuire : ByteArray := prog_3_method_5_code
def yX1_addQuire : MethodName := ⟨RX1, "addQuire", "(III)V"⟩
abbrev cX1_dropQuire : ByteArray := prog_3_method_6_code
def yX1_dropQuire : MethodName := ⟨RX1, "dropQuire", "(I)V"⟩
abbrev cX1_starredQuires : ByteArray := prog_3_method_7_code
def yX1_starredQuires : MethodName := ⟨RX1, "starredQuires", "()I"⟩
abbrev cX1_sameAhead : ByteArray := prog_3_method_8_code
def yX1_sameAhead : MethodName := ⟨RX1, "sameAhead", "(I)I"⟩
abbrev cX1_lastLettersAhead : ByteArray := prog_3_method_9_code
def yX1_lastLettersAhead : MethodName := ⟨RX1, "lastLettersAhead", "(I)I"⟩
abbrev cX1_firstLeaf : ByteArray := prog_3_method_10_code
def yX1_firstLeaf : MethodName := ⟨RX1, "firstLeaf", "(I)I"⟩
abbrev cX1_leaves : ByteArray := prog_3_method_11_code
def yX1_leaves : MethodName := ⟨RX1, "leaves", "()I"⟩
abbrev cX1_hasLeaf : ByteArray := prog_3_method_12_code
def yX1_hasLeaf : MethodName := ⟨RX1, "hasLeaf", "(I)Z"⟩
abbrev cX1_quireOf : ByteArray := prog_3_method_13_code
def yX1_quireOf : MethodName := ⟨RX1, "quireOf", "(I)I"⟩
abbrev cX1_numberOf : ByteArray := prog_3_method_14_code
def yX1_numberOf : MethodName := ⟨RX1, "numberOf", "(I)I"⟩
abbrev cX1_signedIn : ByteArray := prog_3_method_15_code
def yX1_signedIn : MethodName := ⟨RX1, "signedIn", "(I)I"⟩
abbrev cX1_signedLeaves : ByteArray := prog_3_method_16_code
def yX1_signedLeaves : MethodName := ⟨RX1, "signedLeaves", "()I"⟩
abbrev cX1_isLost : ByteArray := prog_3_method_17_code
def yX1_isLost : MethodName := ⟨RX1, "isLost", "(I)Z"⟩
abbrev cX1_turnLost : ByteArray := prog_3_method_18_code
def yX1_turnLost : MethodName := ⟨RX1, "turnLost", "(I)V"⟩
abbrev cX1_thereIn : ByteArray := prog_3_method_19_code
def yX1_thereIn : MethodName := ⟨RX1, "thereIn", "(I)I"⟩
abbrev cX1_thereAhead : ByteArray := prog_3_method_20_code
def yX1_thereAhead : MethodName := ⟨RX1, "thereAhead", "(I)I"⟩
abbrev cX1_leavesThere : ByteArray := prog_3_method_21_code
def yX1_leavesThere : MethodName := ⟨RX1, "leavesThere", "()I"⟩
abbrev cX1_leafSigned : ByteArray := prog_3_method_22_code
def yX1_leafSigned : MethodName := ⟨RX1, "leafSigned", "(II)I"⟩
def RX2 : String := "QuireSigns$History"
def TX2 : u_T := fun k => match k with
  | 0 => ("QuireSigns$History", "books", "[LQuireSigns$Book;", true)
  | _ => ("QuireSigns$History", "states", "I", false)
def tyX2 : Nat → FieldType := fun k => match k with
  | 0 => .array (.object "QuireSigns$Book")
  | _ => .int
abbrev wsX20 : List Cond := u_ws RX2 TX2 2
theorem nmX2 : ∀ a, a < 2 → ∀ b, b < 2 → a ≠ b → (TX2 a).2.1 ≠ (TX2 b).2.1 := by decide +kernel
theorem tyX2_ok : ∀ k, k < 2 → parseFieldDescriptor (TX2 k).2.2.1 = some (tyX2 k) := by decide +kernel
abbrev cX2_init : ByteArray := prog_4_method_1_code
def yX2_init : MethodName := ⟨RX2, "<init>", "()V"⟩
abbrev cX2_states : ByteArray := prog_4_method_2_code
def yX2_states : MethodName := ⟨RX2, "states", "()I"⟩
abbrev cX2_record : ByteArray := prog_4_method_3_code
def yX2_record : MethodName := ⟨RX2, "record", "(LQuireSigns$Book;)V"⟩
abbrev cX2_takeBack : ByteArray := prog_4_method_4_code
def yX2_takeBack : MethodName := ⟨RX2, "takeBack", "(LQuireSigns$Book;)V"⟩
abbrev cX2_bookAt : ByteArray := prog_4_method_5_code
def yX2_bookAt : MethodName := ⟨RX2, "bookAt", "(I)LQuireSigns$Book;"⟩
abbrev cX2_dropOldest : ByteArray := prog_4_method_6_code
def yX2_dropOldest : MethodName := ⟨RX2, "dropOldest", "()V"⟩
def RX3 : String := "QuireSigns$Lapses"
def TX3 : u_T := fun k => match k with
  | _ => ("", "", "", false)
def tyX3 : Nat → FieldType := fun k => match k with
  | _ => .int
abbrev wsX30 : List Cond := u_ws RX3 TX3 0
theorem nmX3 : ∀ a, a < 0 → ∀ b, b < 0 → a ≠ b → (TX3 a).2.1 ≠ (TX3 b).2.1 := by decide +kernel
theorem tyX3_ok : ∀ k, k < 0 → parseFieldDescriptor (TX3 k).2.2.1 = some (tyX3 k) := by decide +kernel
abbrev cX3_kind : ByteArray := prog_5_method_2_code
def yX3_kind : MethodName := ⟨RX3, "kind", "(LQuireSigns$Book;I)I"⟩
abbrev cX3_width : ByteArray := prog_5_method_3_code
def yX3_width : MethodName := ⟨RX3, "width", "(LQuireSigns$Book;I)I"⟩
abbrev cX3_number : ByteArray := prog_5_method_4_code
def yX3_number : MethodName := ⟨RX3, "number", "(LQuireSigns$Book;)I"⟩
abbrev cX3_quireAt : ByteArray := prog_5_method_5_code
def yX3_quireAt : MethodName := ⟨RX3, "quireAt", "(LQuireSigns$Book;I)I"⟩
def RX4 : String := "QuireSigns$Row"
def TX4 : u_T := fun k => match k with
  | 0 => ("QuireSigns$Row", "cells", "[I", true)
  | _ => ("QuireSigns$Row", "length", "I", false)
def tyX4 : Nat → FieldType := fun k => match k with
  | 0 => .array .int
  | _ => .int
abbrev wsX40 : List Cond := u_ws RX4 TX4 2
theorem nmX4 : ∀ a, a < 2 → ∀ b, b < 2 → a ≠ b → (TX4 a).2.1 ≠ (TX4 b).2.1 := by decide +kernel
theorem tyX4_ok : ∀ k, k < 2 → parseFieldDescriptor (TX4 k).2.2.1 = some (tyX4 k) := by decide +kernel
abbrev cX4_init : ByteArray := prog_6_method_1_code
def yX4_init : MethodName := ⟨RX4, "<init>", "(I)V"⟩
abbrev cX4_length : ByteArray := prog_6_method_2_code
def yX4_length : MethodName := ⟨RX4, "length", "()I"⟩
abbrev cX4_at : ByteArray := prog_6_method_3_code
def yX4_at : MethodName := ⟨RX4, "at", "(I)I"⟩
abbrev cX4_set : ByteArray := prog_6_method_5_code
def yX4_set : MethodName := ⟨RX4, "set", "(II)V"⟩
abbrev cX4_add : ByteArray := prog_6_method_6_code
def yX4_add : MethodName := ⟨RX4, "add", "(I)V"⟩
abbrev cX4_addAt : ByteArray := prog_6_method_7_code
def yX4_addAt : MethodName := ⟨RX4, "addAt", "(II)V"⟩
abbrev cX4_drop : ByteArray := prog_6_method_8_code
def yX4_drop : MethodName := ⟨RX4, "drop", "(I)V"⟩
abbrev cX4_empty : ByteArray := prog_6_method_9_code
def yX4_empty : MethodName := ⟨RX4, "empty", "()V"⟩
abbrev cX4_become : ByteArray := prog_6_method_10_code
def yX4_become : MethodName := ⟨RX4, "become", "(LQuireSigns$Row;)V"⟩
def RX5 : String := "QuireSigns$Sign"
def TX5 : u_T := fun k => match k with
  | _ => ("", "", "", false)
def tyX5 : Nat → FieldType := fun k => match k with
  | _ => .int
abbrev wsX50 : List Cond := u_ws RX5 TX5 0
theorem nmX5 : ∀ a, a < 0 → ∀ b, b < 0 → a ≠ b → (TX5 a).2.1 ≠ (TX5 b).2.1 := by decide +kernel
theorem tyX5_ok : ∀ k, k < 0 → parseFieldDescriptor (TX5 k).2.2.1 = some (tyX5 k) := by decide +kernel
abbrev cX5_ofLetters : ByteArray := prog_7_method_2_code
def yX5_ofLetters : MethodName := ⟨RX5, "ofLetters", "(II)I"⟩
abbrev cX5_ofStars : ByteArray := prog_7_method_3_code
def yX5_ofStars : MethodName := ⟨RX5, "ofStars", "(I)I"⟩
abbrev cX5_isStarred : ByteArray := prog_7_method_4_code
def yX5_isStarred : MethodName := ⟨RX5, "isStarred", "(I)Z"⟩
abbrev cX5_letter : ByteArray := prog_7_method_5_code
def yX5_letter : MethodName := ⟨RX5, "letter", "(I)I"⟩
abbrev cX5_times : ByteArray := prog_7_method_6_code
def yX5_times : MethodName := ⟨RX5, "times", "(I)I"⟩
def RX6 : String := "QuireSigns$Text"
def TX6 : u_T := fun k => match k with
  | 0 => ("QuireSigns$Text", "characters", "LQuireSigns$Row;", true)
  | 1 => ("QuireSigns$Text", "firstSigns", "LQuireSigns$Row;", true)
  | 2 => ("QuireSigns$Text", "lastSigns", "LQuireSigns$Row;", true)
  | 3 => ("QuireSigns$Text", "numbers", "LQuireSigns$Row;", true)
  | 4 => ("QuireSigns$Text", "allLetters", "LQuireSigns$Alphabet;", true)
  | _ => ("QuireSigns$Text", "at", "I", false)
def tyX6 : Nat → FieldType := fun k => match k with
  | 0 => .object "QuireSigns$Row"
  | 1 => .object "QuireSigns$Row"
  | 2 => .object "QuireSigns$Row"
  | 3 => .object "QuireSigns$Row"
  | 4 => .object "QuireSigns$Alphabet"
  | _ => .int
abbrev wsX60 : List Cond := u_ws RX6 TX6 6
theorem nmX6 : ∀ a, a < 6 → ∀ b, b < 6 → a ≠ b → (TX6 a).2.1 ≠ (TX6 b).2.1 := by decide +kernel
theorem tyX6_ok : ∀ k, k < 6 → parseFieldDescriptor (TX6 k).2.2.1 = some (tyX6 k) := by decide +kernel
abbrev cX6_init : ByteArray := prog_8_method_1_code
def yX6_init : MethodName := ⟨RX6, "<init>", "()V"⟩
abbrev cX6_length : ByteArray := prog_8_method_2_code
def yX6_length : MethodName := ⟨RX6, "length", "()I"⟩
abbrev cX6_add : ByteArray := prog_8_method_3_code
def yX6_add : MethodName := ⟨RX6, "add", "(C)V"⟩
abbrev cX6_empty : ByteArray := prog_8_method_4_code
def yX6_empty : MethodName := ⟨RX6, "empty", "()V"⟩
abbrev cX6_entries : ByteArray := prog_8_method_5_code
def yX6_entries : MethodName := ⟨RX6, "entries", "()I"⟩
abbrev cX6_firstSign : ByteArray := prog_8_method_6_code
def yX6_firstSign : MethodName := ⟨RX6, "firstSign", "(I)I"⟩
abbrev cX6_lastSign : ByteArray := prog_8_method_7_code
def yX6_lastSign : MethodName := ⟨RX6, "lastSign", "(I)I"⟩
abbrev cX6_number : ByteArray := prog_8_method_8_code
def yX6_number : MethodName := ⟨RX6, "number", "(I)I"⟩
abbrev cX6_readAsFormula : ByteArray := prog_8_method_9_code
def yX6_readAsFormula : MethodName := ⟨RX6, "readAsFormula", "(LQuireSigns$Alphabet;)I"⟩
abbrev cX6_readAsPile : ByteArray := prog_8_method_10_code
def yX6_readAsPile : MethodName := ⟨RX6, "readAsPile", "()I"⟩
abbrev cX6_readEntries : ByteArray := prog_8_method_11_code
def yX6_readEntries : MethodName := ⟨RX6, "readEntries", "(LQuireSigns$Alphabet;Z)I"⟩
abbrev cX6_readEntry : ByteArray := prog_8_method_12_code
def yX6_readEntry : MethodName := ⟨RX6, "readEntry", "(LQuireSigns$Alphabet;Z)Z"⟩
abbrev cX6_readSign : ByteArray := prog_8_method_13_code
def yX6_readSign : MethodName := ⟨RX6, "readSign", "(LQuireSigns$Alphabet;)I"⟩
abbrev cX6_readStars : ByteArray := prog_8_method_14_code
def yX6_readStars : MethodName := ⟨RX6, "readStars", "()I"⟩
abbrev cX6_readLetters : ByteArray := prog_8_method_15_code
def yX6_readLetters : MethodName := ⟨RX6, "readLetters", "(LQuireSigns$Alphabet;)I"⟩
abbrev cX6_readLastSign : ByteArray := prog_8_method_16_code
def yX6_readLastSign : MethodName := ⟨RX6, "readLastSign", "(LQuireSigns$Alphabet;I)I"⟩
abbrev cX6_readNumber : ByteArray := prog_8_method_17_code
def yX6_readNumber : MethodName := ⟨RX6, "readNumber", "()I"⟩
abbrev cX6_digitAt : ByteArray := prog_8_method_18_code
def yX6_digitAt : MethodName := ⟨RX6, "digitAt", "(I)I"⟩
def RX7 : String := "QuireSigns$Writer"
def TX7 : u_T := fun k => match k with
  | 0 => ("QuireSigns$Writer", "characters", "LQuireSigns$Row;", true)
  | _ => ("QuireSigns$Writer", "entries", "I", false)
def tyX7 : Nat → FieldType := fun k => match k with
  | 0 => .object "QuireSigns$Row"
  | _ => .int
abbrev wsX70 : List Cond := u_ws RX7 TX7 2
theorem nmX7 : ∀ a, a < 2 → ∀ b, b < 2 → a ≠ b → (TX7 a).2.1 ≠ (TX7 b).2.1 := by decide +kernel
theorem tyX7_ok : ∀ k, k < 2 → parseFieldDescriptor (TX7 k).2.2.1 = some (tyX7 k) := by decide +kernel
abbrev cX7_init : ByteArray := prog_9_method_1_code
def yX7_init : MethodName := ⟨RX7, "<init>", "()V"⟩
abbrev cX7_length : ByteArray := prog_9_method_2_code
def yX7_length : MethodName := ⟨RX7, "length", "()I"⟩
abbrev cX7_characterAt : ByteArray := prog_9_method_3_code
def yX7_characterAt : MethodName := ⟨RX7, "characterAt", "(I)I"⟩
abbrev cX7_entries : ByteArray := prog_9_method_4_code
def yX7_entries : MethodName := ⟨RX7, "entries", "()I"⟩
abbrev cX7_write : ByteArray := prog_9_method_5_code
def yX7_write : MethodName := ⟨RX7, "write", "(LQuireSigns$Book;)V"⟩
abbrev cX7_goesOn : ByteArray := prog_9_method_6_code
def yX7_goesOn : MethodName := ⟨RX7, "goesOn", "(LQuireSigns$Book;I)Z"⟩
abbrev cX7_beginEntry : ByteArray := prog_9_method_7_code
def yX7_beginEntry : MethodName := ⟨RX7, "beginEntry", "(I)V"⟩
abbrev cX7_writeSign : ByteArray := prog_9_method_8_code
def yX7_writeSign : MethodName := ⟨RX7, "writeSign", "(I)V"⟩
abbrev cX7_writeNumber : ByteArray := prog_9_method_9_code
def yX7_writeNumber : MethodName := ⟨RX7, "writeNumber", "(I)V"⟩
def RX8 : String := "QuireSigns"
def TX8 : u_T := fun k => match k with
  | 0 => ("QuireSigns", "book", "LQuireSigns$Book;", true)
  | 1 => ("QuireSigns", "snapshot", "LQuireSigns$Book;", true)
  | 2 => ("QuireSigns", "snapshotTaken", "Z", false)
  | 3 => ("QuireSigns", "history", "LQuireSigns$History;", true)
  | 4 => ("QuireSigns", "text", "LQuireSigns$Text;", true)
  | 5 => ("QuireSigns", "writer", "LQuireSigns$Writer;", true)
  | _ => ("QuireSigns", "found", "LQuireSigns$Row;", true)
def tyX8 : Nat → FieldType := fun k => match k with
  | 0 => .object "QuireSigns$Book"
  | 1 => .object "QuireSigns$Book"
  | 2 => .boolean
  | 3 => .object "QuireSigns$History"
  | 4 => .object "QuireSigns$Text"
  | 5 => .object "QuireSigns$Writer"
  | _ => .object "QuireSigns$Row"
abbrev wsX80 : List Cond := u_ws RX8 TX8 7
theorem nmX8 : ∀ a, a < 7 → ∀ b, b < 7 → a ≠ b → (TX8 a).2.1 ≠ (TX8 b).2.1 := by decide +kernel
theorem tyX8_ok : ∀ k, k < 7 → parseFieldDescriptor (TX8 k).2.2.1 = some (tyX8 k) := by decide +kernel
abbrev cX8_init : ByteArray := prog_1_method_1_code
def yX8_init : MethodName := ⟨RX8, "<init>", "()V"⟩
abbrev cX8_leaveOut : ByteArray := prog_1_method_2_code
def yX8_leaveOut : MethodName := ⟨RX8, "leaveOut", "(CZ)I"⟩
abbrev cX8_setSigning : ByteArray := prog_1_method_3_code
def yX8_setSigning : MethodName := ⟨RX8, "setSigning", "(I)I"⟩
abbrev cX8_readFormula : ByteArray := prog_1_method_4_code
def yX8_readFormula : MethodName := ⟨RX8, "readFormula", "()I"⟩
abbrev cX8_signNext : ByteArray := prog_1_method_5_code
def yX8_signNext : MethodName := ⟨RX8, "signNext", "(I)I"⟩
abbrev cX8_insert : ByteArray := prog_1_method_6_code
def yX8_insert : MethodName := ⟨RX8, "insert", "(III)I"⟩
abbrev cX8_remove : ByteArray := prog_1_method_7_code
def yX8_remove : MethodName := ⟨RX8, "remove", "(I)I"⟩
abbrev cX8_lose : ByteArray := prog_1_method_8_code
def yX8_lose : MethodName := ⟨RX8, "lose", "(IZ)I"⟩
abbrev cX8_type : ByteArray := prog_1_method_10_code
def yX8_type : MethodName := ⟨RX8, "type", "(C)I"⟩
abbrev cX8_clearText : ByteArray := prog_1_method_11_code
def yX8_clearText : MethodName := ⟨RX8, "clearText", "()I"⟩
abbrev cX8_undo : ByteArray := prog_1_method_12_code
def yX8_undo : MethodName := ⟨RX8, "undo", "()I"⟩
abbrev cX8_restore : ByteArray := prog_1_method_14_code
def yX8_restore : MethodName := ⟨RX8, "restore", "()I"⟩
abbrev cX8_quire : ByteArray := prog_1_method_15_code
def yX8_quire : MethodName := ⟨RX8, "quire", "(II)I"⟩
abbrev cX8_leaf : ByteArray := prog_1_method_16_code
def yX8_leaf : MethodName := ⟨RX8, "leaf", "(II)I"⟩
abbrev cX8_find : ByteArray := prog_1_method_17_code
def yX8_find : MethodName := ⟨RX8, "find", "()I"⟩
abbrev cX8_lapse : ByteArray := prog_1_method_18_code
def yX8_lapse : MethodName := ⟨RX8, "lapse", "(II)I"⟩
abbrev cX8_piled : ByteArray := prog_1_method_19_code
def yX8_piled : MethodName := ⟨RX8, "piled", "(II)I"⟩
abbrev cX8_sheets : ByteArray := prog_1_method_20_code
def yX8_sheets : MethodName := ⟨RX8, "sheets", "(I)I"⟩
abbrev cX8_formula : ByteArray := prog_1_method_21_code
def yX8_formula : MethodName := ⟨RX8, "formula", "(I)I"⟩
abbrev cX8_count : ByteArray := prog_1_method_22_code
def yX8_count : MethodName := ⟨RX8, "count", "(I)I"⟩
abbrev cX8_isQuireSize : ByteArray := prog_1_method_23_code
def yX8_isQuireSize : MethodName := ⟨RX8, "isQuireSize", "(I)Z"⟩
abbrev cX8_quiresOfText : ByteArray := prog_1_method_24_code
def yX8_quiresOfText : MethodName := ⟨RX8, "quiresOfText", "()I"⟩
abbrev cX8_addEntry : ByteArray := prog_1_method_25_code
def yX8_addEntry : MethodName := ⟨RX8, "addEntry", "(I)V"⟩
abbrev cX8_leafHangingWith : ByteArray := prog_1_method_28_code
def yX8_leafHangingWith : MethodName := ⟨RX8, "leafHangingWith", "(I)I"⟩
def RX9 : String := "QuireSignsModel"
def TX9 : u_T := fun k => match k with
  | _ => ("", "", "", false)
def tyX9 : Nat → FieldType := fun k => match k with
  | _ => .int
abbrev wsX90 : List Cond := u_ws RX9 TX9 0
theorem nmX9 : ∀ a, a < 0 → ∀ b, b < 0 → a ≠ b → (TX9 a).2.1 ≠ (TX9 b).2.1 := by decide +kernel
theorem tyX9_ok : ∀ k, k < 0 → parseFieldDescriptor (TX9 k).2.2.1 = some (tyX9 k) := by decide +kernel
def RJ6 : String := "java/lang/Integer"
def TJ6 : u_T := fun k => match k with
  | _ => ("", "", "", false)
def tyJ6 : Nat → FieldType := fun k => match k with
  | _ => .int
abbrev wsJ60 : List Cond := u_ws RJ6 TJ6 0
theorem nmJ6 : ∀ a, a < 0 → ∀ b, b < 0 → a ≠ b → (TJ6 a).2.1 ≠ (TJ6 b).2.1 := by decide +kernel
theorem tyJ6_ok : ∀ k, k < 0 → parseFieldDescriptor (TJ6 k).2.2.1 = some (tyJ6 k) := by decide +kernel
abbrev cJ6_bitCount_0f7a4 : ByteArray := prog_12_method_49_code
def yJ6_bitCount_0f7a4 : MethodName := ⟨RJ6, "bitCount", "(I)I"⟩
def RJ9 : String := "java/lang/Math"
def TJ9 : u_T := fun k => match k with
  | _ => ("", "", "", false)
def tyJ9 : Nat → FieldType := fun k => match k with
  | _ => .int
abbrev wsJ90 : List Cond := u_ws RJ9 TJ9 0
theorem nmJ9 : ∀ a, a < 0 → ∀ b, b < 0 → a ≠ b → (TJ9 a).2.1 ≠ (TJ9 b).2.1 := by decide +kernel
theorem tyJ9_ok : ∀ k, k < 0 → parseFieldDescriptor (TJ9 k).2.2.1 = some (tyJ9 k) := by decide +kernel
abbrev cJ9_max_7cf53 : ByteArray := prog_13_method_65_code
def yJ9_max_7cf53 : MethodName := ⟨RJ9, "max", "(II)I"⟩
abbrev cJ9_min_7cf53 : ByteArray := prog_13_method_69_code
def yJ9_min_7cf53 : MethodName := ⟨RJ9, "min", "(II)I"⟩
def RL : String := "QuireSignsLaw"
abbrev cL_cell : ByteArray := method_2_code
def yL_cell : MethodName := ⟨RL, "cell", "([II)I"⟩
abbrev cL_hangs : ByteArray := method_3_code
def yL_hangs : MethodName := ⟨RL, "hangs", "(LQuireSigns;)Z"⟩
abbrev cL_again : ByteArray := method_4_code
def yL_again : MethodName := ⟨RL, "again", "(LQuireSigns;)Z"⟩
abbrev cL_isOut : ByteArray := method_5_code
def yL_isOut : MethodName := ⟨RL, "isOut", "(LQuireSigns;C)Z"⟩
abbrev cL_law : ByteArray := code
def yL_law : MethodName := ⟨RL, "law", "([I)Z"⟩
/-! the words that stay at a call: every word of the tables but those of nest mates -/
def gw : List Cond := lw_tbl.filter goodWord
theorem gw_good : GoodIn gw gw := fun w h => ⟨h, good_of_word (List.mem_filter.mp h).2⟩
theorem gw_at {w : Cond} (i : Nat) (h : lw_tbl[i]? = some w) (hg : goodWord w = true) : w ∈ gw := List.mem_filter.mpr ⟨List.mem_of_getElem? h, hg⟩
theorem tw_0 : Cond.selects "QuireSigns$History" ⟨"QuireSigns$History", "dropOldest", "()V"⟩ ⟨"QuireSigns$History", "dropOldest", "()V"⟩ ∈ gw := gw_at 0 rfl rfl
theorem tw_1 : Cond.selects "QuireSigns$History" ⟨"QuireSigns$History", "bookAt", "(I)LQuireSigns$Book;"⟩ ⟨"QuireSigns$History", "bookAt", "(I)LQuireSigns$Book;"⟩ ∈ gw := gw_at 1 rfl rfl
theorem tw_2 : Cond.selects "QuireSigns$Text" ⟨"QuireSigns$Text", "readEntries", "(LQuireSigns$Alphabet;Z)I"⟩ ⟨"QuireSigns$Text", "readEntries", "(LQuireSigns$Alphabet;Z)I"⟩ ∈ gw := gw_at 2 rfl rfl
theorem tw_3 : Cond.selects "QuireSigns$Text" ⟨"QuireSigns$Text", "readEntry", "(LQuireSigns$Alphabet;Z)Z"⟩ ⟨"QuireSigns$Text", "readEntry", "(LQuireSigns$Alphabet;Z)Z"⟩ ∈ gw := gw_at 3 rfl rfl
theorem tw_4 : Cond.selects "QuireSigns$Text" ⟨"QuireSigns$Text", "readSign", "(LQuireSigns$Alphabet;)I"⟩ ⟨"QuireSigns$Text", "readSign", "(LQuireSigns$Alphabet;)I"⟩ ∈ gw := gw_at 4 rfl rfl
theorem tw_5 : Cond.selects "QuireSigns$Text" ⟨"QuireSigns$Text", "readStars", "()I"⟩ ⟨"QuireSigns$Text", "readStars", "()I"⟩ ∈ gw := gw_at 5 rfl rfl
theorem tw_6 : Cond.selects "QuireSigns$Text" ⟨"QuireSigns$Text", "readLetters", "(LQuireSigns$Alphabet;)I"⟩ ⟨"QuireSigns$Text", "readLetters", "(LQuireSigns$Alphabet;)I"⟩ ∈ gw := gw_at 6 rfl rfl
theorem tw_7 : Cond.selects "QuireSigns$Text" ⟨"QuireSigns$Text", "readLastSign", "(LQuireSigns$Alphabet;I)I"⟩ ⟨"QuireSigns$Text", "readLastSign", "(LQuireSigns$Alphabet;I)I"⟩ ∈ gw := gw_at 7 rfl rfl
theorem tw_8 : Cond.selects "QuireSigns$Text" ⟨"QuireSigns$Text", "readNumber", "()I"⟩ ⟨"QuireSigns$Text", "readNumber", "()I"⟩ ∈ gw := gw_at 8 rfl rfl
theorem tw_9 : Cond.selects "QuireSigns$Text" ⟨"QuireSigns$Text", "digitAt", "(I)I"⟩ ⟨"QuireSigns$Text", "digitAt", "(I)I"⟩ ∈ gw := gw_at 9 rfl rfl
theorem tw_10 : Cond.selects "QuireSigns" ⟨"QuireSigns", "quiresOfText", "()I"⟩ ⟨"QuireSigns", "quiresOfText", "()I"⟩ ∈ gw := gw_at 10 rfl rfl
theorem tw_11 : Cond.selects "QuireSigns" ⟨"QuireSigns", "addEntry", "(I)V"⟩ ⟨"QuireSigns", "addEntry", "(I)V"⟩ ∈ gw := gw_at 11 rfl rfl
theorem tw_12 : Cond.selects "QuireSigns" ⟨"QuireSigns", "leafHangingWith", "(I)I"⟩ ⟨"QuireSigns", "leafHangingWith", "(I)I"⟩ ∈ gw := gw_at 12 rfl rfl
theorem tw_13 : Cond.selects "QuireSigns$Writer" ⟨"QuireSigns$Writer", "beginEntry", "(I)V"⟩ ⟨"QuireSigns$Writer", "beginEntry", "(I)V"⟩ ∈ gw := gw_at 13 rfl rfl
theorem tw_14 : Cond.selects "QuireSigns$Writer" ⟨"QuireSigns$Writer", "writeSign", "(I)V"⟩ ⟨"QuireSigns$Writer", "writeSign", "(I)V"⟩ ∈ gw := gw_at 14 rfl rfl
theorem tw_15 : Cond.selects "QuireSigns$Writer" ⟨"QuireSigns$Writer", "writeNumber", "(I)V"⟩ ⟨"QuireSigns$Writer", "writeNumber", "(I)V"⟩ ∈ gw := gw_at 15 rfl rfl
theorem tw_16 : Jvm.Cond.initialized "QuireSignsLaw" ∈ gw := gw_at 16 rfl rfl
theorem tw_17 : Jvm.Cond.initialized "QuireSigns" ∈ gw := gw_at 17 rfl rfl
theorem tw_18 : Jvm.Cond.initialized "QuireSigns$Book" ∈ gw := gw_at 18 rfl rfl
theorem tw_19 : Jvm.Cond.initialized "QuireSigns$Alphabet" ∈ gw := gw_at 19 rfl rfl
theorem tw_20 : Jvm.Cond.initialized "QuireSigns$Row" ∈ gw := gw_at 20 rfl rfl
theorem tw_21 : Jvm.Cond.initialized "java/lang/Math" ∈ gw := gw_at 21 rfl rfl
theorem tw_22 : Jvm.Cond.initialized "QuireSigns$History" ∈ gw := gw_at 22 rfl rfl
theorem tw_23 : Jvm.Cond.initialized "QuireSigns$Text" ∈ gw := gw_at 23 rfl rfl
theorem tw_24 : Jvm.Cond.initialized "QuireSigns$Writer" ∈ gw := gw_at 24 rfl rfl
theorem tw_25 : Jvm.Cond.initialized "java/lang/Integer" ∈ gw := gw_at 25 rfl rfl
theorem tw_26 : Jvm.Cond.initialized "QuireSigns$Sign" ∈ gw := gw_at 26 rfl rfl
theorem tw_27 : Jvm.Cond.initialized "QuireSigns$Lapses" ∈ gw := gw_at 27 rfl rfl
theorem tw_28 : Jvm.Cond.classLink "QuireSignsLaw" (10 : Nat) "QuireSigns" ∈ gw := gw_at 28 rfl rfl
theorem tw_29 : Jvm.Cond.instantiable "QuireSigns" (7 : Nat) ∈ gw := gw_at 29 rfl rfl
theorem tw_30 : Jvm.Cond.methodLink "QuireSignsLaw" (31 : Nat) ({ cls := "QuireSigns", name := "<init>", desc := "()V" } : Jvm.MethodName) ∈ gw := gw_at 30 rfl rfl
theorem tw_31 : Jvm.Cond.instanceMethod ({ cls := "QuireSigns", name := "<init>", desc := "()V" } : Jvm.MethodName) ∈ gw := gw_at 31 rfl rfl
theorem tw_32 : Jvm.Cond.code ({ cls := "QuireSigns", name := "<init>", desc := "()V" } : Jvm.MethodName) prog_1_method_1_code (1 : Nat) (Option.none : Option Jvm.ClassFile.FieldType) ∈ gw := gw_at 32 rfl rfl
theorem tw_33 : Jvm.Cond.methodLink "QuireSigns" (3 : Nat) ({ cls := "java/lang/Object", name := "<init>", desc := "()V" } : Jvm.MethodName) ∈ gw := gw_at 33 rfl rfl
theorem tw_34 : Jvm.Cond.instanceMethod ({ cls := "java/lang/Object", name := "<init>", desc := "()V" } : Jvm.MethodName) ∈ gw := gw_at 34 rfl rfl
theorem tw_35 : Jvm.Cond.code ({ cls := "java/lang/Object", name := "<init>", desc := "()V" } : Jvm.MethodName) object_method_1_code (1 : Nat) (Option.none : Option Jvm.ClassFile.FieldType) ∈ gw := gw_at 35 rfl rfl
theorem tw_36 : Jvm.Cond.classLink "QuireSigns" (9 : Nat) "QuireSigns$Book" ∈ gw := gw_at 36 rfl rfl
theorem tw_37 : Jvm.Cond.instantiable "QuireSigns$Book" (6 : Nat) ∈ gw := gw_at 37 rfl rfl
theorem tw_39 : Jvm.Cond.instanceMethod ({ cls := "QuireSigns$Book", name := "<init>", desc := "()V" } : Jvm.MethodName) ∈ gw := gw_at 39 rfl rfl
theorem tw_40 : Jvm.Cond.code ({ cls := "QuireSigns$Book", name := "<init>", desc := "()V" } : Jvm.MethodName) prog_3_method_1_code (1 : Nat) (Option.none : Option Jvm.ClassFile.FieldType) ∈ gw := gw_at 40 rfl rfl
theorem tw_41 : Jvm.Cond.methodLink "QuireSigns$Book" (3 : Nat) ({ cls := "java/lang/Object", name := "<init>", desc := "()V" } : Jvm.MethodName) ∈ gw := gw_at 41 rfl rfl
theorem tw_42 : Jvm.Cond.classLink "QuireSigns$Book" (9 : Nat) "QuireSigns$Alphabet" ∈ gw := gw_at 42 rfl rfl
theorem tw_43 : Jvm.Cond.instantiable "QuireSigns$Alphabet" (1 : Nat) ∈ gw := gw_at 43 rfl rfl
theorem tw_44 : Jvm.Cond.constant "QuireSigns$Book" (11 : Nat) (6291968 : Int32) ∈ gw := gw_at 44 rfl rfl
theorem tw_45 : Jvm.Cond.methodLink "QuireSigns$Book" (12 : Nat) ({ cls := "QuireSigns$Alphabet", name := "<init>", desc := "(I)V" } : Jvm.MethodName) ∈ gw := gw_at 45 rfl rfl
theorem tw_46 : Jvm.Cond.instanceMethod ({ cls := "QuireSigns$Alphabet", name := "<init>", desc := "(I)V" } : Jvm.MethodName) ∈ gw := gw_at 46 rfl rfl
theorem tw_47 : Jvm.Cond.code ({ cls := "QuireSigns$Alphabet", name := "<init>", desc := "(I)V" } : Jvm.MethodName) prog_2_method_1_code (2 : Nat) (Option.none : Option Jvm.ClassFile.FieldType) ∈ gw := gw_at 47 rfl rfl
theorem tw_48 : Jvm.Cond.methodLink "QuireSigns$Alphabet" (1 : Nat) ({ cls := "java/lang/Object", name := "<init>", desc := "()V" } : Jvm.MethodName) ∈ gw := gw_at 48 rfl rfl
theorem tw_49 : Jvm.Cond.fieldLink "QuireSigns$Alphabet" (7 : Nat) "QuireSigns$Alphabet" "out" "I" ∈ gw := gw_at 49 rfl rfl
theorem tw_50 : Jvm.Cond.lays "QuireSigns$Alphabet" "QuireSigns$Alphabet" "out" "I" ∈ gw := gw_at 50 rfl rfl
theorem tw_53 : Jvm.Cond.classLink "QuireSigns$Book" (25 : Nat) "QuireSigns$Row" ∈ gw := gw_at 53 rfl rfl
theorem tw_54 : Jvm.Cond.instantiable "QuireSigns$Row" (2 : Nat) ∈ gw := gw_at 54 rfl rfl
theorem tw_55 : Jvm.Cond.methodLink "QuireSigns$Book" (27 : Nat) ({ cls := "QuireSigns$Row", name := "<init>", desc := "(I)V" } : Jvm.MethodName) ∈ gw := gw_at 55 rfl rfl
theorem tw_56 : Jvm.Cond.instanceMethod ({ cls := "QuireSigns$Row", name := "<init>", desc := "(I)V" } : Jvm.MethodName) ∈ gw := gw_at 56 rfl rfl
theorem tw_57 : Jvm.Cond.code ({ cls := "QuireSigns$Row", name := "<init>", desc := "(I)V" } : Jvm.MethodName) prog_6_method_1_code (2 : Nat) (Option.none : Option Jvm.ClassFile.FieldType) ∈ gw := gw_at 57 rfl rfl
theorem tw_58 : Jvm.Cond.methodLink "QuireSigns$Row" (1 : Nat) ({ cls := "java/lang/Object", name := "<init>", desc := "()V" } : Jvm.MethodName) ∈ gw := gw_at 58 rfl rfl
theorem tw_59 : Jvm.Cond.methodLink "QuireSigns$Row" (7 : Nat) ({ cls := "java/lang/Math", name := "max", desc := "(II)I" } : Jvm.MethodName) ∈ gw := gw_at 59 rfl rfl
theorem tw_60 : Jvm.Cond.static ({ cls := "java/lang/Math", name := "max", desc := "(II)I" } : Jvm.MethodName) ∈ gw := gw_at 60 rfl rfl
theorem tw_61 : Jvm.Cond.code ({ cls := "java/lang/Math", name := "max", desc := "(II)I" } : Jvm.MethodName) prog_13_method_65_code (2 : Nat) (Option.some Jvm.ClassFile.FieldType.int) ∈ gw := gw_at 61 rfl rfl
theorem tw_62 : Jvm.Cond.fieldLink "QuireSigns$Row" (13 : Nat) "QuireSigns$Row" "cells" "[I" ∈ gw := gw_at 62 rfl rfl
theorem tw_63 : Jvm.Cond.fieldLink "QuireSigns$Row" (19 : Nat) "QuireSigns$Row" "length" "I" ∈ gw := gw_at 63 rfl rfl
theorem tw_64 : Jvm.Cond.laysFinal "QuireSigns$Row" "QuireSigns$Row" "cells" "[I" ∈ gw := gw_at 64 rfl rfl
theorem tw_66 : Jvm.Cond.lays "QuireSigns$Row" "QuireSigns$Row" "length" "I" ∈ gw := gw_at 66 rfl rfl
theorem tw_69 : Jvm.Cond.arrayClass Jvm.ClassFile.FieldType.int ∈ gw := gw_at 69 rfl rfl
theorem tw_70 : Jvm.Cond.fieldLink "QuireSigns$Book" (15 : Nat) "QuireSigns$Book" "alphabet" "LQuireSigns$Alphabet;" ∈ gw := gw_at 70 rfl rfl
theorem tw_74 : Jvm.Cond.fieldLink "QuireSigns$Book" (21 : Nat) "QuireSigns$Book" "signing" "I" ∈ gw := gw_at 74 rfl rfl
theorem tw_76 : Jvm.Cond.fieldLink "QuireSigns$Book" (28 : Nat) "QuireSigns$Book" "signs" "LQuireSigns$Row;" ∈ gw := gw_at 76 rfl rfl
theorem tw_80 : Jvm.Cond.fieldLink "QuireSigns$Book" (32 : Nat) "QuireSigns$Book" "sizes" "LQuireSigns$Row;" ∈ gw := gw_at 80 rfl rfl
theorem tw_83 : Jvm.Cond.fieldLink "QuireSigns$Book" (35 : Nat) "QuireSigns$Book" "lost" "LQuireSigns$Row;" ∈ gw := gw_at 83 rfl rfl
theorem tw_84 : Jvm.Cond.fieldLink "QuireSigns$Book" (38 : Nat) "QuireSigns$Book" "pile" "LQuireSigns$Row;" ∈ gw := gw_at 84 rfl rfl
theorem tw_86 : Jvm.Cond.laysFinal "QuireSigns$Book" "QuireSigns$Book" "alphabet" "LQuireSigns$Alphabet;" ∈ gw := gw_at 86 rfl rfl
theorem tw_88 : Jvm.Cond.lays "QuireSigns$Book" "QuireSigns$Book" "signing" "I" ∈ gw := gw_at 88 rfl rfl
theorem tw_90 : Jvm.Cond.laysFinal "QuireSigns$Book" "QuireSigns$Book" "signs" "LQuireSigns$Row;" ∈ gw := gw_at 90 rfl rfl
theorem tw_92 : Jvm.Cond.laysFinal "QuireSigns$Book" "QuireSigns$Book" "sizes" "LQuireSigns$Row;" ∈ gw := gw_at 92 rfl rfl
theorem tw_94 : Jvm.Cond.laysFinal "QuireSigns$Book" "QuireSigns$Book" "lost" "LQuireSigns$Row;" ∈ gw := gw_at 94 rfl rfl
theorem tw_96 : Jvm.Cond.laysFinal "QuireSigns$Book" "QuireSigns$Book" "pile" "LQuireSigns$Row;" ∈ gw := gw_at 96 rfl rfl
theorem tw_99 : Jvm.Cond.classLink "QuireSigns" (19 : Nat) "QuireSigns$History" ∈ gw := gw_at 99 rfl rfl
theorem tw_100 : Jvm.Cond.instantiable "QuireSigns$History" (2 : Nat) ∈ gw := gw_at 100 rfl rfl
theorem tw_101 : Jvm.Cond.methodLink "QuireSigns" (21 : Nat) ({ cls := "QuireSigns$History", name := "<init>", desc := "()V" } : Jvm.MethodName) ∈ gw := gw_at 101 rfl rfl
theorem tw_102 : Jvm.Cond.instanceMethod ({ cls := "QuireSigns$History", name := "<init>", desc := "()V" } : Jvm.MethodName) ∈ gw := gw_at 102 rfl rfl
theorem tw_103 : Jvm.Cond.code ({ cls := "QuireSigns$History", name := "<init>", desc := "()V" } : Jvm.MethodName) prog_4_method_1_code (2 : Nat) (Option.none : Option Jvm.ClassFile.FieldType) ∈ gw := gw_at 103 rfl rfl
theorem tw_104 : Jvm.Cond.methodLink "QuireSigns$History" (3 : Nat) ({ cls := "java/lang/Object", name := "<init>", desc := "()V" } : Jvm.MethodName) ∈ gw := gw_at 104 rfl rfl
theorem tw_105 : Jvm.Cond.classLink "QuireSigns$History" (9 : Nat) "QuireSigns$Book" ∈ gw := gw_at 105 rfl rfl
theorem tw_108 : Jvm.Cond.fieldLink "QuireSigns$History" (11 : Nat) "QuireSigns$History" "books" "[LQuireSigns$Book;" ∈ gw := gw_at 108 rfl rfl
theorem tw_109 : Jvm.Cond.fieldLink "QuireSigns$History" (18 : Nat) "QuireSigns$History" "states" "I" ∈ gw := gw_at 109 rfl rfl
theorem tw_110 : Jvm.Cond.laysFinal "QuireSigns$History" "QuireSigns$History" "books" "[LQuireSigns$Book;" ∈ gw := gw_at 110 rfl rfl
theorem tw_112 : Jvm.Cond.lays "QuireSigns$History" "QuireSigns$History" "states" "I" ∈ gw := gw_at 112 rfl rfl
theorem tw_115 : Jvm.Cond.classLink "QuireSigns" (26 : Nat) "QuireSigns$Text" ∈ gw := gw_at 115 rfl rfl
theorem tw_116 : Jvm.Cond.instantiable "QuireSigns$Text" (6 : Nat) ∈ gw := gw_at 116 rfl rfl
theorem tw_118 : Jvm.Cond.instanceMethod ({ cls := "QuireSigns$Text", name := "<init>", desc := "()V" } : Jvm.MethodName) ∈ gw := gw_at 118 rfl rfl
theorem tw_119 : Jvm.Cond.code ({ cls := "QuireSigns$Text", name := "<init>", desc := "()V" } : Jvm.MethodName) prog_8_method_1_code (1 : Nat) (Option.none : Option Jvm.ClassFile.FieldType) ∈ gw := gw_at 119 rfl rfl
theorem tw_120 : Jvm.Cond.methodLink "QuireSigns$Text" (3 : Nat) ({ cls := "java/lang/Object", name := "<init>", desc := "()V" } : Jvm.MethodName) ∈ gw := gw_at 120 rfl rfl
theorem tw_121 : Jvm.Cond.classLink "QuireSigns$Text" (9 : Nat) "QuireSigns$Row" ∈ gw := gw_at 121 rfl rfl
theorem tw_122 : Jvm.Cond.methodLink "QuireSigns$Text" (11 : Nat) ({ cls := "QuireSigns$Row", name := "<init>", desc := "(I)V" } : Jvm.MethodName) ∈ gw := gw_at 122 rfl rfl
theorem tw_123 : Jvm.Cond.classLink "QuireSigns$Text" (29 : Nat) "QuireSigns$Alphabet" ∈ gw := gw_at 123 rfl rfl
theorem tw_124 : Jvm.Cond.methodLink "QuireSigns$Text" (31 : Nat) ({ cls := "QuireSigns$Alphabet", name := "<init>", desc := "(I)V" } : Jvm.MethodName) ∈ gw := gw_at 124 rfl rfl
theorem tw_125 : Jvm.Cond.fieldLink "QuireSigns$Text" (14 : Nat) "QuireSigns$Text" "characters" "LQuireSigns$Row;" ∈ gw := gw_at 125 rfl rfl
theorem tw_126 : Jvm.Cond.fieldLink "QuireSigns$Text" (20 : Nat) "QuireSigns$Text" "firstSigns" "LQuireSigns$Row;" ∈ gw := gw_at 126 rfl rfl
theorem tw_127 : Jvm.Cond.fieldLink "QuireSigns$Text" (23 : Nat) "QuireSigns$Text" "lastSigns" "LQuireSigns$Row;" ∈ gw := gw_at 127 rfl rfl
theorem tw_128 : Jvm.Cond.fieldLink "QuireSigns$Text" (26 : Nat) "QuireSigns$Text" "numbers" "LQuireSigns$Row;" ∈ gw := gw_at 128 rfl rfl
theorem tw_129 : Jvm.Cond.fieldLink "QuireSigns$Text" (32 : Nat) "QuireSigns$Text" "allLetters" "LQuireSigns$Alphabet;" ∈ gw := gw_at 129 rfl rfl
theorem tw_130 : Jvm.Cond.fieldLink "QuireSigns$Text" (54 : Nat) "QuireSigns$Text" "at" "I" ∈ gw := gw_at 130 rfl rfl
theorem tw_131 : Jvm.Cond.laysFinal "QuireSigns$Text" "QuireSigns$Text" "characters" "LQuireSigns$Row;" ∈ gw := gw_at 131 rfl rfl
theorem tw_133 : Jvm.Cond.laysFinal "QuireSigns$Text" "QuireSigns$Text" "firstSigns" "LQuireSigns$Row;" ∈ gw := gw_at 133 rfl rfl
theorem tw_135 : Jvm.Cond.laysFinal "QuireSigns$Text" "QuireSigns$Text" "lastSigns" "LQuireSigns$Row;" ∈ gw := gw_at 135 rfl rfl
theorem tw_137 : Jvm.Cond.laysFinal "QuireSigns$Text" "QuireSigns$Text" "numbers" "LQuireSigns$Row;" ∈ gw := gw_at 137 rfl rfl
theorem tw_139 : Jvm.Cond.laysFinal "QuireSigns$Text" "QuireSigns$Text" "allLetters" "LQuireSigns$Alphabet;" ∈ gw := gw_at 139 rfl rfl
theorem tw_141 : Jvm.Cond.lays "QuireSigns$Text" "QuireSigns$Text" "at" "I" ∈ gw := gw_at 141 rfl rfl
theorem tw_144 : Jvm.Cond.classLink "QuireSigns" (33 : Nat) "QuireSigns$Writer" ∈ gw := gw_at 144 rfl rfl
theorem tw_145 : Jvm.Cond.instantiable "QuireSigns$Writer" (2 : Nat) ∈ gw := gw_at 145 rfl rfl
theorem tw_147 : Jvm.Cond.instanceMethod ({ cls := "QuireSigns$Writer", name := "<init>", desc := "()V" } : Jvm.MethodName) ∈ gw := gw_at 147 rfl rfl
theorem tw_148 : Jvm.Cond.code ({ cls := "QuireSigns$Writer", name := "<init>", desc := "()V" } : Jvm.MethodName) prog_9_method_1_code (1 : Nat) (Option.none : Option Jvm.ClassFile.FieldType) ∈ gw := gw_at 148 rfl rfl
theorem tw_149 : Jvm.Cond.methodLink "QuireSigns$Writer" (3 : Nat) ({ cls := "java/lang/Object", name := "<init>", desc := "()V" } : Jvm.MethodName) ∈ gw := gw_at 149 rfl rfl
theorem tw_150 : Jvm.Cond.classLink "QuireSigns$Writer" (9 : Nat) "QuireSigns$Row" ∈ gw := gw_at 150 rfl rfl
theorem tw_151 : Jvm.Cond.methodLink "QuireSigns$Writer" (11 : Nat) ({ cls := "QuireSigns$Row", name := "<init>", desc := "(I)V" } : Jvm.MethodName) ∈ gw := gw_at 151 rfl rfl
theorem tw_152 : Jvm.Cond.fieldLink "QuireSigns$Writer" (14 : Nat) "QuireSigns$Writer" "characters" "LQuireSigns$Row;" ∈ gw := gw_at 152 rfl rfl
theorem tw_153 : Jvm.Cond.fieldLink "QuireSigns$Writer" (28 : Nat) "QuireSigns$Writer" "entries" "I" ∈ gw := gw_at 153 rfl rfl
theorem tw_154 : Jvm.Cond.laysFinal "QuireSigns$Writer" "QuireSigns$Writer" "characters" "LQuireSigns$Row;" ∈ gw := gw_at 154 rfl rfl
theorem tw_156 : Jvm.Cond.lays "QuireSigns$Writer" "QuireSigns$Writer" "entries" "I" ∈ gw := gw_at 156 rfl rfl
theorem tw_159 : Jvm.Cond.classLink "QuireSigns" (40 : Nat) "QuireSigns$Row" ∈ gw := gw_at 159 rfl rfl
theorem tw_160 : Jvm.Cond.methodLink "QuireSigns" (42 : Nat) ({ cls := "QuireSigns$Row", name := "<init>", desc := "(I)V" } : Jvm.MethodName) ∈ gw := gw_at 160 rfl rfl
theorem tw_161 : Jvm.Cond.fieldLink "QuireSigns" (12 : Nat) "QuireSigns" "book" "LQuireSigns$Book;" ∈ gw := gw_at 161 rfl rfl
theorem tw_162 : Jvm.Cond.fieldLink "QuireSigns" (16 : Nat) "QuireSigns" "snapshot" "LQuireSigns$Book;" ∈ gw := gw_at 162 rfl rfl
theorem tw_163 : Jvm.Cond.fieldLink "QuireSigns" (173 : Nat) "QuireSigns" "snapshotTaken" "Z" ∈ gw := gw_at 163 rfl rfl
theorem tw_164 : Jvm.Cond.fieldLink "QuireSigns" (22 : Nat) "QuireSigns" "history" "LQuireSigns$History;" ∈ gw := gw_at 164 rfl rfl
theorem tw_165 : Jvm.Cond.fieldLink "QuireSigns" (29 : Nat) "QuireSigns" "text" "LQuireSigns$Text;" ∈ gw := gw_at 165 rfl rfl
theorem tw_166 : Jvm.Cond.fieldLink "QuireSigns" (36 : Nat) "QuireSigns" "writer" "LQuireSigns$Writer;" ∈ gw := gw_at 166 rfl rfl
theorem tw_167 : Jvm.Cond.fieldLink "QuireSigns" (45 : Nat) "QuireSigns" "found" "LQuireSigns$Row;" ∈ gw := gw_at 167 rfl rfl
theorem tw_168 : Jvm.Cond.laysFinal "QuireSigns" "QuireSigns" "book" "LQuireSigns$Book;" ∈ gw := gw_at 168 rfl rfl
theorem tw_170 : Jvm.Cond.laysFinal "QuireSigns" "QuireSigns" "snapshot" "LQuireSigns$Book;" ∈ gw := gw_at 170 rfl rfl
theorem tw_172 : Jvm.Cond.lays "QuireSigns" "QuireSigns" "snapshotTaken" "Z" ∈ gw := gw_at 172 rfl rfl
theorem tw_174 : Jvm.Cond.laysFinal "QuireSigns" "QuireSigns" "history" "LQuireSigns$History;" ∈ gw := gw_at 174 rfl rfl
theorem tw_176 : Jvm.Cond.laysFinal "QuireSigns" "QuireSigns" "text" "LQuireSigns$Text;" ∈ gw := gw_at 176 rfl rfl
theorem tw_178 : Jvm.Cond.laysFinal "QuireSigns" "QuireSigns" "writer" "LQuireSigns$Writer;" ∈ gw := gw_at 178 rfl rfl
theorem tw_180 : Jvm.Cond.laysFinal "QuireSigns" "QuireSigns" "found" "LQuireSigns$Row;" ∈ gw := gw_at 180 rfl rfl
theorem tw_183 : Jvm.Cond.methodLink "QuireSignsLaw" (38 : Nat) ({ cls := "QuireSigns", name := "leaveOut", desc := "(CZ)I" } : Jvm.MethodName) ∈ gw := gw_at 183 rfl rfl
theorem tw_184 : Jvm.Cond.instanceMethod ({ cls := "QuireSigns", name := "leaveOut", desc := "(CZ)I" } : Jvm.MethodName) ∈ gw := gw_at 184 rfl rfl
theorem tw_185 : Jvm.Cond.selects "QuireSigns" ({ cls := "QuireSigns", name := "leaveOut", desc := "(CZ)I" } : Jvm.MethodName) ({ cls := "QuireSigns", name := "leaveOut", desc := "(CZ)I" } : Jvm.MethodName) ∈ gw := gw_at 185 rfl rfl
theorem tw_186 : Jvm.Cond.code ({ cls := "QuireSigns", name := "leaveOut", desc := "(CZ)I" } : Jvm.MethodName) prog_1_method_2_code (5 : Nat) (Option.some Jvm.ClassFile.FieldType.int) ∈ gw := gw_at 186 rfl rfl
theorem tw_187 : Jvm.Cond.methodLink "QuireSigns" (55 : Nat) ({ cls := "QuireSigns$Alphabet", name := "has", desc := "(I)Z" } : Jvm.MethodName) ∈ gw := gw_at 187 rfl rfl
theorem tw_188 : Jvm.Cond.instanceMethod ({ cls := "QuireSigns$Alphabet", name := "has", desc := "(I)Z" } : Jvm.MethodName) ∈ gw := gw_at 188 rfl rfl
theorem tw_189 : Jvm.Cond.selects "QuireSigns$Alphabet" ({ cls := "QuireSigns$Alphabet", name := "has", desc := "(I)Z" } : Jvm.MethodName) ({ cls := "QuireSigns$Alphabet", name := "has", desc := "(I)Z" } : Jvm.MethodName) ∈ gw := gw_at 189 rfl rfl
theorem tw_190 : Jvm.Cond.code ({ cls := "QuireSigns$Alphabet", name := "has", desc := "(I)Z" } : Jvm.MethodName) prog_2_method_2_code (2 : Nat) (Option.some Jvm.ClassFile.FieldType.boolean) ∈ gw := gw_at 190 rfl rfl
theorem tw_191 : Jvm.Cond.methodLink "QuireSigns" (61 : Nat) ({ cls := "QuireSigns$Alphabet", name := "letters", desc := "()I" } : Jvm.MethodName) ∈ gw := gw_at 191 rfl rfl
theorem tw_192 : Jvm.Cond.instanceMethod ({ cls := "QuireSigns$Alphabet", name := "letters", desc := "()I" } : Jvm.MethodName) ∈ gw := gw_at 192 rfl rfl
theorem tw_193 : Jvm.Cond.selects "QuireSigns$Alphabet" ({ cls := "QuireSigns$Alphabet", name := "letters", desc := "()I" } : Jvm.MethodName) ({ cls := "QuireSigns$Alphabet", name := "letters", desc := "()I" } : Jvm.MethodName) ∈ gw := gw_at 193 rfl rfl
theorem tw_194 : Jvm.Cond.code ({ cls := "QuireSigns$Alphabet", name := "letters", desc := "()I" } : Jvm.MethodName) prog_2_method_3_code (1 : Nat) (Option.some Jvm.ClassFile.FieldType.int) ∈ gw := gw_at 194 rfl rfl
theorem tw_195 : Jvm.Cond.methodLink "QuireSigns$Alphabet" (15 : Nat) ({ cls := "java/lang/Integer", name := "bitCount", desc := "(I)I" } : Jvm.MethodName) ∈ gw := gw_at 195 rfl rfl
theorem tw_196 : Jvm.Cond.static ({ cls := "java/lang/Integer", name := "bitCount", desc := "(I)I" } : Jvm.MethodName) ∈ gw := gw_at 196 rfl rfl
theorem tw_197 : Jvm.Cond.code ({ cls := "java/lang/Integer", name := "bitCount", desc := "(I)I" } : Jvm.MethodName) prog_12_method_49_code (1 : Nat) (Option.some Jvm.ClassFile.FieldType.int) ∈ gw := gw_at 197 rfl rfl
theorem tw_198 : Jvm.Cond.constant "java/lang/Integer" (265 : Nat) (1431655765 : Int32) ∈ gw := gw_at 198 rfl rfl
theorem tw_199 : Jvm.Cond.constant "java/lang/Integer" (266 : Nat) (858993459 : Int32) ∈ gw := gw_at 199 rfl rfl
theorem tw_200 : Jvm.Cond.constant "java/lang/Integer" (267 : Nat) (252645135 : Int32) ∈ gw := gw_at 200 rfl rfl
theorem tw_201 : Jvm.Cond.methodLink "QuireSigns" (65 : Nat) ({ cls := "QuireSigns$History", name := "record", desc := "(LQuireSigns$Book;)V" } : Jvm.MethodName) ∈ gw := gw_at 201 rfl rfl
theorem tw_202 : Jvm.Cond.instanceMethod ({ cls := "QuireSigns$History", name := "record", desc := "(LQuireSigns$Book;)V" } : Jvm.MethodName) ∈ gw := gw_at 202 rfl rfl
theorem tw_203 : Jvm.Cond.selects "QuireSigns$History" ({ cls := "QuireSigns$History", name := "record", desc := "(LQuireSigns$Book;)V" } : Jvm.MethodName) ({ cls := "QuireSigns$History", name := "record", desc := "(LQuireSigns$Book;)V" } : Jvm.MethodName) ∈ gw := gw_at 203 rfl rfl
theorem tw_204 : Jvm.Cond.code ({ cls := "QuireSigns$History", name := "record", desc := "(LQuireSigns$Book;)V" } : Jvm.MethodName) prog_4_method_3_code (3 : Nat) (Option.none : Option Jvm.ClassFile.FieldType) ∈ gw := gw_at 204 rfl rfl
theorem tw_205 : Jvm.Cond.methodLink "QuireSigns$History" (22 : Nat) ({ cls := "QuireSigns$History", name := "dropOldest", desc := "()V" } : Jvm.MethodName) ∈ gw := gw_at 205 rfl rfl
theorem tw_207 : Jvm.Cond.instanceMethod ({ cls := "QuireSigns$History", name := "dropOldest", desc := "()V" } : Jvm.MethodName) ∈ gw := gw_at 207 rfl rfl
theorem tw_208 : Jvm.Cond.code ({ cls := "QuireSigns$History", name := "dropOldest", desc := "()V" } : Jvm.MethodName) prog_4_method_6_code (3 : Nat) (Option.none : Option Jvm.ClassFile.FieldType) ∈ gw := gw_at 208 rfl rfl
theorem tw_209 : Jvm.Cond.methodLink "QuireSigns$History" (25 : Nat) ({ cls := "QuireSigns$History", name := "bookAt", desc := "(I)LQuireSigns$Book;" } : Jvm.MethodName) ∈ gw := gw_at 209 rfl rfl
theorem tw_211 : Jvm.Cond.instanceMethod ({ cls := "QuireSigns$History", name := "bookAt", desc := "(I)LQuireSigns$Book;" } : Jvm.MethodName) ∈ gw := gw_at 211 rfl rfl
theorem tw_212 : Jvm.Cond.code ({ cls := "QuireSigns$History", name := "bookAt", desc := "(I)LQuireSigns$Book;" } : Jvm.MethodName) prog_4_method_5_code (2 : Nat) (Option.some (Jvm.ClassFile.FieldType.object "QuireSigns$Book")) ∈ gw := gw_at 212 rfl rfl
theorem tw_213 : Jvm.Cond.methodLink "QuireSigns$History" (29 : Nat) ({ cls := "QuireSigns$Book", name := "become", desc := "(LQuireSigns$Book;)V" } : Jvm.MethodName) ∈ gw := gw_at 213 rfl rfl
theorem tw_214 : Jvm.Cond.instanceMethod ({ cls := "QuireSigns$Book", name := "become", desc := "(LQuireSigns$Book;)V" } : Jvm.MethodName) ∈ gw := gw_at 214 rfl rfl
theorem tw_215 : Jvm.Cond.selects "QuireSigns$Book" ({ cls := "QuireSigns$Book", name := "become", desc := "(LQuireSigns$Book;)V" } : Jvm.MethodName) ({ cls := "QuireSigns$Book", name := "become", desc := "(LQuireSigns$Book;)V" } : Jvm.MethodName) ∈ gw := gw_at 215 rfl rfl
theorem tw_216 : Jvm.Cond.code ({ cls := "QuireSigns$Book", name := "become", desc := "(LQuireSigns$Book;)V" } : Jvm.MethodName) prog_3_method_2_code (2 : Nat) (Option.none : Option Jvm.ClassFile.FieldType) ∈ gw := gw_at 216 rfl rfl
theorem tw_217 : Jvm.Cond.methodLink "QuireSigns$Book" (41 : Nat) ({ cls := "QuireSigns$Alphabet", name := "become", desc := "(LQuireSigns$Alphabet;)V" } : Jvm.MethodName) ∈ gw := gw_at 217 rfl rfl
theorem tw_218 : Jvm.Cond.instanceMethod ({ cls := "QuireSigns$Alphabet", name := "become", desc := "(LQuireSigns$Alphabet;)V" } : Jvm.MethodName) ∈ gw := gw_at 218 rfl rfl
theorem tw_219 : Jvm.Cond.selects "QuireSigns$Alphabet" ({ cls := "QuireSigns$Alphabet", name := "become", desc := "(LQuireSigns$Alphabet;)V" } : Jvm.MethodName) ({ cls := "QuireSigns$Alphabet", name := "become", desc := "(LQuireSigns$Alphabet;)V" } : Jvm.MethodName) ∈ gw := gw_at 219 rfl rfl
theorem tw_220 : Jvm.Cond.code ({ cls := "QuireSigns$Alphabet", name := "become", desc := "(LQuireSigns$Alphabet;)V" } : Jvm.MethodName) prog_2_method_7_code (2 : Nat) (Option.none : Option Jvm.ClassFile.FieldType) ∈ gw := gw_at 220 rfl rfl
theorem tw_221 : Jvm.Cond.methodLink "QuireSigns$Book" (45 : Nat) ({ cls := "QuireSigns$Row", name := "become", desc := "(LQuireSigns$Row;)V" } : Jvm.MethodName) ∈ gw := gw_at 221 rfl rfl
theorem tw_222 : Jvm.Cond.instanceMethod ({ cls := "QuireSigns$Row", name := "become", desc := "(LQuireSigns$Row;)V" } : Jvm.MethodName) ∈ gw := gw_at 222 rfl rfl
theorem tw_223 : Jvm.Cond.selects "QuireSigns$Row" ({ cls := "QuireSigns$Row", name := "become", desc := "(LQuireSigns$Row;)V" } : Jvm.MethodName) ({ cls := "QuireSigns$Row", name := "become", desc := "(LQuireSigns$Row;)V" } : Jvm.MethodName) ∈ gw := gw_at 223 rfl rfl
theorem tw_224 : Jvm.Cond.code ({ cls := "QuireSigns$Row", name := "become", desc := "(LQuireSigns$Row;)V" } : Jvm.MethodName) prog_6_method_10_code (3 : Nat) (Option.none : Option Jvm.ClassFile.FieldType) ∈ gw := gw_at 224 rfl rfl
theorem tw_225 : Jvm.Cond.methodLink "QuireSigns$Row" (34 : Nat) ({ cls := "java/lang/Math", name := "min", desc := "(II)I" } : Jvm.MethodName) ∈ gw := gw_at 225 rfl rfl
theorem tw_226 : Jvm.Cond.static ({ cls := "java/lang/Math", name := "min", desc := "(II)I" } : Jvm.MethodName) ∈ gw := gw_at 226 rfl rfl
theorem tw_227 : Jvm.Cond.code ({ cls := "java/lang/Math", name := "min", desc := "(II)I" } : Jvm.MethodName) prog_13_method_69_code (2 : Nat) (Option.some Jvm.ClassFile.FieldType.int) ∈ gw := gw_at 227 rfl rfl
theorem tw_228 : Jvm.Cond.methodLink "QuireSigns$Row" (23 : Nat) ({ cls := "QuireSigns$Row", name := "at", desc := "(I)I" } : Jvm.MethodName) ∈ gw := gw_at 228 rfl rfl
theorem tw_229 : Jvm.Cond.instanceMethod ({ cls := "QuireSigns$Row", name := "at", desc := "(I)I" } : Jvm.MethodName) ∈ gw := gw_at 229 rfl rfl
theorem tw_230 : Jvm.Cond.selects "QuireSigns$Row" ({ cls := "QuireSigns$Row", name := "at", desc := "(I)I" } : Jvm.MethodName) ({ cls := "QuireSigns$Row", name := "at", desc := "(I)I" } : Jvm.MethodName) ∈ gw := gw_at 230 rfl rfl
theorem tw_231 : Jvm.Cond.code ({ cls := "QuireSigns$Row", name := "at", desc := "(I)I" } : Jvm.MethodName) prog_6_method_3_code (2 : Nat) (Option.some Jvm.ClassFile.FieldType.int) ∈ gw := gw_at 231 rfl rfl
theorem tw_232 : Jvm.Cond.methodLink "QuireSigns$Row" (31 : Nat) ({ cls := "QuireSigns$Row", name := "set", desc := "(II)V" } : Jvm.MethodName) ∈ gw := gw_at 232 rfl rfl
theorem tw_233 : Jvm.Cond.instanceMethod ({ cls := "QuireSigns$Row", name := "set", desc := "(II)V" } : Jvm.MethodName) ∈ gw := gw_at 233 rfl rfl
theorem tw_234 : Jvm.Cond.selects "QuireSigns$Row" ({ cls := "QuireSigns$Row", name := "set", desc := "(II)V" } : Jvm.MethodName) ({ cls := "QuireSigns$Row", name := "set", desc := "(II)V" } : Jvm.MethodName) ∈ gw := gw_at 234 rfl rfl
theorem tw_235 : Jvm.Cond.code ({ cls := "QuireSigns$Row", name := "set", desc := "(II)V" } : Jvm.MethodName) prog_6_method_5_code (3 : Nat) (Option.none : Option Jvm.ClassFile.FieldType) ∈ gw := gw_at 235 rfl rfl
theorem tw_236 : Jvm.Cond.methodLink "QuireSigns" (69 : Nat) ({ cls := "QuireSigns$Alphabet", name := "turn", desc := "(I)V" } : Jvm.MethodName) ∈ gw := gw_at 236 rfl rfl
theorem tw_237 : Jvm.Cond.instanceMethod ({ cls := "QuireSigns$Alphabet", name := "turn", desc := "(I)V" } : Jvm.MethodName) ∈ gw := gw_at 237 rfl rfl
theorem tw_238 : Jvm.Cond.selects "QuireSigns$Alphabet" ({ cls := "QuireSigns$Alphabet", name := "turn", desc := "(I)V" } : Jvm.MethodName) ({ cls := "QuireSigns$Alphabet", name := "turn", desc := "(I)V" } : Jvm.MethodName) ∈ gw := gw_at 238 rfl rfl
theorem tw_239 : Jvm.Cond.code ({ cls := "QuireSigns$Alphabet", name := "turn", desc := "(I)V" } : Jvm.MethodName) prog_2_method_4_code (2 : Nat) (Option.none : Option Jvm.ClassFile.FieldType) ∈ gw := gw_at 239 rfl rfl
theorem tw_240 : Jvm.Cond.methodLink "QuireSignsLaw" (77 : Nat) ({ cls := "QuireSigns", name := "setSigning", desc := "(I)I" } : Jvm.MethodName) ∈ gw := gw_at 240 rfl rfl
theorem tw_241 : Jvm.Cond.instanceMethod ({ cls := "QuireSigns", name := "setSigning", desc := "(I)I" } : Jvm.MethodName) ∈ gw := gw_at 241 rfl rfl
theorem tw_242 : Jvm.Cond.selects "QuireSigns" ({ cls := "QuireSigns", name := "setSigning", desc := "(I)I" } : Jvm.MethodName) ({ cls := "QuireSigns", name := "setSigning", desc := "(I)I" } : Jvm.MethodName) ∈ gw := gw_at 242 rfl rfl
theorem tw_243 : Jvm.Cond.code ({ cls := "QuireSigns", name := "setSigning", desc := "(I)I" } : Jvm.MethodName) prog_1_method_3_code (2 : Nat) (Option.some Jvm.ClassFile.FieldType.int) ∈ gw := gw_at 243 rfl rfl
theorem tw_244 : Jvm.Cond.methodLink "QuireSigns" (76 : Nat) ({ cls := "QuireSigns$Book", name := "signedLeaves", desc := "()I" } : Jvm.MethodName) ∈ gw := gw_at 244 rfl rfl
theorem tw_245 : Jvm.Cond.instanceMethod ({ cls := "QuireSigns$Book", name := "signedLeaves", desc := "()I" } : Jvm.MethodName) ∈ gw := gw_at 245 rfl rfl
theorem tw_246 : Jvm.Cond.selects "QuireSigns$Book" ({ cls := "QuireSigns$Book", name := "signedLeaves", desc := "()I" } : Jvm.MethodName) ({ cls := "QuireSigns$Book", name := "signedLeaves", desc := "()I" } : Jvm.MethodName) ∈ gw := gw_at 246 rfl rfl
theorem tw_247 : Jvm.Cond.code ({ cls := "QuireSigns$Book", name := "signedLeaves", desc := "()I" } : Jvm.MethodName) prog_3_method_16_code (3 : Nat) (Option.some Jvm.ClassFile.FieldType.int) ∈ gw := gw_at 247 rfl rfl
theorem tw_248 : Jvm.Cond.methodLink "QuireSigns$Book" (52 : Nat) ({ cls := "QuireSigns$Book", name := "quires", desc := "()I" } : Jvm.MethodName) ∈ gw := gw_at 248 rfl rfl
theorem tw_249 : Jvm.Cond.instanceMethod ({ cls := "QuireSigns$Book", name := "quires", desc := "()I" } : Jvm.MethodName) ∈ gw := gw_at 249 rfl rfl
theorem tw_250 : Jvm.Cond.selects "QuireSigns$Book" ({ cls := "QuireSigns$Book", name := "quires", desc := "()I" } : Jvm.MethodName) ({ cls := "QuireSigns$Book", name := "quires", desc := "()I" } : Jvm.MethodName) ∈ gw := gw_at 250 rfl rfl
theorem tw_251 : Jvm.Cond.code ({ cls := "QuireSigns$Book", name := "quires", desc := "()I" } : Jvm.MethodName) prog_3_method_3_code (1 : Nat) (Option.some Jvm.ClassFile.FieldType.int) ∈ gw := gw_at 251 rfl rfl
theorem tw_252 : Jvm.Cond.methodLink "QuireSigns$Book" (48 : Nat) ({ cls := "QuireSigns$Row", name := "length", desc := "()I" } : Jvm.MethodName) ∈ gw := gw_at 252 rfl rfl
theorem tw_253 : Jvm.Cond.instanceMethod ({ cls := "QuireSigns$Row", name := "length", desc := "()I" } : Jvm.MethodName) ∈ gw := gw_at 253 rfl rfl
theorem tw_254 : Jvm.Cond.selects "QuireSigns$Row" ({ cls := "QuireSigns$Row", name := "length", desc := "()I" } : Jvm.MethodName) ({ cls := "QuireSigns$Row", name := "length", desc := "()I" } : Jvm.MethodName) ∈ gw := gw_at 254 rfl rfl
theorem tw_255 : Jvm.Cond.code ({ cls := "QuireSigns$Row", name := "length", desc := "()I" } : Jvm.MethodName) prog_6_method_2_code (1 : Nat) (Option.some Jvm.ClassFile.FieldType.int) ∈ gw := gw_at 255 rfl rfl
theorem tw_256 : Jvm.Cond.methodLink "QuireSigns$Book" (90 : Nat) ({ cls := "QuireSigns$Book", name := "signedIn", desc := "(I)I" } : Jvm.MethodName) ∈ gw := gw_at 256 rfl rfl
theorem tw_257 : Jvm.Cond.instanceMethod ({ cls := "QuireSigns$Book", name := "signedIn", desc := "(I)I" } : Jvm.MethodName) ∈ gw := gw_at 257 rfl rfl
theorem tw_258 : Jvm.Cond.selects "QuireSigns$Book" ({ cls := "QuireSigns$Book", name := "signedIn", desc := "(I)I" } : Jvm.MethodName) ({ cls := "QuireSigns$Book", name := "signedIn", desc := "(I)I" } : Jvm.MethodName) ∈ gw := gw_at 258 rfl rfl
theorem tw_259 : Jvm.Cond.code ({ cls := "QuireSigns$Book", name := "signedIn", desc := "(I)I" } : Jvm.MethodName) prog_3_method_15_code (4 : Nat) (Option.some Jvm.ClassFile.FieldType.int) ∈ gw := gw_at 259 rfl rfl
theorem tw_260 : Jvm.Cond.methodLink "QuireSigns$Book" (65 : Nat) ({ cls := "QuireSigns$Row", name := "at", desc := "(I)I" } : Jvm.MethodName) ∈ gw := gw_at 260 rfl rfl
theorem tw_261 : Jvm.Cond.methodLink "QuireSigns$Book" (84 : Nat) ({ cls := "java/lang/Math", name := "min", desc := "(II)I" } : Jvm.MethodName) ∈ gw := gw_at 261 rfl rfl
theorem tw_262 : Jvm.Cond.methodLink "QuireSignsLaw" (46 : Nat) ({ cls := "QuireSigns", name := "readFormula", desc := "()I" } : Jvm.MethodName) ∈ gw := gw_at 262 rfl rfl
theorem tw_263 : Jvm.Cond.instanceMethod ({ cls := "QuireSigns", name := "readFormula", desc := "()I" } : Jvm.MethodName) ∈ gw := gw_at 263 rfl rfl
theorem tw_264 : Jvm.Cond.selects "QuireSigns" ({ cls := "QuireSigns", name := "readFormula", desc := "()I" } : Jvm.MethodName) ({ cls := "QuireSigns", name := "readFormula", desc := "()I" } : Jvm.MethodName) ∈ gw := gw_at 264 rfl rfl
theorem tw_265 : Jvm.Cond.code ({ cls := "QuireSigns", name := "readFormula", desc := "()I" } : Jvm.MethodName) prog_1_method_4_code (3 : Nat) (Option.some Jvm.ClassFile.FieldType.int) ∈ gw := gw_at 265 rfl rfl
theorem tw_266 : Jvm.Cond.methodLink "QuireSigns" (79 : Nat) ({ cls := "QuireSigns$Text", name := "readAsFormula", desc := "(LQuireSigns$Alphabet;)I" } : Jvm.MethodName) ∈ gw := gw_at 266 rfl rfl
theorem tw_267 : Jvm.Cond.instanceMethod ({ cls := "QuireSigns$Text", name := "readAsFormula", desc := "(LQuireSigns$Alphabet;)I" } : Jvm.MethodName) ∈ gw := gw_at 267 rfl rfl
theorem tw_268 : Jvm.Cond.selects "QuireSigns$Text" ({ cls := "QuireSigns$Text", name := "readAsFormula", desc := "(LQuireSigns$Alphabet;)I" } : Jvm.MethodName) ({ cls := "QuireSigns$Text", name := "readAsFormula", desc := "(LQuireSigns$Alphabet;)I" } : Jvm.MethodName) ∈ gw := gw_at 268 rfl rfl
theorem tw_269 : Jvm.Cond.code ({ cls := "QuireSigns$Text", name := "readAsFormula", desc := "(LQuireSigns$Alphabet;)I" } : Jvm.MethodName) prog_8_method_9_code (2 : Nat) (Option.some Jvm.ClassFile.FieldType.int) ∈ gw := gw_at 269 rfl rfl
theorem tw_270 : Jvm.Cond.methodLink "QuireSigns$Text" (50 : Nat) ({ cls := "QuireSigns$Text", name := "readEntries", desc := "(LQuireSigns$Alphabet;Z)I" } : Jvm.MethodName) ∈ gw := gw_at 270 rfl rfl
theorem tw_272 : Jvm.Cond.instanceMethod ({ cls := "QuireSigns$Text", name := "readEntries", desc := "(LQuireSigns$Alphabet;Z)I" } : Jvm.MethodName) ∈ gw := gw_at 272 rfl rfl
theorem tw_273 : Jvm.Cond.code ({ cls := "QuireSigns$Text", name := "readEntries", desc := "(LQuireSigns$Alphabet;Z)I" } : Jvm.MethodName) prog_8_method_11_code (4 : Nat) (Option.some Jvm.ClassFile.FieldType.int) ∈ gw := gw_at 273 rfl rfl
theorem tw_274 : Jvm.Cond.methodLink "QuireSigns$Text" (43 : Nat) ({ cls := "QuireSigns$Row", name := "empty", desc := "()V" } : Jvm.MethodName) ∈ gw := gw_at 274 rfl rfl
theorem tw_275 : Jvm.Cond.instanceMethod ({ cls := "QuireSigns$Row", name := "empty", desc := "()V" } : Jvm.MethodName) ∈ gw := gw_at 275 rfl rfl
theorem tw_276 : Jvm.Cond.selects "QuireSigns$Row" ({ cls := "QuireSigns$Row", name := "empty", desc := "()V" } : Jvm.MethodName) ({ cls := "QuireSigns$Row", name := "empty", desc := "()V" } : Jvm.MethodName) ∈ gw := gw_at 276 rfl rfl
theorem tw_277 : Jvm.Cond.code ({ cls := "QuireSigns$Row", name := "empty", desc := "()V" } : Jvm.MethodName) prog_6_method_9_code (1 : Nat) (Option.none : Option Jvm.ClassFile.FieldType) ∈ gw := gw_at 277 rfl rfl
theorem tw_278 : Jvm.Cond.methodLink "QuireSigns$Text" (36 : Nat) ({ cls := "QuireSigns$Row", name := "length", desc := "()I" } : Jvm.MethodName) ∈ gw := gw_at 278 rfl rfl
theorem tw_279 : Jvm.Cond.methodLink "QuireSigns$Text" (57 : Nat) ({ cls := "QuireSigns$Text", name := "readEntry", desc := "(LQuireSigns$Alphabet;Z)Z" } : Jvm.MethodName) ∈ gw := gw_at 279 rfl rfl
theorem tw_281 : Jvm.Cond.instanceMethod ({ cls := "QuireSigns$Text", name := "readEntry", desc := "(LQuireSigns$Alphabet;Z)Z" } : Jvm.MethodName) ∈ gw := gw_at 281 rfl rfl
theorem tw_282 : Jvm.Cond.code ({ cls := "QuireSigns$Text", name := "readEntry", desc := "(LQuireSigns$Alphabet;Z)Z" } : Jvm.MethodName) prog_8_method_12_code (6 : Nat) (Option.some Jvm.ClassFile.FieldType.boolean) ∈ gw := gw_at 282 rfl rfl
theorem tw_283 : Jvm.Cond.methodLink "QuireSigns$Text" (61 : Nat) ({ cls := "QuireSigns$Text", name := "readSign", desc := "(LQuireSigns$Alphabet;)I" } : Jvm.MethodName) ∈ gw := gw_at 283 rfl rfl
theorem tw_285 : Jvm.Cond.instanceMethod ({ cls := "QuireSigns$Text", name := "readSign", desc := "(LQuireSigns$Alphabet;)I" } : Jvm.MethodName) ∈ gw := gw_at 285 rfl rfl
theorem tw_286 : Jvm.Cond.code ({ cls := "QuireSigns$Text", name := "readSign", desc := "(LQuireSigns$Alphabet;)I" } : Jvm.MethodName) prog_8_method_13_code (2 : Nat) (Option.some Jvm.ClassFile.FieldType.int) ∈ gw := gw_at 286 rfl rfl
theorem tw_287 : Jvm.Cond.methodLink "QuireSigns$Text" (46 : Nat) ({ cls := "QuireSigns$Row", name := "at", desc := "(I)I" } : Jvm.MethodName) ∈ gw := gw_at 287 rfl rfl
theorem tw_288 : Jvm.Cond.methodLink "QuireSigns$Text" (78 : Nat) ({ cls := "QuireSigns$Text", name := "readStars", desc := "()I" } : Jvm.MethodName) ∈ gw := gw_at 288 rfl rfl
theorem tw_290 : Jvm.Cond.instanceMethod ({ cls := "QuireSigns$Text", name := "readStars", desc := "()I" } : Jvm.MethodName) ∈ gw := gw_at 290 rfl rfl
theorem tw_291 : Jvm.Cond.code ({ cls := "QuireSigns$Text", name := "readStars", desc := "()I" } : Jvm.MethodName) prog_8_method_14_code (2 : Nat) (Option.some Jvm.ClassFile.FieldType.int) ∈ gw := gw_at 291 rfl rfl
theorem tw_292 : Jvm.Cond.methodLink "QuireSigns$Text" (84 : Nat) ({ cls := "QuireSigns$Sign", name := "ofStars", desc := "(I)I" } : Jvm.MethodName) ∈ gw := gw_at 292 rfl rfl
theorem tw_293 : Jvm.Cond.static ({ cls := "QuireSigns$Sign", name := "ofStars", desc := "(I)I" } : Jvm.MethodName) ∈ gw := gw_at 293 rfl rfl
theorem tw_294 : Jvm.Cond.code ({ cls := "QuireSigns$Sign", name := "ofStars", desc := "(I)I" } : Jvm.MethodName) prog_7_method_3_code (1 : Nat) (Option.some Jvm.ClassFile.FieldType.int) ∈ gw := gw_at 294 rfl rfl
theorem tw_295 : Jvm.Cond.methodLink "QuireSigns$Text" (81 : Nat) ({ cls := "QuireSigns$Text", name := "readLetters", desc := "(LQuireSigns$Alphabet;)I" } : Jvm.MethodName) ∈ gw := gw_at 295 rfl rfl
theorem tw_297 : Jvm.Cond.instanceMethod ({ cls := "QuireSigns$Text", name := "readLetters", desc := "(LQuireSigns$Alphabet;)I" } : Jvm.MethodName) ∈ gw := gw_at 297 rfl rfl
theorem tw_298 : Jvm.Cond.code ({ cls := "QuireSigns$Text", name := "readLetters", desc := "(LQuireSigns$Alphabet;)I" } : Jvm.MethodName) prog_8_method_15_code (4 : Nat) (Option.some Jvm.ClassFile.FieldType.int) ∈ gw := gw_at 298 rfl rfl
theorem tw_299 : Jvm.Cond.methodLink "QuireSigns$Text" (87 : Nat) ({ cls := "QuireSigns$Alphabet", name := "has", desc := "(I)Z" } : Jvm.MethodName) ∈ gw := gw_at 299 rfl rfl
theorem tw_300 : Jvm.Cond.methodLink "QuireSigns$Text" (90 : Nat) ({ cls := "QuireSigns$Sign", name := "ofLetters", desc := "(II)I" } : Jvm.MethodName) ∈ gw := gw_at 300 rfl rfl
theorem tw_301 : Jvm.Cond.static ({ cls := "QuireSigns$Sign", name := "ofLetters", desc := "(II)I" } : Jvm.MethodName) ∈ gw := gw_at 301 rfl rfl
theorem tw_302 : Jvm.Cond.code ({ cls := "QuireSigns$Sign", name := "ofLetters", desc := "(II)I" } : Jvm.MethodName) prog_7_method_2_code (2 : Nat) (Option.some Jvm.ClassFile.FieldType.int) ∈ gw := gw_at 302 rfl rfl
theorem tw_303 : Jvm.Cond.methodLink "QuireSigns$Text" (67 : Nat) ({ cls := "QuireSigns$Sign", name := "isStarred", desc := "(I)Z" } : Jvm.MethodName) ∈ gw := gw_at 303 rfl rfl
theorem tw_304 : Jvm.Cond.static ({ cls := "QuireSigns$Sign", name := "isStarred", desc := "(I)Z" } : Jvm.MethodName) ∈ gw := gw_at 304 rfl rfl
theorem tw_305 : Jvm.Cond.code ({ cls := "QuireSigns$Sign", name := "isStarred", desc := "(I)Z" } : Jvm.MethodName) prog_7_method_4_code (1 : Nat) (Option.some Jvm.ClassFile.FieldType.boolean) ∈ gw := gw_at 305 rfl rfl
theorem tw_306 : Jvm.Cond.methodLink "QuireSigns$Text" (71 : Nat) ({ cls := "QuireSigns$Text", name := "readLastSign", desc := "(LQuireSigns$Alphabet;I)I" } : Jvm.MethodName) ∈ gw := gw_at 306 rfl rfl
theorem tw_308 : Jvm.Cond.instanceMethod ({ cls := "QuireSigns$Text", name := "readLastSign", desc := "(LQuireSigns$Alphabet;I)I" } : Jvm.MethodName) ∈ gw := gw_at 308 rfl rfl
theorem tw_309 : Jvm.Cond.code ({ cls := "QuireSigns$Text", name := "readLastSign", desc := "(LQuireSigns$Alphabet;I)I" } : Jvm.MethodName) prog_8_method_16_code (4 : Nat) (Option.some Jvm.ClassFile.FieldType.int) ∈ gw := gw_at 309 rfl rfl
theorem tw_310 : Jvm.Cond.methodLink "QuireSigns$Text" (94 : Nat) ({ cls := "QuireSigns$Sign", name := "times", desc := "(I)I" } : Jvm.MethodName) ∈ gw := gw_at 310 rfl rfl
theorem tw_311 : Jvm.Cond.static ({ cls := "QuireSigns$Sign", name := "times", desc := "(I)I" } : Jvm.MethodName) ∈ gw := gw_at 311 rfl rfl
theorem tw_312 : Jvm.Cond.code ({ cls := "QuireSigns$Sign", name := "times", desc := "(I)I" } : Jvm.MethodName) prog_7_method_6_code (1 : Nat) (Option.some Jvm.ClassFile.FieldType.int) ∈ gw := gw_at 312 rfl rfl
theorem tw_313 : Jvm.Cond.methodLink "QuireSigns$Sign" (9 : Nat) ({ cls := "QuireSigns$Sign", name := "isStarred", desc := "(I)Z" } : Jvm.MethodName) ∈ gw := gw_at 313 rfl rfl
theorem tw_314 : Jvm.Cond.methodLink "QuireSigns$Text" (75 : Nat) ({ cls := "QuireSigns$Text", name := "readNumber", desc := "()I" } : Jvm.MethodName) ∈ gw := gw_at 314 rfl rfl
theorem tw_316 : Jvm.Cond.instanceMethod ({ cls := "QuireSigns$Text", name := "readNumber", desc := "()I" } : Jvm.MethodName) ∈ gw := gw_at 316 rfl rfl
theorem tw_317 : Jvm.Cond.code ({ cls := "QuireSigns$Text", name := "readNumber", desc := "()I" } : Jvm.MethodName) prog_8_method_17_code (3 : Nat) (Option.some Jvm.ClassFile.FieldType.int) ∈ gw := gw_at 317 rfl rfl
theorem tw_318 : Jvm.Cond.methodLink "QuireSigns$Text" (97 : Nat) ({ cls := "QuireSigns$Text", name := "digitAt", desc := "(I)I" } : Jvm.MethodName) ∈ gw := gw_at 318 rfl rfl
theorem tw_320 : Jvm.Cond.instanceMethod ({ cls := "QuireSigns$Text", name := "digitAt", desc := "(I)I" } : Jvm.MethodName) ∈ gw := gw_at 320 rfl rfl
theorem tw_321 : Jvm.Cond.code ({ cls := "QuireSigns$Text", name := "digitAt", desc := "(I)I" } : Jvm.MethodName) prog_8_method_18_code (3 : Nat) (Option.some Jvm.ClassFile.FieldType.int) ∈ gw := gw_at 321 rfl rfl
theorem tw_322 : Jvm.Cond.methodLink "QuireSigns$Text" (40 : Nat) ({ cls := "QuireSigns$Row", name := "add", desc := "(I)V" } : Jvm.MethodName) ∈ gw := gw_at 322 rfl rfl
theorem tw_323 : Jvm.Cond.instanceMethod ({ cls := "QuireSigns$Row", name := "add", desc := "(I)V" } : Jvm.MethodName) ∈ gw := gw_at 323 rfl rfl
theorem tw_324 : Jvm.Cond.selects "QuireSigns$Row" ({ cls := "QuireSigns$Row", name := "add", desc := "(I)V" } : Jvm.MethodName) ({ cls := "QuireSigns$Row", name := "add", desc := "(I)V" } : Jvm.MethodName) ∈ gw := gw_at 324 rfl rfl
theorem tw_325 : Jvm.Cond.code ({ cls := "QuireSigns$Row", name := "add", desc := "(I)V" } : Jvm.MethodName) prog_6_method_6_code (2 : Nat) (Option.none : Option Jvm.ClassFile.FieldType) ∈ gw := gw_at 325 rfl rfl
theorem tw_326 : Jvm.Cond.methodLink "QuireSigns$Row" (27 : Nat) ({ cls := "QuireSigns$Row", name := "addAt", desc := "(II)V" } : Jvm.MethodName) ∈ gw := gw_at 326 rfl rfl
theorem tw_327 : Jvm.Cond.instanceMethod ({ cls := "QuireSigns$Row", name := "addAt", desc := "(II)V" } : Jvm.MethodName) ∈ gw := gw_at 327 rfl rfl
theorem tw_328 : Jvm.Cond.selects "QuireSigns$Row" ({ cls := "QuireSigns$Row", name := "addAt", desc := "(II)V" } : Jvm.MethodName) ({ cls := "QuireSigns$Row", name := "addAt", desc := "(II)V" } : Jvm.MethodName) ∈ gw := gw_at 328 rfl rfl
theorem tw_329 : Jvm.Cond.code ({ cls := "QuireSigns$Row", name := "addAt", desc := "(II)V" } : Jvm.MethodName) prog_6_method_7_code (4 : Nat) (Option.none : Option Jvm.ClassFile.FieldType) ∈ gw := gw_at 329 rfl rfl
theorem tw_330 : Jvm.Cond.methodLink "QuireSigns" (83 : Nat) ({ cls := "QuireSigns$Book", name := "quires", desc := "()I" } : Jvm.MethodName) ∈ gw := gw_at 330 rfl rfl
theorem tw_331 : Jvm.Cond.methodLink "QuireSigns" (86 : Nat) ({ cls := "QuireSigns", name := "quiresOfText", desc := "()I" } : Jvm.MethodName) ∈ gw := gw_at 331 rfl rfl
theorem tw_333 : Jvm.Cond.instanceMethod ({ cls := "QuireSigns", name := "quiresOfText", desc := "()I" } : Jvm.MethodName) ∈ gw := gw_at 333 rfl rfl
theorem tw_334 : Jvm.Cond.code ({ cls := "QuireSigns", name := "quiresOfText", desc := "()I" } : Jvm.MethodName) prog_1_method_24_code (5 : Nat) (Option.some Jvm.ClassFile.FieldType.int) ∈ gw := gw_at 334 rfl rfl
theorem tw_335 : Jvm.Cond.methodLink "QuireSigns" (89 : Nat) ({ cls := "QuireSigns$Text", name := "entries", desc := "()I" } : Jvm.MethodName) ∈ gw := gw_at 335 rfl rfl
theorem tw_336 : Jvm.Cond.instanceMethod ({ cls := "QuireSigns$Text", name := "entries", desc := "()I" } : Jvm.MethodName) ∈ gw := gw_at 336 rfl rfl
theorem tw_337 : Jvm.Cond.selects "QuireSigns$Text" ({ cls := "QuireSigns$Text", name := "entries", desc := "()I" } : Jvm.MethodName) ({ cls := "QuireSigns$Text", name := "entries", desc := "()I" } : Jvm.MethodName) ∈ gw := gw_at 337 rfl rfl
theorem tw_338 : Jvm.Cond.code ({ cls := "QuireSigns$Text", name := "entries", desc := "()I" } : Jvm.MethodName) prog_8_method_5_code (1 : Nat) (Option.some Jvm.ClassFile.FieldType.int) ∈ gw := gw_at 338 rfl rfl
theorem tw_339 : Jvm.Cond.methodLink "QuireSigns" (216 : Nat) ({ cls := "QuireSigns$Text", name := "firstSign", desc := "(I)I" } : Jvm.MethodName) ∈ gw := gw_at 339 rfl rfl
theorem tw_340 : Jvm.Cond.instanceMethod ({ cls := "QuireSigns$Text", name := "firstSign", desc := "(I)I" } : Jvm.MethodName) ∈ gw := gw_at 340 rfl rfl
theorem tw_341 : Jvm.Cond.selects "QuireSigns$Text" ({ cls := "QuireSigns$Text", name := "firstSign", desc := "(I)I" } : Jvm.MethodName) ({ cls := "QuireSigns$Text", name := "firstSign", desc := "(I)I" } : Jvm.MethodName) ∈ gw := gw_at 341 rfl rfl
theorem tw_342 : Jvm.Cond.code ({ cls := "QuireSigns$Text", name := "firstSign", desc := "(I)I" } : Jvm.MethodName) prog_8_method_6_code (2 : Nat) (Option.some Jvm.ClassFile.FieldType.int) ∈ gw := gw_at 342 rfl rfl
theorem tw_343 : Jvm.Cond.methodLink "QuireSigns" (252 : Nat) ({ cls := "QuireSigns$Text", name := "lastSign", desc := "(I)I" } : Jvm.MethodName) ∈ gw := gw_at 343 rfl rfl
theorem tw_344 : Jvm.Cond.instanceMethod ({ cls := "QuireSigns$Text", name := "lastSign", desc := "(I)I" } : Jvm.MethodName) ∈ gw := gw_at 344 rfl rfl
theorem tw_345 : Jvm.Cond.selects "QuireSigns$Text" ({ cls := "QuireSigns$Text", name := "lastSign", desc := "(I)I" } : Jvm.MethodName) ({ cls := "QuireSigns$Text", name := "lastSign", desc := "(I)I" } : Jvm.MethodName) ∈ gw := gw_at 345 rfl rfl
theorem tw_346 : Jvm.Cond.code ({ cls := "QuireSigns$Text", name := "lastSign", desc := "(I)I" } : Jvm.MethodName) prog_8_method_7_code (2 : Nat) (Option.some Jvm.ClassFile.FieldType.int) ∈ gw := gw_at 346 rfl rfl
theorem tw_347 : Jvm.Cond.methodLink "QuireSigns" (255 : Nat) ({ cls := "QuireSigns$Alphabet", name := "signsBetween", desc := "(II)I" } : Jvm.MethodName) ∈ gw := gw_at 347 rfl rfl
theorem tw_348 : Jvm.Cond.instanceMethod ({ cls := "QuireSigns$Alphabet", name := "signsBetween", desc := "(II)I" } : Jvm.MethodName) ∈ gw := gw_at 348 rfl rfl
theorem tw_349 : Jvm.Cond.selects "QuireSigns$Alphabet" ({ cls := "QuireSigns$Alphabet", name := "signsBetween", desc := "(II)I" } : Jvm.MethodName) ({ cls := "QuireSigns$Alphabet", name := "signsBetween", desc := "(II)I" } : Jvm.MethodName) ∈ gw := gw_at 349 rfl rfl
theorem tw_350 : Jvm.Cond.code ({ cls := "QuireSigns$Alphabet", name := "signsBetween", desc := "(II)I" } : Jvm.MethodName) prog_2_method_6_code (5 : Nat) (Option.some Jvm.ClassFile.FieldType.int) ∈ gw := gw_at 350 rfl rfl
theorem tw_351 : Jvm.Cond.methodLink "QuireSigns$Alphabet" (21 : Nat) ({ cls := "QuireSigns$Sign", name := "letter", desc := "(I)I" } : Jvm.MethodName) ∈ gw := gw_at 351 rfl rfl
theorem tw_352 : Jvm.Cond.static ({ cls := "QuireSigns$Sign", name := "letter", desc := "(I)I" } : Jvm.MethodName) ∈ gw := gw_at 352 rfl rfl
theorem tw_353 : Jvm.Cond.code ({ cls := "QuireSigns$Sign", name := "letter", desc := "(I)I" } : Jvm.MethodName) prog_7_method_5_code (1 : Nat) (Option.some Jvm.ClassFile.FieldType.int) ∈ gw := gw_at 353 rfl rfl
theorem tw_354 : Jvm.Cond.methodLink "QuireSigns$Alphabet" (24 : Nat) ({ cls := "QuireSigns$Alphabet", name := "has", desc := "(I)Z" } : Jvm.MethodName) ∈ gw := gw_at 354 rfl rfl
theorem tw_355 : Jvm.Cond.methodLink "QuireSigns" (92 : Nat) ({ cls := "QuireSigns", name := "addEntry", desc := "(I)V" } : Jvm.MethodName) ∈ gw := gw_at 355 rfl rfl
theorem tw_357 : Jvm.Cond.instanceMethod ({ cls := "QuireSigns", name := "addEntry", desc := "(I)V" } : Jvm.MethodName) ∈ gw := gw_at 357 rfl rfl
theorem tw_358 : Jvm.Cond.code ({ cls := "QuireSigns", name := "addEntry", desc := "(I)V" } : Jvm.MethodName) prog_1_method_25_code (5 : Nat) (Option.none : Option Jvm.ClassFile.FieldType) ∈ gw := gw_at 358 rfl rfl
theorem tw_359 : Jvm.Cond.methodLink "QuireSigns" (219 : Nat) ({ cls := "QuireSigns$Text", name := "number", desc := "(I)I" } : Jvm.MethodName) ∈ gw := gw_at 359 rfl rfl
theorem tw_360 : Jvm.Cond.instanceMethod ({ cls := "QuireSigns$Text", name := "number", desc := "(I)I" } : Jvm.MethodName) ∈ gw := gw_at 360 rfl rfl
theorem tw_361 : Jvm.Cond.selects "QuireSigns$Text" ({ cls := "QuireSigns$Text", name := "number", desc := "(I)I" } : Jvm.MethodName) ({ cls := "QuireSigns$Text", name := "number", desc := "(I)I" } : Jvm.MethodName) ∈ gw := gw_at 361 rfl rfl
theorem tw_362 : Jvm.Cond.code ({ cls := "QuireSigns$Text", name := "number", desc := "(I)I" } : Jvm.MethodName) prog_8_method_8_code (2 : Nat) (Option.some Jvm.ClassFile.FieldType.int) ∈ gw := gw_at 362 rfl rfl
theorem tw_363 : Jvm.Cond.methodLink "QuireSigns" (105 : Nat) ({ cls := "QuireSigns$Book", name := "addQuire", desc := "(III)V" } : Jvm.MethodName) ∈ gw := gw_at 363 rfl rfl
theorem tw_364 : Jvm.Cond.instanceMethod ({ cls := "QuireSigns$Book", name := "addQuire", desc := "(III)V" } : Jvm.MethodName) ∈ gw := gw_at 364 rfl rfl
theorem tw_365 : Jvm.Cond.selects "QuireSigns$Book" ({ cls := "QuireSigns$Book", name := "addQuire", desc := "(III)V" } : Jvm.MethodName) ({ cls := "QuireSigns$Book", name := "addQuire", desc := "(III)V" } : Jvm.MethodName) ∈ gw := gw_at 365 rfl rfl
theorem tw_366 : Jvm.Cond.code ({ cls := "QuireSigns$Book", name := "addQuire", desc := "(III)V" } : Jvm.MethodName) prog_3_method_5_code (4 : Nat) (Option.none : Option Jvm.ClassFile.FieldType) ∈ gw := gw_at 366 rfl rfl
theorem tw_367 : Jvm.Cond.methodLink "QuireSigns$Book" (55 : Nat) ({ cls := "QuireSigns$Row", name := "addAt", desc := "(II)V" } : Jvm.MethodName) ∈ gw := gw_at 367 rfl rfl
theorem tw_368 : Jvm.Cond.methodLink "QuireSigns$Book" (59 : Nat) ({ cls := "QuireSigns$Row", name := "empty", desc := "()V" } : Jvm.MethodName) ∈ gw := gw_at 368 rfl rfl
theorem tw_369 : Jvm.Cond.methodLink "QuireSigns" (186 : Nat) ({ cls := "QuireSigns$Sign", name := "letter", desc := "(I)I" } : Jvm.MethodName) ∈ gw := gw_at 369 rfl rfl
theorem tw_370 : Jvm.Cond.methodLink "QuireSignsLaw" (63 : Nat) ({ cls := "QuireSigns", name := "signNext", desc := "(I)I" } : Jvm.MethodName) ∈ gw := gw_at 370 rfl rfl
theorem tw_371 : Jvm.Cond.instanceMethod ({ cls := "QuireSigns", name := "signNext", desc := "(I)I" } : Jvm.MethodName) ∈ gw := gw_at 371 rfl rfl
theorem tw_372 : Jvm.Cond.selects "QuireSigns" ({ cls := "QuireSigns", name := "signNext", desc := "(I)I" } : Jvm.MethodName) ({ cls := "QuireSigns", name := "signNext", desc := "(I)I" } : Jvm.MethodName) ∈ gw := gw_at 372 rfl rfl
theorem tw_373 : Jvm.Cond.code ({ cls := "QuireSigns", name := "signNext", desc := "(I)I" } : Jvm.MethodName) prog_1_method_5_code (3 : Nat) (Option.some Jvm.ClassFile.FieldType.int) ∈ gw := gw_at 373 rfl rfl
theorem tw_374 : Jvm.Cond.methodLink "QuireSigns" (95 : Nat) ({ cls := "QuireSigns", name := "isQuireSize", desc := "(I)Z" } : Jvm.MethodName) ∈ gw := gw_at 374 rfl rfl
theorem tw_375 : Jvm.Cond.static ({ cls := "QuireSigns", name := "isQuireSize", desc := "(I)Z" } : Jvm.MethodName) ∈ gw := gw_at 375 rfl rfl
theorem tw_376 : Jvm.Cond.code ({ cls := "QuireSigns", name := "isQuireSize", desc := "(I)Z" } : Jvm.MethodName) prog_1_method_23_code (1 : Nat) (Option.some Jvm.ClassFile.FieldType.boolean) ∈ gw := gw_at 376 rfl rfl
theorem tw_377 : Jvm.Cond.methodLink "QuireSigns" (98 : Nat) ({ cls := "QuireSigns$Book", name := "lastLettersAhead", desc := "(I)I" } : Jvm.MethodName) ∈ gw := gw_at 377 rfl rfl
theorem tw_378 : Jvm.Cond.instanceMethod ({ cls := "QuireSigns$Book", name := "lastLettersAhead", desc := "(I)I" } : Jvm.MethodName) ∈ gw := gw_at 378 rfl rfl
theorem tw_379 : Jvm.Cond.selects "QuireSigns$Book" ({ cls := "QuireSigns$Book", name := "lastLettersAhead", desc := "(I)I" } : Jvm.MethodName) ({ cls := "QuireSigns$Book", name := "lastLettersAhead", desc := "(I)I" } : Jvm.MethodName) ∈ gw := gw_at 379 rfl rfl
theorem tw_380 : Jvm.Cond.code ({ cls := "QuireSigns$Book", name := "lastLettersAhead", desc := "(I)I" } : Jvm.MethodName) prog_3_method_9_code (3 : Nat) (Option.some Jvm.ClassFile.FieldType.int) ∈ gw := gw_at 380 rfl rfl
theorem tw_381 : Jvm.Cond.methodLink "QuireSigns$Book" (69 : Nat) ({ cls := "QuireSigns$Sign", name := "isStarred", desc := "(I)Z" } : Jvm.MethodName) ∈ gw := gw_at 381 rfl rfl
theorem tw_382 : Jvm.Cond.methodLink "QuireSigns" (102 : Nat) ({ cls := "QuireSigns$Alphabet", name := "nextSign", desc := "(I)I" } : Jvm.MethodName) ∈ gw := gw_at 382 rfl rfl
theorem tw_383 : Jvm.Cond.instanceMethod ({ cls := "QuireSigns$Alphabet", name := "nextSign", desc := "(I)I" } : Jvm.MethodName) ∈ gw := gw_at 383 rfl rfl
theorem tw_384 : Jvm.Cond.selects "QuireSigns$Alphabet" ({ cls := "QuireSigns$Alphabet", name := "nextSign", desc := "(I)I" } : Jvm.MethodName) ({ cls := "QuireSigns$Alphabet", name := "nextSign", desc := "(I)I" } : Jvm.MethodName) ∈ gw := gw_at 384 rfl rfl
theorem tw_385 : Jvm.Cond.code ({ cls := "QuireSigns$Alphabet", name := "nextSign", desc := "(I)I" } : Jvm.MethodName) prog_2_method_5_code (3 : Nat) (Option.some Jvm.ClassFile.FieldType.int) ∈ gw := gw_at 385 rfl rfl
theorem tw_386 : Jvm.Cond.methodLink "QuireSignsLaw" (66 : Nat) ({ cls := "QuireSigns", name := "insert", desc := "(III)I" } : Jvm.MethodName) ∈ gw := gw_at 386 rfl rfl
theorem tw_387 : Jvm.Cond.instanceMethod ({ cls := "QuireSigns", name := "insert", desc := "(III)I" } : Jvm.MethodName) ∈ gw := gw_at 387 rfl rfl
theorem tw_388 : Jvm.Cond.selects "QuireSigns" ({ cls := "QuireSigns", name := "insert", desc := "(III)I" } : Jvm.MethodName) ({ cls := "QuireSigns", name := "insert", desc := "(III)I" } : Jvm.MethodName) ∈ gw := gw_at 388 rfl rfl
theorem tw_389 : Jvm.Cond.code ({ cls := "QuireSigns", name := "insert", desc := "(III)I" } : Jvm.MethodName) prog_1_method_6_code (4 : Nat) (Option.some Jvm.ClassFile.FieldType.int) ∈ gw := gw_at 389 rfl rfl
theorem tw_390 : Jvm.Cond.methodLink "QuireSigns" (109 : Nat) ({ cls := "QuireSigns$Sign", name := "ofStars", desc := "(I)I" } : Jvm.MethodName) ∈ gw := gw_at 390 rfl rfl
theorem tw_391 : Jvm.Cond.methodLink "QuireSigns" (112 : Nat) ({ cls := "QuireSigns$Book", name := "leaves", desc := "()I" } : Jvm.MethodName) ∈ gw := gw_at 391 rfl rfl
theorem tw_392 : Jvm.Cond.instanceMethod ({ cls := "QuireSigns$Book", name := "leaves", desc := "()I" } : Jvm.MethodName) ∈ gw := gw_at 392 rfl rfl
theorem tw_393 : Jvm.Cond.selects "QuireSigns$Book" ({ cls := "QuireSigns$Book", name := "leaves", desc := "()I" } : Jvm.MethodName) ({ cls := "QuireSigns$Book", name := "leaves", desc := "()I" } : Jvm.MethodName) ∈ gw := gw_at 393 rfl rfl
theorem tw_394 : Jvm.Cond.code ({ cls := "QuireSigns$Book", name := "leaves", desc := "()I" } : Jvm.MethodName) prog_3_method_11_code (1 : Nat) (Option.some Jvm.ClassFile.FieldType.int) ∈ gw := gw_at 394 rfl rfl
theorem tw_395 : Jvm.Cond.methodLink "QuireSigns$Book" (75 : Nat) ({ cls := "QuireSigns$Book", name := "firstLeaf", desc := "(I)I" } : Jvm.MethodName) ∈ gw := gw_at 395 rfl rfl
theorem tw_396 : Jvm.Cond.instanceMethod ({ cls := "QuireSigns$Book", name := "firstLeaf", desc := "(I)I" } : Jvm.MethodName) ∈ gw := gw_at 396 rfl rfl
theorem tw_397 : Jvm.Cond.selects "QuireSigns$Book" ({ cls := "QuireSigns$Book", name := "firstLeaf", desc := "(I)I" } : Jvm.MethodName) ({ cls := "QuireSigns$Book", name := "firstLeaf", desc := "(I)I" } : Jvm.MethodName) ∈ gw := gw_at 397 rfl rfl
theorem tw_398 : Jvm.Cond.code ({ cls := "QuireSigns$Book", name := "firstLeaf", desc := "(I)I" } : Jvm.MethodName) prog_3_method_10_code (4 : Nat) (Option.some Jvm.ClassFile.FieldType.int) ∈ gw := gw_at 398 rfl rfl
theorem tw_399 : Jvm.Cond.methodLink "QuireSignsLaw" (70 : Nat) ({ cls := "QuireSigns", name := "remove", desc := "(I)I" } : Jvm.MethodName) ∈ gw := gw_at 399 rfl rfl
theorem tw_400 : Jvm.Cond.instanceMethod ({ cls := "QuireSigns", name := "remove", desc := "(I)I" } : Jvm.MethodName) ∈ gw := gw_at 400 rfl rfl
set_option maxRecDepth 100000 in
theorem tw_401 : Jvm.Cond.selects "QuireSigns" ({ cls := "QuireSigns", name := "remove", desc := "(I)I" } : Jvm.MethodName) ({ cls := "QuireSigns", name := "remove", desc := "(I)I" } : Jvm.MethodName) ∈ gw := gw_at 401 rfl rfl
set_option maxRecDepth 100000 in
theorem tw_402 : Jvm.Cond.code ({ cls := "QuireSigns", name := "remove", desc := "(I)I" } : Jvm.MethodName) prog_1_method_7_code (2 : Nat) (Option.some Jvm.ClassFile.FieldType.int) ∈ gw := gw_at 402 rfl rfl
set_option maxRecDepth 100000 in
theorem tw_403 : Jvm.Cond.methodLink "QuireSigns" (115 : Nat) ({ cls := "QuireSigns$Book", name := "hasQuire", desc := "(I)Z" } : Jvm.MethodName) ∈ gw := gw_at 403 rfl rfl
set_option maxRecDepth 100000 in
theorem tw_404 : Jvm.Cond.instanceMethod ({ cls := "QuireSigns$Book", name := "hasQuire", desc := "(I)Z" } : Jvm.MethodName) ∈ gw := gw_at 404 rfl rfl
set_option maxRecDepth 100000 in
theorem tw_405 : Jvm.Cond.selects "QuireSigns$Book" ({ cls := "QuireSigns$Book", name := "hasQuire", desc := "(I)Z" } : Jvm.MethodName) ({ cls := "QuireSigns$Book", name := "hasQuire", desc := "(I)Z" } : Jvm.MethodName) ∈ gw := gw_at 405 rfl rfl
set_option maxRecDepth 100000 in
theorem tw_406 : Jvm.Cond.code ({ cls := "QuireSigns$Book", name := "hasQuire", desc := "(I)Z" } : Jvm.MethodName) prog_3_method_4_code (2 : Nat) (Option.some Jvm.ClassFile.FieldType.boolean) ∈ gw := gw_at 406 rfl rfl
set_option maxRecDepth 100000 in
theorem tw_407 : Jvm.Cond.methodLink "QuireSigns" (118 : Nat) ({ cls := "QuireSigns$Book", name := "dropQuire", desc := "(I)V" } : Jvm.MethodName) ∈ gw := gw_at 407 rfl rfl
set_option maxRecDepth 100000 in
theorem tw_408 : Jvm.Cond.instanceMethod ({ cls := "QuireSigns$Book", name := "dropQuire", desc := "(I)V" } : Jvm.MethodName) ∈ gw := gw_at 408 rfl rfl
set_option maxRecDepth 100000 in
theorem tw_409 : Jvm.Cond.selects "QuireSigns$Book" ({ cls := "QuireSigns$Book", name := "dropQuire", desc := "(I)V" } : Jvm.MethodName) ({ cls := "QuireSigns$Book", name := "dropQuire", desc := "(I)V" } : Jvm.MethodName) ∈ gw := gw_at 409 rfl rfl
set_option maxRecDepth 100000 in
theorem tw_410 : Jvm.Cond.code ({ cls := "QuireSigns$Book", name := "dropQuire", desc := "(I)V" } : Jvm.MethodName) prog_3_method_6_code (2 : Nat) (Option.none : Option Jvm.ClassFile.FieldType) ∈ gw := gw_at 410 rfl rfl
set_option maxRecDepth 100000 in
theorem tw_411 : Jvm.Cond.methodLink "QuireSigns$Book" (62 : Nat) ({ cls := "QuireSigns$Row", name := "drop", desc := "(I)V" } : Jvm.MethodName) ∈ gw := gw_at 411 rfl rfl
set_option maxRecDepth 100000 in
theorem tw_412 : Jvm.Cond.instanceMethod ({ cls := "QuireSigns$Row", name := "drop", desc := "(I)V" } : Jvm.MethodName) ∈ gw := gw_at 412 rfl rfl
set_option maxRecDepth 100000 in
theorem tw_413 : Jvm.Cond.selects "QuireSigns$Row" ({ cls := "QuireSigns$Row", name := "drop", desc := "(I)V" } : Jvm.MethodName) ({ cls := "QuireSigns$Row", name := "drop", desc := "(I)V" } : Jvm.MethodName) ∈ gw := gw_at 413 rfl rfl
set_option maxRecDepth 100000 in
theorem tw_414 : Jvm.Cond.code ({ cls := "QuireSigns$Row", name := "drop", desc := "(I)V" } : Jvm.MethodName) prog_6_method_8_code (3 : Nat) (Option.none : Option Jvm.ClassFile.FieldType) ∈ gw := gw_at 414 rfl rfl
set_option maxRecDepth 100000 in
theorem tw_415 : Jvm.Cond.methodLink "QuireSignsLaw" (73 : Nat) ({ cls := "QuireSigns", name := "lose", desc := "(IZ)I" } : Jvm.MethodName) ∈ gw := gw_at 415 rfl rfl
set_option maxRecDepth 100000 in
theorem tw_416 : Jvm.Cond.instanceMethod ({ cls := "QuireSigns", name := "lose", desc := "(IZ)I" } : Jvm.MethodName) ∈ gw := gw_at 416 rfl rfl
set_option maxRecDepth 100000 in
theorem tw_417 : Jvm.Cond.selects "QuireSigns" ({ cls := "QuireSigns", name := "lose", desc := "(IZ)I" } : Jvm.MethodName) ({ cls := "QuireSigns", name := "lose", desc := "(IZ)I" } : Jvm.MethodName) ∈ gw := gw_at 417 rfl rfl
set_option maxRecDepth 100000 in
theorem tw_418 : Jvm.Cond.code ({ cls := "QuireSigns", name := "lose", desc := "(IZ)I" } : Jvm.MethodName) prog_1_method_8_code (3 : Nat) (Option.some Jvm.ClassFile.FieldType.int) ∈ gw := gw_at 418 rfl rfl
set_option maxRecDepth 100000 in
theorem tw_419 : Jvm.Cond.methodLink "QuireSigns" (121 : Nat) ({ cls := "QuireSigns$Book", name := "hasLeaf", desc := "(I)Z" } : Jvm.MethodName) ∈ gw := gw_at 419 rfl rfl
set_option maxRecDepth 100000 in
theorem tw_420 : Jvm.Cond.instanceMethod ({ cls := "QuireSigns$Book", name := "hasLeaf", desc := "(I)Z" } : Jvm.MethodName) ∈ gw := gw_at 420 rfl rfl
set_option maxRecDepth 100000 in
theorem tw_421 : Jvm.Cond.selects "QuireSigns$Book" ({ cls := "QuireSigns$Book", name := "hasLeaf", desc := "(I)Z" } : Jvm.MethodName) ({ cls := "QuireSigns$Book", name := "hasLeaf", desc := "(I)Z" } : Jvm.MethodName) ∈ gw := gw_at 421 rfl rfl
set_option maxRecDepth 100000 in
theorem tw_422 : Jvm.Cond.code ({ cls := "QuireSigns$Book", name := "hasLeaf", desc := "(I)Z" } : Jvm.MethodName) prog_3_method_12_code (2 : Nat) (Option.some Jvm.ClassFile.FieldType.boolean) ∈ gw := gw_at 422 rfl rfl
set_option maxRecDepth 100000 in
theorem tw_423 : Jvm.Cond.methodLink "QuireSigns$Book" (78 : Nat) ({ cls := "QuireSigns$Book", name := "leaves", desc := "()I" } : Jvm.MethodName) ∈ gw := gw_at 423 rfl rfl
set_option maxRecDepth 100000 in
theorem tw_424 : Jvm.Cond.methodLink "QuireSigns" (124 : Nat) ({ cls := "QuireSigns$Book", name := "isLost", desc := "(I)Z" } : Jvm.MethodName) ∈ gw := gw_at 424 rfl rfl
set_option maxRecDepth 100000 in
theorem tw_425 : Jvm.Cond.instanceMethod ({ cls := "QuireSigns$Book", name := "isLost", desc := "(I)Z" } : Jvm.MethodName) ∈ gw := gw_at 425 rfl rfl
set_option maxRecDepth 100000 in
theorem tw_426 : Jvm.Cond.selects "QuireSigns$Book" ({ cls := "QuireSigns$Book", name := "isLost", desc := "(I)Z" } : Jvm.MethodName) ({ cls := "QuireSigns$Book", name := "isLost", desc := "(I)Z" } : Jvm.MethodName) ∈ gw := gw_at 426 rfl rfl
set_option maxRecDepth 100000 in
theorem tw_427 : Jvm.Cond.code ({ cls := "QuireSigns$Book", name := "isLost", desc := "(I)Z" } : Jvm.MethodName) prog_3_method_17_code (2 : Nat) (Option.some Jvm.ClassFile.FieldType.boolean) ∈ gw := gw_at 427 rfl rfl
set_option maxRecDepth 100000 in
theorem tw_428 : Jvm.Cond.methodLink "QuireSigns$Book" (81 : Nat) ({ cls := "QuireSigns$Book", name := "quireOf", desc := "(I)I" } : Jvm.MethodName) ∈ gw := gw_at 428 rfl rfl
set_option maxRecDepth 100000 in
theorem tw_429 : Jvm.Cond.instanceMethod ({ cls := "QuireSigns$Book", name := "quireOf", desc := "(I)I" } : Jvm.MethodName) ∈ gw := gw_at 429 rfl rfl
set_option maxRecDepth 100000 in
theorem tw_430 : Jvm.Cond.selects "QuireSigns$Book" ({ cls := "QuireSigns$Book", name := "quireOf", desc := "(I)I" } : Jvm.MethodName) ({ cls := "QuireSigns$Book", name := "quireOf", desc := "(I)I" } : Jvm.MethodName) ∈ gw := gw_at 430 rfl rfl
set_option maxRecDepth 100000 in
theorem tw_431 : Jvm.Cond.code ({ cls := "QuireSigns$Book", name := "quireOf", desc := "(I)I" } : Jvm.MethodName) prog_3_method_13_code (4 : Nat) (Option.some Jvm.ClassFile.FieldType.int) ∈ gw := gw_at 431 rfl rfl
set_option maxRecDepth 100000 in
theorem tw_432 : Jvm.Cond.methodLink "QuireSigns$Book" (93 : Nat) ({ cls := "QuireSigns$Book", name := "numberOf", desc := "(I)I" } : Jvm.MethodName) ∈ gw := gw_at 432 rfl rfl
set_option maxRecDepth 100000 in
theorem tw_433 : Jvm.Cond.instanceMethod ({ cls := "QuireSigns$Book", name := "numberOf", desc := "(I)I" } : Jvm.MethodName) ∈ gw := gw_at 433 rfl rfl
set_option maxRecDepth 100000 in
theorem tw_434 : Jvm.Cond.selects "QuireSigns$Book" ({ cls := "QuireSigns$Book", name := "numberOf", desc := "(I)I" } : Jvm.MethodName) ({ cls := "QuireSigns$Book", name := "numberOf", desc := "(I)I" } : Jvm.MethodName) ∈ gw := gw_at 434 rfl rfl
set_option maxRecDepth 100000 in
theorem tw_435 : Jvm.Cond.code ({ cls := "QuireSigns$Book", name := "numberOf", desc := "(I)I" } : Jvm.MethodName) prog_3_method_14_code (2 : Nat) (Option.some Jvm.ClassFile.FieldType.int) ∈ gw := gw_at 435 rfl rfl
set_option maxRecDepth 100000 in
theorem tw_436 : Jvm.Cond.methodLink "QuireSigns" (127 : Nat) ({ cls := "QuireSigns$Book", name := "turnLost", desc := "(I)V" } : Jvm.MethodName) ∈ gw := gw_at 436 rfl rfl
set_option maxRecDepth 100000 in
theorem tw_437 : Jvm.Cond.instanceMethod ({ cls := "QuireSigns$Book", name := "turnLost", desc := "(I)V" } : Jvm.MethodName) ∈ gw := gw_at 437 rfl rfl
set_option maxRecDepth 100000 in
theorem tw_438 : Jvm.Cond.selects "QuireSigns$Book" ({ cls := "QuireSigns$Book", name := "turnLost", desc := "(I)V" } : Jvm.MethodName) ({ cls := "QuireSigns$Book", name := "turnLost", desc := "(I)V" } : Jvm.MethodName) ∈ gw := gw_at 438 rfl rfl
set_option maxRecDepth 100000 in
theorem tw_439 : Jvm.Cond.code ({ cls := "QuireSigns$Book", name := "turnLost", desc := "(I)V" } : Jvm.MethodName) prog_3_method_18_code (3 : Nat) (Option.none : Option Jvm.ClassFile.FieldType) ∈ gw := gw_at 439 rfl rfl
set_option maxRecDepth 100000 in
theorem tw_440 : Jvm.Cond.methodLink "QuireSigns$Book" (96 : Nat) ({ cls := "QuireSigns$Row", name := "set", desc := "(II)V" } : Jvm.MethodName) ∈ gw := gw_at 440 rfl rfl
set_option maxRecDepth 100000 in
theorem tw_441 : Jvm.Cond.methodLink "QuireSigns" (130 : Nat) ({ cls := "QuireSigns$Book", name := "leavesThere", desc := "()I" } : Jvm.MethodName) ∈ gw := gw_at 441 rfl rfl
set_option maxRecDepth 100000 in
theorem tw_442 : Jvm.Cond.instanceMethod ({ cls := "QuireSigns$Book", name := "leavesThere", desc := "()I" } : Jvm.MethodName) ∈ gw := gw_at 442 rfl rfl
set_option maxRecDepth 100000 in
theorem tw_443 : Jvm.Cond.selects "QuireSigns$Book" ({ cls := "QuireSigns$Book", name := "leavesThere", desc := "()I" } : Jvm.MethodName) ({ cls := "QuireSigns$Book", name := "leavesThere", desc := "()I" } : Jvm.MethodName) ∈ gw := gw_at 443 rfl rfl
set_option maxRecDepth 100000 in
theorem tw_444 : Jvm.Cond.code ({ cls := "QuireSigns$Book", name := "leavesThere", desc := "()I" } : Jvm.MethodName) prog_3_method_21_code (1 : Nat) (Option.some Jvm.ClassFile.FieldType.int) ∈ gw := gw_at 444 rfl rfl
set_option maxRecDepth 100000 in
theorem tw_445 : Jvm.Cond.methodLink "QuireSigns$Book" (107 : Nat) ({ cls := "QuireSigns$Book", name := "thereAhead", desc := "(I)I" } : Jvm.MethodName) ∈ gw := gw_at 445 rfl rfl
set_option maxRecDepth 100000 in
theorem tw_446 : Jvm.Cond.instanceMethod ({ cls := "QuireSigns$Book", name := "thereAhead", desc := "(I)I" } : Jvm.MethodName) ∈ gw := gw_at 446 rfl rfl
set_option maxRecDepth 100000 in
theorem tw_447 : Jvm.Cond.selects "QuireSigns$Book" ({ cls := "QuireSigns$Book", name := "thereAhead", desc := "(I)I" } : Jvm.MethodName) ({ cls := "QuireSigns$Book", name := "thereAhead", desc := "(I)I" } : Jvm.MethodName) ∈ gw := gw_at 447 rfl rfl
set_option maxRecDepth 100000 in
theorem tw_448 : Jvm.Cond.code ({ cls := "QuireSigns$Book", name := "thereAhead", desc := "(I)I" } : Jvm.MethodName) prog_3_method_20_code (7 : Nat) (Option.some Jvm.ClassFile.FieldType.int) ∈ gw := gw_at 448 rfl rfl
set_option maxRecDepth 100000 in
theorem tw_449 : Jvm.Cond.methodLink "QuireSigns$Book" (104 : Nat) ({ cls := "java/lang/Math", name := "max", desc := "(II)I" } : Jvm.MethodName) ∈ gw := gw_at 449 rfl rfl
set_option maxRecDepth 100000 in
theorem tw_450 : Jvm.Cond.methodLink "QuireSigns$Book" (99 : Nat) ({ cls := "java/lang/Integer", name := "bitCount", desc := "(I)I" } : Jvm.MethodName) ∈ gw := gw_at 450 rfl rfl
set_option maxRecDepth 100000 in
theorem tw_451 : Jvm.Cond.methodLink "QuireSignsLaw" (42 : Nat) ({ cls := "QuireSigns", name := "type", desc := "(C)I" } : Jvm.MethodName) ∈ gw := gw_at 451 rfl rfl
set_option maxRecDepth 100000 in
theorem tw_452 : Jvm.Cond.instanceMethod ({ cls := "QuireSigns", name := "type", desc := "(C)I" } : Jvm.MethodName) ∈ gw := gw_at 452 rfl rfl
set_option maxRecDepth 100000 in
theorem tw_453 : Jvm.Cond.selects "QuireSigns" ({ cls := "QuireSigns", name := "type", desc := "(C)I" } : Jvm.MethodName) ({ cls := "QuireSigns", name := "type", desc := "(C)I" } : Jvm.MethodName) ∈ gw := gw_at 453 rfl rfl
set_option maxRecDepth 100000 in
theorem tw_454 : Jvm.Cond.code ({ cls := "QuireSigns", name := "type", desc := "(C)I" } : Jvm.MethodName) prog_1_method_10_code (2 : Nat) (Option.some Jvm.ClassFile.FieldType.int) ∈ gw := gw_at 454 rfl rfl
set_option maxRecDepth 100000 in
theorem tw_455 : Jvm.Cond.methodLink "QuireSigns" (158 : Nat) ({ cls := "QuireSigns$Text", name := "length", desc := "()I" } : Jvm.MethodName) ∈ gw := gw_at 455 rfl rfl
set_option maxRecDepth 100000 in
theorem tw_456 : Jvm.Cond.instanceMethod ({ cls := "QuireSigns$Text", name := "length", desc := "()I" } : Jvm.MethodName) ∈ gw := gw_at 456 rfl rfl
set_option maxRecDepth 100000 in
theorem tw_457 : Jvm.Cond.selects "QuireSigns$Text" ({ cls := "QuireSigns$Text", name := "length", desc := "()I" } : Jvm.MethodName) ({ cls := "QuireSigns$Text", name := "length", desc := "()I" } : Jvm.MethodName) ∈ gw := gw_at 457 rfl rfl
set_option maxRecDepth 100000 in
theorem tw_458 : Jvm.Cond.code ({ cls := "QuireSigns$Text", name := "length", desc := "()I" } : Jvm.MethodName) prog_8_method_2_code (1 : Nat) (Option.some Jvm.ClassFile.FieldType.int) ∈ gw := gw_at 458 rfl rfl
set_option maxRecDepth 100000 in
theorem tw_459 : Jvm.Cond.methodLink "QuireSigns" (159 : Nat) ({ cls := "QuireSigns$Text", name := "add", desc := "(C)V" } : Jvm.MethodName) ∈ gw := gw_at 459 rfl rfl
set_option maxRecDepth 100000 in
theorem tw_460 : Jvm.Cond.instanceMethod ({ cls := "QuireSigns$Text", name := "add", desc := "(C)V" } : Jvm.MethodName) ∈ gw := gw_at 460 rfl rfl
set_option maxRecDepth 100000 in
theorem tw_461 : Jvm.Cond.selects "QuireSigns$Text" ({ cls := "QuireSigns$Text", name := "add", desc := "(C)V" } : Jvm.MethodName) ({ cls := "QuireSigns$Text", name := "add", desc := "(C)V" } : Jvm.MethodName) ∈ gw := gw_at 461 rfl rfl
set_option maxRecDepth 100000 in
theorem tw_462 : Jvm.Cond.code ({ cls := "QuireSigns$Text", name := "add", desc := "(C)V" } : Jvm.MethodName) prog_8_method_3_code (2 : Nat) (Option.none : Option Jvm.ClassFile.FieldType) ∈ gw := gw_at 462 rfl rfl
set_option maxRecDepth 100000 in
theorem tw_463 : Jvm.Cond.methodLink "QuireSignsLaw" (80 : Nat) ({ cls := "QuireSigns", name := "clearText", desc := "()I" } : Jvm.MethodName) ∈ gw := gw_at 463 rfl rfl
set_option maxRecDepth 100000 in
theorem tw_464 : Jvm.Cond.instanceMethod ({ cls := "QuireSigns", name := "clearText", desc := "()I" } : Jvm.MethodName) ∈ gw := gw_at 464 rfl rfl
set_option maxRecDepth 100000 in
theorem tw_465 : Jvm.Cond.selects "QuireSigns" ({ cls := "QuireSigns", name := "clearText", desc := "()I" } : Jvm.MethodName) ({ cls := "QuireSigns", name := "clearText", desc := "()I" } : Jvm.MethodName) ∈ gw := gw_at 465 rfl rfl
set_option maxRecDepth 100000 in
theorem tw_466 : Jvm.Cond.code ({ cls := "QuireSigns", name := "clearText", desc := "()I" } : Jvm.MethodName) prog_1_method_11_code (2 : Nat) (Option.some Jvm.ClassFile.FieldType.int) ∈ gw := gw_at 466 rfl rfl
set_option maxRecDepth 100000 in
theorem tw_467 : Jvm.Cond.methodLink "QuireSigns" (163 : Nat) ({ cls := "QuireSigns$Text", name := "empty", desc := "()V" } : Jvm.MethodName) ∈ gw := gw_at 467 rfl rfl
set_option maxRecDepth 100000 in
theorem tw_468 : Jvm.Cond.instanceMethod ({ cls := "QuireSigns$Text", name := "empty", desc := "()V" } : Jvm.MethodName) ∈ gw := gw_at 468 rfl rfl
set_option maxRecDepth 100000 in
theorem tw_469 : Jvm.Cond.selects "QuireSigns$Text" ({ cls := "QuireSigns$Text", name := "empty", desc := "()V" } : Jvm.MethodName) ({ cls := "QuireSigns$Text", name := "empty", desc := "()V" } : Jvm.MethodName) ∈ gw := gw_at 469 rfl rfl
set_option maxRecDepth 100000 in
theorem tw_470 : Jvm.Cond.code ({ cls := "QuireSigns$Text", name := "empty", desc := "()V" } : Jvm.MethodName) prog_8_method_4_code (1 : Nat) (Option.none : Option Jvm.ClassFile.FieldType) ∈ gw := gw_at 470 rfl rfl
set_option maxRecDepth 100000 in
theorem tw_471 : Jvm.Cond.methodLink "QuireSignsLaw" (50 : Nat) ({ cls := "QuireSigns", name := "undo", desc := "()I" } : Jvm.MethodName) ∈ gw := gw_at 471 rfl rfl
set_option maxRecDepth 100000 in
theorem tw_472 : Jvm.Cond.instanceMethod ({ cls := "QuireSigns", name := "undo", desc := "()I" } : Jvm.MethodName) ∈ gw := gw_at 472 rfl rfl
set_option maxRecDepth 100000 in
theorem tw_473 : Jvm.Cond.selects "QuireSigns" ({ cls := "QuireSigns", name := "undo", desc := "()I" } : Jvm.MethodName) ({ cls := "QuireSigns", name := "undo", desc := "()I" } : Jvm.MethodName) ∈ gw := gw_at 473 rfl rfl
set_option maxRecDepth 100000 in
theorem tw_474 : Jvm.Cond.code ({ cls := "QuireSigns", name := "undo", desc := "()I" } : Jvm.MethodName) prog_1_method_12_code (1 : Nat) (Option.some Jvm.ClassFile.FieldType.int) ∈ gw := gw_at 474 rfl rfl
set_option maxRecDepth 100000 in
theorem tw_475 : Jvm.Cond.methodLink "QuireSigns" (164 : Nat) ({ cls := "QuireSigns$History", name := "states", desc := "()I" } : Jvm.MethodName) ∈ gw := gw_at 475 rfl rfl
set_option maxRecDepth 100000 in
theorem tw_476 : Jvm.Cond.instanceMethod ({ cls := "QuireSigns$History", name := "states", desc := "()I" } : Jvm.MethodName) ∈ gw := gw_at 476 rfl rfl
set_option maxRecDepth 100000 in
theorem tw_477 : Jvm.Cond.selects "QuireSigns$History" ({ cls := "QuireSigns$History", name := "states", desc := "()I" } : Jvm.MethodName) ({ cls := "QuireSigns$History", name := "states", desc := "()I" } : Jvm.MethodName) ∈ gw := gw_at 477 rfl rfl
set_option maxRecDepth 100000 in
theorem tw_478 : Jvm.Cond.code ({ cls := "QuireSigns$History", name := "states", desc := "()I" } : Jvm.MethodName) prog_4_method_2_code (1 : Nat) (Option.some Jvm.ClassFile.FieldType.int) ∈ gw := gw_at 478 rfl rfl
set_option maxRecDepth 100000 in
theorem tw_479 : Jvm.Cond.methodLink "QuireSigns" (167 : Nat) ({ cls := "QuireSigns$History", name := "takeBack", desc := "(LQuireSigns$Book;)V" } : Jvm.MethodName) ∈ gw := gw_at 479 rfl rfl
set_option maxRecDepth 100000 in
theorem tw_480 : Jvm.Cond.instanceMethod ({ cls := "QuireSigns$History", name := "takeBack", desc := "(LQuireSigns$Book;)V" } : Jvm.MethodName) ∈ gw := gw_at 480 rfl rfl
set_option maxRecDepth 100000 in
theorem tw_481 : Jvm.Cond.selects "QuireSigns$History" ({ cls := "QuireSigns$History", name := "takeBack", desc := "(LQuireSigns$Book;)V" } : Jvm.MethodName) ({ cls := "QuireSigns$History", name := "takeBack", desc := "(LQuireSigns$Book;)V" } : Jvm.MethodName) ∈ gw := gw_at 481 rfl rfl
set_option maxRecDepth 100000 in
theorem tw_482 : Jvm.Cond.code ({ cls := "QuireSigns$History", name := "takeBack", desc := "(LQuireSigns$Book;)V" } : Jvm.MethodName) prog_4_method_4_code (3 : Nat) (Option.none : Option Jvm.ClassFile.FieldType) ∈ gw := gw_at 482 rfl rfl
set_option maxRecDepth 100000 in
theorem tw_483 : Jvm.Cond.methodLink "QuireSignsLaw" (53 : Nat) ({ cls := "QuireSigns", name := "restore", desc := "()I" } : Jvm.MethodName) ∈ gw := gw_at 483 rfl rfl
set_option maxRecDepth 100000 in
theorem tw_484 : Jvm.Cond.instanceMethod ({ cls := "QuireSigns", name := "restore", desc := "()I" } : Jvm.MethodName) ∈ gw := gw_at 484 rfl rfl
set_option maxRecDepth 100000 in
theorem tw_485 : Jvm.Cond.selects "QuireSigns" ({ cls := "QuireSigns", name := "restore", desc := "()I" } : Jvm.MethodName) ({ cls := "QuireSigns", name := "restore", desc := "()I" } : Jvm.MethodName) ∈ gw := gw_at 485 rfl rfl
set_option maxRecDepth 100000 in
theorem tw_486 : Jvm.Cond.code ({ cls := "QuireSigns", name := "restore", desc := "()I" } : Jvm.MethodName) prog_1_method_14_code (1 : Nat) (Option.some Jvm.ClassFile.FieldType.int) ∈ gw := gw_at 486 rfl rfl
set_option maxRecDepth 100000 in
theorem tw_487 : Jvm.Cond.methodLink "QuireSigns" (170 : Nat) ({ cls := "QuireSigns$Book", name := "become", desc := "(LQuireSigns$Book;)V" } : Jvm.MethodName) ∈ gw := gw_at 487 rfl rfl
set_option maxRecDepth 100000 in
theorem tw_488 : Jvm.Cond.methodLink "QuireSignsLaw" (15 : Nat) ({ cls := "QuireSigns", name := "quire", desc := "(II)I" } : Jvm.MethodName) ∈ gw := gw_at 488 rfl rfl
set_option maxRecDepth 100000 in
theorem tw_489 : Jvm.Cond.instanceMethod ({ cls := "QuireSigns", name := "quire", desc := "(II)I" } : Jvm.MethodName) ∈ gw := gw_at 489 rfl rfl
set_option maxRecDepth 100000 in
theorem tw_490 : Jvm.Cond.selects "QuireSigns" ({ cls := "QuireSigns", name := "quire", desc := "(II)I" } : Jvm.MethodName) ({ cls := "QuireSigns", name := "quire", desc := "(II)I" } : Jvm.MethodName) ∈ gw := gw_at 490 rfl rfl
set_option maxRecDepth 100000 in
theorem tw_491 : Jvm.Cond.code ({ cls := "QuireSigns", name := "quire", desc := "(II)I" } : Jvm.MethodName) prog_1_method_15_code (4 : Nat) (Option.some Jvm.ClassFile.FieldType.int) ∈ gw := gw_at 491 rfl rfl
set_option maxRecDepth 100000 in
theorem tw_492 : Jvm.Cond.methodLink "QuireSigns" (152 : Nat) ({ cls := "QuireSigns$Row", name := "at", desc := "(I)I" } : Jvm.MethodName) ∈ gw := gw_at 492 rfl rfl
set_option maxRecDepth 100000 in
theorem tw_493 : Jvm.Cond.methodLink "QuireSigns" (180 : Nat) ({ cls := "QuireSigns$Sign", name := "times", desc := "(I)I" } : Jvm.MethodName) ∈ gw := gw_at 493 rfl rfl
set_option maxRecDepth 100000 in
theorem tw_494 : Jvm.Cond.methodLink "QuireSigns" (183 : Nat) ({ cls := "QuireSigns$Sign", name := "isStarred", desc := "(I)Z" } : Jvm.MethodName) ∈ gw := gw_at 494 rfl rfl
set_option maxRecDepth 100000 in
theorem tw_495 : Jvm.Cond.methodLink "QuireSigns" (192 : Nat) ({ cls := "QuireSigns$Book", name := "firstLeaf", desc := "(I)I" } : Jvm.MethodName) ∈ gw := gw_at 495 rfl rfl
set_option maxRecDepth 100000 in
theorem tw_496 : Jvm.Cond.methodLink "QuireSigns" (195 : Nat) ({ cls := "QuireSigns$Book", name := "signedIn", desc := "(I)I" } : Jvm.MethodName) ∈ gw := gw_at 496 rfl rfl
set_option maxRecDepth 100000 in
theorem tw_497 : Jvm.Cond.methodLink "QuireSigns" (198 : Nat) ({ cls := "QuireSigns$Book", name := "thereIn", desc := "(I)I" } : Jvm.MethodName) ∈ gw := gw_at 497 rfl rfl
set_option maxRecDepth 100000 in
theorem tw_498 : Jvm.Cond.instanceMethod ({ cls := "QuireSigns$Book", name := "thereIn", desc := "(I)I" } : Jvm.MethodName) ∈ gw := gw_at 498 rfl rfl
set_option maxRecDepth 100000 in
theorem tw_499 : Jvm.Cond.selects "QuireSigns$Book" ({ cls := "QuireSigns$Book", name := "thereIn", desc := "(I)I" } : Jvm.MethodName) ({ cls := "QuireSigns$Book", name := "thereIn", desc := "(I)I" } : Jvm.MethodName) ∈ gw := gw_at 499 rfl rfl
set_option maxRecDepth 100000 in
theorem tw_500 : Jvm.Cond.code ({ cls := "QuireSigns$Book", name := "thereIn", desc := "(I)I" } : Jvm.MethodName) prog_3_method_19_code (2 : Nat) (Option.some Jvm.ClassFile.FieldType.int) ∈ gw := gw_at 500 rfl rfl
set_option maxRecDepth 100000 in
theorem tw_501 : Jvm.Cond.methodLink "QuireSigns" (201 : Nat) ({ cls := "QuireSigns$Book", name := "sameAhead", desc := "(I)I" } : Jvm.MethodName) ∈ gw := gw_at 501 rfl rfl
set_option maxRecDepth 100000 in
theorem tw_502 : Jvm.Cond.instanceMethod ({ cls := "QuireSigns$Book", name := "sameAhead", desc := "(I)I" } : Jvm.MethodName) ∈ gw := gw_at 502 rfl rfl
set_option maxRecDepth 100000 in
theorem tw_503 : Jvm.Cond.selects "QuireSigns$Book" ({ cls := "QuireSigns$Book", name := "sameAhead", desc := "(I)I" } : Jvm.MethodName) ({ cls := "QuireSigns$Book", name := "sameAhead", desc := "(I)I" } : Jvm.MethodName) ∈ gw := gw_at 503 rfl rfl
set_option maxRecDepth 100000 in
theorem tw_504 : Jvm.Cond.code ({ cls := "QuireSigns$Book", name := "sameAhead", desc := "(I)I" } : Jvm.MethodName) prog_3_method_8_code (4 : Nat) (Option.some Jvm.ClassFile.FieldType.int) ∈ gw := gw_at 504 rfl rfl
set_option maxRecDepth 100000 in
theorem tw_505 : Jvm.Cond.methodLink "QuireSignsLaw" (19 : Nat) ({ cls := "QuireSigns", name := "leaf", desc := "(II)I" } : Jvm.MethodName) ∈ gw := gw_at 505 rfl rfl
set_option maxRecDepth 100000 in
theorem tw_506 : Jvm.Cond.instanceMethod ({ cls := "QuireSigns", name := "leaf", desc := "(II)I" } : Jvm.MethodName) ∈ gw := gw_at 506 rfl rfl
set_option maxRecDepth 100000 in
theorem tw_507 : Jvm.Cond.selects "QuireSigns" ({ cls := "QuireSigns", name := "leaf", desc := "(II)I" } : Jvm.MethodName) ({ cls := "QuireSigns", name := "leaf", desc := "(II)I" } : Jvm.MethodName) ∈ gw := gw_at 507 rfl rfl
set_option maxRecDepth 100000 in
theorem tw_508 : Jvm.Cond.code ({ cls := "QuireSigns", name := "leaf", desc := "(II)I" } : Jvm.MethodName) prog_1_method_16_code (5 : Nat) (Option.some Jvm.ClassFile.FieldType.int) ∈ gw := gw_at 508 rfl rfl
set_option maxRecDepth 100000 in
theorem tw_509 : Jvm.Cond.methodLink "QuireSigns" (204 : Nat) ({ cls := "QuireSigns$Book", name := "quireOf", desc := "(I)I" } : Jvm.MethodName) ∈ gw := gw_at 509 rfl rfl
set_option maxRecDepth 100000 in
theorem tw_510 : Jvm.Cond.methodLink "QuireSigns" (207 : Nat) ({ cls := "QuireSigns$Book", name := "numberOf", desc := "(I)I" } : Jvm.MethodName) ∈ gw := gw_at 510 rfl rfl
set_option maxRecDepth 100000 in
theorem tw_511 : Jvm.Cond.methodLink "QuireSigns" (210 : Nat) ({ cls := "QuireSigns", name := "leafHangingWith", desc := "(I)I" } : Jvm.MethodName) ∈ gw := gw_at 511 rfl rfl
set_option maxRecDepth 100000 in
theorem tw_513 : Jvm.Cond.instanceMethod ({ cls := "QuireSigns", name := "leafHangingWith", desc := "(I)I" } : Jvm.MethodName) ∈ gw := gw_at 513 rfl rfl
set_option maxRecDepth 100000 in
theorem tw_514 : Jvm.Cond.code ({ cls := "QuireSigns", name := "leafHangingWith", desc := "(I)I" } : Jvm.MethodName) prog_1_method_28_code (5 : Nat) (Option.some Jvm.ClassFile.FieldType.int) ∈ gw := gw_at 514 rfl rfl
set_option maxRecDepth 100000 in
theorem tw_515 : Jvm.Cond.methodLink "QuireSigns" (213 : Nat) ({ cls := "QuireSigns$Book", name := "thereAhead", desc := "(I)I" } : Jvm.MethodName) ∈ gw := gw_at 515 rfl rfl
set_option maxRecDepth 100000 in
theorem tw_516 : Jvm.Cond.methodLink "QuireSignsLaw" (56 : Nat) ({ cls := "QuireSigns", name := "find", desc := "()I" } : Jvm.MethodName) ∈ gw := gw_at 516 rfl rfl
set_option maxRecDepth 100000 in
theorem tw_517 : Jvm.Cond.instanceMethod ({ cls := "QuireSigns", name := "find", desc := "()I" } : Jvm.MethodName) ∈ gw := gw_at 517 rfl rfl
set_option maxRecDepth 100000 in
theorem tw_518 : Jvm.Cond.selects "QuireSigns" ({ cls := "QuireSigns", name := "find", desc := "()I" } : Jvm.MethodName) ({ cls := "QuireSigns", name := "find", desc := "()I" } : Jvm.MethodName) ∈ gw := gw_at 518 rfl rfl
set_option maxRecDepth 100000 in
theorem tw_519 : Jvm.Cond.code ({ cls := "QuireSigns", name := "find", desc := "()I" } : Jvm.MethodName) prog_1_method_17_code (3 : Nat) (Option.some Jvm.ClassFile.FieldType.int) ∈ gw := gw_at 519 rfl rfl
set_option maxRecDepth 100000 in
theorem tw_520 : Jvm.Cond.methodLink "QuireSigns" (133 : Nat) ({ cls := "QuireSigns$Text", name := "readAsPile", desc := "()I" } : Jvm.MethodName) ∈ gw := gw_at 520 rfl rfl
set_option maxRecDepth 100000 in
theorem tw_521 : Jvm.Cond.instanceMethod ({ cls := "QuireSigns$Text", name := "readAsPile", desc := "()I" } : Jvm.MethodName) ∈ gw := gw_at 521 rfl rfl
set_option maxRecDepth 100000 in
theorem tw_522 : Jvm.Cond.selects "QuireSigns$Text" ({ cls := "QuireSigns$Text", name := "readAsPile", desc := "()I" } : Jvm.MethodName) ({ cls := "QuireSigns$Text", name := "readAsPile", desc := "()I" } : Jvm.MethodName) ∈ gw := gw_at 522 rfl rfl
set_option maxRecDepth 100000 in
theorem tw_523 : Jvm.Cond.code ({ cls := "QuireSigns$Text", name := "readAsPile", desc := "()I" } : Jvm.MethodName) prog_8_method_10_code (1 : Nat) (Option.some Jvm.ClassFile.FieldType.int) ∈ gw := gw_at 523 rfl rfl
set_option maxRecDepth 100000 in
theorem tw_524 : Jvm.Cond.methodLink "QuireSigns" (222 : Nat) ({ cls := "QuireSigns$Book", name := "leafSigned", desc := "(II)I" } : Jvm.MethodName) ∈ gw := gw_at 524 rfl rfl
set_option maxRecDepth 100000 in
theorem tw_525 : Jvm.Cond.instanceMethod ({ cls := "QuireSigns$Book", name := "leafSigned", desc := "(II)I" } : Jvm.MethodName) ∈ gw := gw_at 525 rfl rfl
set_option maxRecDepth 100000 in
theorem tw_526 : Jvm.Cond.selects "QuireSigns$Book" ({ cls := "QuireSigns$Book", name := "leafSigned", desc := "(II)I" } : Jvm.MethodName) ({ cls := "QuireSigns$Book", name := "leafSigned", desc := "(II)I" } : Jvm.MethodName) ∈ gw := gw_at 526 rfl rfl
set_option maxRecDepth 100000 in
theorem tw_527 : Jvm.Cond.code ({ cls := "QuireSigns$Book", name := "leafSigned", desc := "(II)I" } : Jvm.MethodName) prog_3_method_22_code (4 : Nat) (Option.some Jvm.ClassFile.FieldType.int) ∈ gw := gw_at 527 rfl rfl
set_option maxRecDepth 100000 in
theorem tw_528 : Jvm.Cond.methodLink "QuireSignsLaw" (25 : Nat) ({ cls := "QuireSigns", name := "lapse", desc := "(II)I" } : Jvm.MethodName) ∈ gw := gw_at 528 rfl rfl
set_option maxRecDepth 100000 in
theorem tw_529 : Jvm.Cond.instanceMethod ({ cls := "QuireSigns", name := "lapse", desc := "(II)I" } : Jvm.MethodName) ∈ gw := gw_at 529 rfl rfl
set_option maxRecDepth 100000 in
theorem tw_530 : Jvm.Cond.selects "QuireSigns" ({ cls := "QuireSigns", name := "lapse", desc := "(II)I" } : Jvm.MethodName) ({ cls := "QuireSigns", name := "lapse", desc := "(II)I" } : Jvm.MethodName) ∈ gw := gw_at 530 rfl rfl
set_option maxRecDepth 100000 in
theorem tw_531 : Jvm.Cond.code ({ cls := "QuireSigns", name := "lapse", desc := "(II)I" } : Jvm.MethodName) prog_1_method_18_code (4 : Nat) (Option.some Jvm.ClassFile.FieldType.int) ∈ gw := gw_at 531 rfl rfl
set_option maxRecDepth 100000 in
theorem tw_532 : Jvm.Cond.methodLink "QuireSigns" (226 : Nat) ({ cls := "QuireSigns$Lapses", name := "quireAt", desc := "(LQuireSigns$Book;I)I" } : Jvm.MethodName) ∈ gw := gw_at 532 rfl rfl
set_option maxRecDepth 100000 in
theorem tw_533 : Jvm.Cond.static ({ cls := "QuireSigns$Lapses", name := "quireAt", desc := "(LQuireSigns$Book;I)I" } : Jvm.MethodName) ∈ gw := gw_at 533 rfl rfl
set_option maxRecDepth 100000 in
theorem tw_534 : Jvm.Cond.code ({ cls := "QuireSigns$Lapses", name := "quireAt", desc := "(LQuireSigns$Book;I)I" } : Jvm.MethodName) prog_5_method_5_code (4 : Nat) (Option.some Jvm.ClassFile.FieldType.int) ∈ gw := gw_at 534 rfl rfl
set_option maxRecDepth 100000 in
theorem tw_535 : Jvm.Cond.methodLink "QuireSigns$Lapses" (47 : Nat) ({ cls := "QuireSigns$Book", name := "quires", desc := "()I" } : Jvm.MethodName) ∈ gw := gw_at 535 rfl rfl
set_option maxRecDepth 100000 in
theorem tw_536 : Jvm.Cond.methodLink "QuireSigns$Lapses" (39 : Nat) ({ cls := "QuireSigns$Lapses", name := "kind", desc := "(LQuireSigns$Book;I)I" } : Jvm.MethodName) ∈ gw := gw_at 536 rfl rfl
set_option maxRecDepth 100000 in
theorem tw_537 : Jvm.Cond.static ({ cls := "QuireSigns$Lapses", name := "kind", desc := "(LQuireSigns$Book;I)I" } : Jvm.MethodName) ∈ gw := gw_at 537 rfl rfl
set_option maxRecDepth 100000 in
theorem tw_538 : Jvm.Cond.code ({ cls := "QuireSigns$Lapses", name := "kind", desc := "(LQuireSigns$Book;I)I" } : Jvm.MethodName) prog_5_method_2_code (4 : Nat) (Option.some Jvm.ClassFile.FieldType.int) ∈ gw := gw_at 538 rfl rfl
set_option maxRecDepth 100000 in
theorem tw_539 : Jvm.Cond.methodLink "QuireSigns$Lapses" (13 : Nat) ({ cls := "QuireSigns$Row", name := "at", desc := "(I)I" } : Jvm.MethodName) ∈ gw := gw_at 539 rfl rfl
set_option maxRecDepth 100000 in
theorem tw_540 : Jvm.Cond.methodLink "QuireSigns$Lapses" (19 : Nat) ({ cls := "QuireSigns$Book", name := "lastLettersAhead", desc := "(I)I" } : Jvm.MethodName) ∈ gw := gw_at 540 rfl rfl
set_option maxRecDepth 100000 in
theorem tw_541 : Jvm.Cond.methodLink "QuireSigns$Lapses" (22 : Nat) ({ cls := "QuireSigns$Sign", name := "isStarred", desc := "(I)Z" } : Jvm.MethodName) ∈ gw := gw_at 541 rfl rfl
set_option maxRecDepth 100000 in
theorem tw_542 : Jvm.Cond.methodLink "QuireSigns$Lapses" (34 : Nat) ({ cls := "QuireSigns$Alphabet", name := "nextSign", desc := "(I)I" } : Jvm.MethodName) ∈ gw := gw_at 542 rfl rfl
set_option maxRecDepth 100000 in
theorem tw_543 : Jvm.Cond.methodLink "QuireSigns" (232 : Nat) ({ cls := "QuireSigns$Lapses", name := "kind", desc := "(LQuireSigns$Book;I)I" } : Jvm.MethodName) ∈ gw := gw_at 543 rfl rfl
set_option maxRecDepth 100000 in
theorem tw_544 : Jvm.Cond.methodLink "QuireSigns" (235 : Nat) ({ cls := "QuireSigns$Lapses", name := "width", desc := "(LQuireSigns$Book;I)I" } : Jvm.MethodName) ∈ gw := gw_at 544 rfl rfl
set_option maxRecDepth 100000 in
theorem tw_545 : Jvm.Cond.static ({ cls := "QuireSigns$Lapses", name := "width", desc := "(LQuireSigns$Book;I)I" } : Jvm.MethodName) ∈ gw := gw_at 545 rfl rfl
set_option maxRecDepth 100000 in
theorem tw_546 : Jvm.Cond.code ({ cls := "QuireSigns$Lapses", name := "width", desc := "(LQuireSigns$Book;I)I" } : Jvm.MethodName) prog_5_method_3_code (2 : Nat) (Option.some Jvm.ClassFile.FieldType.int) ∈ gw := gw_at 546 rfl rfl
set_option maxRecDepth 100000 in
theorem tw_547 : Jvm.Cond.methodLink "QuireSigns$Lapses" (43 : Nat) ({ cls := "QuireSigns$Alphabet", name := "signsBetween", desc := "(II)I" } : Jvm.MethodName) ∈ gw := gw_at 547 rfl rfl
set_option maxRecDepth 100000 in
theorem tw_548 : Jvm.Cond.methodLink "QuireSignsLaw" (28 : Nat) ({ cls := "QuireSigns", name := "piled", desc := "(II)I" } : Jvm.MethodName) ∈ gw := gw_at 548 rfl rfl
set_option maxRecDepth 100000 in
theorem tw_549 : Jvm.Cond.instanceMethod ({ cls := "QuireSigns", name := "piled", desc := "(II)I" } : Jvm.MethodName) ∈ gw := gw_at 549 rfl rfl
set_option maxRecDepth 100000 in
theorem tw_550 : Jvm.Cond.selects "QuireSigns" ({ cls := "QuireSigns", name := "piled", desc := "(II)I" } : Jvm.MethodName) ({ cls := "QuireSigns", name := "piled", desc := "(II)I" } : Jvm.MethodName) ∈ gw := gw_at 550 rfl rfl
set_option maxRecDepth 100000 in
theorem tw_551 : Jvm.Cond.code ({ cls := "QuireSigns", name := "piled", desc := "(II)I" } : Jvm.MethodName) prog_1_method_19_code (4 : Nat) (Option.some Jvm.ClassFile.FieldType.int) ∈ gw := gw_at 551 rfl rfl
set_option maxRecDepth 100000 in
theorem tw_552 : Jvm.Cond.methodLink "QuireSigns" (143 : Nat) ({ cls := "QuireSigns$Row", name := "length", desc := "()I" } : Jvm.MethodName) ∈ gw := gw_at 552 rfl rfl
set_option maxRecDepth 100000 in
theorem tw_553 : Jvm.Cond.methodLink "QuireSignsLaw" (90 : Nat) ({ cls := "QuireSigns", name := "sheets", desc := "(I)I" } : Jvm.MethodName) ∈ gw := gw_at 553 rfl rfl
set_option maxRecDepth 100000 in
theorem tw_554 : Jvm.Cond.instanceMethod ({ cls := "QuireSigns", name := "sheets", desc := "(I)I" } : Jvm.MethodName) ∈ gw := gw_at 554 rfl rfl
set_option maxRecDepth 100000 in
theorem tw_555 : Jvm.Cond.selects "QuireSigns" ({ cls := "QuireSigns", name := "sheets", desc := "(I)I" } : Jvm.MethodName) ({ cls := "QuireSigns", name := "sheets", desc := "(I)I" } : Jvm.MethodName) ∈ gw := gw_at 555 rfl rfl
set_option maxRecDepth 100000 in
theorem tw_556 : Jvm.Cond.code ({ cls := "QuireSigns", name := "sheets", desc := "(I)I" } : Jvm.MethodName) prog_1_method_20_code (4 : Nat) (Option.some Jvm.ClassFile.FieldType.int) ∈ gw := gw_at 556 rfl rfl
set_option maxRecDepth 100000 in
theorem tw_557 : Jvm.Cond.methodLink "QuireSignsLaw" (22 : Nat) ({ cls := "QuireSigns", name := "formula", desc := "(I)I" } : Jvm.MethodName) ∈ gw := gw_at 557 rfl rfl
set_option maxRecDepth 100000 in
theorem tw_558 : Jvm.Cond.instanceMethod ({ cls := "QuireSigns", name := "formula", desc := "(I)I" } : Jvm.MethodName) ∈ gw := gw_at 558 rfl rfl
set_option maxRecDepth 100000 in
theorem tw_559 : Jvm.Cond.selects "QuireSigns" ({ cls := "QuireSigns", name := "formula", desc := "(I)I" } : Jvm.MethodName) ({ cls := "QuireSigns", name := "formula", desc := "(I)I" } : Jvm.MethodName) ∈ gw := gw_at 559 rfl rfl
set_option maxRecDepth 100000 in
theorem tw_560 : Jvm.Cond.code ({ cls := "QuireSigns", name := "formula", desc := "(I)I" } : Jvm.MethodName) prog_1_method_21_code (2 : Nat) (Option.some Jvm.ClassFile.FieldType.int) ∈ gw := gw_at 560 rfl rfl
set_option maxRecDepth 100000 in
theorem tw_561 : Jvm.Cond.methodLink "QuireSigns" (238 : Nat) ({ cls := "QuireSigns$Writer", name := "write", desc := "(LQuireSigns$Book;)V" } : Jvm.MethodName) ∈ gw := gw_at 561 rfl rfl
set_option maxRecDepth 100000 in
theorem tw_562 : Jvm.Cond.instanceMethod ({ cls := "QuireSigns$Writer", name := "write", desc := "(LQuireSigns$Book;)V" } : Jvm.MethodName) ∈ gw := gw_at 562 rfl rfl
set_option maxRecDepth 100000 in
theorem tw_563 : Jvm.Cond.selects "QuireSigns$Writer" ({ cls := "QuireSigns$Writer", name := "write", desc := "(LQuireSigns$Book;)V" } : Jvm.MethodName) ({ cls := "QuireSigns$Writer", name := "write", desc := "(LQuireSigns$Book;)V" } : Jvm.MethodName) ∈ gw := gw_at 563 rfl rfl
set_option maxRecDepth 100000 in
theorem tw_564 : Jvm.Cond.code ({ cls := "QuireSigns$Writer", name := "write", desc := "(LQuireSigns$Book;)V" } : Jvm.MethodName) prog_9_method_5_code (4 : Nat) (Option.none : Option Jvm.ClassFile.FieldType) ∈ gw := gw_at 564 rfl rfl
set_option maxRecDepth 100000 in
theorem tw_565 : Jvm.Cond.methodLink "QuireSigns$Writer" (32 : Nat) ({ cls := "QuireSigns$Row", name := "empty", desc := "()V" } : Jvm.MethodName) ∈ gw := gw_at 565 rfl rfl
set_option maxRecDepth 100000 in
theorem tw_566 : Jvm.Cond.methodLink "QuireSigns$Writer" (35 : Nat) ({ cls := "QuireSigns$Book", name := "quires", desc := "()I" } : Jvm.MethodName) ∈ gw := gw_at 566 rfl rfl
set_option maxRecDepth 100000 in
theorem tw_567 : Jvm.Cond.methodLink "QuireSigns$Writer" (40 : Nat) ({ cls := "QuireSigns$Writer", name := "goesOn", desc := "(LQuireSigns$Book;I)Z" } : Jvm.MethodName) ∈ gw := gw_at 567 rfl rfl
set_option maxRecDepth 100000 in
theorem tw_568 : Jvm.Cond.static ({ cls := "QuireSigns$Writer", name := "goesOn", desc := "(LQuireSigns$Book;I)Z" } : Jvm.MethodName) ∈ gw := gw_at 568 rfl rfl
set_option maxRecDepth 100000 in
theorem tw_569 : Jvm.Cond.code ({ cls := "QuireSigns$Writer", name := "goesOn", desc := "(LQuireSigns$Book;I)Z" } : Jvm.MethodName) prog_9_method_6_code (4 : Nat) (Option.some Jvm.ClassFile.FieldType.boolean) ∈ gw := gw_at 569 rfl rfl
set_option maxRecDepth 100000 in
theorem tw_570 : Jvm.Cond.methodLink "QuireSigns$Writer" (24 : Nat) ({ cls := "QuireSigns$Row", name := "at", desc := "(I)I" } : Jvm.MethodName) ∈ gw := gw_at 570 rfl rfl
set_option maxRecDepth 100000 in
theorem tw_571 : Jvm.Cond.methodLink "QuireSigns$Writer" (66 : Nat) ({ cls := "QuireSigns$Alphabet", name := "nextSign", desc := "(I)I" } : Jvm.MethodName) ∈ gw := gw_at 571 rfl rfl
set_option maxRecDepth 100000 in
theorem tw_572 : Jvm.Cond.methodLink "QuireSigns$Writer" (71 : Nat) ({ cls := "QuireSigns$Sign", name := "times", desc := "(I)I" } : Jvm.MethodName) ∈ gw := gw_at 572 rfl rfl
set_option maxRecDepth 100000 in
theorem tw_573 : Jvm.Cond.methodLink "QuireSigns$Writer" (47 : Nat) ({ cls := "QuireSigns$Writer", name := "beginEntry", desc := "(I)V" } : Jvm.MethodName) ∈ gw := gw_at 573 rfl rfl
set_option maxRecDepth 100000 in
theorem tw_575 : Jvm.Cond.instanceMethod ({ cls := "QuireSigns$Writer", name := "beginEntry", desc := "(I)V" } : Jvm.MethodName) ∈ gw := gw_at 575 rfl rfl
set_option maxRecDepth 100000 in
theorem tw_576 : Jvm.Cond.code ({ cls := "QuireSigns$Writer", name := "beginEntry", desc := "(I)V" } : Jvm.MethodName) prog_9_method_7_code (2 : Nat) (Option.none : Option Jvm.ClassFile.FieldType) ∈ gw := gw_at 576 rfl rfl
set_option maxRecDepth 100000 in
theorem tw_577 : Jvm.Cond.methodLink "QuireSigns$Writer" (50 : Nat) ({ cls := "QuireSigns$Row", name := "add", desc := "(I)V" } : Jvm.MethodName) ∈ gw := gw_at 577 rfl rfl
set_option maxRecDepth 100000 in
theorem tw_578 : Jvm.Cond.methodLink "QuireSigns$Writer" (53 : Nat) ({ cls := "QuireSigns$Writer", name := "writeSign", desc := "(I)V" } : Jvm.MethodName) ∈ gw := gw_at 578 rfl rfl
set_option maxRecDepth 100000 in
theorem tw_580 : Jvm.Cond.instanceMethod ({ cls := "QuireSigns$Writer", name := "writeSign", desc := "(I)V" } : Jvm.MethodName) ∈ gw := gw_at 580 rfl rfl
set_option maxRecDepth 100000 in
theorem tw_581 : Jvm.Cond.code ({ cls := "QuireSigns$Writer", name := "writeSign", desc := "(I)V" } : Jvm.MethodName) prog_9_method_8_code (4 : Nat) (Option.none : Option Jvm.ClassFile.FieldType) ∈ gw := gw_at 581 rfl rfl
set_option maxRecDepth 100000 in
theorem tw_582 : Jvm.Cond.methodLink "QuireSigns$Writer" (76 : Nat) ({ cls := "QuireSigns$Sign", name := "isStarred", desc := "(I)Z" } : Jvm.MethodName) ∈ gw := gw_at 582 rfl rfl
set_option maxRecDepth 100000 in
theorem tw_583 : Jvm.Cond.methodLink "QuireSigns$Writer" (80 : Nat) ({ cls := "QuireSigns$Sign", name := "letter", desc := "(I)I" } : Jvm.MethodName) ∈ gw := gw_at 583 rfl rfl
set_option maxRecDepth 100000 in
theorem tw_584 : Jvm.Cond.methodLink "QuireSigns$Writer" (59 : Nat) ({ cls := "QuireSigns$Writer", name := "writeNumber", desc := "(I)V" } : Jvm.MethodName) ∈ gw := gw_at 584 rfl rfl
set_option maxRecDepth 100000 in
theorem tw_586 : Jvm.Cond.instanceMethod ({ cls := "QuireSigns$Writer", name := "writeNumber", desc := "(I)V" } : Jvm.MethodName) ∈ gw := gw_at 586 rfl rfl
set_option maxRecDepth 100000 in
theorem tw_587 : Jvm.Cond.code ({ cls := "QuireSigns$Writer", name := "writeNumber", desc := "(I)V" } : Jvm.MethodName) prog_9_method_9_code (2 : Nat) (Option.none : Option Jvm.ClassFile.FieldType) ∈ gw := gw_at 587 rfl rfl
set_option maxRecDepth 100000 in
theorem tw_588 : Jvm.Cond.methodLink "QuireSigns" (241 : Nat) ({ cls := "QuireSigns$Writer", name := "length", desc := "()I" } : Jvm.MethodName) ∈ gw := gw_at 588 rfl rfl
set_option maxRecDepth 100000 in
theorem tw_589 : Jvm.Cond.instanceMethod ({ cls := "QuireSigns$Writer", name := "length", desc := "()I" } : Jvm.MethodName) ∈ gw := gw_at 589 rfl rfl
set_option maxRecDepth 100000 in
theorem tw_590 : Jvm.Cond.selects "QuireSigns$Writer" ({ cls := "QuireSigns$Writer", name := "length", desc := "()I" } : Jvm.MethodName) ({ cls := "QuireSigns$Writer", name := "length", desc := "()I" } : Jvm.MethodName) ∈ gw := gw_at 590 rfl rfl
set_option maxRecDepth 100000 in
theorem tw_591 : Jvm.Cond.code ({ cls := "QuireSigns$Writer", name := "length", desc := "()I" } : Jvm.MethodName) prog_9_method_2_code (1 : Nat) (Option.some Jvm.ClassFile.FieldType.int) ∈ gw := gw_at 591 rfl rfl
set_option maxRecDepth 100000 in
theorem tw_592 : Jvm.Cond.methodLink "QuireSigns$Writer" (20 : Nat) ({ cls := "QuireSigns$Row", name := "length", desc := "()I" } : Jvm.MethodName) ∈ gw := gw_at 592 rfl rfl
set_option maxRecDepth 100000 in
theorem tw_593 : Jvm.Cond.methodLink "QuireSigns" (242 : Nat) ({ cls := "QuireSigns$Writer", name := "characterAt", desc := "(I)I" } : Jvm.MethodName) ∈ gw := gw_at 593 rfl rfl
set_option maxRecDepth 100000 in
theorem tw_594 : Jvm.Cond.instanceMethod ({ cls := "QuireSigns$Writer", name := "characterAt", desc := "(I)I" } : Jvm.MethodName) ∈ gw := gw_at 594 rfl rfl
set_option maxRecDepth 100000 in
theorem tw_595 : Jvm.Cond.selects "QuireSigns$Writer" ({ cls := "QuireSigns$Writer", name := "characterAt", desc := "(I)I" } : Jvm.MethodName) ({ cls := "QuireSigns$Writer", name := "characterAt", desc := "(I)I" } : Jvm.MethodName) ∈ gw := gw_at 595 rfl rfl
set_option maxRecDepth 100000 in
theorem tw_596 : Jvm.Cond.code ({ cls := "QuireSigns$Writer", name := "characterAt", desc := "(I)I" } : Jvm.MethodName) prog_9_method_3_code (2 : Nat) (Option.some Jvm.ClassFile.FieldType.int) ∈ gw := gw_at 596 rfl rfl
set_option maxRecDepth 100000 in
theorem tw_597 : Jvm.Cond.methodLink "QuireSignsLaw" (9 : Nat) ({ cls := "QuireSigns", name := "count", desc := "(I)I" } : Jvm.MethodName) ∈ gw := gw_at 597 rfl rfl
set_option maxRecDepth 100000 in
theorem tw_598 : Jvm.Cond.instanceMethod ({ cls := "QuireSigns", name := "count", desc := "(I)I" } : Jvm.MethodName) ∈ gw := gw_at 598 rfl rfl
set_option maxRecDepth 100000 in
theorem tw_599 : Jvm.Cond.selects "QuireSigns" ({ cls := "QuireSigns", name := "count", desc := "(I)I" } : Jvm.MethodName) ({ cls := "QuireSigns", name := "count", desc := "(I)I" } : Jvm.MethodName) ∈ gw := gw_at 599 rfl rfl
set_option maxRecDepth 100000 in
theorem tw_600 : Jvm.Cond.code ({ cls := "QuireSigns", name := "count", desc := "(I)I" } : Jvm.MethodName) prog_1_method_22_code (2 : Nat) (Option.some Jvm.ClassFile.FieldType.int) ∈ gw := gw_at 600 rfl rfl
set_option maxRecDepth 100000 in
theorem tw_601 : Jvm.Cond.methodLink "QuireSigns" (245 : Nat) ({ cls := "QuireSigns$Book", name := "starredQuires", desc := "()I" } : Jvm.MethodName) ∈ gw := gw_at 601 rfl rfl
set_option maxRecDepth 100000 in
theorem tw_602 : Jvm.Cond.instanceMethod ({ cls := "QuireSigns$Book", name := "starredQuires", desc := "()I" } : Jvm.MethodName) ∈ gw := gw_at 602 rfl rfl
set_option maxRecDepth 100000 in
theorem tw_603 : Jvm.Cond.selects "QuireSigns$Book" ({ cls := "QuireSigns$Book", name := "starredQuires", desc := "()I" } : Jvm.MethodName) ({ cls := "QuireSigns$Book", name := "starredQuires", desc := "()I" } : Jvm.MethodName) ∈ gw := gw_at 603 rfl rfl
set_option maxRecDepth 100000 in
theorem tw_604 : Jvm.Cond.code ({ cls := "QuireSigns$Book", name := "starredQuires", desc := "()I" } : Jvm.MethodName) prog_3_method_7_code (3 : Nat) (Option.some Jvm.ClassFile.FieldType.int) ∈ gw := gw_at 604 rfl rfl
set_option maxRecDepth 100000 in
theorem tw_605 : Jvm.Cond.methodLink "QuireSigns" (248 : Nat) ({ cls := "QuireSigns$Lapses", name := "number", desc := "(LQuireSigns$Book;)I" } : Jvm.MethodName) ∈ gw := gw_at 605 rfl rfl
set_option maxRecDepth 100000 in
theorem tw_606 : Jvm.Cond.static ({ cls := "QuireSigns$Lapses", name := "number", desc := "(LQuireSigns$Book;)I" } : Jvm.MethodName) ∈ gw := gw_at 606 rfl rfl
set_option maxRecDepth 100000 in
theorem tw_607 : Jvm.Cond.code ({ cls := "QuireSigns$Lapses", name := "number", desc := "(LQuireSigns$Book;)I" } : Jvm.MethodName) prog_5_method_4_code (3 : Nat) (Option.some Jvm.ClassFile.FieldType.int) ∈ gw := gw_at 607 rfl rfl
set_option maxRecDepth 100000 in
theorem tw_608 : Jvm.Cond.methodLink "QuireSigns" (251 : Nat) ({ cls := "QuireSigns$Writer", name := "entries", desc := "()I" } : Jvm.MethodName) ∈ gw := gw_at 608 rfl rfl
set_option maxRecDepth 100000 in
theorem tw_609 : Jvm.Cond.instanceMethod ({ cls := "QuireSigns$Writer", name := "entries", desc := "()I" } : Jvm.MethodName) ∈ gw := gw_at 609 rfl rfl
set_option maxRecDepth 100000 in
theorem tw_610 : Jvm.Cond.selects "QuireSigns$Writer" ({ cls := "QuireSigns$Writer", name := "entries", desc := "()I" } : Jvm.MethodName) ({ cls := "QuireSigns$Writer", name := "entries", desc := "()I" } : Jvm.MethodName) ∈ gw := gw_at 610 rfl rfl
set_option maxRecDepth 100000 in
theorem tw_611 : Jvm.Cond.code ({ cls := "QuireSigns$Writer", name := "entries", desc := "()I" } : Jvm.MethodName) prog_9_method_4_code (1 : Nat) (Option.some Jvm.ClassFile.FieldType.int) ∈ gw := gw_at 611 rfl rfl
set_option maxRecDepth 100000 in
theorem tw_612 : Jvm.Cond.methodLink "QuireSignsLaw" (59 : Nat) ({ cls := "QuireSignsLaw", name := "cell", desc := "([II)I" } : Jvm.MethodName) ∈ gw := gw_at 612 rfl rfl
set_option maxRecDepth 100000 in
theorem tw_613 : Jvm.Cond.static ({ cls := "QuireSignsLaw", name := "cell", desc := "([II)I" } : Jvm.MethodName) ∈ gw := gw_at 613 rfl rfl
set_option maxRecDepth 100000 in
theorem tw_614 : Jvm.Cond.code ({ cls := "QuireSignsLaw", name := "cell", desc := "([II)I" } : Jvm.MethodName) method_2_code (2 : Nat) (Option.some Jvm.ClassFile.FieldType.int) ∈ gw := gw_at 614 rfl rfl
set_option maxRecDepth 100000 in
theorem tw_615 : Jvm.Cond.constant "QuireSignsLaw" (7 : Nat) (45613 : Int32) ∈ gw := gw_at 615 rfl rfl
set_option maxRecDepth 100000 in
theorem tw_616 : Jvm.Cond.constant "QuireSignsLaw" (8 : Nat) (2147483647 : Int32) ∈ gw := gw_at 616 rfl rfl
set_option maxRecDepth 100000 in
theorem tw_617 : Jvm.Cond.methodLink "QuireSignsLaw" (83 : Nat) ({ cls := "QuireSignsLaw", name := "hangs", desc := "(LQuireSigns;)Z" } : Jvm.MethodName) ∈ gw := gw_at 617 rfl rfl
set_option maxRecDepth 100000 in
theorem tw_618 : Jvm.Cond.static ({ cls := "QuireSignsLaw", name := "hangs", desc := "(LQuireSigns;)Z" } : Jvm.MethodName) ∈ gw := gw_at 618 rfl rfl
set_option maxRecDepth 100000 in
theorem tw_619 : Jvm.Cond.code ({ cls := "QuireSignsLaw", name := "hangs", desc := "(LQuireSigns;)Z" } : Jvm.MethodName) method_3_code (16 : Nat) (Option.some Jvm.ClassFile.FieldType.boolean) ∈ gw := gw_at 619 rfl rfl
set_option maxRecDepth 100000 in
theorem tw_620 : Jvm.Cond.methodLink "QuireSignsLaw" (87 : Nat) ({ cls := "QuireSignsLaw", name := "again", desc := "(LQuireSigns;)Z" } : Jvm.MethodName) ∈ gw := gw_at 620 rfl rfl
set_option maxRecDepth 100000 in
theorem tw_621 : Jvm.Cond.static ({ cls := "QuireSignsLaw", name := "again", desc := "(LQuireSigns;)Z" } : Jvm.MethodName) ∈ gw := gw_at 621 rfl rfl
set_option maxRecDepth 100000 in
theorem tw_622 : Jvm.Cond.code ({ cls := "QuireSignsLaw", name := "again", desc := "(LQuireSigns;)Z" } : Jvm.MethodName) method_4_code (6 : Nat) (Option.some Jvm.ClassFile.FieldType.boolean) ∈ gw := gw_at 622 rfl rfl
set_option maxRecDepth 100000 in
theorem tw_623 : Jvm.Cond.methodLink "QuireSignsLaw" (32 : Nat) ({ cls := "QuireSignsLaw", name := "isOut", desc := "(LQuireSigns;C)Z" } : Jvm.MethodName) ∈ gw := gw_at 623 rfl rfl
set_option maxRecDepth 100000 in
theorem tw_624 : Jvm.Cond.static ({ cls := "QuireSignsLaw", name := "isOut", desc := "(LQuireSigns;C)Z" } : Jvm.MethodName) ∈ gw := gw_at 624 rfl rfl
set_option maxRecDepth 100000 in
theorem tw_625 : Jvm.Cond.code ({ cls := "QuireSignsLaw", name := "isOut", desc := "(LQuireSigns;C)Z" } : Jvm.MethodName) method_5_code (4 : Nat) (Option.some Jvm.ClassFile.FieldType.boolean) ∈ gw := gw_at 625 rfl rfl
def nwl : List Cond := [Jvm.Cond.methodLinkNest "QuireSigns" (11 : Nat) ({ cls := "QuireSigns$Book", name := "<init>", desc := "()V" } : Jvm.MethodName) "QuireSigns", Jvm.Cond.fieldLinkNest "QuireSigns" (51 : Nat) "QuireSigns$Book" "alphabet" "LQuireSigns$Alphabet;" "QuireSigns", Jvm.Cond.fieldLinkNest "QuireSigns$Lapses" (30 : Nat) "QuireSigns$Book" "alphabet" "LQuireSigns$Alphabet;" "QuireSigns", Jvm.Cond.fieldLinkNest "QuireSigns$Writer" (62 : Nat) "QuireSigns$Book" "alphabet" "LQuireSigns$Alphabet;" "QuireSigns", Jvm.Cond.fieldLinkNest "QuireSigns" (72 : Nat) "QuireSigns$Book" "signing" "I" "QuireSigns", Jvm.Cond.fieldLinkNest "QuireSigns$Lapses" (7 : Nat) "QuireSigns$Book" "signs" "LQuireSigns$Row;" "QuireSigns", Jvm.Cond.fieldLinkNest "QuireSigns$Writer" (44 : Nat) "QuireSigns$Book" "signs" "LQuireSigns$Row;" "QuireSigns", Jvm.Cond.fieldLinkNest "QuireSigns" (177 : Nat) "QuireSigns$Book" "signs" "LQuireSigns$Row;" "QuireSigns", Jvm.Cond.fieldLinkNest "QuireSigns$Writer" (56 : Nat) "QuireSigns$Book" "sizes" "LQuireSigns$Row;" "QuireSigns", Jvm.Cond.fieldLinkNest "QuireSigns" (189 : Nat) "QuireSigns$Book" "sizes" "LQuireSigns$Row;" "QuireSigns", Jvm.Cond.fieldLinkNest "QuireSigns" (146 : Nat) "QuireSigns$Book" "pile" "LQuireSigns$Row;" "QuireSigns", Jvm.Cond.methodLinkNest "QuireSigns$History" (17 : Nat) ({ cls := "QuireSigns$Book", name := "<init>", desc := "()V" } : Jvm.MethodName) "QuireSigns", Jvm.Cond.methodLinkNest "QuireSigns" (28 : Nat) ({ cls := "QuireSigns$Text", name := "<init>", desc := "()V" } : Jvm.MethodName) "QuireSigns", Jvm.Cond.methodLinkNest "QuireSigns" (35 : Nat) ({ cls := "QuireSigns$Writer", name := "<init>", desc := "()V" } : Jvm.MethodName) "QuireSigns"]
theorem nw_38 : Jvm.Cond.methodLinkNest "QuireSigns" (11 : Nat) ({ cls := "QuireSigns$Book", name := "<init>", desc := "()V" } : Jvm.MethodName) "QuireSigns" ∈ nwl := List.mem_of_getElem? (i := 0) rfl
theorem nw_71 : Jvm.Cond.fieldLinkNest "QuireSigns" (51 : Nat) "QuireSigns$Book" "alphabet" "LQuireSigns$Alphabet;" "QuireSigns" ∈ nwl := List.mem_of_getElem? (i := 1) rfl
theorem nw_72 : Jvm.Cond.fieldLinkNest "QuireSigns$Lapses" (30 : Nat) "QuireSigns$Book" "alphabet" "LQuireSigns$Alphabet;" "QuireSigns" ∈ nwl := List.mem_of_getElem? (i := 2) rfl
theorem nw_73 : Jvm.Cond.fieldLinkNest "QuireSigns$Writer" (62 : Nat) "QuireSigns$Book" "alphabet" "LQuireSigns$Alphabet;" "QuireSigns" ∈ nwl := List.mem_of_getElem? (i := 3) rfl
theorem nw_75 : Jvm.Cond.fieldLinkNest "QuireSigns" (72 : Nat) "QuireSigns$Book" "signing" "I" "QuireSigns" ∈ nwl := List.mem_of_getElem? (i := 4) rfl
theorem nw_77 : Jvm.Cond.fieldLinkNest "QuireSigns$Lapses" (7 : Nat) "QuireSigns$Book" "signs" "LQuireSigns$Row;" "QuireSigns" ∈ nwl := List.mem_of_getElem? (i := 5) rfl
theorem nw_78 : Jvm.Cond.fieldLinkNest "QuireSigns$Writer" (44 : Nat) "QuireSigns$Book" "signs" "LQuireSigns$Row;" "QuireSigns" ∈ nwl := List.mem_of_getElem? (i := 6) rfl
theorem nw_79 : Jvm.Cond.fieldLinkNest "QuireSigns" (177 : Nat) "QuireSigns$Book" "signs" "LQuireSigns$Row;" "QuireSigns" ∈ nwl := List.mem_of_getElem? (i := 7) rfl
theorem nw_81 : Jvm.Cond.fieldLinkNest "QuireSigns$Writer" (56 : Nat) "QuireSigns$Book" "sizes" "LQuireSigns$Row;" "QuireSigns" ∈ nwl := List.mem_of_getElem? (i := 8) rfl
theorem nw_82 : Jvm.Cond.fieldLinkNest "QuireSigns" (189 : Nat) "QuireSigns$Book" "sizes" "LQuireSigns$Row;" "QuireSigns" ∈ nwl := List.mem_of_getElem? (i := 9) rfl
theorem nw_85 : Jvm.Cond.fieldLinkNest "QuireSigns" (146 : Nat) "QuireSigns$Book" "pile" "LQuireSigns$Row;" "QuireSigns" ∈ nwl := List.mem_of_getElem? (i := 10) rfl
theorem nw_107 : Jvm.Cond.methodLinkNest "QuireSigns$History" (17 : Nat) ({ cls := "QuireSigns$Book", name := "<init>", desc := "()V" } : Jvm.MethodName) "QuireSigns" ∈ nwl := List.mem_of_getElem? (i := 11) rfl
theorem nw_117 : Jvm.Cond.methodLinkNest "QuireSigns" (28 : Nat) ({ cls := "QuireSigns$Text", name := "<init>", desc := "()V" } : Jvm.MethodName) "QuireSigns" ∈ nwl := List.mem_of_getElem? (i := 12) rfl
theorem nw_146 : Jvm.Cond.methodLinkNest "QuireSigns" (35 : Nat) ({ cls := "QuireSigns$Writer", name := "<init>", desc := "()V" } : Jvm.MethodName) "QuireSigns" ∈ nwl := List.mem_of_getElem? (i := 13) rfl
theorem nwl_in : ∀ w ∈ nwl, w ∈ lw_tbl := List.forall_mem_cons.mpr ⟨List.mem_of_getElem? (i := 38) rfl, List.forall_mem_cons.mpr ⟨List.mem_of_getElem? (i := 71) rfl, List.forall_mem_cons.mpr ⟨List.mem_of_getElem? (i := 72) rfl, List.forall_mem_cons.mpr ⟨List.mem_of_getElem? (i := 73) rfl, List.forall_mem_cons.mpr ⟨List.mem_of_getElem? (i := 75) rfl, List.forall_mem_cons.mpr ⟨List.mem_of_getElem? (i := 77) rfl, List.forall_mem_cons.mpr ⟨List.mem_of_getElem? (i := 78) rfl, List.forall_mem_cons.mpr ⟨List.mem_of_getElem? (i := 79) rfl, List.forall_mem_cons.mpr ⟨List.mem_of_getElem? (i := 81) rfl, List.forall_mem_cons.mpr ⟨List.mem_of_getElem? (i := 82) rfl, List.forall_mem_cons.mpr ⟨List.mem_of_getElem? (i := 85) rfl, List.forall_mem_cons.mpr ⟨List.mem_of_getElem? (i := 107) rfl, List.forall_mem_cons.mpr ⟨List.mem_of_getElem? (i := 117) rfl, List.forall_mem_cons.mpr ⟨List.mem_of_getElem? (i := 146) rfl, fun _ h => absurd h List.not_mem_nil⟩⟩⟩⟩⟩⟩⟩⟩⟩⟩⟩⟩⟩⟩
theorem nwl_tab : ∀ w ∈ nwl, w.onTables = true := List.forall_mem_cons.mpr ⟨rfl, List.forall_mem_cons.mpr ⟨rfl, List.forall_mem_cons.mpr ⟨rfl, List.forall_mem_cons.mpr ⟨rfl, List.forall_mem_cons.mpr ⟨rfl, List.forall_mem_cons.mpr ⟨rfl, List.forall_mem_cons.mpr ⟨rfl, List.forall_mem_cons.mpr ⟨rfl, List.forall_mem_cons.mpr ⟨rfl, List.forall_mem_cons.mpr ⟨rfl, List.forall_mem_cons.mpr ⟨rfl, List.forall_mem_cons.mpr ⟨rfl, List.forall_mem_cons.mpr ⟨rfl, List.forall_mem_cons.mpr ⟨rfl, fun _ h => absurd h List.not_mem_nil⟩⟩⟩⟩⟩⟩⟩⟩⟩⟩⟩⟩⟩⟩
/-- the words of nest mates, of a state -/
def nst (U : State) : Prop := ∀ w ∈ nwl, va_Nw w U
theorem nst_warm {s U : State} (hW : s.WarmedH U.vm) (h : nst s) : nst U := List.forall_mem_cons.mpr ⟨va_Nw.warmM hW (h _ nw_38), List.forall_mem_cons.mpr ⟨va_Nw.warmF hW (h _ nw_71), List.forall_mem_cons.mpr ⟨va_Nw.warmF hW (h _ nw_72), List.forall_mem_cons.mpr ⟨va_Nw.warmF hW (h _ nw_73), List.forall_mem_cons.mpr ⟨va_Nw.warmF hW (h _ nw_75), List.forall_mem_cons.mpr ⟨va_Nw.warmF hW (h _ nw_77), List.forall_mem_cons.mpr ⟨va_Nw.warmF hW (h _ nw_78), List.forall_mem_cons.mpr ⟨va_Nw.warmF hW (h _ nw_79), List.forall_mem_cons.mpr ⟨va_Nw.warmF hW (h _ nw_81), List.forall_mem_cons.mpr ⟨va_Nw.warmF hW (h _ nw_82), List.forall_mem_cons.mpr ⟨va_Nw.warmF hW (h _ nw_85), List.forall_mem_cons.mpr ⟨va_Nw.warmM hW (h _ nw_107), List.forall_mem_cons.mpr ⟨va_Nw.warmM hW (h _ nw_117), List.forall_mem_cons.mpr ⟨va_Nw.warmM hW (h _ nw_146), fun _ h => absurd h List.not_mem_nil⟩⟩⟩⟩⟩⟩⟩⟩⟩⟩⟩⟩⟩⟩
theorem nst_same {u U : State} (e : u.vm = U.vm) (h : nst u) : nst U := fun w hw => va_Nw.same (nwl_tab w hw) e (h w hw)
theorem inX0 : ∀ w ∈ u_ws RX0 TX0 1, w ∈ gw := List.forall_mem_cons.mpr ⟨tw_50, fun _ h => absurd h List.not_mem_nil⟩
theorem inX1 : ∀ w ∈ u_ws RX1 TX1 6, w ∈ gw := List.forall_mem_cons.mpr ⟨tw_86, List.forall_mem_cons.mpr ⟨tw_88, List.forall_mem_cons.mpr ⟨tw_90, List.forall_mem_cons.mpr ⟨tw_92, List.forall_mem_cons.mpr ⟨tw_94, List.forall_mem_cons.mpr ⟨tw_96, fun _ h => absurd h List.not_mem_nil⟩⟩⟩⟩⟩⟩
theorem inX2 : ∀ w ∈ u_ws RX2 TX2 2, w ∈ gw := List.forall_mem_cons.mpr ⟨tw_110, List.forall_mem_cons.mpr ⟨tw_112, fun _ h => absurd h List.not_mem_nil⟩⟩
theorem inX4 : ∀ w ∈ u_ws RX4 TX4 2, w ∈ gw := List.forall_mem_cons.mpr ⟨tw_64, List.forall_mem_cons.mpr ⟨tw_66, fun _ h => absurd h List.not_mem_nil⟩⟩
theorem inX6 : ∀ w ∈ u_ws RX6 TX6 6, w ∈ gw := List.forall_mem_cons.mpr ⟨tw_131, List.forall_mem_cons.mpr ⟨tw_133, List.forall_mem_cons.mpr ⟨tw_135, List.forall_mem_cons.mpr ⟨tw_137, List.forall_mem_cons.mpr ⟨tw_139, List.forall_mem_cons.mpr ⟨tw_141, fun _ h => absurd h List.not_mem_nil⟩⟩⟩⟩⟩⟩
theorem inX7 : ∀ w ∈ u_ws RX7 TX7 2, w ∈ gw := List.forall_mem_cons.mpr ⟨tw_154, List.forall_mem_cons.mpr ⟨tw_156, fun _ h => absurd h List.not_mem_nil⟩⟩
theorem inX8 : ∀ w ∈ u_ws RX8 TX8 7, w ∈ gw := List.forall_mem_cons.mpr ⟨tw_168, List.forall_mem_cons.mpr ⟨tw_170, List.forall_mem_cons.mpr ⟨tw_172, List.forall_mem_cons.mpr ⟨tw_174, List.forall_mem_cons.mpr ⟨tw_176, List.forall_mem_cons.mpr ⟨tw_178, List.forall_mem_cons.mpr ⟨tw_180, fun _ h => absurd h List.not_mem_nil⟩⟩⟩⟩⟩⟩⟩
abbrev vwCl : List vw_C := [(RX0, TX0, 1), (RX1, TX1, 6), (RX2, TX2, 2), (RX4, TX4, 2), (RX6, TX6, 6), (RX7, TX7, 2), (RX8, TX8, 7)]
