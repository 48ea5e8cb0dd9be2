section
-- ===== PART A: goes FIRST, ahead of the names: the tables' words, and 'selects' of the private methods out of them =====
/-- a private method of a class that the tables say can be made, by its rows of tables_1 -/
def lw_okq (q : MethodName × Nat) : Prop := (q.1.cls ≠ "java/lang/invoke/MethodHandle" ∧ q.1.cls ≠ "java/lang/invoke/VarHandle") ∧ Cond.instantiable q.1.cls q.2 ∈ tables_1 ∧ Cond.privateMethod q.1 ∈ tables_1 ∧ Cond.instanceMethod q.1 ∈ tables_1
theorem lw_p0 : lw_okq (⟨"QuireSigns$History", "dropOldest", "()V"⟩, 2) := ⟨⟨by decide +kernel, by decide +kernel⟩, List.mem_of_getElem? (i := 85) (by decide +kernel), List.mem_of_getElem? (i := 191) (by decide +kernel), List.mem_of_getElem? (i := 192) (by decide +kernel)⟩
theorem lw_p1 : lw_okq (⟨"QuireSigns$History", "bookAt", "(I)LQuireSigns$Book;"⟩, 2) := ⟨⟨by decide +kernel, by decide +kernel⟩, List.mem_of_getElem? (i := 85) (by decide +kernel), List.mem_of_getElem? (i := 195) (by decide +kernel), List.mem_of_getElem? (i := 196) (by decide +kernel)⟩
theorem lw_p2 : lw_okq (⟨"QuireSigns$Text", "readEntries", "(LQuireSigns$Alphabet;Z)I"⟩, 6) := ⟨⟨by decide +kernel, by decide +kernel⟩, List.mem_of_getElem? (i := 101) (by decide +kernel), List.mem_of_getElem? (i := 256) (by decide +kernel), List.mem_of_getElem? (i := 257) (by decide +kernel)⟩
theorem lw_p3 : lw_okq (⟨"QuireSigns$Text", "readEntry", "(LQuireSigns$Alphabet;Z)Z"⟩, 6) := ⟨⟨by decide +kernel, by decide +kernel⟩, List.mem_of_getElem? (i := 101) (by decide +kernel), List.mem_of_getElem? (i := 265) (by decide +kernel), List.mem_of_getElem? (i := 266) (by decide +kernel)⟩
theorem lw_p4 : lw_okq (⟨"QuireSigns$Text", "readSign", "(LQuireSigns$Alphabet;)I"⟩, 6) := ⟨⟨by decide +kernel, by decide +kernel⟩, List.mem_of_getElem? (i := 101) (by decide +kernel), List.mem_of_getElem? (i := 269) (by decide +kernel), List.mem_of_getElem? (i := 270) (by decide +kernel)⟩
theorem lw_p5 : lw_okq (⟨"QuireSigns$Text", "readStars", "()I"⟩, 6) := ⟨⟨by decide +kernel, by decide +kernel⟩, List.mem_of_getElem? (i := 101) (by decide +kernel), List.mem_of_getElem? (i := 274) (by decide +kernel), List.mem_of_getElem? (i := 275) (by decide +kernel)⟩
theorem lw_p6 : lw_okq (⟨"QuireSigns$Text", "readLetters", "(LQuireSigns$Alphabet;)I"⟩, 6) := ⟨⟨by decide +kernel, by decide +kernel⟩, List.mem_of_getElem? (i := 101) (by decide +kernel), List.mem_of_getElem? (i := 281) (by decide +kernel), List.mem_of_getElem? (i := 282) (by decide +kernel)⟩
theorem lw_p7 : lw_okq (⟨"QuireSigns$Text", "readLastSign", "(LQuireSigns$Alphabet;I)I"⟩, 6) := ⟨⟨by decide +kernel, by decide +kernel⟩, List.mem_of_getElem? (i := 101) (by decide +kernel), List.mem_of_getElem? (i := 292) (by decide +kernel), List.mem_of_getElem? (i := 293) (by decide +kernel)⟩
theorem lw_p8 : lw_okq (⟨"QuireSigns$Text", "readNumber", "()I"⟩, 6) := ⟨⟨by decide +kernel, by decide +kernel⟩, List.mem_of_getElem? (i := 101) (by decide +kernel), List.mem_of_getElem? (i := 300) (by decide +kernel), List.mem_of_getElem? (i := 301) (by decide +kernel)⟩
theorem lw_p9 : lw_okq (⟨"QuireSigns$Text", "digitAt", "(I)I"⟩, 6) := ⟨⟨by decide +kernel, by decide +kernel⟩, List.mem_of_getElem? (i := 101) (by decide +kernel), List.mem_of_getElem? (i := 304) (by decide +kernel), List.mem_of_getElem? (i := 305) (by decide +kernel)⟩
theorem lw_p10 : lw_okq (⟨"QuireSigns", "quiresOfText", "()I"⟩, 7) := ⟨⟨by decide +kernel, by decide +kernel⟩, List.mem_of_getElem? (i := 14) (by decide +kernel), List.mem_of_getElem? (i := 317) (by decide +kernel), List.mem_of_getElem? (i := 318) (by decide +kernel)⟩
theorem lw_p11 : lw_okq (⟨"QuireSigns", "addEntry", "(I)V"⟩, 7) := ⟨⟨by decide +kernel, by decide +kernel⟩, List.mem_of_getElem? (i := 14) (by decide +kernel), List.mem_of_getElem? (i := 341) (by decide +kernel), List.mem_of_getElem? (i := 342) (by decide +kernel)⟩
theorem lw_p12 : lw_okq (⟨"QuireSigns", "findLeavesOfText", "()Z"⟩, 7) := ⟨⟨by decide +kernel, by decide +kernel⟩, List.mem_of_getElem? (i := 14) (by decide +kernel), List.mem_of_getElem? (i := 445) (by decide +kernel), List.mem_of_getElem? (i := 446) (by decide +kernel)⟩
theorem lw_p13 : lw_okq (⟨"QuireSigns", "allFoundThereOnce", "()Z"⟩, 7) := ⟨⟨by decide +kernel, by decide +kernel⟩, List.mem_of_getElem? (i := 14) (by decide +kernel), List.mem_of_getElem? (i := 455) (by decide +kernel), List.mem_of_getElem? (i := 456) (by decide +kernel)⟩
theorem lw_p14 : lw_okq (⟨"QuireSigns", "leafHangingWith", "(I)I"⟩, 7) := ⟨⟨by decide +kernel, by decide +kernel⟩, List.mem_of_getElem? (i := 14) (by decide +kernel), List.mem_of_getElem? (i := 532) (by decide +kernel), List.mem_of_getElem? (i := 533) (by decide +kernel)⟩
theorem lw_p15 : lw_okq (⟨"QuireSigns$Writer", "beginEntry", "(I)V"⟩, 2) := ⟨⟨by decide +kernel, by decide +kernel⟩, List.mem_of_getElem? (i := 130) (by decide +kernel), List.mem_of_getElem? (i := 585) (by decide +kernel), List.mem_of_getElem? (i := 586) (by decide +kernel)⟩
def lw_privs_1 : List (MethodName × Nat) := [(⟨"QuireSigns$History", "dropOldest", "()V"⟩, 2), (⟨"QuireSigns$History", "bookAt", "(I)LQuireSigns$Book;"⟩, 2), (⟨"QuireSigns$Text", "readEntries", "(LQuireSigns$Alphabet;Z)I"⟩, 6), (⟨"QuireSigns$Text", "readEntry", "(LQuireSigns$Alphabet;Z)Z"⟩, 6), (⟨"QuireSigns$Text", "readSign", "(LQuireSigns$Alphabet;)I"⟩, 6), (⟨"QuireSigns$Text", "readStars", "()I"⟩, 6), (⟨"QuireSigns$Text", "readLetters", "(LQuireSigns$Alphabet;)I"⟩, 6), (⟨"QuireSigns$Text", "readLastSign", "(LQuireSigns$Alphabet;I)I"⟩, 6), (⟨"QuireSigns$Text", "readNumber", "()I"⟩, 6), (⟨"QuireSigns$Text", "digitAt", "(I)I"⟩, 6), (⟨"QuireSigns", "quiresOfText", "()I"⟩, 7), (⟨"QuireSigns", "addEntry", "(I)V"⟩, 7), (⟨"QuireSigns", "findLeavesOfText", "()Z"⟩, 7), (⟨"QuireSigns", "allFoundThereOnce", "()Z"⟩, 7), (⟨"QuireSigns", "leafHangingWith", "(I)I"⟩, 7), (⟨"QuireSigns$Writer", "beginEntry", "(I)V"⟩, 2)]
theorem lw_r1 : ∀ q ∈ lw_privs_1, lw_okq q := List.forall_mem_cons.mpr ⟨lw_p0, List.forall_mem_cons.mpr ⟨lw_p1, List.forall_mem_cons.mpr ⟨lw_p2, List.forall_mem_cons.mpr ⟨lw_p3, List.forall_mem_cons.mpr ⟨lw_p4, List.forall_mem_cons.mpr ⟨lw_p5, List.forall_mem_cons.mpr ⟨lw_p6, List.forall_mem_cons.mpr ⟨lw_p7, List.forall_mem_cons.mpr ⟨lw_p8, List.forall_mem_cons.mpr ⟨lw_p9, List.forall_mem_cons.mpr ⟨lw_p10, List.forall_mem_cons.mpr ⟨lw_p11, List.forall_mem_cons.mpr ⟨lw_p12, List.forall_mem_cons.mpr ⟨lw_p13, List.forall_mem_cons.mpr ⟨lw_p14, List.forall_mem_cons.mpr ⟨lw_p15, fun _ h => absurd h List.not_mem_nil⟩⟩⟩⟩⟩⟩⟩⟩⟩⟩⟩⟩⟩⟩⟩⟩
theorem lw_p16 : lw_okq (⟨"QuireSigns$Writer", "writeSign", "(I)V"⟩, 2) := ⟨⟨by decide +kernel, by decide +kernel⟩, List.mem_of_getElem? (i := 130) (by decide +kernel), List.mem_of_getElem? (i := 590) (by decide +kernel), List.mem_of_getElem? (i := 591) (by decide +kernel)⟩
theorem lw_p17 : lw_okq (⟨"QuireSigns$Writer", "writeNumber", "(I)V"⟩, 2) := ⟨⟨by decide +kernel, by decide +kernel⟩, List.mem_of_getElem? (i := 130) (by decide +kernel), List.mem_of_getElem? (i := 596) (by decide +kernel), List.mem_of_getElem? (i := 597) (by decide +kernel)⟩
theorem lw_p18 : lw_okq (⟨"QuireSignsModel", "isOut", "(I)Z"⟩, 14) := ⟨⟨by decide +kernel, by decide +kernel⟩, List.mem_of_getElem? (i := 624) (by decide +kernel), List.mem_of_getElem? (i := 682) (by decide +kernel), List.mem_of_getElem? (i := 683) (by decide +kernel)⟩
theorem lw_p19 : lw_okq (⟨"QuireSignsModel", "letters", "()I"⟩, 14) := ⟨⟨by decide +kernel, by decide +kernel⟩, List.mem_of_getElem? (i := 624) (by decide +kernel), List.mem_of_getElem? (i := 686) (by decide +kernel), List.mem_of_getElem? (i := 687) (by decide +kernel)⟩
theorem lw_p20 : lw_okq (⟨"QuireSignsModel", "records", "()V"⟩, 14) := ⟨⟨by decide +kernel, by decide +kernel⟩, List.mem_of_getElem? (i := 624) (by decide +kernel), List.mem_of_getElem? (i := 690) (by decide +kernel), List.mem_of_getElem? (i := 691) (by decide +kernel)⟩
theorem lw_p21 : lw_okq (⟨"QuireSignsModel", "copies", "(II)V"⟩, 14) := ⟨⟨by decide +kernel, by decide +kernel⟩, List.mem_of_getElem? (i := 624) (by decide +kernel), List.mem_of_getElem? (i := 694) (by decide +kernel), List.mem_of_getElem? (i := 695) (by decide +kernel)⟩
theorem lw_p22 : lw_okq (⟨"QuireSignsModel", "signedOfAll", "()I"⟩, 14) := ⟨⟨by decide +kernel, by decide +kernel⟩, List.mem_of_getElem? (i := 624) (by decide +kernel), List.mem_of_getElem? (i := 702) (by decide +kernel), List.mem_of_getElem? (i := 703) (by decide +kernel)⟩
theorem lw_p23 : lw_okq (⟨"QuireSignsModel", "signed", "(I)I"⟩, 14) := ⟨⟨by decide +kernel, by decide +kernel⟩, List.mem_of_getElem? (i := 624) (by decide +kernel), List.mem_of_getElem? (i := 706) (by decide +kernel), List.mem_of_getElem? (i := 707) (by decide +kernel)⟩
theorem lw_p24 : lw_okq (⟨"QuireSignsModel", "fault", "(Z)I"⟩, 14) := ⟨⟨by decide +kernel, by decide +kernel⟩, List.mem_of_getElem? (i := 624) (by decide +kernel), List.mem_of_getElem? (i := 717) (by decide +kernel), List.mem_of_getElem? (i := 718) (by decide +kernel)⟩
theorem lw_p25 : lw_okq (⟨"QuireSignsModel", "item", "(Z)V"⟩, 14) := ⟨⟨by decide +kernel, by decide +kernel⟩, List.mem_of_getElem? (i := 624) (by decide +kernel), List.mem_of_getElem? (i := 721) (by decide +kernel), List.mem_of_getElem? (i := 722) (by decide +kernel)⟩
theorem lw_p26 : lw_okq (⟨"QuireSignsModel", "reads", "(Z)V"⟩, 14) := ⟨⟨by decide +kernel, by decide +kernel⟩, List.mem_of_getElem? (i := 624) (by decide +kernel), List.mem_of_getElem? (i := 725) (by decide +kernel), List.mem_of_getElem? (i := 726) (by decide +kernel)⟩
theorem lw_p27 : lw_okq (⟨"QuireSignsModel", "isNext", "(II)Z"⟩, 14) := ⟨⟨by decide +kernel, by decide +kernel⟩, List.mem_of_getElem? (i := 624) (by decide +kernel), List.mem_of_getElem? (i := 729) (by decide +kernel), List.mem_of_getElem? (i := 730) (by decide +kernel)⟩
theorem lw_p28 : lw_okq (⟨"QuireSignsModel", "number", "()I"⟩, 14) := ⟨⟨by decide +kernel, by decide +kernel⟩, List.mem_of_getElem? (i := 624) (by decide +kernel), List.mem_of_getElem? (i := 733) (by decide +kernel), List.mem_of_getElem? (i := 734) (by decide +kernel)⟩
theorem lw_p29 : lw_okq (⟨"QuireSignsModel", "puts", "(IIII)V"⟩, 14) := ⟨⟨by decide +kernel, by decide +kernel⟩, List.mem_of_getElem? (i := 624) (by decide +kernel), List.mem_of_getElem? (i := 737) (by decide +kernel), List.mem_of_getElem? (i := 738) (by decide +kernel)⟩
theorem lw_p30 : lw_okq (⟨"QuireSignsModel", "isStarred", "(I)Z"⟩, 14) := ⟨⟨by decide +kernel, by decide +kernel⟩, List.mem_of_getElem? (i := 624) (by decide +kernel), List.mem_of_getElem? (i := 745) (by decide +kernel), List.mem_of_getElem? (i := 746) (by decide +kernel)⟩
theorem lw_p31 : lw_okq (⟨"QuireSignsModel", "sign", "(I)I"⟩, 14) := ⟨⟨by decide +kernel, by decide +kernel⟩, List.mem_of_getElem? (i := 624) (by decide +kernel), List.mem_of_getElem? (i := 749) (by decide +kernel), List.mem_of_getElem? (i := 750) (by decide +kernel)⟩
def lw_privs_2 : List (MethodName × Nat) := [(⟨"QuireSigns$Writer", "writeSign", "(I)V"⟩, 2), (⟨"QuireSigns$Writer", "writeNumber", "(I)V"⟩, 2), (⟨"QuireSignsModel", "isOut", "(I)Z"⟩, 14), (⟨"QuireSignsModel", "letters", "()I"⟩, 14), (⟨"QuireSignsModel", "records", "()V"⟩, 14), (⟨"QuireSignsModel", "copies", "(II)V"⟩, 14), (⟨"QuireSignsModel", "signedOfAll", "()I"⟩, 14), (⟨"QuireSignsModel", "signed", "(I)I"⟩, 14), (⟨"QuireSignsModel", "fault", "(Z)I"⟩, 14), (⟨"QuireSignsModel", "item", "(Z)V"⟩, 14), (⟨"QuireSignsModel", "reads", "(Z)V"⟩, 14), (⟨"QuireSignsModel", "isNext", "(II)Z"⟩, 14), (⟨"QuireSignsModel", "number", "()I"⟩, 14), (⟨"QuireSignsModel", "puts", "(IIII)V"⟩, 14), (⟨"QuireSignsModel", "isStarred", "(I)Z"⟩, 14), (⟨"QuireSignsModel", "sign", "(I)I"⟩, 14)]
theorem lw_r2 : ∀ q ∈ lw_privs_2, lw_okq q := List.forall_mem_cons.mpr ⟨lw_p16, List.forall_mem_cons.mpr ⟨lw_p17, List.forall_mem_cons.mpr ⟨lw_p18, List.forall_mem_cons.mpr ⟨lw_p19, List.forall_mem_cons.mpr ⟨lw_p20, List.forall_mem_cons.mpr ⟨lw_p21, List.forall_mem_cons.mpr ⟨lw_p22, List.forall_mem_cons.mpr ⟨lw_p23, List.forall_mem_cons.mpr ⟨lw_p24, List.forall_mem_cons.mpr ⟨lw_p25, List.forall_mem_cons.mpr ⟨lw_p26, List.forall_mem_cons.mpr ⟨lw_p27, List.forall_mem_cons.mpr ⟨lw_p28, List.forall_mem_cons.mpr ⟨lw_p29, List.forall_mem_cons.mpr ⟨lw_p30, List.forall_mem_cons.mpr ⟨lw_p31, fun _ h => absurd h List.not_mem_nil⟩⟩⟩⟩⟩⟩⟩⟩⟩⟩⟩⟩⟩⟩⟩⟩
theorem lw_p32 : lw_okq (⟨"QuireSignsModel", "next", "(I)I"⟩, 14) := ⟨⟨by decide +kernel, by decide +kernel⟩, List.mem_of_getElem? (i := 624) (by decide +kernel), List.mem_of_getElem? (i := 753) (by decide +kernel), List.mem_of_getElem? (i := 754) (by decide +kernel)⟩
theorem lw_p33 : lw_okq (⟨"QuireSignsModel", "leaves", "()I"⟩, 14) := ⟨⟨by decide +kernel, by decide +kernel⟩, List.mem_of_getElem? (i := 624) (by decide +kernel), List.mem_of_getElem? (i := 761) (by decide +kernel), List.mem_of_getElem? (i := 762) (by decide +kernel)⟩
theorem lw_p34 : lw_okq (⟨"QuireSignsModel", "isQuire", "(I)Z"⟩, 14) := ⟨⟨by decide +kernel, by decide +kernel⟩, List.mem_of_getElem? (i := 624) (by decide +kernel), List.mem_of_getElem? (i := 769) (by decide +kernel), List.mem_of_getElem? (i := 770) (by decide +kernel)⟩
theorem lw_p35 : lw_okq (⟨"QuireSignsModel", "isLeaf", "(I)Z"⟩, 14) := ⟨⟨by decide +kernel, by decide +kernel⟩, List.mem_of_getElem? (i := 624) (by decide +kernel), List.mem_of_getElem? (i := 777) (by decide +kernel), List.mem_of_getElem? (i := 778) (by decide +kernel)⟩
theorem lw_p36 : lw_okq (⟨"QuireSignsModel", "isLost", "(I)Z"⟩, 14) := ⟨⟨by decide +kernel, by decide +kernel⟩, List.mem_of_getElem? (i := 624) (by decide +kernel), List.mem_of_getElem? (i := 781) (by decide +kernel), List.mem_of_getElem? (i := 782) (by decide +kernel)⟩
theorem lw_p37 : lw_okq (⟨"QuireSignsModel", "quireOf", "(I)I"⟩, 14) := ⟨⟨by decide +kernel, by decide +kernel⟩, List.mem_of_getElem? (i := 624) (by decide +kernel), List.mem_of_getElem? (i := 785) (by decide +kernel), List.mem_of_getElem? (i := 786) (by decide +kernel)⟩
theorem lw_p38 : lw_okq (⟨"QuireSignsModel", "first", "(I)I"⟩, 14) := ⟨⟨by decide +kernel, by decide +kernel⟩, List.mem_of_getElem? (i := 624) (by decide +kernel), List.mem_of_getElem? (i := 789) (by decide +kernel), List.mem_of_getElem? (i := 790) (by decide +kernel)⟩
theorem lw_p39 : lw_okq (⟨"QuireSignsModel", "thereOfAll", "()I"⟩, 14) := ⟨⟨by decide +kernel, by decide +kernel⟩, List.mem_of_getElem? (i := 624) (by decide +kernel), List.mem_of_getElem? (i := 793) (by decide +kernel), List.mem_of_getElem? (i := 794) (by decide +kernel)⟩
theorem lw_p40 : lw_okq (⟨"QuireSignsModel", "there", "(I)I"⟩, 14) := ⟨⟨by decide +kernel, by decide +kernel⟩, List.mem_of_getElem? (i := 624) (by decide +kernel), List.mem_of_getElem? (i := 797) (by decide +kernel), List.mem_of_getElem? (i := 798) (by decide +kernel)⟩
theorem lw_p41 : lw_okq (⟨"QuireSignsModel", "found", "(I)I"⟩, 14) := ⟨⟨by decide +kernel, by decide +kernel⟩, List.mem_of_getElem? (i := 624) (by decide +kernel), List.mem_of_getElem? (i := 805) (by decide +kernel), List.mem_of_getElem? (i := 806) (by decide +kernel)⟩
theorem lw_p42 : lw_okq (⟨"QuireSignsModel", "sameAhead", "(I)I"⟩, 14) := ⟨⟨by decide +kernel, by decide +kernel⟩, List.mem_of_getElem? (i := 624) (by decide +kernel), List.mem_of_getElem? (i := 833) (by decide +kernel), List.mem_of_getElem? (i := 834) (by decide +kernel)⟩
theorem lw_p43 : lw_okq (⟨"QuireSignsModel", "areSame", "(II)Z"⟩, 14) := ⟨⟨by decide +kernel, by decide +kernel⟩, List.mem_of_getElem? (i := 624) (by decide +kernel), List.mem_of_getElem? (i := 837) (by decide +kernel), List.mem_of_getElem? (i := 838) (by decide +kernel)⟩
theorem lw_p44 : lw_okq (⟨"QuireSignsModel", "thereAhead", "(I)I"⟩, 14) := ⟨⟨by decide +kernel, by decide +kernel⟩, List.mem_of_getElem? (i := 624) (by decide +kernel), List.mem_of_getElem? (i := 845) (by decide +kernel), List.mem_of_getElem? (i := 846) (by decide +kernel)⟩
theorem lw_p45 : lw_okq (⟨"QuireSignsModel", "isLapse", "(I)Z"⟩, 14) := ⟨⟨by decide +kernel, by decide +kernel⟩, List.mem_of_getElem? (i := 624) (by decide +kernel), List.mem_of_getElem? (i := 857) (by decide +kernel), List.mem_of_getElem? (i := 858) (by decide +kernel)⟩
theorem lw_p46 : lw_okq (⟨"QuireSignsModel", "before", "(I)I"⟩, 14) := ⟨⟨by decide +kernel, by decide +kernel⟩, List.mem_of_getElem? (i := 624) (by decide +kernel), List.mem_of_getElem? (i := 861) (by decide +kernel), List.mem_of_getElem? (i := 862) (by decide +kernel)⟩
theorem lw_p47 : lw_okq (⟨"QuireSignsModel", "between", "(II)I"⟩, 14) := ⟨⟨by decide +kernel, by decide +kernel⟩, List.mem_of_getElem? (i := 624) (by decide +kernel), List.mem_of_getElem? (i := 865) (by decide +kernel), List.mem_of_getElem? (i := 866) (by decide +kernel)⟩
def lw_privs_3 : List (MethodName × Nat) := [(⟨"QuireSignsModel", "next", "(I)I"⟩, 14), (⟨"QuireSignsModel", "leaves", "()I"⟩, 14), (⟨"QuireSignsModel", "isQuire", "(I)Z"⟩, 14), (⟨"QuireSignsModel", "isLeaf", "(I)Z"⟩, 14), (⟨"QuireSignsModel", "isLost", "(I)Z"⟩, 14), (⟨"QuireSignsModel", "quireOf", "(I)I"⟩, 14), (⟨"QuireSignsModel", "first", "(I)I"⟩, 14), (⟨"QuireSignsModel", "thereOfAll", "()I"⟩, 14), (⟨"QuireSignsModel", "there", "(I)I"⟩, 14), (⟨"QuireSignsModel", "found", "(I)I"⟩, 14), (⟨"QuireSignsModel", "sameAhead", "(I)I"⟩, 14), (⟨"QuireSignsModel", "areSame", "(II)Z"⟩, 14), (⟨"QuireSignsModel", "thereAhead", "(I)I"⟩, 14), (⟨"QuireSignsModel", "isLapse", "(I)Z"⟩, 14), (⟨"QuireSignsModel", "before", "(I)I"⟩, 14), (⟨"QuireSignsModel", "between", "(II)I"⟩, 14)]
theorem lw_r3 : ∀ q ∈ lw_privs_3, lw_okq q := List.forall_mem_cons.mpr ⟨lw_p32, List.forall_mem_cons.mpr ⟨lw_p33, List.forall_mem_cons.mpr ⟨lw_p34, List.forall_mem_cons.mpr ⟨lw_p35, List.forall_mem_cons.mpr ⟨lw_p36, List.forall_mem_cons.mpr ⟨lw_p37, List.forall_mem_cons.mpr ⟨lw_p38, List.forall_mem_cons.mpr ⟨lw_p39, List.forall_mem_cons.mpr ⟨lw_p40, List.forall_mem_cons.mpr ⟨lw_p41, List.forall_mem_cons.mpr ⟨lw_p42, List.forall_mem_cons.mpr ⟨lw_p43, List.forall_mem_cons.mpr ⟨lw_p44, List.forall_mem_cons.mpr ⟨lw_p45, List.forall_mem_cons.mpr ⟨lw_p46, List.forall_mem_cons.mpr ⟨lw_p47, fun _ h => absurd h List.not_mem_nil⟩⟩⟩⟩⟩⟩⟩⟩⟩⟩⟩⟩⟩⟩⟩⟩
theorem lw_p48 : lw_okq (⟨"QuireSignsModel", "isPiled", "(I)Z"⟩, 14) := ⟨⟨by decide +kernel, by decide +kernel⟩, List.mem_of_getElem? (i := 624) (by decide +kernel), List.mem_of_getElem? (i := 873) (by decide +kernel), List.mem_of_getElem? (i := 874) (by decide +kernel)⟩
theorem lw_p49 : lw_okq (⟨"QuireSignsModel", "lays", "()V"⟩, 14) := ⟨⟨by decide +kernel, by decide +kernel⟩, List.mem_of_getElem? (i := 624) (by decide +kernel), List.mem_of_getElem? (i := 885) (by decide +kernel), List.mem_of_getElem? (i := 886) (by decide +kernel)⟩
theorem lw_p50 : lw_okq (⟨"QuireSignsModel", "goesOn", "(I)Z"⟩, 14) := ⟨⟨by decide +kernel, by decide +kernel⟩, List.mem_of_getElem? (i := 624) (by decide +kernel), List.mem_of_getElem? (i := 889) (by decide +kernel), List.mem_of_getElem? (i := 890) (by decide +kernel)⟩
theorem lw_p51 : lw_okq (⟨"QuireSignsModel", "writes", "(I)V"⟩, 14) := ⟨⟨by decide +kernel, by decide +kernel⟩, List.mem_of_getElem? (i := 624) (by decide +kernel), List.mem_of_getElem? (i := 893) (by decide +kernel), List.mem_of_getElem? (i := 894) (by decide +kernel)⟩
theorem lw_p52 : lw_okq (⟨"QuireSignsModel", "writesSign", "(I)V"⟩, 14) := ⟨⟨by decide +kernel, by decide +kernel⟩, List.mem_of_getElem? (i := 624) (by decide +kernel), List.mem_of_getElem? (i := 897) (by decide +kernel), List.mem_of_getElem? (i := 898) (by decide +kernel)⟩
theorem lw_p53 : lw_okq (⟨"QuireSignsModel", "starred", "()I"⟩, 14) := ⟨⟨by decide +kernel, by decide +kernel⟩, List.mem_of_getElem? (i := 624) (by decide +kernel), List.mem_of_getElem? (i := 905) (by decide +kernel), List.mem_of_getElem? (i := 906) (by decide +kernel)⟩
theorem lw_p54 : lw_okq (⟨"QuireSignsModel", "lapses", "()I"⟩, 14) := ⟨⟨by decide +kernel, by decide +kernel⟩, List.mem_of_getElem? (i := 624) (by decide +kernel), List.mem_of_getElem? (i := 909) (by decide +kernel), List.mem_of_getElem? (i := 910) (by decide +kernel)⟩
def lw_privs_4 : List (MethodName × Nat) := [(⟨"QuireSignsModel", "isPiled", "(I)Z"⟩, 14), (⟨"QuireSignsModel", "lays", "()V"⟩, 14), (⟨"QuireSignsModel", "goesOn", "(I)Z"⟩, 14), (⟨"QuireSignsModel", "writes", "(I)V"⟩, 14), (⟨"QuireSignsModel", "writesSign", "(I)V"⟩, 14), (⟨"QuireSignsModel", "starred", "()I"⟩, 14), (⟨"QuireSignsModel", "lapses", "()I"⟩, 14)]
theorem lw_r4 : ∀ q ∈ lw_privs_4, lw_okq q := List.forall_mem_cons.mpr ⟨lw_p48, List.forall_mem_cons.mpr ⟨lw_p49, List.forall_mem_cons.mpr ⟨lw_p50, List.forall_mem_cons.mpr ⟨lw_p51, List.forall_mem_cons.mpr ⟨lw_p52, List.forall_mem_cons.mpr ⟨lw_p53, List.forall_mem_cons.mpr ⟨lw_p54, fun _ h => absurd h List.not_mem_nil⟩⟩⟩⟩⟩⟩⟩
def lw_privs : List (MethodName × Nat) := lw_privs_1 ++ (lw_privs_2 ++ (lw_privs_3 ++ (lw_privs_4)))
def lw_tbl : List Cond := k2_sels lw_privs ++ tables_1
theorem lw_privs_ok : ∀ q ∈ lw_privs, lw_okq q := by
  show ∀ q ∈ lw_privs_1 ++ (lw_privs_2 ++ (lw_privs_3 ++ (lw_privs_4))), lw_okq q
  exact List.forall_mem_append.mpr ⟨lw_r1, List.forall_mem_append.mpr ⟨lw_r2, List.forall_mem_append.mpr ⟨lw_r3, lw_r4⟩⟩⟩
def RX0 : String := "QuireSigns$Alphabet"
def TX0 : u_T := fun k => match k with
  | _ => ("QuireSigns$Alphabet", "out", "I", false)
def tyX0 : Nat → FieldType := fun k => match k with
  | _ => .int
abbrev wsX00 : List Cond := u_ws RX0 TX0 1
theorem nmX0 : ∀ a, a < 1 → ∀ b, b < 1 → a ≠ b → (TX0 a).2.1 ≠ (TX0 b).2.1 := by decide +kernel
theorem tyX0_ok : ∀ k, k < 1 → parseFieldDescriptor (TX0 k).2.2.1 = some (tyX0 k) := by decide +kernel
abbrev cX0_init : ByteArray := prog_2_method_1_code
def yX0_init : MethodName := ⟨RX0, "<init>", "(I)V"⟩
abbrev cX0_has : ByteArray := prog_2_method_2_code
def yX0_has : MethodName := ⟨RX0, "has", "(I)Z"⟩
abbrev cX0_letters : ByteArray := prog_2_method_3_code
def yX0_letters : MethodName := ⟨RX0, "letters", "()I"⟩
abbrev cX0_turn : ByteArray := prog_2_method_4_code
def yX0_turn : MethodName := ⟨RX0, "turn", "(I)V"⟩
abbrev cX0_nextSign : ByteArray := prog_2_method_5_code
def yX0_nextSign : MethodName := ⟨RX0, "nextSign", "(I)I"⟩
abbrev cX0_signsBetween : ByteArray := prog_2_method_6_code
def yX0_signsBetween : MethodName := ⟨RX0, "signsBetween", "(II)I"⟩
abbrev cX0_become : ByteArray := prog_2_method_7_code
def yX0_become : MethodName := ⟨RX0, "become", "(LQuireSigns$Alphabet;)V"⟩
def RX1 : String := "QuireSigns$Book"
def TX1 : u_T := fun k => match k with
  | 0 => ("QuireSigns$Book", "alphabet", "LQuireSigns$Alphabet;", true)
  | 1 => ("QuireSigns$Book", "signing", "I", false)
  | 2 => ("QuireSigns$Book", "signs", "LQuireSigns$Row;", true)
  | 3 => ("QuireSigns$Book", "sizes", "LQuireSigns$Row;", true)
  | 4 => ("QuireSigns$Book", "lost", "LQuireSigns$Row;", true)
  | _ => ("QuireSigns$Book", "pile", "LQuireSigns$Row;", true)
def tyX1 : Nat → FieldType := fun k => match k with
  | 0 => .object "QuireSigns$Alphabet"
  | 1 => .int
  | 2 => .object "QuireSigns$Row"
  | 3 => .object "QuireSigns$Row"
  | 4 => .object "QuireSigns$Row"
  | _ => .object "QuireSigns$Row"
abbrev wsX10 : List Cond := u_ws RX1 TX1 6
theorem nmX1 : ∀ a, a < 6 → ∀ b, b < 6 → a ≠ b → (TX1 a).2.1 ≠ (TX1 b).2.1 := by decide +kernel
theorem tyX1_ok : ∀ k, k < 6 → parseFieldDescriptor (TX1 k).2.2.1 = some (tyX1 k) := by decide +kernel
abbrev cX1_init : ByteArray := prog_3_method_1_code
def yX1_init : MethodName := ⟨RX1, "<init>", "()V"⟩
abbrev cX1_become : ByteArray := prog_3_method_2_code
def yX1_become : MethodName := ⟨RX1, "become", "(LQuireSigns$Book;)V"⟩
abbrev cX1_quires : ByteArray := prog_3_method_3_code
def yX1_quires : MethodName := ⟨RX1, "quires", "()I"⟩
abbrev cX1_hasQuire : ByteArray := prog_3_method_4_code
def yX1_hasQuire : MethodName := ⟨RX1, "hasQuire", "(I)Z"⟩
abbrev cX1_addQuire : ByteArray := prog_3_method_5_code
def yX1_addQuire : MethodName := ⟨RX1, "addQuire", "(III)V"⟩
abbrev cX1_dropQuire : ByteArray := prog_3_method_6_code
def yX1_dropQuire : MethodName := ⟨RX1, "dropQuire", "(I)V"⟩
abbrev cX1_starredQuires : ByteArray := prog_3_method_7_code
def yX1_starredQuires : MethodName := ⟨RX1, "starredQuires", "()I"⟩
abbrev cX1_sameAhead : ByteArray := prog_3_method_8_code
def yX1_sameAhead : MethodName := ⟨RX1, "sameAhead", "(I)I"⟩
abbrev cX1_lastLettersAhead : ByteArray := prog_3_method_9_code
def yX1_lastLettersAhead : MethodName := ⟨RX1, "lastLettersAhead", "(I)I"⟩
abbrev cX1_firstLeaf : ByteArray := prog_3_method_10_code
def yX1_firstLeaf : MethodName := ⟨RX1, "firstLeaf", "(I)I"⟩
abbrev cX1_leaves : ByteArray := prog_3_method_11_code
def yX1_leaves : MethodName := ⟨RX1, "leaves", "()I"⟩
abbrev cX1_hasLeaf : ByteArray := prog_3_method_12_code
def yX1_hasLeaf : MethodName := ⟨RX1, "hasLeaf", "(I)Z"⟩
abbrev cX1_quireOf : ByteArray := prog_3_method_13_code
def yX1_quireOf : MethodName := ⟨RX1, "quireOf", "(I)I"⟩
abbrev cX1_numberOf : ByteArray := prog_3_method_14_code
def yX1_numberOf : MethodName := ⟨RX1, "numberOf", "(I)I"⟩
abbrev cX1_signedIn : ByteArray := prog_3_method_15_code
def yX1_signedIn : MethodName := ⟨RX1, "signedIn", "(I)I"⟩
abbrev cX1_signedLeaves : ByteArray := prog_3_method_16_code
def yX1_signedLeaves : MethodName := ⟨RX1, "signedLeaves", "()I"⟩
abbrev cX1_isLost : ByteArray := prog_3_method_17_code
def yX1_isLost : MethodName := ⟨RX1, "isLost", "(I)Z"⟩
abbrev cX1_turnLost : ByteArray := prog_3_method_18_code
def yX1_turnLost : MethodName := ⟨RX1, "turnLost", "(I)V"⟩
abbrev cX1_thereIn : ByteArray := prog_3_method_19_code
def yX1_thereIn : MethodName := ⟨RX1, "thereIn", "(I)I"⟩
abbrev cX1_thereAhead : ByteArray := prog_3_method_20_code
def yX1_thereAhead : MethodName := ⟨RX1, "thereAhead", "(I)I"⟩
abbrev cX1_leavesThere : ByteArray := prog_3_method_21_code
def yX1_leavesThere : MethodName := ⟨RX1, "leavesThere", "()I"⟩
abbrev cX1_leafSigned : ByteArray := prog_3_method_22_code
def yX1_leafSigned : MethodName := ⟨RX1, "leafSigned", "(II)I"⟩
abbrev cX1_addToPile : ByteArray := prog_3_method_23_code
def yX1_addToPile : MethodName := ⟨RX1, "addToPile", "(I)V"⟩
def RX2 : String := "QuireSigns$History"
def TX2 : u_T := fun k => match k with
  | 0 => ("QuireSigns$History", "books", "[LQuireSigns$Book;", true)
  | _ => ("QuireSigns$History", "states", "I", false)
def tyX2 : Nat → FieldType := fun k => match k with
  | 0 => .array (.object "QuireSigns$Book")
  | _ => .int
abbrev wsX20 : List Cond := u_ws RX2 TX2 2
theorem nmX2 : ∀ a, a < 2 → ∀ b, b < 2 → a ≠ b → (TX2 a).2.1 ≠ (TX2 b).2.1 := by decide +kernel
theorem tyX2_ok : ∀ k, k < 2 → parseFieldDescriptor (TX2 k).2.2.1 = some (tyX2 k) := by decide +kernel
abbrev cX2_init : ByteArray := prog_4_method_1_code
def yX2_init : MethodName := ⟨RX2, "<init>", "()V"⟩
abbrev cX2_states : ByteArray := prog_4_method_2_code
def yX2_states : MethodName := ⟨RX2, "states", "()I"⟩
abbrev cX2_record : ByteArray := prog_4_method_3_code
def yX2_record : MethodName := ⟨RX2, "record", "(LQuireSigns$Book;)V"⟩
abbrev cX2_takeBack : ByteArray := prog_4_method_4_code
def yX2_takeBack : MethodName := ⟨RX2, "takeBack", "(LQuireSigns$Book;)V"⟩
abbrev cX2_bookAt : ByteArray := prog_4_method_5_code
def yX2_bookAt : MethodName := ⟨RX2, "bookAt", "(I)LQuireSigns$Book;"⟩
abbrev cX2_dropOldest : ByteArray := prog_4_method_6_code
def yX2_dropOldest : MethodName := ⟨RX2, "dropOldest", "()V"⟩
def RX3 : String := "QuireSigns$Lapses"
def TX3 : u_T := fun k => match k with
  | _ => ("", "", "", false)
def tyX3 : Nat → FieldType := fun k => match k with
  | _ => .int
abbrev wsX30 : List Cond := u_ws RX3 TX3 0
theorem nmX3 : ∀ a, a < 0 → ∀ b, b < 0 → a ≠ b → (TX3 a).2.1 ≠ (TX3 b).2.1 := by decide +kernel
theorem tyX3_ok : ∀ k, k < 0 → parseFieldDescriptor (TX3 k).2.2.1 = some (tyX3 k) := by decide +kernel
abbrev cX3_kind : ByteArray := prog_5_method_2_code
def yX3_kind : MethodName := ⟨RX3, "kind", "(LQuireSigns$Book;I)I"⟩
abbrev cX3_width : ByteArray := prog_5_method_3_code
def yX3_width : MethodName := ⟨RX3, "width", "(LQuireSigns$Book;I)I"⟩
abbrev cX3_number : ByteArray := prog_5_method_4_code
def yX3_number : MethodName := ⟨RX3, "number", "(LQuireSigns$Book;)I"⟩
abbrev cX3_quireAt : ByteArray := prog_5_method_5_code
def yX3_quireAt : MethodName := ⟨RX3, "quireAt", "(LQuireSigns$Book;I)I"⟩
def RX4 : String := "QuireSigns$Row"
def TX4 : u_T := fun k => match k with
  | 0 => ("QuireSigns$Row", "cells", "[I", true)
  | _ => ("QuireSigns$Row", "length", "I", false)
def tyX4 : Nat → FieldType := fun k => match k with
  | 0 => .array .int
  | _ => .int
abbrev wsX40 : List Cond := u_ws RX4 TX4 2
theorem nmX4 : ∀ a, a < 2 → ∀ b, b < 2 → a ≠ b → (TX4 a).2.1 ≠ (TX4 b).2.1 := by decide +kernel
theorem tyX4_ok : ∀ k, k < 2 → parseFieldDescriptor (TX4 k).2.2.1 = some (tyX4 k) := by decide +kernel
abbrev cX4_init : ByteArray := prog_6_method_1_code
def yX4_init : MethodName := ⟨RX4, "<init>", "(I)V"⟩
abbrev cX4_length : ByteArray := prog_6_method_2_code
def yX4_length : MethodName := ⟨RX4, "length", "()I"⟩
abbrev cX4_at : ByteArray := prog_6_method_3_code
def yX4_at : MethodName := ⟨RX4, "at", "(I)I"⟩
abbrev cX4_firstIndexOf : ByteArray := prog_6_method_4_code
def yX4_firstIndexOf : MethodName := ⟨RX4, "firstIndexOf", "(I)I"⟩
abbrev cX4_set : ByteArray := prog_6_method_5_code
def yX4_set : MethodName := ⟨RX4, "set", "(II)V"⟩
abbrev cX4_add : ByteArray := prog_6_method_6_code
def yX4_add : MethodName := ⟨RX4, "add", "(I)V"⟩
abbrev cX4_addAt : ByteArray := prog_6_method_7_code
def yX4_addAt : MethodName := ⟨RX4, "addAt", "(II)V"⟩
abbrev cX4_drop : ByteArray := prog_6_method_8_code
def yX4_drop : MethodName := ⟨RX4, "drop", "(I)V"⟩
abbrev cX4_empty : ByteArray := prog_6_method_9_code
def yX4_empty : MethodName := ⟨RX4, "empty", "()V"⟩
abbrev cX4_become : ByteArray := prog_6_method_10_code
def yX4_become : MethodName := ⟨RX4, "become", "(LQuireSigns$Row;)V"⟩
def RX5 : String := "QuireSigns$Sign"
def TX5 : u_T := fun k => match k with
  | _ => ("", "", "", false)
def tyX5 : Nat → FieldType := fun k => match k with
  | _ => .int
abbrev wsX50 : List Cond := u_ws RX5 TX5 0
theorem nmX5 : ∀ a, a < 0 → ∀ b, b < 0 → a ≠ b → (TX5 a).2.1 ≠ (TX5 b).2.1 := by decide +kernel
theorem tyX5_ok : ∀ k, k < 0 → parseFieldDescriptor (TX5 k).2.2.1 = some (tyX5 k) := by decide +kernel
abbrev cX5_ofLetters : ByteArray := prog_7_method_2_code
def yX5_ofLetters : MethodName := ⟨RX5, "ofLetters", "(II)I"⟩
abbrev cX5_ofStars : ByteArray := prog_7_method_3_code
def yX5_ofStars : MethodName := ⟨RX5, "ofStars", "(I)I"⟩
abbrev cX5_isStarred : ByteArray := prog_7_method_4_code
def yX5_isStarred : MethodName := ⟨RX5, "isStarred", "(I)Z"⟩
abbrev cX5_letter : ByteArray := prog_7_method_5_code
def yX5_letter : MethodName := ⟨RX5, "letter", "(I)I"⟩
abbrev cX5_times : ByteArray := prog_7_method_6_code
def yX5_times : MethodName := ⟨RX5, "times", "(I)I"⟩
def RX6 : String := "QuireSigns$Text"
def TX6 : u_T := fun k => match k with
  | 0 => ("QuireSigns$Text", "characters", "LQuireSigns$Row;", true)
  | 1 => ("QuireSigns$Text", "firstSigns", "LQuireSigns$Row;", true)
  | 2 => ("QuireSigns$Text", "lastSigns", "LQuireSigns$Row;", true)
  | 3 => ("QuireSigns$Text", "numbers", "LQuireSigns$Row;", true)
  | 4 => ("QuireSigns$Text", "allLetters", "LQuireSigns$Alphabet;", true)
  | _ => ("QuireSigns$Text", "at", "I", false)
def tyX6 : Nat → FieldType := fun k => match k with
  | 0 => .object "QuireSigns$Row"
  | 1 => .object "QuireSigns$Row"
  | 2 => .object "QuireSigns$Row"
  | 3 => .object "QuireSigns$Row"
  | 4 => .object "QuireSigns$Alphabet"
  | _ => .int
abbrev wsX60 : List Cond := u_ws RX6 TX6 6
theorem nmX6 : ∀ a, a < 6 → ∀ b, b < 6 → a ≠ b → (TX6 a).2.1 ≠ (TX6 b).2.1 := by decide +kernel
theorem tyX6_ok : ∀ k, k < 6 → parseFieldDescriptor (TX6 k).2.2.1 = some (tyX6 k) := by decide +kernel
abbrev cX6_init : ByteArray := prog_8_method_1_code
def yX6_init : MethodName := ⟨RX6, "<init>", "()V"⟩
abbrev cX6_length : ByteArray := prog_8_method_2_code
def yX6_length : MethodName := ⟨RX6, "length", "()I"⟩
abbrev cX6_add : ByteArray := prog_8_method_3_code
def yX6_add : MethodName := ⟨RX6, "add", "(C)V"⟩
abbrev cX6_empty : ByteArray := prog_8_method_4_code
def yX6_empty : MethodName := ⟨RX6, "empty", "()V"⟩
abbrev cX6_entries : ByteArray := prog_8_method_5_code
def yX6_entries : MethodName := ⟨RX6, "entries", "()I"⟩
abbrev cX6_firstSign : ByteArray := prog_8_method_6_code
def yX6_firstSign : MethodName := ⟨RX6, "firstSign", "(I)I"⟩
abbrev cX6_lastSign : ByteArray := prog_8_method_7_code
def yX6_lastSign : MethodName := ⟨RX6, "lastSign", "(I)I"⟩
abbrev cX6_number : ByteArray := prog_8_method_8_code
def yX6_number : MethodName := ⟨RX6, "number", "(I)I"⟩
abbrev cX6_readAsFormula : ByteArray := prog_8_method_9_code
def yX6_readAsFormula : MethodName := ⟨RX6, "readAsFormula", "(LQuireSigns$Alphabet;)I"⟩
abbrev cX6_readAsPile : ByteArray := prog_8_method_10_code
def yX6_readAsPile : MethodName := ⟨RX6, "readAsPile", "()I"⟩
abbrev cX6_readEntries : ByteArray := prog_8_method_11_code
def yX6_readEntries : MethodName := ⟨RX6, "readEntries", "(LQuireSigns$Alphabet;Z)I"⟩
abbrev cX6_readEntry : ByteArray := prog_8_method_12_code
def yX6_readEntry : MethodName := ⟨RX6, "readEntry", "(LQuireSigns$Alphabet;Z)Z"⟩
abbrev cX6_readSign : ByteArray := prog_8_method_13_code
def yX6_readSign : MethodName := ⟨RX6, "readSign", "(LQuireSigns$Alphabet;)I"⟩
abbrev cX6_readStars : ByteArray := prog_8_method_14_code
def yX6_readStars : MethodName := ⟨RX6, "readStars", "()I"⟩
abbrev cX6_readLetters : ByteArray := prog_8_method_15_code
def yX6_readLetters : MethodName := ⟨RX6, "readLetters", "(LQuireSigns$Alphabet;)I"⟩
abbrev cX6_readLastSign : ByteArray := prog_8_method_16_code
def yX6_readLastSign : MethodName := ⟨RX6, "readLastSign", "(LQuireSigns$Alphabet;I)I"⟩
abbrev cX6_readNumber : ByteArray := prog_8_method_17_code
def yX6_readNumber : MethodName := ⟨RX6, "readNumber", "()I"⟩
abbrev cX6_digitAt : ByteArray := prog_8_method_18_code
def yX6_digitAt : MethodName := ⟨RX6, "digitAt", "(I)I"⟩
def RX7 : String := "QuireSigns$Writer"
def TX7 : u_T := fun k => match k with
  | 0 => ("QuireSigns$Writer", "characters", "LQuireSigns$Row;", true)
  | _ => ("QuireSigns$Writer", "entries", "I", false)
def tyX7 : Nat → FieldType := fun k => match k with
  | 0 => .object "QuireSigns$Row"
  | _ => .int
abbrev wsX70 : List Cond := u_ws RX7 TX7 2
theorem nmX7 : ∀ a, a < 2 → ∀ b, b < 2 → a ≠ b → (TX7 a).2.1 ≠ (TX7 b).2.1 := by decide +kernel
theorem tyX7_ok : ∀ k, k < 2 → parseFieldDescriptor (TX7 k).2.2.1 = some (tyX7 k) := by decide +kernel
abbrev cX7_init : ByteArray := prog_9_method_1_code
def yX7_init : MethodName := ⟨RX7, "<init>", "()V"⟩
abbrev cX7_length : ByteArray := prog_9_method_2_code
def yX7_length : MethodName := ⟨RX7, "length", "()I"⟩
abbrev cX7_characterAt : ByteArray := prog_9_method_3_code
def yX7_characterAt : MethodName := ⟨RX7, "characterAt", "(I)I"⟩
abbrev cX7_entries : ByteArray := prog_9_method_4_code
def yX7_entries : MethodName := ⟨RX7, "entries", "()I"⟩
abbrev cX7_write : ByteArray := prog_9_method_5_code
def yX7_write : MethodName := ⟨RX7, "write", "(LQuireSigns$Book;)V"⟩
abbrev cX7_goesOn : ByteArray := prog_9_method_6_code
def yX7_goesOn : MethodName := ⟨RX7, "goesOn", "(LQuireSigns$Book;I)Z"⟩
abbrev cX7_beginEntry : ByteArray := prog_9_method_7_code
def yX7_beginEntry : MethodName := ⟨RX7, "beginEntry", "(I)V"⟩
abbrev cX7_writeSign : ByteArray := prog_9_method_8_code
def yX7_writeSign : MethodName := ⟨RX7, "writeSign", "(I)V"⟩
abbrev cX7_writeNumber : ByteArray := prog_9_method_9_code
def yX7_writeNumber : MethodName := ⟨RX7, "writeNumber", "(I)V"⟩
def RX8 : String := "QuireSigns"
def TX8 : u_T := fun k => match k with
  | 0 => ("QuireSigns", "book", "LQuireSigns$Book;", true)
  | 1 => ("QuireSigns", "snapshot", "LQuireSigns$Book;", true)
  | 2 => ("QuireSigns", "snapshotTaken", "Z", false)
  | 3 => ("QuireSigns", "history", "LQuireSigns$History;", true)
  | 4 => ("QuireSigns", "text", "LQuireSigns$Text;", true)
  | 5 => ("QuireSigns", "writer", "LQuireSigns$Writer;", true)
  | _ => ("QuireSigns", "found", "LQuireSigns$Row;", true)
def tyX8 : Nat → FieldType := fun k => match k with
  | 0 => .object "QuireSigns$Book"
  | 1 => .object "QuireSigns$Book"
  | 2 => .boolean
  | 3 => .object "QuireSigns$History"
  | 4 => .object "QuireSigns$Text"
  | 5 => .object "QuireSigns$Writer"
  | _ => .object "QuireSigns$Row"
abbrev wsX80 : List Cond := u_ws RX8 TX8 7
theorem nmX8 : ∀ a, a < 7 → ∀ b, b < 7 → a ≠ b → (TX8 a).2.1 ≠ (TX8 b).2.1 := by decide +kernel
theorem tyX8_ok : ∀ k, k < 7 → parseFieldDescriptor (TX8 k).2.2.1 = some (tyX8 k) := by decide +kernel
abbrev cX8_init : ByteArray := prog_1_method_1_code
def yX8_init : MethodName := ⟨RX8, "<init>", "()V"⟩
abbrev cX8_leaveOut : ByteArray := prog_1_method_2_code
def yX8_leaveOut : MethodName := ⟨RX8, "leaveOut", "(CZ)I"⟩
abbrev cX8_setSigning : ByteArray := prog_1_method_3_code
def yX8_setSigning : MethodName := ⟨RX8, "setSigning", "(I)I"⟩
abbrev cX8_readFormula : ByteArray := prog_1_method_4_code
def yX8_readFormula : MethodName := ⟨RX8, "readFormula", "()I"⟩
abbrev cX8_signNext : ByteArray := prog_1_method_5_code
def yX8_signNext : MethodName := ⟨RX8, "signNext", "(I)I"⟩
abbrev cX8_insert : ByteArray := prog_1_method_6_code
def yX8_insert : MethodName := ⟨RX8, "insert", "(III)I"⟩
abbrev cX8_remove : ByteArray := prog_1_method_7_code
def yX8_remove : MethodName := ⟨RX8, "remove", "(I)I"⟩
abbrev cX8_lose : ByteArray := prog_1_method_8_code
def yX8_lose : MethodName := ⟨RX8, "lose", "(IZ)I"⟩
abbrev cX8_readPile : ByteArray := prog_1_method_9_code
def yX8_readPile : MethodName := ⟨RX8, "readPile", "()I"⟩
abbrev cX8_type : ByteArray := prog_1_method_10_code
def yX8_type : MethodName := ⟨RX8, "type", "(C)I"⟩
abbrev cX8_clearText : ByteArray := prog_1_method_11_code
def yX8_clearText : MethodName := ⟨RX8, "clearText", "()I"⟩
abbrev cX8_undo : ByteArray := prog_1_method_12_code
def yX8_undo : MethodName := ⟨RX8, "undo", "()I"⟩
abbrev cX8_keep : ByteArray := prog_1_method_13_code
def yX8_keep : MethodName := ⟨RX8, "keep", "()I"⟩
abbrev cX8_restore : ByteArray := prog_1_method_14_code
def yX8_restore : MethodName := ⟨RX8, "restore", "()I"⟩
abbrev cX8_quire : ByteArray := prog_1_method_15_code
def yX8_quire : MethodName := ⟨RX8, "quire", "(II)I"⟩
abbrev cX8_leaf : ByteArray := prog_1_method_16_code
def yX8_leaf : MethodName := ⟨RX8, "leaf", "(II)I"⟩
abbrev cX8_find : ByteArray := prog_1_method_17_code
def yX8_find : MethodName := ⟨RX8, "find", "()I"⟩
abbrev cX8_lapse : ByteArray := prog_1_method_18_code
def yX8_lapse : MethodName := ⟨RX8, "lapse", "(II)I"⟩
abbrev cX8_piled : ByteArray := prog_1_method_19_code
def yX8_piled : MethodName := ⟨RX8, "piled", "(II)I"⟩
abbrev cX8_sheets : ByteArray := prog_1_method_20_code
def yX8_sheets : MethodName := ⟨RX8, "sheets", "(I)I"⟩
abbrev cX8_formula : ByteArray := prog_1_method_21_code
def yX8_formula : MethodName := ⟨RX8, "formula", "(I)I"⟩
abbrev cX8_count : ByteArray := prog_1_method_22_code
def yX8_count : MethodName := ⟨RX8, "count", "(I)I"⟩
abbrev cX8_isQuireSize : ByteArray := prog_1_method_23_code
def yX8_isQuireSize : MethodName := ⟨RX8, "isQuireSize", "(I)Z"⟩
abbrev cX8_quiresOfText : ByteArray := prog_1_method_24_code
def yX8_quiresOfText : MethodName := ⟨RX8, "quiresOfText", "()I"⟩
abbrev cX8_addEntry : ByteArray := prog_1_method_25_code
def yX8_addEntry : MethodName := ⟨RX8, "addEntry", "(I)V"⟩
abbrev cX8_findLeavesOfText : ByteArray := prog_1_method_26_code
def yX8_findLeavesOfText : MethodName := ⟨RX8, "findLeavesOfText", "()Z"⟩
abbrev cX8_allFoundThereOnce : ByteArray := prog_1_method_27_code
def yX8_allFoundThereOnce : MethodName := ⟨RX8, "allFoundThereOnce", "()Z"⟩
abbrev cX8_leafHangingWith : ByteArray := prog_1_method_28_code
def yX8_leafHangingWith : MethodName := ⟨RX8, "leafHangingWith", "(I)I"⟩
def RX9 : String := "QuireSignsModel"
def TX9 : u_T := fun k => match k with
  | 0 => ("QuireSignsModel", "s", "[I", true)
  | 1 => ("QuireSignsModel", "states", "I", false)
  | 2 => ("QuireSignsModel", "isKept", "Z", false)
  | 3 => ("QuireSignsModel", "text", "[C", true)
  | 4 => ("QuireSignsModel", "typed", "I", false)
  | 5 => ("QuireSignsModel", "at", "I", false)
  | 6 => ("QuireSignsModel", "isRight", "Z", false)
  | 7 => ("QuireSignsModel", "times", "I", false)
  | 8 => ("QuireSignsModel", "letter", "I", false)
  | 9 => ("QuireSignsModel", "told", "[I", true)
  | 10 => ("QuireSignsModel", "items", "I", false)
  | 11 => ("QuireSignsModel", "formula", "[C", true)
  | 12 => ("QuireSignsModel", "length", "I", false)
  | _ => ("QuireSignsModel", "entries", "I", false)
def tyX9 : Nat → FieldType := fun k => match k with
  | 0 => .array .int
  | 1 => .int
  | 2 => .boolean
  | 3 => .array .char
  | 4 => .int
  | 5 => .int
  | 6 => .boolean
  | 7 => .int
  | 8 => .int
  | 9 => .array .int
  | 10 => .int
  | 11 => .array .char
  | 12 => .int
  | _ => .int
abbrev wsX90 : List Cond := u_ws RX9 TX9 14
theorem nmX9 : ∀ a, a < 14 → ∀ b, b < 14 → a ≠ b → (TX9 a).2.1 ≠ (TX9 b).2.1 := by decide +kernel
theorem tyX9_ok : ∀ k, k < 14 → parseFieldDescriptor (TX9 k).2.2.1 = some (tyX9 k) := by decide +kernel
abbrev cX9_init : ByteArray := prog_11_method_1_code
def yX9_init : MethodName := ⟨RX9, "<init>", "()V"⟩
abbrev cX9_in : ByteArray := prog_11_method_2_code
def yX9_in : MethodName := ⟨RX9, "in", "(III)Z"⟩
abbrev cX9_copies : ByteArray := prog_11_method_3_code
def yX9_copies : MethodName := ⟨RX9, "copies", "(II)V"⟩
abbrev cX9_records : ByteArray := prog_11_method_4_code
def yX9_records : MethodName := ⟨RX9, "records", "()V"⟩
abbrev cX9_isOut : ByteArray := prog_11_method_5_code
def yX9_isOut : MethodName := ⟨RX9, "isOut", "(I)Z"⟩
abbrev cX9_letters : ByteArray := prog_11_method_6_code
def yX9_letters : MethodName := ⟨RX9, "letters", "()I"⟩
abbrev cX9_next : ByteArray := prog_11_method_7_code
def yX9_next : MethodName := ⟨RX9, "next", "(I)I"⟩
abbrev cX9_of : ByteArray := prog_11_method_8_code
def yX9_of : MethodName := ⟨RX9, "of", "(II)I"⟩
abbrev cX9_isStarred : ByteArray := prog_11_method_9_code
def yX9_isStarred : MethodName := ⟨RX9, "isStarred", "(I)Z"⟩
abbrev cX9_sign : ByteArray := prog_11_method_10_code
def yX9_sign : MethodName := ⟨RX9, "sign", "(I)I"⟩
abbrev cX9_areSame : ByteArray := prog_11_method_11_code
def yX9_areSame : MethodName := ⟨RX9, "areSame", "(II)Z"⟩
abbrev cX9_isQuire : ByteArray := prog_11_method_12_code
def yX9_isQuire : MethodName := ⟨RX9, "isQuire", "(I)Z"⟩
abbrev cX9_leaves : ByteArray := prog_11_method_13_code
def yX9_leaves : MethodName := ⟨RX9, "leaves", "()I"⟩
abbrev cX9_first : ByteArray := prog_11_method_14_code
def yX9_first : MethodName := ⟨RX9, "first", "(I)I"⟩
abbrev cX9_signed : ByteArray := prog_11_method_15_code
def yX9_signed : MethodName := ⟨RX9, "signed", "(I)I"⟩
abbrev cX9_signedOfAll : ByteArray := prog_11_method_16_code
def yX9_signedOfAll : MethodName := ⟨RX9, "signedOfAll", "()I"⟩
abbrev cX9_isLeaf : ByteArray := prog_11_method_17_code
def yX9_isLeaf : MethodName := ⟨RX9, "isLeaf", "(I)Z"⟩
abbrev cX9_quireOf : ByteArray := prog_11_method_18_code
def yX9_quireOf : MethodName := ⟨RX9, "quireOf", "(I)I"⟩
abbrev cX9_isLost : ByteArray := prog_11_method_19_code
def yX9_isLost : MethodName := ⟨RX9, "isLost", "(I)Z"⟩
abbrev cX9_there : ByteArray := prog_11_method_20_code
def yX9_there : MethodName := ⟨RX9, "there", "(I)I"⟩
abbrev cX9_thereOfAll : ByteArray := prog_11_method_21_code
def yX9_thereOfAll : MethodName := ⟨RX9, "thereOfAll", "()I"⟩
abbrev cX9_puts : ByteArray := prog_11_method_22_code
def yX9_puts : MethodName := ⟨RX9, "puts", "(IIII)V"⟩
abbrev cX9_leaveOut : ByteArray := prog_11_method_23_code
def yX9_leaveOut : MethodName := ⟨RX9, "leaveOut", "(CZ)I"⟩
abbrev cX9_setSigning : ByteArray := prog_11_method_24_code
def yX9_setSigning : MethodName := ⟨RX9, "setSigning", "(I)I"⟩
abbrev cX9_isNext : ByteArray := prog_11_method_25_code
def yX9_isNext : MethodName := ⟨RX9, "isNext", "(II)Z"⟩
abbrev cX9_reads : ByteArray := prog_11_method_26_code
def yX9_reads : MethodName := ⟨RX9, "reads", "(Z)V"⟩
abbrev cX9_number : ByteArray := prog_11_method_27_code
def yX9_number : MethodName := ⟨RX9, "number", "()I"⟩
abbrev cX9_item : ByteArray := prog_11_method_28_code
def yX9_item : MethodName := ⟨RX9, "item", "(Z)V"⟩
abbrev cX9_fault : ByteArray := prog_11_method_29_code
def yX9_fault : MethodName := ⟨RX9, "fault", "(Z)I"⟩
abbrev cX9_readFormula : ByteArray := prog_11_method_30_code
def yX9_readFormula : MethodName := ⟨RX9, "readFormula", "()I"⟩
abbrev cX9_signNext : ByteArray := prog_11_method_31_code
def yX9_signNext : MethodName := ⟨RX9, "signNext", "(I)I"⟩
abbrev cX9_insert : ByteArray := prog_11_method_32_code
def yX9_insert : MethodName := ⟨RX9, "insert", "(III)I"⟩
abbrev cX9_remove : ByteArray := prog_11_method_33_code
def yX9_remove : MethodName := ⟨RX9, "remove", "(I)I"⟩
abbrev cX9_lose : ByteArray := prog_11_method_34_code
def yX9_lose : MethodName := ⟨RX9, "lose", "(IZ)I"⟩
abbrev cX9_found : ByteArray := prog_11_method_35_code
def yX9_found : MethodName := ⟨RX9, "found", "(I)I"⟩
abbrev cX9_readPile : ByteArray := prog_11_method_36_code
def yX9_readPile : MethodName := ⟨RX9, "readPile", "()I"⟩
abbrev cX9_type : ByteArray := prog_11_method_37_code
def yX9_type : MethodName := ⟨RX9, "type", "(C)I"⟩
abbrev cX9_clearText : ByteArray := prog_11_method_38_code
def yX9_clearText : MethodName := ⟨RX9, "clearText", "()I"⟩
abbrev cX9_undo : ByteArray := prog_11_method_39_code
def yX9_undo : MethodName := ⟨RX9, "undo", "()I"⟩
abbrev cX9_keep : ByteArray := prog_11_method_40_code
def yX9_keep : MethodName := ⟨RX9, "keep", "()I"⟩
abbrev cX9_restore : ByteArray := prog_11_method_41_code
def yX9_restore : MethodName := ⟨RX9, "restore", "()I"⟩
abbrev cX9_sameAhead : ByteArray := prog_11_method_42_code
def yX9_sameAhead : MethodName := ⟨RX9, "sameAhead", "(I)I"⟩
abbrev cX9_quire : ByteArray := prog_11_method_43_code
def yX9_quire : MethodName := ⟨RX9, "quire", "(II)I"⟩
abbrev cX9_thereAhead : ByteArray := prog_11_method_44_code
def yX9_thereAhead : MethodName := ⟨RX9, "thereAhead", "(I)I"⟩
abbrev cX9_leaf : ByteArray := prog_11_method_45_code
def yX9_leaf : MethodName := ⟨RX9, "leaf", "(II)I"⟩
abbrev cX9_find : ByteArray := prog_11_method_46_code
def yX9_find : MethodName := ⟨RX9, "find", "()I"⟩
abbrev cX9_before : ByteArray := prog_11_method_47_code
def yX9_before : MethodName := ⟨RX9, "before", "(I)I"⟩
abbrev cX9_isLapse : ByteArray := prog_11_method_48_code
def yX9_isLapse : MethodName := ⟨RX9, "isLapse", "(I)Z"⟩
abbrev cX9_between : ByteArray := prog_11_method_49_code
def yX9_between : MethodName := ⟨RX9, "between", "(II)I"⟩
abbrev cX9_lapse : ByteArray := prog_11_method_50_code
def yX9_lapse : MethodName := ⟨RX9, "lapse", "(II)I"⟩
abbrev cX9_isPiled : ByteArray := prog_11_method_51_code
def yX9_isPiled : MethodName := ⟨RX9, "isPiled", "(I)Z"⟩
abbrev cX9_piled : ByteArray := prog_11_method_52_code
def yX9_piled : MethodName := ⟨RX9, "piled", "(II)I"⟩
abbrev cX9_sheets : ByteArray := prog_11_method_53_code
def yX9_sheets : MethodName := ⟨RX9, "sheets", "(I)I"⟩
abbrev cX9_writes : ByteArray := prog_11_method_54_code
def yX9_writes : MethodName := ⟨RX9, "writes", "(I)V"⟩
abbrev cX9_writesSign : ByteArray := prog_11_method_55_code
def yX9_writesSign : MethodName := ⟨RX9, "writesSign", "(I)V"⟩
abbrev cX9_goesOn : ByteArray := prog_11_method_56_code
def yX9_goesOn : MethodName := ⟨RX9, "goesOn", "(I)Z"⟩
abbrev cX9_lays : ByteArray := prog_11_method_57_code
def yX9_lays : MethodName := ⟨RX9, "lays", "()V"⟩
abbrev cX9_formula : ByteArray := prog_11_method_58_code
def yX9_formula : MethodName := ⟨RX9, "formula", "(I)I"⟩
abbrev cX9_starred : ByteArray := prog_11_method_59_code
def yX9_starred : MethodName := ⟨RX9, "starred", "()I"⟩
abbrev cX9_lapses : ByteArray := prog_11_method_60_code
def yX9_lapses : MethodName := ⟨RX9, "lapses", "()I"⟩
abbrev cX9_count : ByteArray := prog_11_method_61_code
def yX9_count : MethodName := ⟨RX9, "count", "(I)I"⟩
def RJ6 : String := "java/lang/Integer"
def TJ6 : u_T := fun k => match k with
  | _ => ("", "", "", false)
def tyJ6 : Nat → FieldType := fun k => match k with
  | _ => .int
abbrev wsJ60 : List Cond := u_ws RJ6 TJ6 0
theorem nmJ6 : ∀ a, a < 0 → ∀ b, b < 0 → a ≠ b → (TJ6 a).2.1 ≠ (TJ6 b).2.1 := by decide +kernel
theorem tyJ6_ok : ∀ k, k < 0 → parseFieldDescriptor (TJ6 k).2.2.1 = some (tyJ6 k) := by decide +kernel
abbrev cJ6_bitCount_0f7a4 : ByteArray := prog_12_method_49_code
def yJ6_bitCount_0f7a4 : MethodName := ⟨RJ6, "bitCount", "(I)I"⟩
def RJ9 : String := "java/lang/Math"
def TJ9 : u_T := fun k => match k with
  | _ => ("", "", "", false)
def tyJ9 : Nat → FieldType := fun k => match k with
  | _ => .int
abbrev wsJ90 : List Cond := u_ws RJ9 TJ9 0
theorem nmJ9 : ∀ a, a < 0 → ∀ b, b < 0 → a ≠ b → (TJ9 a).2.1 ≠ (TJ9 b).2.1 := by decide +kernel
theorem tyJ9_ok : ∀ k, k < 0 → parseFieldDescriptor (TJ9 k).2.2.1 = some (tyJ9 k) := by decide +kernel
abbrev cJ9_max_7cf53 : ByteArray := prog_13_method_65_code
def yJ9_max_7cf53 : MethodName := ⟨RJ9, "max", "(II)I"⟩
abbrev cJ9_min_7cf53 : ByteArray := prog_13_method_69_code
def yJ9_min_7cf53 : MethodName := ⟨RJ9, "min", "(II)I"⟩
def RL : String := "QuireSignsLaw"
abbrev cL_law : ByteArray := code
def yL_law : MethodName := ⟨RL, "law", "([I)Z"⟩
/-! the words that stay at a call: every word of the tables but those of nest mates -/
def gw : List Cond := lw_tbl.filter goodWord
theorem gw_good : GoodIn gw gw := fun w h => ⟨h, good_of_word (List.mem_filter.mp h).2⟩
theorem gw_at {w : Cond} (i : Nat) (h : lw_tbl[i]? = some w) (hg : goodWord w = true) : w ∈ gw := List.mem_filter.mpr ⟨List.mem_of_getElem? h, hg⟩
theorem tw_0 : Cond.selects "QuireSigns$History" ⟨"QuireSigns$History", "dropOldest", "()V"⟩ ⟨"QuireSigns$History", "dropOldest", "()V"⟩ ∈ gw := gw_at 0 rfl rfl
theorem tw_1 : Cond.selects "QuireSigns$History" ⟨"QuireSigns$History", "bookAt", "(I)LQuireSigns$Book;"⟩ ⟨"QuireSigns$History", "bookAt", "(I)LQuireSigns$Book;"⟩ ∈ gw := gw_at 1 rfl rfl
theorem tw_2 : Cond.selects "QuireSigns$Text" ⟨"QuireSigns$Text", "readEntries", "(LQuireSigns$Alphabet;Z)I"⟩ ⟨"QuireSigns$Text", "readEntries", "(LQuireSigns$Alphabet;Z)I"⟩ ∈ gw := gw_at 2 rfl rfl
theorem tw_3 : Cond.selects "QuireSigns$Text" ⟨"QuireSigns$Text", "readEntry", "(LQuireSigns$Alphabet;Z)Z"⟩ ⟨"QuireSigns$Text", "readEntry", "(LQuireSigns$Alphabet;Z)Z"⟩ ∈ gw := gw_at 3 rfl rfl
theorem tw_4 : Cond.selects "QuireSigns$Text" ⟨"QuireSigns$Text", "readSign", "(LQuireSigns$Alphabet;)I"⟩ ⟨"QuireSigns$Text", "readSign", "(LQuireSigns$Alphabet;)I"⟩ ∈ gw := gw_at 4 rfl rfl
theorem tw_5 : Cond.selects "QuireSigns$Text" ⟨"QuireSigns$Text", "readStars", "()I"⟩ ⟨"QuireSigns$Text", "readStars", "()I"⟩ ∈ gw := gw_at 5 rfl rfl
theorem tw_6 : Cond.selects "QuireSigns$Text" ⟨"QuireSigns$Text", "readLetters", "(LQuireSigns$Alphabet;)I"⟩ ⟨"QuireSigns$Text", "readLetters", "(LQuireSigns$Alphabet;)I"⟩ ∈ gw := gw_at 6 rfl rfl
theorem tw_7 : Cond.selects "QuireSigns$Text" ⟨"QuireSigns$Text", "readLastSign", "(LQuireSigns$Alphabet;I)I"⟩ ⟨"QuireSigns$Text", "readLastSign", "(LQuireSigns$Alphabet;I)I"⟩ ∈ gw := gw_at 7 rfl rfl
theorem tw_8 : Cond.selects "QuireSigns$Text" ⟨"QuireSigns$Text", "readNumber", "()I"⟩ ⟨"QuireSigns$Text", "readNumber", "()I"⟩ ∈ gw := gw_at 8 rfl rfl
theorem tw_9 : Cond.selects "QuireSigns$Text" ⟨"QuireSigns$Text", "digitAt", "(I)I"⟩ ⟨"QuireSigns$Text", "digitAt", "(I)I"⟩ ∈ gw := gw_at 9 rfl rfl
theorem tw_10 : Cond.selects "QuireSigns" ⟨"QuireSigns", "quiresOfText", "()I"⟩ ⟨"QuireSigns", "quiresOfText", "()I"⟩ ∈ gw := gw_at 10 rfl rfl
theorem tw_11 : Cond.selects "QuireSigns" ⟨"QuireSigns", "addEntry", "(I)V"⟩ ⟨"QuireSigns", "addEntry", "(I)V"⟩ ∈ gw := gw_at 11 rfl rfl
theorem tw_12 : Cond.selects "QuireSigns" ⟨"QuireSigns", "findLeavesOfText", "()Z"⟩ ⟨"QuireSigns", "findLeavesOfText", "()Z"⟩ ∈ gw := gw_at 12 rfl rfl
theorem tw_13 : Cond.selects "QuireSigns" ⟨"QuireSigns", "allFoundThereOnce", "()Z"⟩ ⟨"QuireSigns", "allFoundThereOnce", "()Z"⟩ ∈ gw := gw_at 13 rfl rfl
theorem tw_14 : Cond.selects "QuireSigns" ⟨"QuireSigns", "leafHangingWith", "(I)I"⟩ ⟨"QuireSigns", "leafHangingWith", "(I)I"⟩ ∈ gw := gw_at 14 rfl rfl
theorem tw_15 : Cond.selects "QuireSigns$Writer" ⟨"QuireSigns$Writer", "beginEntry", "(I)V"⟩ ⟨"QuireSigns$Writer", "beginEntry", "(I)V"⟩ ∈ gw := gw_at 15 rfl rfl
theorem tw_16 : Cond.selects "QuireSigns$Writer" ⟨"QuireSigns$Writer", "writeSign", "(I)V"⟩ ⟨"QuireSigns$Writer", "writeSign", "(I)V"⟩ ∈ gw := gw_at 16 rfl rfl
theorem tw_17 : Cond.selects "QuireSigns$Writer" ⟨"QuireSigns$Writer", "writeNumber", "(I)V"⟩ ⟨"QuireSigns$Writer", "writeNumber", "(I)V"⟩ ∈ gw := gw_at 17 rfl rfl
theorem tw_18 : Cond.selects "QuireSignsModel" ⟨"QuireSignsModel", "isOut", "(I)Z"⟩ ⟨"QuireSignsModel", "isOut", "(I)Z"⟩ ∈ gw := gw_at 18 rfl rfl
theorem tw_19 : Cond.selects "QuireSignsModel" ⟨"QuireSignsModel", "letters", "()I"⟩ ⟨"QuireSignsModel", "letters", "()I"⟩ ∈ gw := gw_at 19 rfl rfl
theorem tw_20 : Cond.selects "QuireSignsModel" ⟨"QuireSignsModel", "records", "()V"⟩ ⟨"QuireSignsModel", "records", "()V"⟩ ∈ gw := gw_at 20 rfl rfl
theorem tw_21 : Cond.selects "QuireSignsModel" ⟨"QuireSignsModel", "copies", "(II)V"⟩ ⟨"QuireSignsModel", "copies", "(II)V"⟩ ∈ gw := gw_at 21 rfl rfl
theorem tw_22 : Cond.selects "QuireSignsModel" ⟨"QuireSignsModel", "signedOfAll", "()I"⟩ ⟨"QuireSignsModel", "signedOfAll", "()I"⟩ ∈ gw := gw_at 22 rfl rfl
theorem tw_23 : Cond.selects "QuireSignsModel" ⟨"QuireSignsModel", "signed", "(I)I"⟩ ⟨"QuireSignsModel", "signed", "(I)I"⟩ ∈ gw := gw_at 23 rfl rfl
theorem tw_24 : Cond.selects "QuireSignsModel" ⟨"QuireSignsModel", "fault", "(Z)I"⟩ ⟨"QuireSignsModel", "fault", "(Z)I"⟩ ∈ gw := gw_at 24 rfl rfl
theorem tw_25 : Cond.selects "QuireSignsModel" ⟨"QuireSignsModel", "item", "(Z)V"⟩ ⟨"QuireSignsModel", "item", "(Z)V"⟩ ∈ gw := gw_at 25 rfl rfl
theorem tw_26 : Cond.selects "QuireSignsModel" ⟨"QuireSignsModel", "reads", "(Z)V"⟩ ⟨"QuireSignsModel", "reads", "(Z)V"⟩ ∈ gw := gw_at 26 rfl rfl
theorem tw_27 : Cond.selects "QuireSignsModel" ⟨"QuireSignsModel", "isNext", "(II)Z"⟩ ⟨"QuireSignsModel", "isNext", "(II)Z"⟩ ∈ gw := gw_at 27 rfl rfl
theorem tw_28 : Cond.selects "QuireSignsModel" ⟨"QuireSignsModel", "number", "()I"⟩ ⟨"QuireSignsModel", "number", "()I"⟩ ∈ gw := gw_at 28 rfl rfl
theorem tw_29 : Cond.selects "QuireSignsModel" ⟨"QuireSignsModel", "puts", "(IIII)V"⟩ ⟨"QuireSignsModel", "puts", "(IIII)V"⟩ ∈ gw := gw_at 29 rfl rfl
theorem tw_30 : Cond.selects "QuireSignsModel" ⟨"QuireSignsModel", "isStarred", "(I)Z"⟩ ⟨"QuireSignsModel", "isStarred", "(I)Z"⟩ ∈ gw := gw_at 30 rfl rfl
theorem tw_31 : Cond.selects "QuireSignsModel" ⟨"QuireSignsModel", "sign", "(I)I"⟩ ⟨"QuireSignsModel", "sign", "(I)I"⟩ ∈ gw := gw_at 31 rfl rfl
theorem tw_32 : Cond.selects "QuireSignsModel" ⟨"QuireSignsModel", "next", "(I)I"⟩ ⟨"QuireSignsModel", "next", "(I)I"⟩ ∈ gw := gw_at 32 rfl rfl
theorem tw_33 : Cond.selects "QuireSignsModel" ⟨"QuireSignsModel", "leaves", "()I"⟩ ⟨"QuireSignsModel", "leaves", "()I"⟩ ∈ gw := gw_at 33 rfl rfl
theorem tw_34 : Cond.selects "QuireSignsModel" ⟨"QuireSignsModel", "isQuire", "(I)Z"⟩ ⟨"QuireSignsModel", "isQuire", "(I)Z"⟩ ∈ gw := gw_at 34 rfl rfl
theorem tw_35 : Cond.selects "QuireSignsModel" ⟨"QuireSignsModel", "isLeaf", "(I)Z"⟩ ⟨"QuireSignsModel", "isLeaf", "(I)Z"⟩ ∈ gw := gw_at 35 rfl rfl
theorem tw_36 : Cond.selects "QuireSignsModel" ⟨"QuireSignsModel", "isLost", "(I)Z"⟩ ⟨"QuireSignsModel", "isLost", "(I)Z"⟩ ∈ gw := gw_at 36 rfl rfl
theorem tw_37 : Cond.selects "QuireSignsModel" ⟨"QuireSignsModel", "quireOf", "(I)I"⟩ ⟨"QuireSignsModel", "quireOf", "(I)I"⟩ ∈ gw := gw_at 37 rfl rfl
theorem tw_38 : Cond.selects "QuireSignsModel" ⟨"QuireSignsModel", "first", "(I)I"⟩ ⟨"QuireSignsModel", "first", "(I)I"⟩ ∈ gw := gw_at 38 rfl rfl
theorem tw_39 : Cond.selects "QuireSignsModel" ⟨"QuireSignsModel", "thereOfAll", "()I"⟩ ⟨"QuireSignsModel", "thereOfAll", "()I"⟩ ∈ gw := gw_at 39 rfl rfl
theorem tw_40 : Cond.selects "QuireSignsModel" ⟨"QuireSignsModel", "there", "(I)I"⟩ ⟨"QuireSignsModel", "there", "(I)I"⟩ ∈ gw := gw_at 40 rfl rfl
theorem tw_41 : Cond.selects "QuireSignsModel" ⟨"QuireSignsModel", "found", "(I)I"⟩ ⟨"QuireSignsModel", "found", "(I)I"⟩ ∈ gw := gw_at 41 rfl rfl
theorem tw_42 : Cond.selects "QuireSignsModel" ⟨"QuireSignsModel", "sameAhead", "(I)I"⟩ ⟨"QuireSignsModel", "sameAhead", "(I)I"⟩ ∈ gw := gw_at 42 rfl rfl
theorem tw_43 : Cond.selects "QuireSignsModel" ⟨"QuireSignsModel", "areSame", "(II)Z"⟩ ⟨"QuireSignsModel", "areSame", "(II)Z"⟩ ∈ gw := gw_at 43 rfl rfl
theorem tw_44 : Cond.selects "QuireSignsModel" ⟨"QuireSignsModel", "thereAhead", "(I)I"⟩ ⟨"QuireSignsModel", "thereAhead", "(I)I"⟩ ∈ gw := gw_at 44 rfl rfl
theorem tw_45 : Cond.selects "QuireSignsModel" ⟨"QuireSignsModel", "isLapse", "(I)Z"⟩ ⟨"QuireSignsModel", "isLapse", "(I)Z"⟩ ∈ gw := gw_at 45 rfl rfl
theorem tw_46 : Cond.selects "QuireSignsModel" ⟨"QuireSignsModel", "before", "(I)I"⟩ ⟨"QuireSignsModel", "before", "(I)I"⟩ ∈ gw := gw_at 46 rfl rfl
theorem tw_47 : Cond.selects "QuireSignsModel" ⟨"QuireSignsModel", "between", "(II)I"⟩ ⟨"QuireSignsModel", "between", "(II)I"⟩ ∈ gw := gw_at 47 rfl rfl
theorem tw_48 : Cond.selects "QuireSignsModel" ⟨"QuireSignsModel", "isPiled", "(I)Z"⟩ ⟨"QuireSignsModel", "isPiled", "(I)Z"⟩ ∈ gw := gw_at 48 rfl rfl
theorem tw_49 : Cond.selects "QuireSignsModel" ⟨"QuireSignsModel", "lays", "()V"⟩ ⟨"QuireSignsModel", "lays", "()V"⟩ ∈ gw := gw_at 49 rfl rfl
theorem tw_50 : Cond.selects "QuireSignsModel" ⟨"QuireSignsModel", "goesOn", "(I)Z"⟩ ⟨"QuireSignsModel", "goesOn", "(I)Z"⟩ ∈ gw := gw_at 50 rfl rfl
theorem tw_51 : Cond.selects "QuireSignsModel" ⟨"QuireSignsModel", "writes", "(I)V"⟩ ⟨"QuireSignsModel", "writes", "(I)V"⟩ ∈ gw := gw_at 51 rfl rfl
theorem tw_52 : Cond.selects "QuireSignsModel" ⟨"QuireSignsModel", "writesSign", "(I)V"⟩ ⟨"QuireSignsModel", "writesSign", "(I)V"⟩ ∈ gw := gw_at 52 rfl rfl
theorem tw_53 : Cond.selects "QuireSignsModel" ⟨"QuireSignsModel", "starred", "()I"⟩ ⟨"QuireSignsModel", "starred", "()I"⟩ ∈ gw := gw_at 53 rfl rfl
theorem tw_54 : Cond.selects "QuireSignsModel" ⟨"QuireSignsModel", "lapses", "()I"⟩ ⟨"QuireSignsModel", "lapses", "()I"⟩ ∈ gw := gw_at 54 rfl rfl
theorem tw_55 : Jvm.Cond.initialized "QuireSignsLaw" ∈ gw := gw_at 55 rfl rfl
theorem tw_56 : Jvm.Cond.initialized "QuireSigns" ∈ gw := gw_at 56 rfl rfl
theorem tw_57 : Jvm.Cond.initialized "QuireSigns$Book" ∈ gw := gw_at 57 rfl rfl
theorem tw_58 : Jvm.Cond.initialized "QuireSigns$Alphabet" ∈ gw := gw_at 58 rfl rfl
theorem tw_59 : Jvm.Cond.initialized "QuireSigns$Row" ∈ gw := gw_at 59 rfl rfl
theorem tw_60 : Jvm.Cond.initialized "java/lang/Math" ∈ gw := gw_at 60 rfl rfl
theorem tw_61 : Jvm.Cond.initialized "QuireSigns$History" ∈ gw := gw_at 61 rfl rfl
theorem tw_62 : Jvm.Cond.initialized "QuireSigns$Text" ∈ gw := gw_at 62 rfl rfl
theorem tw_63 : Jvm.Cond.initialized "QuireSigns$Writer" ∈ gw := gw_at 63 rfl rfl
theorem tw_64 : Jvm.Cond.initialized "QuireSignsModel" ∈ gw := gw_at 64 rfl rfl
theorem tw_65 : Jvm.Cond.initialized "java/lang/Integer" ∈ gw := gw_at 65 rfl rfl
theorem tw_66 : Jvm.Cond.initialized "QuireSigns$Sign" ∈ gw := gw_at 66 rfl rfl
theorem tw_67 : Jvm.Cond.initialized "QuireSigns$Lapses" ∈ gw := gw_at 67 rfl rfl
theorem tw_68 : Jvm.Cond.classLink "QuireSignsLaw" (7 : Nat) "QuireSigns" ∈ gw := gw_at 68 rfl rfl
theorem tw_69 : Jvm.Cond.instantiable "QuireSigns" (7 : Nat) ∈ gw := gw_at 69 rfl rfl
theorem tw_70 : Jvm.Cond.methodLink "QuireSignsLaw" (9 : Nat) ({ cls := "QuireSigns", name := "<init>", desc := "()V" } : Jvm.MethodName) ∈ gw := gw_at 70 rfl rfl
theorem tw_71 : Jvm.Cond.instanceMethod ({ cls := "QuireSigns", name := "<init>", desc := "()V" } : Jvm.MethodName) ∈ gw := gw_at 71 rfl rfl
theorem tw_72 : Jvm.Cond.code ({ cls := "QuireSigns", name := "<init>", desc := "()V" } : Jvm.MethodName) prog_1_method_1_code (1 : Nat) (Option.none : Option Jvm.ClassFile.FieldType) ∈ gw := gw_at 72 rfl rfl
theorem tw_73 : Jvm.Cond.methodLink "QuireSigns" (3 : Nat) ({ cls := "java/lang/Object", name := "<init>", desc := "()V" } : Jvm.MethodName) ∈ gw := gw_at 73 rfl rfl
theorem tw_74 : Jvm.Cond.instanceMethod ({ cls := "java/lang/Object", name := "<init>", desc := "()V" } : Jvm.MethodName) ∈ gw := gw_at 74 rfl rfl
theorem tw_75 : Jvm.Cond.code ({ cls := "java/lang/Object", name := "<init>", desc := "()V" } : Jvm.MethodName) object_method_1_code (1 : Nat) (Option.none : Option Jvm.ClassFile.FieldType) ∈ gw := gw_at 75 rfl rfl
theorem tw_76 : Jvm.Cond.classLink "QuireSigns" (9 : Nat) "QuireSigns$Book" ∈ gw := gw_at 76 rfl rfl
theorem tw_77 : Jvm.Cond.instantiable "QuireSigns$Book" (6 : Nat) ∈ gw := gw_at 77 rfl rfl
theorem tw_79 : Jvm.Cond.instanceMethod ({ cls := "QuireSigns$Book", name := "<init>", desc := "()V" } : Jvm.MethodName) ∈ gw := gw_at 79 rfl rfl
theorem tw_80 : Jvm.Cond.code ({ cls := "QuireSigns$Book", name := "<init>", desc := "()V" } : Jvm.MethodName) prog_3_method_1_code (1 : Nat) (Option.none : Option Jvm.ClassFile.FieldType) ∈ gw := gw_at 80 rfl rfl
theorem tw_81 : Jvm.Cond.methodLink "QuireSigns$Book" (3 : Nat) ({ cls := "java/lang/Object", name := "<init>", desc := "()V" } : Jvm.MethodName) ∈ gw := gw_at 81 rfl rfl
theorem tw_82 : Jvm.Cond.classLink "QuireSigns$Book" (9 : Nat) "QuireSigns$Alphabet" ∈ gw := gw_at 82 rfl rfl
theorem tw_83 : Jvm.Cond.instantiable "QuireSigns$Alphabet" (1 : Nat) ∈ gw := gw_at 83 rfl rfl
theorem tw_84 : Jvm.Cond.constant "QuireSigns$Book" (11 : Nat) (6291968 : Int32) ∈ gw := gw_at 84 rfl rfl
theorem tw_85 : Jvm.Cond.methodLink "QuireSigns$Book" (12 : Nat) ({ cls := "QuireSigns$Alphabet", name := "<init>", desc := "(I)V" } : Jvm.MethodName) ∈ gw := gw_at 85 rfl rfl
theorem tw_86 : Jvm.Cond.instanceMethod ({ cls := "QuireSigns$Alphabet", name := "<init>", desc := "(I)V" } : Jvm.MethodName) ∈ gw := gw_at 86 rfl rfl
theorem tw_87 : Jvm.Cond.code ({ cls := "QuireSigns$Alphabet", name := "<init>", desc := "(I)V" } : Jvm.MethodName) prog_2_method_1_code (2 : Nat) (Option.none : Option Jvm.ClassFile.FieldType) ∈ gw := gw_at 87 rfl rfl
theorem tw_88 : Jvm.Cond.methodLink "QuireSigns$Alphabet" (1 : Nat) ({ cls := "java/lang/Object", name := "<init>", desc := "()V" } : Jvm.MethodName) ∈ gw := gw_at 88 rfl rfl
theorem tw_89 : Jvm.Cond.fieldLink "QuireSigns$Alphabet" (7 : Nat) "QuireSigns$Alphabet" "out" "I" ∈ gw := gw_at 89 rfl rfl
theorem tw_90 : Jvm.Cond.lays "QuireSigns$Alphabet" "QuireSigns$Alphabet" "out" "I" ∈ gw := gw_at 90 rfl rfl
theorem tw_93 : Jvm.Cond.classLink "QuireSigns$Book" (25 : Nat) "QuireSigns$Row" ∈ gw := gw_at 93 rfl rfl
theorem tw_94 : Jvm.Cond.instantiable "QuireSigns$Row" (2 : Nat) ∈ gw := gw_at 94 rfl rfl
theorem tw_95 : Jvm.Cond.methodLink "QuireSigns$Book" (27 : Nat) ({ cls := "QuireSigns$Row", name := "<init>", desc := "(I)V" } : Jvm.MethodName) ∈ gw := gw_at 95 rfl rfl
theorem tw_96 : Jvm.Cond.instanceMethod ({ cls := "QuireSigns$Row", name := "<init>", desc := "(I)V" } : Jvm.MethodName) ∈ gw := gw_at 96 rfl rfl
theorem tw_97 : Jvm.Cond.code ({ cls := "QuireSigns$Row", name := "<init>", desc := "(I)V" } : Jvm.MethodName) prog_6_method_1_code (2 : Nat) (Option.none : Option Jvm.ClassFile.FieldType) ∈ gw := gw_at 97 rfl rfl
theorem tw_98 : Jvm.Cond.methodLink "QuireSigns$Row" (1 : Nat) ({ cls := "java/lang/Object", name := "<init>", desc := "()V" } : Jvm.MethodName) ∈ gw := gw_at 98 rfl rfl
theorem tw_99 : Jvm.Cond.methodLink "QuireSigns$Row" (7 : Nat) ({ cls := "java/lang/Math", name := "max", desc := "(II)I" } : Jvm.MethodName) ∈ gw := gw_at 99 rfl rfl
theorem tw_100 : Jvm.Cond.static ({ cls := "java/lang/Math", name := "max", desc := "(II)I" } : Jvm.MethodName) ∈ gw := gw_at 100 rfl rfl
theorem tw_101 : Jvm.Cond.code ({ cls := "java/lang/Math", name := "max", desc := "(II)I" } : Jvm.MethodName) prog_13_method_65_code (2 : Nat) (Option.some Jvm.ClassFile.FieldType.int) ∈ gw := gw_at 101 rfl rfl
theorem tw_102 : Jvm.Cond.fieldLink "QuireSigns$Row" (13 : Nat) "QuireSigns$Row" "cells" "[I" ∈ gw := gw_at 102 rfl rfl
theorem tw_103 : Jvm.Cond.fieldLink "QuireSigns$Row" (19 : Nat) "QuireSigns$Row" "length" "I" ∈ gw := gw_at 103 rfl rfl
theorem tw_104 : Jvm.Cond.laysFinal "QuireSigns$Row" "QuireSigns$Row" "cells" "[I" ∈ gw := gw_at 104 rfl rfl
theorem tw_106 : Jvm.Cond.lays "QuireSigns$Row" "QuireSigns$Row" "length" "I" ∈ gw := gw_at 106 rfl rfl
theorem tw_109 : Jvm.Cond.arrayClass Jvm.ClassFile.FieldType.int ∈ gw := gw_at 109 rfl rfl
theorem tw_110 : Jvm.Cond.fieldLink "QuireSigns$Book" (15 : Nat) "QuireSigns$Book" "alphabet" "LQuireSigns$Alphabet;" ∈ gw := gw_at 110 rfl rfl
theorem tw_114 : Jvm.Cond.fieldLink "QuireSigns$Book" (21 : Nat) "QuireSigns$Book" "signing" "I" ∈ gw := gw_at 114 rfl rfl
theorem tw_116 : Jvm.Cond.fieldLink "QuireSigns$Book" (28 : Nat) "QuireSigns$Book" "signs" "LQuireSigns$Row;" ∈ gw := gw_at 116 rfl rfl
theorem tw_120 : Jvm.Cond.fieldLink "QuireSigns$Book" (32 : Nat) "QuireSigns$Book" "sizes" "LQuireSigns$Row;" ∈ gw := gw_at 120 rfl rfl
theorem tw_123 : Jvm.Cond.fieldLink "QuireSigns$Book" (35 : Nat) "QuireSigns$Book" "lost" "LQuireSigns$Row;" ∈ gw := gw_at 123 rfl rfl
theorem tw_124 : Jvm.Cond.fieldLink "QuireSigns$Book" (38 : Nat) "QuireSigns$Book" "pile" "LQuireSigns$Row;" ∈ gw := gw_at 124 rfl rfl
theorem tw_126 : Jvm.Cond.laysFinal "QuireSigns$Book" "QuireSigns$Book" "alphabet" "LQuireSigns$Alphabet;" ∈ gw := gw_at 126 rfl rfl
theorem tw_128 : Jvm.Cond.lays "QuireSigns$Book" "QuireSigns$Book" "signing" "I" ∈ gw := gw_at 128 rfl rfl
theorem tw_130 : Jvm.Cond.laysFinal "QuireSigns$Book" "QuireSigns$Book" "signs" "LQuireSigns$Row;" ∈ gw := gw_at 130 rfl rfl
theorem tw_132 : Jvm.Cond.laysFinal "QuireSigns$Book" "QuireSigns$Book" "sizes" "LQuireSigns$Row;" ∈ gw := gw_at 132 rfl rfl
theorem tw_134 : Jvm.Cond.laysFinal "QuireSigns$Book" "QuireSigns$Book" "lost" "LQuireSigns$Row;" ∈ gw := gw_at 134 rfl rfl
theorem tw_136 : Jvm.Cond.laysFinal "QuireSigns$Book" "QuireSigns$Book" "pile" "LQuireSigns$Row;" ∈ gw := gw_at 136 rfl rfl
theorem tw_139 : Jvm.Cond.classLink "QuireSigns" (19 : Nat) "QuireSigns$History" ∈ gw := gw_at 139 rfl rfl
theorem tw_140 : Jvm.Cond.instantiable "QuireSigns$History" (2 : Nat) ∈ gw := gw_at 140 rfl rfl
theorem tw_141 : Jvm.Cond.methodLink "QuireSigns" (21 : Nat) ({ cls := "QuireSigns$History", name := "<init>", desc := "()V" } : Jvm.MethodName) ∈ gw := gw_at 141 rfl rfl
theorem tw_142 : Jvm.Cond.instanceMethod ({ cls := "QuireSigns$History", name := "<init>", desc := "()V" } : Jvm.MethodName) ∈ gw := gw_at 142 rfl rfl
theorem tw_143 : Jvm.Cond.code ({ cls := "QuireSigns$History", name := "<init>", desc := "()V" } : Jvm.MethodName) prog_4_method_1_code (2 : Nat) (Option.none : Option Jvm.ClassFile.FieldType) ∈ gw := gw_at 143 rfl rfl
theorem tw_144 : Jvm.Cond.methodLink "QuireSigns$History" (3 : Nat) ({ cls := "java/lang/Object", name := "<init>", desc := "()V" } : Jvm.MethodName) ∈ gw := gw_at 144 rfl rfl
theorem tw_145 : Jvm.Cond.classLink "QuireSigns$History" (9 : Nat) "QuireSigns$Book" ∈ gw := gw_at 145 rfl rfl
theorem tw_148 : Jvm.Cond.fieldLink "QuireSigns$History" (11 : Nat) "QuireSigns$History" "books" "[LQuireSigns$Book;" ∈ gw := gw_at 148 rfl rfl
theorem tw_149 : Jvm.Cond.fieldLink "QuireSigns$History" (18 : Nat) "QuireSigns$History" "states" "I" ∈ gw := gw_at 149 rfl rfl
theorem tw_150 : Jvm.Cond.laysFinal "QuireSigns$History" "QuireSigns$History" "books" "[LQuireSigns$Book;" ∈ gw := gw_at 150 rfl rfl
theorem tw_152 : Jvm.Cond.lays "QuireSigns$History" "QuireSigns$History" "states" "I" ∈ gw := gw_at 152 rfl rfl
theorem tw_155 : Jvm.Cond.classLink "QuireSigns" (26 : Nat) "QuireSigns$Text" ∈ gw := gw_at 155 rfl rfl
theorem tw_156 : Jvm.Cond.instantiable "QuireSigns$Text" (6 : Nat) ∈ gw := gw_at 156 rfl rfl
theorem tw_158 : Jvm.Cond.instanceMethod ({ cls := "QuireSigns$Text", name := "<init>", desc := "()V" } : Jvm.MethodName) ∈ gw := gw_at 158 rfl rfl
theorem tw_159 : Jvm.Cond.code ({ cls := "QuireSigns$Text", name := "<init>", desc := "()V" } : Jvm.MethodName) prog_8_method_1_code (1 : Nat) (Option.none : Option Jvm.ClassFile.FieldType) ∈ gw := gw_at 159 rfl rfl
theorem tw_160 : Jvm.Cond.methodLink "QuireSigns$Text" (3 : Nat) ({ cls := "java/lang/Object", name := "<init>", desc := "()V" } : Jvm.MethodName) ∈ gw := gw_at 160 rfl rfl
theorem tw_161 : Jvm.Cond.classLink "QuireSigns$Text" (9 : Nat) "QuireSigns$Row" ∈ gw := gw_at 161 rfl rfl
theorem tw_162 : Jvm.Cond.methodLink "QuireSigns$Text" (11 : Nat) ({ cls := "QuireSigns$Row", name := "<init>", desc := "(I)V" } : Jvm.MethodName) ∈ gw := gw_at 162 rfl rfl
theorem tw_163 : Jvm.Cond.classLink "QuireSigns$Text" (29 : Nat) "QuireSigns$Alphabet" ∈ gw := gw_at 163 rfl rfl
theorem tw_164 : Jvm.Cond.methodLink "QuireSigns$Text" (31 : Nat) ({ cls := "QuireSigns$Alphabet", name := "<init>", desc := "(I)V" } : Jvm.MethodName) ∈ gw := gw_at 164 rfl rfl
theorem tw_165 : Jvm.Cond.fieldLink "QuireSigns$Text" (14 : Nat) "QuireSigns$Text" "characters" "LQuireSigns$Row;" ∈ gw := gw_at 165 rfl rfl
theorem tw_166 : Jvm.Cond.fieldLink "QuireSigns$Text" (20 : Nat) "QuireSigns$Text" "firstSigns" "LQuireSigns$Row;" ∈ gw := gw_at 166 rfl rfl
theorem tw_167 : Jvm.Cond.fieldLink "QuireSigns$Text" (23 : Nat) "QuireSigns$Text" "lastSigns" "LQuireSigns$Row;" ∈ gw := gw_at 167 rfl rfl
theorem tw_168 : Jvm.Cond.fieldLink "QuireSigns$Text" (26 : Nat) "QuireSigns$Text" "numbers" "LQuireSigns$Row;" ∈ gw := gw_at 168 rfl rfl
theorem tw_169 : Jvm.Cond.fieldLink "QuireSigns$Text" (32 : Nat) "QuireSigns$Text" "allLetters" "LQuireSigns$Alphabet;" ∈ gw := gw_at 169 rfl rfl
theorem tw_170 : Jvm.Cond.fieldLink "QuireSigns$Text" (54 : Nat) "QuireSigns$Text" "at" "I" ∈ gw := gw_at 170 rfl rfl
theorem tw_171 : Jvm.Cond.laysFinal "QuireSigns$Text" "QuireSigns$Text" "characters" "LQuireSigns$Row;" ∈ gw := gw_at 171 rfl rfl
theorem tw_173 : Jvm.Cond.laysFinal "QuireSigns$Text" "QuireSigns$Text" "firstSigns" "LQuireSigns$Row;" ∈ gw := gw_at 173 rfl rfl
theorem tw_175 : Jvm.Cond.laysFinal "QuireSigns$Text" "QuireSigns$Text" "lastSigns" "LQuireSigns$Row;" ∈ gw := gw_at 175 rfl rfl
theorem tw_177 : Jvm.Cond.laysFinal "QuireSigns$Text" "QuireSigns$Text" "numbers" "LQuireSigns$Row;" ∈ gw := gw_at 177 rfl rfl
theorem tw_179 : Jvm.Cond.laysFinal "QuireSigns$Text" "QuireSigns$Text" "allLetters" "LQuireSigns$Alphabet;" ∈ gw := gw_at 179 rfl rfl
theorem tw_181 : Jvm.Cond.lays "QuireSigns$Text" "QuireSigns$Text" "at" "I" ∈ gw := gw_at 181 rfl rfl
theorem tw_184 : Jvm.Cond.classLink "QuireSigns" (33 : Nat) "QuireSigns$Writer" ∈ gw := gw_at 184 rfl rfl
theorem tw_185 : Jvm.Cond.instantiable "QuireSigns$Writer" (2 : Nat) ∈ gw := gw_at 185 rfl rfl
theorem tw_187 : Jvm.Cond.instanceMethod ({ cls := "QuireSigns$Writer", name := "<init>", desc := "()V" } : Jvm.MethodName) ∈ gw := gw_at 187 rfl rfl
theorem tw_188 : Jvm.Cond.code ({ cls := "QuireSigns$Writer", name := "<init>", desc := "()V" } : Jvm.MethodName) prog_9_method_1_code (1 : Nat) (Option.none : Option Jvm.ClassFile.FieldType) ∈ gw := gw_at 188 rfl rfl
theorem tw_189 : Jvm.Cond.methodLink "QuireSigns$Writer" (3 : Nat) ({ cls := "java/lang/Object", name := "<init>", desc := "()V" } : Jvm.MethodName) ∈ gw := gw_at 189 rfl rfl
theorem tw_190 : Jvm.Cond.classLink "QuireSigns$Writer" (9 : Nat) "QuireSigns$Row" ∈ gw := gw_at 190 rfl rfl
theorem tw_191 : Jvm.Cond.methodLink "QuireSigns$Writer" (11 : Nat) ({ cls := "QuireSigns$Row", name := "<init>", desc := "(I)V" } : Jvm.MethodName) ∈ gw := gw_at 191 rfl rfl
theorem tw_192 : Jvm.Cond.fieldLink "QuireSigns$Writer" (14 : Nat) "QuireSigns$Writer" "characters" "LQuireSigns$Row;" ∈ gw := gw_at 192 rfl rfl
theorem tw_193 : Jvm.Cond.fieldLink "QuireSigns$Writer" (28 : Nat) "QuireSigns$Writer" "entries" "I" ∈ gw := gw_at 193 rfl rfl
theorem tw_194 : Jvm.Cond.laysFinal "QuireSigns$Writer" "QuireSigns$Writer" "characters" "LQuireSigns$Row;" ∈ gw := gw_at 194 rfl rfl
theorem tw_196 : Jvm.Cond.lays "QuireSigns$Writer" "QuireSigns$Writer" "entries" "I" ∈ gw := gw_at 196 rfl rfl
theorem tw_199 : Jvm.Cond.classLink "QuireSigns" (40 : Nat) "QuireSigns$Row" ∈ gw := gw_at 199 rfl rfl
theorem tw_200 : Jvm.Cond.methodLink "QuireSigns" (42 : Nat) ({ cls := "QuireSigns$Row", name := "<init>", desc := "(I)V" } : Jvm.MethodName) ∈ gw := gw_at 200 rfl rfl
theorem tw_201 : Jvm.Cond.fieldLink "QuireSigns" (12 : Nat) "QuireSigns" "book" "LQuireSigns$Book;" ∈ gw := gw_at 201 rfl rfl
theorem tw_202 : Jvm.Cond.fieldLink "QuireSigns" (16 : Nat) "QuireSigns" "snapshot" "LQuireSigns$Book;" ∈ gw := gw_at 202 rfl rfl
theorem tw_203 : Jvm.Cond.fieldLink "QuireSigns" (173 : Nat) "QuireSigns" "snapshotTaken" "Z" ∈ gw := gw_at 203 rfl rfl
theorem tw_204 : Jvm.Cond.fieldLink "QuireSigns" (22 : Nat) "QuireSigns" "history" "LQuireSigns$History;" ∈ gw := gw_at 204 rfl rfl
theorem tw_205 : Jvm.Cond.fieldLink "QuireSigns" (29 : Nat) "QuireSigns" "text" "LQuireSigns$Text;" ∈ gw := gw_at 205 rfl rfl
theorem tw_206 : Jvm.Cond.fieldLink "QuireSigns" (36 : Nat) "QuireSigns" "writer" "LQuireSigns$Writer;" ∈ gw := gw_at 206 rfl rfl
theorem tw_207 : Jvm.Cond.fieldLink "QuireSigns" (45 : Nat) "QuireSigns" "found" "LQuireSigns$Row;" ∈ gw := gw_at 207 rfl rfl
theorem tw_208 : Jvm.Cond.laysFinal "QuireSigns" "QuireSigns" "book" "LQuireSigns$Book;" ∈ gw := gw_at 208 rfl rfl
theorem tw_210 : Jvm.Cond.laysFinal "QuireSigns" "QuireSigns" "snapshot" "LQuireSigns$Book;" ∈ gw := gw_at 210 rfl rfl
theorem tw_212 : Jvm.Cond.lays "QuireSigns" "QuireSigns" "snapshotTaken" "Z" ∈ gw := gw_at 212 rfl rfl
theorem tw_214 : Jvm.Cond.laysFinal "QuireSigns" "QuireSigns" "history" "LQuireSigns$History;" ∈ gw := gw_at 214 rfl rfl
theorem tw_216 : Jvm.Cond.laysFinal "QuireSigns" "QuireSigns" "text" "LQuireSigns$Text;" ∈ gw := gw_at 216 rfl rfl
theorem tw_218 : Jvm.Cond.laysFinal "QuireSigns" "QuireSigns" "writer" "LQuireSigns$Writer;" ∈ gw := gw_at 218 rfl rfl
theorem tw_220 : Jvm.Cond.laysFinal "QuireSigns" "QuireSigns" "found" "LQuireSigns$Row;" ∈ gw := gw_at 220 rfl rfl
theorem tw_223 : Jvm.Cond.methodLink "QuireSignsLaw" (13 : Nat) ({ cls := "QuireSigns", name := "leaveOut", desc := "(CZ)I" } : Jvm.MethodName) ∈ gw := gw_at 223 rfl rfl
theorem tw_224 : Jvm.Cond.instanceMethod ({ cls := "QuireSigns", name := "leaveOut", desc := "(CZ)I" } : Jvm.MethodName) ∈ gw := gw_at 224 rfl rfl
theorem tw_225 : Jvm.Cond.selects "QuireSigns" ({ cls := "QuireSigns", name := "leaveOut", desc := "(CZ)I" } : Jvm.MethodName) ({ cls := "QuireSigns", name := "leaveOut", desc := "(CZ)I" } : Jvm.MethodName) ∈ gw := gw_at 225 rfl rfl
theorem tw_226 : Jvm.Cond.code ({ cls := "QuireSigns", name := "leaveOut", desc := "(CZ)I" } : Jvm.MethodName) prog_1_method_2_code (5 : Nat) (Option.some Jvm.ClassFile.FieldType.int) ∈ gw := gw_at 226 rfl rfl
theorem tw_227 : Jvm.Cond.methodLink "QuireSigns" (55 : Nat) ({ cls := "QuireSigns$Alphabet", name := "has", desc := "(I)Z" } : Jvm.MethodName) ∈ gw := gw_at 227 rfl rfl
theorem tw_228 : Jvm.Cond.instanceMethod ({ cls := "QuireSigns$Alphabet", name := "has", desc := "(I)Z" } : Jvm.MethodName) ∈ gw := gw_at 228 rfl rfl
theorem tw_229 : Jvm.Cond.selects "QuireSigns$Alphabet" ({ cls := "QuireSigns$Alphabet", name := "has", desc := "(I)Z" } : Jvm.MethodName) ({ cls := "QuireSigns$Alphabet", name := "has", desc := "(I)Z" } : Jvm.MethodName) ∈ gw := gw_at 229 rfl rfl
theorem tw_230 : Jvm.Cond.code ({ cls := "QuireSigns$Alphabet", name := "has", desc := "(I)Z" } : Jvm.MethodName) prog_2_method_2_code (2 : Nat) (Option.some Jvm.ClassFile.FieldType.boolean) ∈ gw := gw_at 230 rfl rfl
theorem tw_231 : Jvm.Cond.methodLink "QuireSigns" (61 : Nat) ({ cls := "QuireSigns$Alphabet", name := "letters", desc := "()I" } : Jvm.MethodName) ∈ gw := gw_at 231 rfl rfl
theorem tw_232 : Jvm.Cond.instanceMethod ({ cls := "QuireSigns$Alphabet", name := "letters", desc := "()I" } : Jvm.MethodName) ∈ gw := gw_at 232 rfl rfl
theorem tw_233 : Jvm.Cond.selects "QuireSigns$Alphabet" ({ cls := "QuireSigns$Alphabet", name := "letters", desc := "()I" } : Jvm.MethodName) ({ cls := "QuireSigns$Alphabet", name := "letters", desc := "()I" } : Jvm.MethodName) ∈ gw := gw_at 233 rfl rfl
theorem tw_234 : Jvm.Cond.code ({ cls := "QuireSigns$Alphabet", name := "letters", desc := "()I" } : Jvm.MethodName) prog_2_method_3_code (1 : Nat) (Option.some Jvm.ClassFile.FieldType.int) ∈ gw := gw_at 234 rfl rfl
theorem tw_235 : Jvm.Cond.methodLink "QuireSigns$Alphabet" (15 : Nat) ({ cls := "java/lang/Integer", name := "bitCount", desc := "(I)I" } : Jvm.MethodName) ∈ gw := gw_at 235 rfl rfl
theorem tw_236 : Jvm.Cond.static ({ cls := "java/lang/Integer", name := "bitCount", desc := "(I)I" } : Jvm.MethodName) ∈ gw := gw_at 236 rfl rfl
theorem tw_237 : Jvm.Cond.code ({ cls := "java/lang/Integer", name := "bitCount", desc := "(I)I" } : Jvm.MethodName) prog_12_method_49_code (1 : Nat) (Option.some Jvm.ClassFile.FieldType.int) ∈ gw := gw_at 237 rfl rfl
theorem tw_238 : Jvm.Cond.constant "java/lang/Integer" (265 : Nat) (1431655765 : Int32) ∈ gw := gw_at 238 rfl rfl
theorem tw_239 : Jvm.Cond.constant "java/lang/Integer" (266 : Nat) (858993459 : Int32) ∈ gw := gw_at 239 rfl rfl
theorem tw_240 : Jvm.Cond.constant "java/lang/Integer" (267 : Nat) (252645135 : Int32) ∈ gw := gw_at 240 rfl rfl
theorem tw_241 : Jvm.Cond.methodLink "QuireSigns" (65 : Nat) ({ cls := "QuireSigns$History", name := "record", desc := "(LQuireSigns$Book;)V" } : Jvm.MethodName) ∈ gw := gw_at 241 rfl rfl
theorem tw_242 : Jvm.Cond.instanceMethod ({ cls := "QuireSigns$History", name := "record", desc := "(LQuireSigns$Book;)V" } : Jvm.MethodName) ∈ gw := gw_at 242 rfl rfl
theorem tw_243 : Jvm.Cond.selects "QuireSigns$History" ({ cls := "QuireSigns$History", name := "record", desc := "(LQuireSigns$Book;)V" } : Jvm.MethodName) ({ cls := "QuireSigns$History", name := "record", desc := "(LQuireSigns$Book;)V" } : Jvm.MethodName) ∈ gw := gw_at 243 rfl rfl
theorem tw_244 : Jvm.Cond.code ({ cls := "QuireSigns$History", name := "record", desc := "(LQuireSigns$Book;)V" } : Jvm.MethodName) prog_4_method_3_code (3 : Nat) (Option.none : Option Jvm.ClassFile.FieldType) ∈ gw := gw_at 244 rfl rfl
theorem tw_245 : Jvm.Cond.methodLink "QuireSigns$History" (22 : Nat) ({ cls := "QuireSigns$History", name := "dropOldest", desc := "()V" } : Jvm.MethodName) ∈ gw := gw_at 245 rfl rfl
theorem tw_247 : Jvm.Cond.instanceMethod ({ cls := "QuireSigns$History", name := "dropOldest", desc := "()V" } : Jvm.MethodName) ∈ gw := gw_at 247 rfl rfl
theorem tw_248 : Jvm.Cond.code ({ cls := "QuireSigns$History", name := "dropOldest", desc := "()V" } : Jvm.MethodName) prog_4_method_6_code (3 : Nat) (Option.none : Option Jvm.ClassFile.FieldType) ∈ gw := gw_at 248 rfl rfl
theorem tw_249 : Jvm.Cond.methodLink "QuireSigns$History" (25 : Nat) ({ cls := "QuireSigns$History", name := "bookAt", desc := "(I)LQuireSigns$Book;" } : Jvm.MethodName) ∈ gw := gw_at 249 rfl rfl
theorem tw_251 : Jvm.Cond.instanceMethod ({ cls := "QuireSigns$History", name := "bookAt", desc := "(I)LQuireSigns$Book;" } : Jvm.MethodName) ∈ gw := gw_at 251 rfl rfl
theorem tw_252 : Jvm.Cond.code ({ cls := "QuireSigns$History", name := "bookAt", desc := "(I)LQuireSigns$Book;" } : Jvm.MethodName) prog_4_method_5_code (2 : Nat) (Option.some (Jvm.ClassFile.FieldType.object "QuireSigns$Book")) ∈ gw := gw_at 252 rfl rfl
theorem tw_253 : Jvm.Cond.methodLink "QuireSigns$History" (29 : Nat) ({ cls := "QuireSigns$Book", name := "become", desc := "(LQuireSigns$Book;)V" } : Jvm.MethodName) ∈ gw := gw_at 253 rfl rfl
theorem tw_254 : Jvm.Cond.instanceMethod ({ cls := "QuireSigns$Book", name := "become", desc := "(LQuireSigns$Book;)V" } : Jvm.MethodName) ∈ gw := gw_at 254 rfl rfl
theorem tw_255 : Jvm.Cond.selects "QuireSigns$Book" ({ cls := "QuireSigns$Book", name := "become", desc := "(LQuireSigns$Book;)V" } : Jvm.MethodName) ({ cls := "QuireSigns$Book", name := "become", desc := "(LQuireSigns$Book;)V" } : Jvm.MethodName) ∈ gw := gw_at 255 rfl rfl
theorem tw_256 : Jvm.Cond.code ({ cls := "QuireSigns$Book", name := "become", desc := "(LQuireSigns$Book;)V" } : Jvm.MethodName) prog_3_method_2_code (2 : Nat) (Option.none : Option Jvm.ClassFile.FieldType) ∈ gw := gw_at 256 rfl rfl
theorem tw_257 : Jvm.Cond.methodLink "QuireSigns$Book" (41 : Nat) ({ cls := "QuireSigns$Alphabet", name := "become", desc := "(LQuireSigns$Alphabet;)V" } : Jvm.MethodName) ∈ gw := gw_at 257 rfl rfl
theorem tw_258 : Jvm.Cond.instanceMethod ({ cls := "QuireSigns$Alphabet", name := "become", desc := "(LQuireSigns$Alphabet;)V" } : Jvm.MethodName) ∈ gw := gw_at 258 rfl rfl
theorem tw_259 : Jvm.Cond.selects "QuireSigns$Alphabet" ({ cls := "QuireSigns$Alphabet", name := "become", desc := "(LQuireSigns$Alphabet;)V" } : Jvm.MethodName) ({ cls := "QuireSigns$Alphabet", name := "become", desc := "(LQuireSigns$Alphabet;)V" } : Jvm.MethodName) ∈ gw := gw_at 259 rfl rfl
theorem tw_260 : Jvm.Cond.code ({ cls := "QuireSigns$Alphabet", name := "become", desc := "(LQuireSigns$Alphabet;)V" } : Jvm.MethodName) prog_2_method_7_code (2 : Nat) (Option.none : Option Jvm.ClassFile.FieldType) ∈ gw := gw_at 260 rfl rfl
theorem tw_261 : Jvm.Cond.methodLink "QuireSigns$Book" (45 : Nat) ({ cls := "QuireSigns$Row", name := "become", desc := "(LQuireSigns$Row;)V" } : Jvm.MethodName) ∈ gw := gw_at 261 rfl rfl
theorem tw_262 : Jvm.Cond.instanceMethod ({ cls := "QuireSigns$Row", name := "become", desc := "(LQuireSigns$Row;)V" } : Jvm.MethodName) ∈ gw := gw_at 262 rfl rfl
theorem tw_263 : Jvm.Cond.selects "QuireSigns$Row" ({ cls := "QuireSigns$Row", name := "become", desc := "(LQuireSigns$Row;)V" } : Jvm.MethodName) ({ cls := "QuireSigns$Row", name := "become", desc := "(LQuireSigns$Row;)V" } : Jvm.MethodName) ∈ gw := gw_at 263 rfl rfl
theorem tw_264 : Jvm.Cond.code ({ cls := "QuireSigns$Row", name := "become", desc := "(LQuireSigns$Row;)V" } : Jvm.MethodName) prog_6_method_10_code (3 : Nat) (Option.none : Option Jvm.ClassFile.FieldType) ∈ gw := gw_at 264 rfl rfl
theorem tw_265 : Jvm.Cond.methodLink "QuireSigns$Row" (34 : Nat) ({ cls := "java/lang/Math", name := "min", desc := "(II)I" } : Jvm.MethodName) ∈ gw := gw_at 265 rfl rfl
theorem tw_266 : Jvm.Cond.static ({ cls := "java/lang/Math", name := "min", desc := "(II)I" } : Jvm.MethodName) ∈ gw := gw_at 266 rfl rfl
theorem tw_267 : Jvm.Cond.code ({ cls := "java/lang/Math", name := "min", desc := "(II)I" } : Jvm.MethodName) prog_13_method_69_code (2 : Nat) (Option.some Jvm.ClassFile.FieldType.int) ∈ gw := gw_at 267 rfl rfl
theorem tw_268 : Jvm.Cond.methodLink "QuireSigns$Row" (23 : Nat) ({ cls := "QuireSigns$Row", name := "at", desc := "(I)I" } : Jvm.MethodName) ∈ gw := gw_at 268 rfl rfl
theorem tw_269 : Jvm.Cond.instanceMethod ({ cls := "QuireSigns$Row", name := "at", desc := "(I)I" } : Jvm.MethodName) ∈ gw := gw_at 269 rfl rfl
theorem tw_270 : Jvm.Cond.selects "QuireSigns$Row" ({ cls := "QuireSigns$Row", name := "at", desc := "(I)I" } : Jvm.MethodName) ({ cls := "QuireSigns$Row", name := "at", desc := "(I)I" } : Jvm.MethodName) ∈ gw := gw_at 270 rfl rfl
theorem tw_271 : Jvm.Cond.code ({ cls := "QuireSigns$Row", name := "at", desc := "(I)I" } : Jvm.MethodName) prog_6_method_3_code (2 : Nat) (Option.some Jvm.ClassFile.FieldType.int) ∈ gw := gw_at 271 rfl rfl
theorem tw_272 : Jvm.Cond.methodLink "QuireSigns$Row" (31 : Nat) ({ cls := "QuireSigns$Row", name := "set", desc := "(II)V" } : Jvm.MethodName) ∈ gw := gw_at 272 rfl rfl
theorem tw_273 : Jvm.Cond.instanceMethod ({ cls := "QuireSigns$Row", name := "set", desc := "(II)V" } : Jvm.MethodName) ∈ gw := gw_at 273 rfl rfl
theorem tw_274 : Jvm.Cond.selects "QuireSigns$Row" ({ cls := "QuireSigns$Row", name := "set", desc := "(II)V" } : Jvm.MethodName) ({ cls := "QuireSigns$Row", name := "set", desc := "(II)V" } : Jvm.MethodName) ∈ gw := gw_at 274 rfl rfl
theorem tw_275 : Jvm.Cond.code ({ cls := "QuireSigns$Row", name := "set", desc := "(II)V" } : Jvm.MethodName) prog_6_method_5_code (3 : Nat) (Option.none : Option Jvm.ClassFile.FieldType) ∈ gw := gw_at 275 rfl rfl
theorem tw_276 : Jvm.Cond.methodLink "QuireSigns" (69 : Nat) ({ cls := "QuireSigns$Alphabet", name := "turn", desc := "(I)V" } : Jvm.MethodName) ∈ gw := gw_at 276 rfl rfl
theorem tw_277 : Jvm.Cond.instanceMethod ({ cls := "QuireSigns$Alphabet", name := "turn", desc := "(I)V" } : Jvm.MethodName) ∈ gw := gw_at 277 rfl rfl
theorem tw_278 : Jvm.Cond.selects "QuireSigns$Alphabet" ({ cls := "QuireSigns$Alphabet", name := "turn", desc := "(I)V" } : Jvm.MethodName) ({ cls := "QuireSigns$Alphabet", name := "turn", desc := "(I)V" } : Jvm.MethodName) ∈ gw := gw_at 278 rfl rfl
theorem tw_279 : Jvm.Cond.code ({ cls := "QuireSigns$Alphabet", name := "turn", desc := "(I)V" } : Jvm.MethodName) prog_2_method_4_code (2 : Nat) (Option.none : Option Jvm.ClassFile.FieldType) ∈ gw := gw_at 279 rfl rfl
theorem tw_280 : Jvm.Cond.methodLink "QuireSignsLaw" (18 : Nat) ({ cls := "QuireSigns", name := "setSigning", desc := "(I)I" } : Jvm.MethodName) ∈ gw := gw_at 280 rfl rfl
theorem tw_281 : Jvm.Cond.instanceMethod ({ cls := "QuireSigns", name := "setSigning", desc := "(I)I" } : Jvm.MethodName) ∈ gw := gw_at 281 rfl rfl
theorem tw_282 : Jvm.Cond.selects "QuireSigns" ({ cls := "QuireSigns", name := "setSigning", desc := "(I)I" } : Jvm.MethodName) ({ cls := "QuireSigns", name := "setSigning", desc := "(I)I" } : Jvm.MethodName) ∈ gw := gw_at 282 rfl rfl
theorem tw_283 : Jvm.Cond.code ({ cls := "QuireSigns", name := "setSigning", desc := "(I)I" } : Jvm.MethodName) prog_1_method_3_code (2 : Nat) (Option.some Jvm.ClassFile.FieldType.int) ∈ gw := gw_at 283 rfl rfl
theorem tw_284 : Jvm.Cond.methodLink "QuireSigns" (76 : Nat) ({ cls := "QuireSigns$Book", name := "signedLeaves", desc := "()I" } : Jvm.MethodName) ∈ gw := gw_at 284 rfl rfl
theorem tw_285 : Jvm.Cond.instanceMethod ({ cls := "QuireSigns$Book", name := "signedLeaves", desc := "()I" } : Jvm.MethodName) ∈ gw := gw_at 285 rfl rfl
theorem tw_286 : Jvm.Cond.selects "QuireSigns$Book" ({ cls := "QuireSigns$Book", name := "signedLeaves", desc := "()I" } : Jvm.MethodName) ({ cls := "QuireSigns$Book", name := "signedLeaves", desc := "()I" } : Jvm.MethodName) ∈ gw := gw_at 286 rfl rfl
theorem tw_287 : Jvm.Cond.code ({ cls := "QuireSigns$Book", name := "signedLeaves", desc := "()I" } : Jvm.MethodName) prog_3_method_16_code (3 : Nat) (Option.some Jvm.ClassFile.FieldType.int) ∈ gw := gw_at 287 rfl rfl
theorem tw_288 : Jvm.Cond.methodLink "QuireSigns$Book" (52 : Nat) ({ cls := "QuireSigns$Book", name := "quires", desc := "()I" } : Jvm.MethodName) ∈ gw := gw_at 288 rfl rfl
theorem tw_289 : Jvm.Cond.instanceMethod ({ cls := "QuireSigns$Book", name := "quires", desc := "()I" } : Jvm.MethodName) ∈ gw := gw_at 289 rfl rfl
theorem tw_290 : Jvm.Cond.selects "QuireSigns$Book" ({ cls := "QuireSigns$Book", name := "quires", desc := "()I" } : Jvm.MethodName) ({ cls := "QuireSigns$Book", name := "quires", desc := "()I" } : Jvm.MethodName) ∈ gw := gw_at 290 rfl rfl
theorem tw_291 : Jvm.Cond.code ({ cls := "QuireSigns$Book", name := "quires", desc := "()I" } : Jvm.MethodName) prog_3_method_3_code (1 : Nat) (Option.some Jvm.ClassFile.FieldType.int) ∈ gw := gw_at 291 rfl rfl
theorem tw_292 : Jvm.Cond.methodLink "QuireSigns$Book" (48 : Nat) ({ cls := "QuireSigns$Row", name := "length", desc := "()I" } : Jvm.MethodName) ∈ gw := gw_at 292 rfl rfl
theorem tw_293 : Jvm.Cond.instanceMethod ({ cls := "QuireSigns$Row", name := "length", desc := "()I" } : Jvm.MethodName) ∈ gw := gw_at 293 rfl rfl
theorem tw_294 : Jvm.Cond.selects "QuireSigns$Row" ({ cls := "QuireSigns$Row", name := "length", desc := "()I" } : Jvm.MethodName) ({ cls := "QuireSigns$Row", name := "length", desc := "()I" } : Jvm.MethodName) ∈ gw := gw_at 294 rfl rfl
theorem tw_295 : Jvm.Cond.code ({ cls := "QuireSigns$Row", name := "length", desc := "()I" } : Jvm.MethodName) prog_6_method_2_code (1 : Nat) (Option.some Jvm.ClassFile.FieldType.int) ∈ gw := gw_at 295 rfl rfl
theorem tw_296 : Jvm.Cond.methodLink "QuireSigns$Book" (90 : Nat) ({ cls := "QuireSigns$Book", name := "signedIn", desc := "(I)I" } : Jvm.MethodName) ∈ gw := gw_at 296 rfl rfl
theorem tw_297 : Jvm.Cond.instanceMethod ({ cls := "QuireSigns$Book", name := "signedIn", desc := "(I)I" } : Jvm.MethodName) ∈ gw := gw_at 297 rfl rfl
theorem tw_298 : Jvm.Cond.selects "QuireSigns$Book" ({ cls := "QuireSigns$Book", name := "signedIn", desc := "(I)I" } : Jvm.MethodName) ({ cls := "QuireSigns$Book", name := "signedIn", desc := "(I)I" } : Jvm.MethodName) ∈ gw := gw_at 298 rfl rfl
theorem tw_299 : Jvm.Cond.code ({ cls := "QuireSigns$Book", name := "signedIn", desc := "(I)I" } : Jvm.MethodName) prog_3_method_15_code (4 : Nat) (Option.some Jvm.ClassFile.FieldType.int) ∈ gw := gw_at 299 rfl rfl
theorem tw_300 : Jvm.Cond.methodLink "QuireSigns$Book" (65 : Nat) ({ cls := "QuireSigns$Row", name := "at", desc := "(I)I" } : Jvm.MethodName) ∈ gw := gw_at 300 rfl rfl
theorem tw_301 : Jvm.Cond.methodLink "QuireSigns$Book" (84 : Nat) ({ cls := "java/lang/Math", name := "min", desc := "(II)I" } : Jvm.MethodName) ∈ gw := gw_at 301 rfl rfl
theorem tw_302 : Jvm.Cond.methodLink "QuireSignsLaw" (23 : Nat) ({ cls := "QuireSigns", name := "readFormula", desc := "()I" } : Jvm.MethodName) ∈ gw := gw_at 302 rfl rfl
theorem tw_303 : Jvm.Cond.instanceMethod ({ cls := "QuireSigns", name := "readFormula", desc := "()I" } : Jvm.MethodName) ∈ gw := gw_at 303 rfl rfl
theorem tw_304 : Jvm.Cond.selects "QuireSigns" ({ cls := "QuireSigns", name := "readFormula", desc := "()I" } : Jvm.MethodName) ({ cls := "QuireSigns", name := "readFormula", desc := "()I" } : Jvm.MethodName) ∈ gw := gw_at 304 rfl rfl
theorem tw_305 : Jvm.Cond.code ({ cls := "QuireSigns", name := "readFormula", desc := "()I" } : Jvm.MethodName) prog_1_method_4_code (3 : Nat) (Option.some Jvm.ClassFile.FieldType.int) ∈ gw := gw_at 305 rfl rfl
theorem tw_306 : Jvm.Cond.methodLink "QuireSigns" (79 : Nat) ({ cls := "QuireSigns$Text", name := "readAsFormula", desc := "(LQuireSigns$Alphabet;)I" } : Jvm.MethodName) ∈ gw := gw_at 306 rfl rfl
theorem tw_307 : Jvm.Cond.instanceMethod ({ cls := "QuireSigns$Text", name := "readAsFormula", desc := "(LQuireSigns$Alphabet;)I" } : Jvm.MethodName) ∈ gw := gw_at 307 rfl rfl
theorem tw_308 : Jvm.Cond.selects "QuireSigns$Text" ({ cls := "QuireSigns$Text", name := "readAsFormula", desc := "(LQuireSigns$Alphabet;)I" } : Jvm.MethodName) ({ cls := "QuireSigns$Text", name := "readAsFormula", desc := "(LQuireSigns$Alphabet;)I" } : Jvm.MethodName) ∈ gw := gw_at 308 rfl rfl
theorem tw_309 : Jvm.Cond.code ({ cls := "QuireSigns$Text", name := "readAsFormula", desc := "(LQuireSigns$Alphabet;)I" } : Jvm.MethodName) prog_8_method_9_code (2 : Nat) (Option.some Jvm.ClassFile.FieldType.int) ∈ gw := gw_at 309 rfl rfl
theorem tw_310 : Jvm.Cond.methodLink "QuireSigns$Text" (50 : Nat) ({ cls := "QuireSigns$Text", name := "readEntries", desc := "(LQuireSigns$Alphabet;Z)I" } : Jvm.MethodName) ∈ gw := gw_at 310 rfl rfl
theorem tw_312 : Jvm.Cond.instanceMethod ({ cls := "QuireSigns$Text", name := "readEntries", desc := "(LQuireSigns$Alphabet;Z)I" } : Jvm.MethodName) ∈ gw := gw_at 312 rfl rfl
theorem tw_313 : Jvm.Cond.code ({ cls := "QuireSigns$Text", name := "readEntries", desc := "(LQuireSigns$Alphabet;Z)I" } : Jvm.MethodName) prog_8_method_11_code (4 : Nat) (Option.some Jvm.ClassFile.FieldType.int) ∈ gw := gw_at 313 rfl rfl
theorem tw_314 : Jvm.Cond.methodLink "QuireSigns$Text" (43 : Nat) ({ cls := "QuireSigns$Row", name := "empty", desc := "()V" } : Jvm.MethodName) ∈ gw := gw_at 314 rfl rfl
theorem tw_315 : Jvm.Cond.instanceMethod ({ cls := "QuireSigns$Row", name := "empty", desc := "()V" } : Jvm.MethodName) ∈ gw := gw_at 315 rfl rfl
theorem tw_316 : Jvm.Cond.selects "QuireSigns$Row" ({ cls := "QuireSigns$Row", name := "empty", desc := "()V" } : Jvm.MethodName) ({ cls := "QuireSigns$Row", name := "empty", desc := "()V" } : Jvm.MethodName) ∈ gw := gw_at 316 rfl rfl
theorem tw_317 : Jvm.Cond.code ({ cls := "QuireSigns$Row", name := "empty", desc := "()V" } : Jvm.MethodName) prog_6_method_9_code (1 : Nat) (Option.none : Option Jvm.ClassFile.FieldType) ∈ gw := gw_at 317 rfl rfl
theorem tw_318 : Jvm.Cond.methodLink "QuireSigns$Text" (36 : Nat) ({ cls := "QuireSigns$Row", name := "length", desc := "()I" } : Jvm.MethodName) ∈ gw := gw_at 318 rfl rfl
theorem tw_319 : Jvm.Cond.methodLink "QuireSigns$Text" (57 : Nat) ({ cls := "QuireSigns$Text", name := "readEntry", desc := "(LQuireSigns$Alphabet;Z)Z" } : Jvm.MethodName) ∈ gw := gw_at 319 rfl rfl
theorem tw_321 : Jvm.Cond.instanceMethod ({ cls := "QuireSigns$Text", name := "readEntry", desc := "(LQuireSigns$Alphabet;Z)Z" } : Jvm.MethodName) ∈ gw := gw_at 321 rfl rfl
theorem tw_322 : Jvm.Cond.code ({ cls := "QuireSigns$Text", name := "readEntry", desc := "(LQuireSigns$Alphabet;Z)Z" } : Jvm.MethodName) prog_8_method_12_code (6 : Nat) (Option.some Jvm.ClassFile.FieldType.boolean) ∈ gw := gw_at 322 rfl rfl
theorem tw_323 : Jvm.Cond.methodLink "QuireSigns$Text" (61 : Nat) ({ cls := "QuireSigns$Text", name := "readSign", desc := "(LQuireSigns$Alphabet;)I" } : Jvm.MethodName) ∈ gw := gw_at 323 rfl rfl
theorem tw_325 : Jvm.Cond.instanceMethod ({ cls := "QuireSigns$Text", name := "readSign", desc := "(LQuireSigns$Alphabet;)I" } : Jvm.MethodName) ∈ gw := gw_at 325 rfl rfl
theorem tw_326 : Jvm.Cond.code ({ cls := "QuireSigns$Text", name := "readSign", desc := "(LQuireSigns$Alphabet;)I" } : Jvm.MethodName) prog_8_method_13_code (2 : Nat) (Option.some Jvm.ClassFile.FieldType.int) ∈ gw := gw_at 326 rfl rfl
theorem tw_327 : Jvm.Cond.methodLink "QuireSigns$Text" (46 : Nat) ({ cls := "QuireSigns$Row", name := "at", desc := "(I)I" } : Jvm.MethodName) ∈ gw := gw_at 327 rfl rfl
theorem tw_328 : Jvm.Cond.methodLink "QuireSigns$Text" (78 : Nat) ({ cls := "QuireSigns$Text", name := "readStars", desc := "()I" } : Jvm.MethodName) ∈ gw := gw_at 328 rfl rfl
theorem tw_330 : Jvm.Cond.instanceMethod ({ cls := "QuireSigns$Text", name := "readStars", desc := "()I" } : Jvm.MethodName) ∈ gw := gw_at 330 rfl rfl
theorem tw_331 : Jvm.Cond.code ({ cls := "QuireSigns$Text", name := "readStars", desc := "()I" } : Jvm.MethodName) prog_8_method_14_code (2 : Nat) (Option.some Jvm.ClassFile.FieldType.int) ∈ gw := gw_at 331 rfl rfl
theorem tw_332 : Jvm.Cond.methodLink "QuireSigns$Text" (84 : Nat) ({ cls := "QuireSigns$Sign", name := "ofStars", desc := "(I)I" } : Jvm.MethodName) ∈ gw := gw_at 332 rfl rfl
theorem tw_333 : Jvm.Cond.static ({ cls := "QuireSigns$Sign", name := "ofStars", desc := "(I)I" } : Jvm.MethodName) ∈ gw := gw_at 333 rfl rfl
theorem tw_334 : Jvm.Cond.code ({ cls := "QuireSigns$Sign", name := "ofStars", desc := "(I)I" } : Jvm.MethodName) prog_7_method_3_code (1 : Nat) (Option.some Jvm.ClassFile.FieldType.int) ∈ gw := gw_at 334 rfl rfl
theorem tw_335 : Jvm.Cond.methodLink "QuireSigns$Text" (81 : Nat) ({ cls := "QuireSigns$Text", name := "readLetters", desc := "(LQuireSigns$Alphabet;)I" } : Jvm.MethodName) ∈ gw := gw_at 335 rfl rfl
theorem tw_337 : Jvm.Cond.instanceMethod ({ cls := "QuireSigns$Text", name := "readLetters", desc := "(LQuireSigns$Alphabet;)I" } : Jvm.MethodName) ∈ gw := gw_at 337 rfl rfl
theorem tw_338 : Jvm.Cond.code ({ cls := "QuireSigns$Text", name := "readLetters", desc := "(LQuireSigns$Alphabet;)I" } : Jvm.MethodName) prog_8_method_15_code (4 : Nat) (Option.some Jvm.ClassFile.FieldType.int) ∈ gw := gw_at 338 rfl rfl
theorem tw_339 : Jvm.Cond.methodLink "QuireSigns$Text" (87 : Nat) ({ cls := "QuireSigns$Alphabet", name := "has", desc := "(I)Z" } : Jvm.MethodName) ∈ gw := gw_at 339 rfl rfl
theorem tw_340 : Jvm.Cond.methodLink "QuireSigns$Text" (90 : Nat) ({ cls := "QuireSigns$Sign", name := "ofLetters", desc := "(II)I" } : Jvm.MethodName) ∈ gw := gw_at 340 rfl rfl
theorem tw_341 : Jvm.Cond.static ({ cls := "QuireSigns$Sign", name := "ofLetters", desc := "(II)I" } : Jvm.MethodName) ∈ gw := gw_at 341 rfl rfl
theorem tw_342 : Jvm.Cond.code ({ cls := "QuireSigns$Sign", name := "ofLetters", desc := "(II)I" } : Jvm.MethodName) prog_7_method_2_code (2 : Nat) (Option.some Jvm.ClassFile.FieldType.int) ∈ gw := gw_at 342 rfl rfl
theorem tw_343 : Jvm.Cond.methodLink "QuireSigns$Text" (67 : Nat) ({ cls := "QuireSigns$Sign", name := "isStarred", desc := "(I)Z" } : Jvm.MethodName) ∈ gw := gw_at 343 rfl rfl
theorem tw_344 : Jvm.Cond.static ({ cls := "QuireSigns$Sign", name := "isStarred", desc := "(I)Z" } : Jvm.MethodName) ∈ gw := gw_at 344 rfl rfl
theorem tw_345 : Jvm.Cond.code ({ cls := "QuireSigns$Sign", name := "isStarred", desc := "(I)Z" } : Jvm.MethodName) prog_7_method_4_code (1 : Nat) (Option.some Jvm.ClassFile.FieldType.boolean) ∈ gw := gw_at 345 rfl rfl
theorem tw_346 : Jvm.Cond.methodLink "QuireSigns$Text" (71 : Nat) ({ cls := "QuireSigns$Text", name := "readLastSign", desc := "(LQuireSigns$Alphabet;I)I" } : Jvm.MethodName) ∈ gw := gw_at 346 rfl rfl
theorem tw_348 : Jvm.Cond.instanceMethod ({ cls := "QuireSigns$Text", name := "readLastSign", desc := "(LQuireSigns$Alphabet;I)I" } : Jvm.MethodName) ∈ gw := gw_at 348 rfl rfl
theorem tw_349 : Jvm.Cond.code ({ cls := "QuireSigns$Text", name := "readLastSign", desc := "(LQuireSigns$Alphabet;I)I" } : Jvm.MethodName) prog_8_method_16_code (4 : Nat) (Option.some Jvm.ClassFile.FieldType.int) ∈ gw := gw_at 349 rfl rfl
theorem tw_350 : Jvm.Cond.methodLink "QuireSigns$Text" (94 : Nat) ({ cls := "QuireSigns$Sign", name := "times", desc := "(I)I" } : Jvm.MethodName) ∈ gw := gw_at 350 rfl rfl
theorem tw_351 : Jvm.Cond.static ({ cls := "QuireSigns$Sign", name := "times", desc := "(I)I" } : Jvm.MethodName) ∈ gw := gw_at 351 rfl rfl
theorem tw_352 : Jvm.Cond.code ({ cls := "QuireSigns$Sign", name := "times", desc := "(I)I" } : Jvm.MethodName) prog_7_method_6_code (1 : Nat) (Option.some Jvm.ClassFile.FieldType.int) ∈ gw := gw_at 352 rfl rfl
theorem tw_353 : Jvm.Cond.methodLink "QuireSigns$Sign" (9 : Nat) ({ cls := "QuireSigns$Sign", name := "isStarred", desc := "(I)Z" } : Jvm.MethodName) ∈ gw := gw_at 353 rfl rfl
theorem tw_354 : Jvm.Cond.methodLink "QuireSigns$Text" (75 : Nat) ({ cls := "QuireSigns$Text", name := "readNumber", desc := "()I" } : Jvm.MethodName) ∈ gw := gw_at 354 rfl rfl
theorem tw_356 : Jvm.Cond.instanceMethod ({ cls := "QuireSigns$Text", name := "readNumber", desc := "()I" } : Jvm.MethodName) ∈ gw := gw_at 356 rfl rfl
theorem tw_357 : Jvm.Cond.code ({ cls := "QuireSigns$Text", name := "readNumber", desc := "()I" } : Jvm.MethodName) prog_8_method_17_code (3 : Nat) (Option.some Jvm.ClassFile.FieldType.int) ∈ gw := gw_at 357 rfl rfl
theorem tw_358 : Jvm.Cond.methodLink "QuireSigns$Text" (97 : Nat) ({ cls := "QuireSigns$Text", name := "digitAt", desc := "(I)I" } : Jvm.MethodName) ∈ gw := gw_at 358 rfl rfl
theorem tw_360 : Jvm.Cond.instanceMethod ({ cls := "QuireSigns$Text", name := "digitAt", desc := "(I)I" } : Jvm.MethodName) ∈ gw := gw_at 360 rfl rfl
theorem tw_361 : Jvm.Cond.code ({ cls := "QuireSigns$Text", name := "digitAt", desc := "(I)I" } : Jvm.MethodName) prog_8_method_18_code (3 : Nat) (Option.some Jvm.ClassFile.FieldType.int) ∈ gw := gw_at 361 rfl rfl
theorem tw_362 : Jvm.Cond.methodLink "QuireSigns$Text" (40 : Nat) ({ cls := "QuireSigns$Row", name := "add", desc := "(I)V" } : Jvm.MethodName) ∈ gw := gw_at 362 rfl rfl
theorem tw_363 : Jvm.Cond.instanceMethod ({ cls := "QuireSigns$Row", name := "add", desc := "(I)V" } : Jvm.MethodName) ∈ gw := gw_at 363 rfl rfl
theorem tw_364 : Jvm.Cond.selects "QuireSigns$Row" ({ cls := "QuireSigns$Row", name := "add", desc := "(I)V" } : Jvm.MethodName) ({ cls := "QuireSigns$Row", name := "add", desc := "(I)V" } : Jvm.MethodName) ∈ gw := gw_at 364 rfl rfl
theorem tw_365 : Jvm.Cond.code ({ cls := "QuireSigns$Row", name := "add", desc := "(I)V" } : Jvm.MethodName) prog_6_method_6_code (2 : Nat) (Option.none : Option Jvm.ClassFile.FieldType) ∈ gw := gw_at 365 rfl rfl
theorem tw_366 : Jvm.Cond.methodLink "QuireSigns$Row" (27 : Nat) ({ cls := "QuireSigns$Row", name := "addAt", desc := "(II)V" } : Jvm.MethodName) ∈ gw := gw_at 366 rfl rfl
theorem tw_367 : Jvm.Cond.instanceMethod ({ cls := "QuireSigns$Row", name := "addAt", desc := "(II)V" } : Jvm.MethodName) ∈ gw := gw_at 367 rfl rfl
theorem tw_368 : Jvm.Cond.selects "QuireSigns$Row" ({ cls := "QuireSigns$Row", name := "addAt", desc := "(II)V" } : Jvm.MethodName) ({ cls := "QuireSigns$Row", name := "addAt", desc := "(II)V" } : Jvm.MethodName) ∈ gw := gw_at 368 rfl rfl
theorem tw_369 : Jvm.Cond.code ({ cls := "QuireSigns$Row", name := "addAt", desc := "(II)V" } : Jvm.MethodName) prog_6_method_7_code (4 : Nat) (Option.none : Option Jvm.ClassFile.FieldType) ∈ gw := gw_at 369 rfl rfl
theorem tw_370 : Jvm.Cond.methodLink "QuireSigns" (83 : Nat) ({ cls := "QuireSigns$Book", name := "quires", desc := "()I" } : Jvm.MethodName) ∈ gw := gw_at 370 rfl rfl
theorem tw_371 : Jvm.Cond.methodLink "QuireSigns" (86 : Nat) ({ cls := "QuireSigns", name := "quiresOfText", desc := "()I" } : Jvm.MethodName) ∈ gw := gw_at 371 rfl rfl
theorem tw_373 : Jvm.Cond.instanceMethod ({ cls := "QuireSigns", name := "quiresOfText", desc := "()I" } : Jvm.MethodName) ∈ gw := gw_at 373 rfl rfl
theorem tw_374 : Jvm.Cond.code ({ cls := "QuireSigns", name := "quiresOfText", desc := "()I" } : Jvm.MethodName) prog_1_method_24_code (5 : Nat) (Option.some Jvm.ClassFile.FieldType.int) ∈ gw := gw_at 374 rfl rfl
theorem tw_375 : Jvm.Cond.methodLink "QuireSigns" (89 : Nat) ({ cls := "QuireSigns$Text", name := "entries", desc := "()I" } : Jvm.MethodName) ∈ gw := gw_at 375 rfl rfl
theorem tw_376 : Jvm.Cond.instanceMethod ({ cls := "QuireSigns$Text", name := "entries", desc := "()I" } : Jvm.MethodName) ∈ gw := gw_at 376 rfl rfl
theorem tw_377 : Jvm.Cond.selects "QuireSigns$Text" ({ cls := "QuireSigns$Text", name := "entries", desc := "()I" } : Jvm.MethodName) ({ cls := "QuireSigns$Text", name := "entries", desc := "()I" } : Jvm.MethodName) ∈ gw := gw_at 377 rfl rfl
theorem tw_378 : Jvm.Cond.code ({ cls := "QuireSigns$Text", name := "entries", desc := "()I" } : Jvm.MethodName) prog_8_method_5_code (1 : Nat) (Option.some Jvm.ClassFile.FieldType.int) ∈ gw := gw_at 378 rfl rfl
theorem tw_379 : Jvm.Cond.methodLink "QuireSigns" (216 : Nat) ({ cls := "QuireSigns$Text", name := "firstSign", desc := "(I)I" } : Jvm.MethodName) ∈ gw := gw_at 379 rfl rfl
theorem tw_380 : Jvm.Cond.instanceMethod ({ cls := "QuireSigns$Text", name := "firstSign", desc := "(I)I" } : Jvm.MethodName) ∈ gw := gw_at 380 rfl rfl
theorem tw_381 : Jvm.Cond.selects "QuireSigns$Text" ({ cls := "QuireSigns$Text", name := "firstSign", desc := "(I)I" } : Jvm.MethodName) ({ cls := "QuireSigns$Text", name := "firstSign", desc := "(I)I" } : Jvm.MethodName) ∈ gw := gw_at 381 rfl rfl
theorem tw_382 : Jvm.Cond.code ({ cls := "QuireSigns$Text", name := "firstSign", desc := "(I)I" } : Jvm.MethodName) prog_8_method_6_code (2 : Nat) (Option.some Jvm.ClassFile.FieldType.int) ∈ gw := gw_at 382 rfl rfl
theorem tw_383 : Jvm.Cond.methodLink "QuireSigns" (252 : Nat) ({ cls := "QuireSigns$Text", name := "lastSign", desc := "(I)I" } : Jvm.MethodName) ∈ gw := gw_at 383 rfl rfl
theorem tw_384 : Jvm.Cond.instanceMethod ({ cls := "QuireSigns$Text", name := "lastSign", desc := "(I)I" } : Jvm.MethodName) ∈ gw := gw_at 384 rfl rfl
theorem tw_385 : Jvm.Cond.selects "QuireSigns$Text" ({ cls := "QuireSigns$Text", name := "lastSign", desc := "(I)I" } : Jvm.MethodName) ({ cls := "QuireSigns$Text", name := "lastSign", desc := "(I)I" } : Jvm.MethodName) ∈ gw := gw_at 385 rfl rfl
theorem tw_386 : Jvm.Cond.code ({ cls := "QuireSigns$Text", name := "lastSign", desc := "(I)I" } : Jvm.MethodName) prog_8_method_7_code (2 : Nat) (Option.some Jvm.ClassFile.FieldType.int) ∈ gw := gw_at 386 rfl rfl
theorem tw_387 : Jvm.Cond.methodLink "QuireSigns" (255 : Nat) ({ cls := "QuireSigns$Alphabet", name := "signsBetween", desc := "(II)I" } : Jvm.MethodName) ∈ gw := gw_at 387 rfl rfl
theorem tw_388 : Jvm.Cond.instanceMethod ({ cls := "QuireSigns$Alphabet", name := "signsBetween", desc := "(II)I" } : Jvm.MethodName) ∈ gw := gw_at 388 rfl rfl
theorem tw_389 : Jvm.Cond.selects "QuireSigns$Alphabet" ({ cls := "QuireSigns$Alphabet", name := "signsBetween", desc := "(II)I" } : Jvm.MethodName) ({ cls := "QuireSigns$Alphabet", name := "signsBetween", desc := "(II)I" } : Jvm.MethodName) ∈ gw := gw_at 389 rfl rfl
theorem tw_390 : Jvm.Cond.code ({ cls := "QuireSigns$Alphabet", name := "signsBetween", desc := "(II)I" } : Jvm.MethodName) prog_2_method_6_code (5 : Nat) (Option.some Jvm.ClassFile.FieldType.int) ∈ gw := gw_at 390 rfl rfl
theorem tw_391 : Jvm.Cond.methodLink "QuireSigns$Alphabet" (21 : Nat) ({ cls := "QuireSigns$Sign", name := "letter", desc := "(I)I" } : Jvm.MethodName) ∈ gw := gw_at 391 rfl rfl
theorem tw_392 : Jvm.Cond.static ({ cls := "QuireSigns$Sign", name := "letter", desc := "(I)I" } : Jvm.MethodName) ∈ gw := gw_at 392 rfl rfl
theorem tw_393 : Jvm.Cond.code ({ cls := "QuireSigns$Sign", name := "letter", desc := "(I)I" } : Jvm.MethodName) prog_7_method_5_code (1 : Nat) (Option.some Jvm.ClassFile.FieldType.int) ∈ gw := gw_at 393 rfl rfl
theorem tw_394 : Jvm.Cond.methodLink "QuireSigns$Alphabet" (24 : Nat) ({ cls := "QuireSigns$Alphabet", name := "has", desc := "(I)Z" } : Jvm.MethodName) ∈ gw := gw_at 394 rfl rfl
theorem tw_395 : Jvm.Cond.methodLink "QuireSigns" (92 : Nat) ({ cls := "QuireSigns", name := "addEntry", desc := "(I)V" } : Jvm.MethodName) ∈ gw := gw_at 395 rfl rfl
theorem tw_397 : Jvm.Cond.instanceMethod ({ cls := "QuireSigns", name := "addEntry", desc := "(I)V" } : Jvm.MethodName) ∈ gw := gw_at 397 rfl rfl
theorem tw_398 : Jvm.Cond.code ({ cls := "QuireSigns", name := "addEntry", desc := "(I)V" } : Jvm.MethodName) prog_1_method_25_code (5 : Nat) (Option.none : Option Jvm.ClassFile.FieldType) ∈ gw := gw_at 398 rfl rfl
theorem tw_399 : Jvm.Cond.methodLink "QuireSigns" (219 : Nat) ({ cls := "QuireSigns$Text", name := "number", desc := "(I)I" } : Jvm.MethodName) ∈ gw := gw_at 399 rfl rfl
theorem tw_400 : Jvm.Cond.instanceMethod ({ cls := "QuireSigns$Text", name := "number", desc := "(I)I" } : Jvm.MethodName) ∈ gw := gw_at 400 rfl rfl
set_option maxRecDepth 100000 in
theorem tw_401 : Jvm.Cond.selects "QuireSigns$Text" ({ cls := "QuireSigns$Text", name := "number", desc := "(I)I" } : Jvm.MethodName) ({ cls := "QuireSigns$Text", name := "number", desc := "(I)I" } : Jvm.MethodName) ∈ gw := gw_at 401 rfl rfl
set_option maxRecDepth 100000 in
theorem tw_402 : Jvm.Cond.code ({ cls := "QuireSigns$Text", name := "number", desc := "(I)I" } : Jvm.MethodName) prog_8_method_8_code (2 : Nat) (Option.some Jvm.ClassFile.FieldType.int) ∈ gw := gw_at 402 rfl rfl
set_option maxRecDepth 100000 in
theorem tw_403 : Jvm.Cond.methodLink "QuireSigns" (105 : Nat) ({ cls := "QuireSigns$Book", name := "addQuire", desc := "(III)V" } : Jvm.MethodName) ∈ gw := gw_at 403 rfl rfl
set_option maxRecDepth 100000 in
theorem tw_404 : Jvm.Cond.instanceMethod ({ cls := "QuireSigns$Book", name := "addQuire", desc := "(III)V" } : Jvm.MethodName) ∈ gw := gw_at 404 rfl rfl
set_option maxRecDepth 100000 in
theorem tw_405 : Jvm.Cond.selects "QuireSigns$Book" ({ cls := "QuireSigns$Book", name := "addQuire", desc := "(III)V" } : Jvm.MethodName) ({ cls := "QuireSigns$Book", name := "addQuire", desc := "(III)V" } : Jvm.MethodName) ∈ gw := gw_at 405 rfl rfl
set_option maxRecDepth 100000 in
theorem tw_406 : Jvm.Cond.code ({ cls := "QuireSigns$Book", name := "addQuire", desc := "(III)V" } : Jvm.MethodName) prog_3_method_5_code (4 : Nat) (Option.none : Option Jvm.ClassFile.FieldType) ∈ gw := gw_at 406 rfl rfl
set_option maxRecDepth 100000 in
theorem tw_407 : Jvm.Cond.methodLink "QuireSigns$Book" (55 : Nat) ({ cls := "QuireSigns$Row", name := "addAt", desc := "(II)V" } : Jvm.MethodName) ∈ gw := gw_at 407 rfl rfl
set_option maxRecDepth 100000 in
theorem tw_408 : Jvm.Cond.methodLink "QuireSigns$Book" (59 : Nat) ({ cls := "QuireSigns$Row", name := "empty", desc := "()V" } : Jvm.MethodName) ∈ gw := gw_at 408 rfl rfl
set_option maxRecDepth 100000 in
theorem tw_409 : Jvm.Cond.methodLink "QuireSigns" (186 : Nat) ({ cls := "QuireSigns$Sign", name := "letter", desc := "(I)I" } : Jvm.MethodName) ∈ gw := gw_at 409 rfl rfl
set_option maxRecDepth 100000 in
theorem tw_410 : Jvm.Cond.methodLink "QuireSignsLaw" (28 : Nat) ({ cls := "QuireSigns", name := "signNext", desc := "(I)I" } : Jvm.MethodName) ∈ gw := gw_at 410 rfl rfl
set_option maxRecDepth 100000 in
theorem tw_411 : Jvm.Cond.instanceMethod ({ cls := "QuireSigns", name := "signNext", desc := "(I)I" } : Jvm.MethodName) ∈ gw := gw_at 411 rfl rfl
set_option maxRecDepth 100000 in
theorem tw_412 : Jvm.Cond.selects "QuireSigns" ({ cls := "QuireSigns", name := "signNext", desc := "(I)I" } : Jvm.MethodName) ({ cls := "QuireSigns", name := "signNext", desc := "(I)I" } : Jvm.MethodName) ∈ gw := gw_at 412 rfl rfl
set_option maxRecDepth 100000 in
theorem tw_413 : Jvm.Cond.code ({ cls := "QuireSigns", name := "signNext", desc := "(I)I" } : Jvm.MethodName) prog_1_method_5_code (3 : Nat) (Option.some Jvm.ClassFile.FieldType.int) ∈ gw := gw_at 413 rfl rfl
set_option maxRecDepth 100000 in
theorem tw_414 : Jvm.Cond.methodLink "QuireSigns" (95 : Nat) ({ cls := "QuireSigns", name := "isQuireSize", desc := "(I)Z" } : Jvm.MethodName) ∈ gw := gw_at 414 rfl rfl
set_option maxRecDepth 100000 in
theorem tw_415 : Jvm.Cond.static ({ cls := "QuireSigns", name := "isQuireSize", desc := "(I)Z" } : Jvm.MethodName) ∈ gw := gw_at 415 rfl rfl
set_option maxRecDepth 100000 in
theorem tw_416 : Jvm.Cond.code ({ cls := "QuireSigns", name := "isQuireSize", desc := "(I)Z" } : Jvm.MethodName) prog_1_method_23_code (1 : Nat) (Option.some Jvm.ClassFile.FieldType.boolean) ∈ gw := gw_at 416 rfl rfl
set_option maxRecDepth 100000 in
theorem tw_417 : Jvm.Cond.methodLink "QuireSigns" (98 : Nat) ({ cls := "QuireSigns$Book", name := "lastLettersAhead", desc := "(I)I" } : Jvm.MethodName) ∈ gw := gw_at 417 rfl rfl
set_option maxRecDepth 100000 in
theorem tw_418 : Jvm.Cond.instanceMethod ({ cls := "QuireSigns$Book", name := "lastLettersAhead", desc := "(I)I" } : Jvm.MethodName) ∈ gw := gw_at 418 rfl rfl
set_option maxRecDepth 100000 in
theorem tw_419 : Jvm.Cond.selects "QuireSigns$Book" ({ cls := "QuireSigns$Book", name := "lastLettersAhead", desc := "(I)I" } : Jvm.MethodName) ({ cls := "QuireSigns$Book", name := "lastLettersAhead", desc := "(I)I" } : Jvm.MethodName) ∈ gw := gw_at 419 rfl rfl
set_option maxRecDepth 100000 in
theorem tw_420 : Jvm.Cond.code ({ cls := "QuireSigns$Book", name := "lastLettersAhead", desc := "(I)I" } : Jvm.MethodName) prog_3_method_9_code (3 : Nat) (Option.some Jvm.ClassFile.FieldType.int) ∈ gw := gw_at 420 rfl rfl
set_option maxRecDepth 100000 in
theorem tw_421 : Jvm.Cond.methodLink "QuireSigns$Book" (69 : Nat) ({ cls := "QuireSigns$Sign", name := "isStarred", desc := "(I)Z" } : Jvm.MethodName) ∈ gw := gw_at 421 rfl rfl
set_option maxRecDepth 100000 in
theorem tw_422 : Jvm.Cond.methodLink "QuireSigns" (102 : Nat) ({ cls := "QuireSigns$Alphabet", name := "nextSign", desc := "(I)I" } : Jvm.MethodName) ∈ gw := gw_at 422 rfl rfl
set_option maxRecDepth 100000 in
theorem tw_423 : Jvm.Cond.instanceMethod ({ cls := "QuireSigns$Alphabet", name := "nextSign", desc := "(I)I" } : Jvm.MethodName) ∈ gw := gw_at 423 rfl rfl
set_option maxRecDepth 100000 in
theorem tw_424 : Jvm.Cond.selects "QuireSigns$Alphabet" ({ cls := "QuireSigns$Alphabet", name := "nextSign", desc := "(I)I" } : Jvm.MethodName) ({ cls := "QuireSigns$Alphabet", name := "nextSign", desc := "(I)I" } : Jvm.MethodName) ∈ gw := gw_at 424 rfl rfl
set_option maxRecDepth 100000 in
theorem tw_425 : Jvm.Cond.code ({ cls := "QuireSigns$Alphabet", name := "nextSign", desc := "(I)I" } : Jvm.MethodName) prog_2_method_5_code (3 : Nat) (Option.some Jvm.ClassFile.FieldType.int) ∈ gw := gw_at 425 rfl rfl
set_option maxRecDepth 100000 in
theorem tw_426 : Jvm.Cond.methodLink "QuireSignsLaw" (32 : Nat) ({ cls := "QuireSigns", name := "insert", desc := "(III)I" } : Jvm.MethodName) ∈ gw := gw_at 426 rfl rfl
set_option maxRecDepth 100000 in
theorem tw_427 : Jvm.Cond.instanceMethod ({ cls := "QuireSigns", name := "insert", desc := "(III)I" } : Jvm.MethodName) ∈ gw := gw_at 427 rfl rfl
set_option maxRecDepth 100000 in
theorem tw_428 : Jvm.Cond.selects "QuireSigns" ({ cls := "QuireSigns", name := "insert", desc := "(III)I" } : Jvm.MethodName) ({ cls := "QuireSigns", name := "insert", desc := "(III)I" } : Jvm.MethodName) ∈ gw := gw_at 428 rfl rfl
set_option maxRecDepth 100000 in
theorem tw_429 : Jvm.Cond.code ({ cls := "QuireSigns", name := "insert", desc := "(III)I" } : Jvm.MethodName) prog_1_method_6_code (4 : Nat) (Option.some Jvm.ClassFile.FieldType.int) ∈ gw := gw_at 429 rfl rfl
set_option maxRecDepth 100000 in
theorem tw_430 : Jvm.Cond.methodLink "QuireSigns" (109 : Nat) ({ cls := "QuireSigns$Sign", name := "ofStars", desc := "(I)I" } : Jvm.MethodName) ∈ gw := gw_at 430 rfl rfl
set_option maxRecDepth 100000 in
theorem tw_431 : Jvm.Cond.methodLink "QuireSigns" (112 : Nat) ({ cls := "QuireSigns$Book", name := "leaves", desc := "()I" } : Jvm.MethodName) ∈ gw := gw_at 431 rfl rfl
set_option maxRecDepth 100000 in
theorem tw_432 : Jvm.Cond.instanceMethod ({ cls := "QuireSigns$Book", name := "leaves", desc := "()I" } : Jvm.MethodName) ∈ gw := gw_at 432 rfl rfl
set_option maxRecDepth 100000 in
theorem tw_433 : Jvm.Cond.selects "QuireSigns$Book" ({ cls := "QuireSigns$Book", name := "leaves", desc := "()I" } : Jvm.MethodName) ({ cls := "QuireSigns$Book", name := "leaves", desc := "()I" } : Jvm.MethodName) ∈ gw := gw_at 433 rfl rfl
set_option maxRecDepth 100000 in
theorem tw_434 : Jvm.Cond.code ({ cls := "QuireSigns$Book", name := "leaves", desc := "()I" } : Jvm.MethodName) prog_3_method_11_code (1 : Nat) (Option.some Jvm.ClassFile.FieldType.int) ∈ gw := gw_at 434 rfl rfl
set_option maxRecDepth 100000 in
theorem tw_435 : Jvm.Cond.methodLink "QuireSigns$Book" (75 : Nat) ({ cls := "QuireSigns$Book", name := "firstLeaf", desc := "(I)I" } : Jvm.MethodName) ∈ gw := gw_at 435 rfl rfl
set_option maxRecDepth 100000 in
theorem tw_436 : Jvm.Cond.instanceMethod ({ cls := "QuireSigns$Book", name := "firstLeaf", desc := "(I)I" } : Jvm.MethodName) ∈ gw := gw_at 436 rfl rfl
set_option maxRecDepth 100000 in
theorem tw_437 : Jvm.Cond.selects "QuireSigns$Book" ({ cls := "QuireSigns$Book", name := "firstLeaf", desc := "(I)I" } : Jvm.MethodName) ({ cls := "QuireSigns$Book", name := "firstLeaf", desc := "(I)I" } : Jvm.MethodName) ∈ gw := gw_at 437 rfl rfl
set_option maxRecDepth 100000 in
theorem tw_438 : Jvm.Cond.code ({ cls := "QuireSigns$Book", name := "firstLeaf", desc := "(I)I" } : Jvm.MethodName) prog_3_method_10_code (4 : Nat) (Option.some Jvm.ClassFile.FieldType.int) ∈ gw := gw_at 438 rfl rfl
set_option maxRecDepth 100000 in
theorem tw_439 : Jvm.Cond.methodLink "QuireSignsLaw" (37 : Nat) ({ cls := "QuireSigns", name := "remove", desc := "(I)I" } : Jvm.MethodName) ∈ gw := gw_at 439 rfl rfl
set_option maxRecDepth 100000 in
theorem tw_440 : Jvm.Cond.instanceMethod ({ cls := "QuireSigns", name := "remove", desc := "(I)I" } : Jvm.MethodName) ∈ gw := gw_at 440 rfl rfl
set_option maxRecDepth 100000 in
theorem tw_441 : Jvm.Cond.selects "QuireSigns" ({ cls := "QuireSigns", name := "remove", desc := "(I)I" } : Jvm.MethodName) ({ cls := "QuireSigns", name := "remove", desc := "(I)I" } : Jvm.MethodName) ∈ gw := gw_at 441 rfl rfl
set_option maxRecDepth 100000 in
theorem tw_442 : Jvm.Cond.code ({ cls := "QuireSigns", name := "remove", desc := "(I)I" } : Jvm.MethodName) prog_1_method_7_code (2 : Nat) (Option.some Jvm.ClassFile.FieldType.int) ∈ gw := gw_at 442 rfl rfl
set_option maxRecDepth 100000 in
theorem tw_443 : Jvm.Cond.methodLink "QuireSigns" (115 : Nat) ({ cls := "QuireSigns$Book", name := "hasQuire", desc := "(I)Z" } : Jvm.MethodName) ∈ gw := gw_at 443 rfl rfl
set_option maxRecDepth 100000 in
theorem tw_444 : Jvm.Cond.instanceMethod ({ cls := "QuireSigns$Book", name := "hasQuire", desc := "(I)Z" } : Jvm.MethodName) ∈ gw := gw_at 444 rfl rfl
set_option maxRecDepth 100000 in
theorem tw_445 : Jvm.Cond.selects "QuireSigns$Book" ({ cls := "QuireSigns$Book", name := "hasQuire", desc := "(I)Z" } : Jvm.MethodName) ({ cls := "QuireSigns$Book", name := "hasQuire", desc := "(I)Z" } : Jvm.MethodName) ∈ gw := gw_at 445 rfl rfl
set_option maxRecDepth 100000 in
theorem tw_446 : Jvm.Cond.code ({ cls := "QuireSigns$Book", name := "hasQuire", desc := "(I)Z" } : Jvm.MethodName) prog_3_method_4_code (2 : Nat) (Option.some Jvm.ClassFile.FieldType.boolean) ∈ gw := gw_at 446 rfl rfl
set_option maxRecDepth 100000 in
theorem tw_447 : Jvm.Cond.methodLink "QuireSigns" (118 : Nat) ({ cls := "QuireSigns$Book", name := "dropQuire", desc := "(I)V" } : Jvm.MethodName) ∈ gw := gw_at 447 rfl rfl
set_option maxRecDepth 100000 in
theorem tw_448 : Jvm.Cond.instanceMethod ({ cls := "QuireSigns$Book", name := "dropQuire", desc := "(I)V" } : Jvm.MethodName) ∈ gw := gw_at 448 rfl rfl
set_option maxRecDepth 100000 in
theorem tw_449 : Jvm.Cond.selects "QuireSigns$Book" ({ cls := "QuireSigns$Book", name := "dropQuire", desc := "(I)V" } : Jvm.MethodName) ({ cls := "QuireSigns$Book", name := "dropQuire", desc := "(I)V" } : Jvm.MethodName) ∈ gw := gw_at 449 rfl rfl
set_option maxRecDepth 100000 in
theorem tw_450 : Jvm.Cond.code ({ cls := "QuireSigns$Book", name := "dropQuire", desc := "(I)V" } : Jvm.MethodName) prog_3_method_6_code (2 : Nat) (Option.none : Option Jvm.ClassFile.FieldType) ∈ gw := gw_at 450 rfl rfl
set_option maxRecDepth 100000 in
theorem tw_451 : Jvm.Cond.methodLink "QuireSigns$Book" (62 : Nat) ({ cls := "QuireSigns$Row", name := "drop", desc := "(I)V" } : Jvm.MethodName) ∈ gw := gw_at 451 rfl rfl
set_option maxRecDepth 100000 in
theorem tw_452 : Jvm.Cond.instanceMethod ({ cls := "QuireSigns$Row", name := "drop", desc := "(I)V" } : Jvm.MethodName) ∈ gw := gw_at 452 rfl rfl
set_option maxRecDepth 100000 in
theorem tw_453 : Jvm.Cond.selects "QuireSigns$Row" ({ cls := "QuireSigns$Row", name := "drop", desc := "(I)V" } : Jvm.MethodName) ({ cls := "QuireSigns$Row", name := "drop", desc := "(I)V" } : Jvm.MethodName) ∈ gw := gw_at 453 rfl rfl
set_option maxRecDepth 100000 in
theorem tw_454 : Jvm.Cond.code ({ cls := "QuireSigns$Row", name := "drop", desc := "(I)V" } : Jvm.MethodName) prog_6_method_8_code (3 : Nat) (Option.none : Option Jvm.ClassFile.FieldType) ∈ gw := gw_at 454 rfl rfl
set_option maxRecDepth 100000 in
theorem tw_455 : Jvm.Cond.methodLink "QuireSignsLaw" (41 : Nat) ({ cls := "QuireSigns", name := "lose", desc := "(IZ)I" } : Jvm.MethodName) ∈ gw := gw_at 455 rfl rfl
set_option maxRecDepth 100000 in
theorem tw_456 : Jvm.Cond.instanceMethod ({ cls := "QuireSigns", name := "lose", desc := "(IZ)I" } : Jvm.MethodName) ∈ gw := gw_at 456 rfl rfl
set_option maxRecDepth 100000 in
theorem tw_457 : Jvm.Cond.selects "QuireSigns" ({ cls := "QuireSigns", name := "lose", desc := "(IZ)I" } : Jvm.MethodName) ({ cls := "QuireSigns", name := "lose", desc := "(IZ)I" } : Jvm.MethodName) ∈ gw := gw_at 457 rfl rfl
set_option maxRecDepth 100000 in
theorem tw_458 : Jvm.Cond.code ({ cls := "QuireSigns", name := "lose", desc := "(IZ)I" } : Jvm.MethodName) prog_1_method_8_code (3 : Nat) (Option.some Jvm.ClassFile.FieldType.int) ∈ gw := gw_at 458 rfl rfl
set_option maxRecDepth 100000 in
theorem tw_459 : Jvm.Cond.methodLink "QuireSigns" (121 : Nat) ({ cls := "QuireSigns$Book", name := "hasLeaf", desc := "(I)Z" } : Jvm.MethodName) ∈ gw := gw_at 459 rfl rfl
set_option maxRecDepth 100000 in
theorem tw_460 : Jvm.Cond.instanceMethod ({ cls := "QuireSigns$Book", name := "hasLeaf", desc := "(I)Z" } : Jvm.MethodName) ∈ gw := gw_at 460 rfl rfl
set_option maxRecDepth 100000 in
theorem tw_461 : Jvm.Cond.selects "QuireSigns$Book" ({ cls := "QuireSigns$Book", name := "hasLeaf", desc := "(I)Z" } : Jvm.MethodName) ({ cls := "QuireSigns$Book", name := "hasLeaf", desc := "(I)Z" } : Jvm.MethodName) ∈ gw := gw_at 461 rfl rfl
set_option maxRecDepth 100000 in
theorem tw_462 : Jvm.Cond.code ({ cls := "QuireSigns$Book", name := "hasLeaf", desc := "(I)Z" } : Jvm.MethodName) prog_3_method_12_code (2 : Nat) (Option.some Jvm.ClassFile.FieldType.boolean) ∈ gw := gw_at 462 rfl rfl
set_option maxRecDepth 100000 in
theorem tw_463 : Jvm.Cond.methodLink "QuireSigns$Book" (78 : Nat) ({ cls := "QuireSigns$Book", name := "leaves", desc := "()I" } : Jvm.MethodName) ∈ gw := gw_at 463 rfl rfl
set_option maxRecDepth 100000 in
theorem tw_464 : Jvm.Cond.methodLink "QuireSigns" (124 : Nat) ({ cls := "QuireSigns$Book", name := "isLost", desc := "(I)Z" } : Jvm.MethodName) ∈ gw := gw_at 464 rfl rfl
set_option maxRecDepth 100000 in
theorem tw_465 : Jvm.Cond.instanceMethod ({ cls := "QuireSigns$Book", name := "isLost", desc := "(I)Z" } : Jvm.MethodName) ∈ gw := gw_at 465 rfl rfl
set_option maxRecDepth 100000 in
theorem tw_466 : Jvm.Cond.selects "QuireSigns$Book" ({ cls := "QuireSigns$Book", name := "isLost", desc := "(I)Z" } : Jvm.MethodName) ({ cls := "QuireSigns$Book", name := "isLost", desc := "(I)Z" } : Jvm.MethodName) ∈ gw := gw_at 466 rfl rfl
set_option maxRecDepth 100000 in
theorem tw_467 : Jvm.Cond.code ({ cls := "QuireSigns$Book", name := "isLost", desc := "(I)Z" } : Jvm.MethodName) prog_3_method_17_code (2 : Nat) (Option.some Jvm.ClassFile.FieldType.boolean) ∈ gw := gw_at 467 rfl rfl
set_option maxRecDepth 100000 in
theorem tw_468 : Jvm.Cond.methodLink "QuireSigns$Book" (81 : Nat) ({ cls := "QuireSigns$Book", name := "quireOf", desc := "(I)I" } : Jvm.MethodName) ∈ gw := gw_at 468 rfl rfl
set_option maxRecDepth 100000 in
theorem tw_469 : Jvm.Cond.instanceMethod ({ cls := "QuireSigns$Book", name := "quireOf", desc := "(I)I" } : Jvm.MethodName) ∈ gw := gw_at 469 rfl rfl
set_option maxRecDepth 100000 in
theorem tw_470 : Jvm.Cond.selects "QuireSigns$Book" ({ cls := "QuireSigns$Book", name := "quireOf", desc := "(I)I" } : Jvm.MethodName) ({ cls := "QuireSigns$Book", name := "quireOf", desc := "(I)I" } : Jvm.MethodName) ∈ gw := gw_at 470 rfl rfl
set_option maxRecDepth 100000 in
theorem tw_471 : Jvm.Cond.code ({ cls := "QuireSigns$Book", name := "quireOf", desc := "(I)I" } : Jvm.MethodName) prog_3_method_13_code (4 : Nat) (Option.some Jvm.ClassFile.FieldType.int) ∈ gw := gw_at 471 rfl rfl
set_option maxRecDepth 100000 in
theorem tw_472 : Jvm.Cond.methodLink "QuireSigns$Book" (93 : Nat) ({ cls := "QuireSigns$Book", name := "numberOf", desc := "(I)I" } : Jvm.MethodName) ∈ gw := gw_at 472 rfl rfl
set_option maxRecDepth 100000 in
theorem tw_473 : Jvm.Cond.instanceMethod ({ cls := "QuireSigns$Book", name := "numberOf", desc := "(I)I" } : Jvm.MethodName) ∈ gw := gw_at 473 rfl rfl
set_option maxRecDepth 100000 in
theorem tw_474 : Jvm.Cond.selects "QuireSigns$Book" ({ cls := "QuireSigns$Book", name := "numberOf", desc := "(I)I" } : Jvm.MethodName) ({ cls := "QuireSigns$Book", name := "numberOf", desc := "(I)I" } : Jvm.MethodName) ∈ gw := gw_at 474 rfl rfl
set_option maxRecDepth 100000 in
theorem tw_475 : Jvm.Cond.code ({ cls := "QuireSigns$Book", name := "numberOf", desc := "(I)I" } : Jvm.MethodName) prog_3_method_14_code (2 : Nat) (Option.some Jvm.ClassFile.FieldType.int) ∈ gw := gw_at 475 rfl rfl
set_option maxRecDepth 100000 in
theorem tw_476 : Jvm.Cond.methodLink "QuireSigns" (127 : Nat) ({ cls := "QuireSigns$Book", name := "turnLost", desc := "(I)V" } : Jvm.MethodName) ∈ gw := gw_at 476 rfl rfl
set_option maxRecDepth 100000 in
theorem tw_477 : Jvm.Cond.instanceMethod ({ cls := "QuireSigns$Book", name := "turnLost", desc := "(I)V" } : Jvm.MethodName) ∈ gw := gw_at 477 rfl rfl
set_option maxRecDepth 100000 in
theorem tw_478 : Jvm.Cond.selects "QuireSigns$Book" ({ cls := "QuireSigns$Book", name := "turnLost", desc := "(I)V" } : Jvm.MethodName) ({ cls := "QuireSigns$Book", name := "turnLost", desc := "(I)V" } : Jvm.MethodName) ∈ gw := gw_at 478 rfl rfl
set_option maxRecDepth 100000 in
theorem tw_479 : Jvm.Cond.code ({ cls := "QuireSigns$Book", name := "turnLost", desc := "(I)V" } : Jvm.MethodName) prog_3_method_18_code (3 : Nat) (Option.none : Option Jvm.ClassFile.FieldType) ∈ gw := gw_at 479 rfl rfl
set_option maxRecDepth 100000 in
theorem tw_480 : Jvm.Cond.methodLink "QuireSigns$Book" (96 : Nat) ({ cls := "QuireSigns$Row", name := "set", desc := "(II)V" } : Jvm.MethodName) ∈ gw := gw_at 480 rfl rfl
set_option maxRecDepth 100000 in
theorem tw_481 : Jvm.Cond.methodLink "QuireSigns" (130 : Nat) ({ cls := "QuireSigns$Book", name := "leavesThere", desc := "()I" } : Jvm.MethodName) ∈ gw := gw_at 481 rfl rfl
set_option maxRecDepth 100000 in
theorem tw_482 : Jvm.Cond.instanceMethod ({ cls := "QuireSigns$Book", name := "leavesThere", desc := "()I" } : Jvm.MethodName) ∈ gw := gw_at 482 rfl rfl
set_option maxRecDepth 100000 in
theorem tw_483 : Jvm.Cond.selects "QuireSigns$Book" ({ cls := "QuireSigns$Book", name := "leavesThere", desc := "()I" } : Jvm.MethodName) ({ cls := "QuireSigns$Book", name := "leavesThere", desc := "()I" } : Jvm.MethodName) ∈ gw := gw_at 483 rfl rfl
set_option maxRecDepth 100000 in
theorem tw_484 : Jvm.Cond.code ({ cls := "QuireSigns$Book", name := "leavesThere", desc := "()I" } : Jvm.MethodName) prog_3_method_21_code (1 : Nat) (Option.some Jvm.ClassFile.FieldType.int) ∈ gw := gw_at 484 rfl rfl
set_option maxRecDepth 100000 in
theorem tw_485 : Jvm.Cond.methodLink "QuireSigns$Book" (107 : Nat) ({ cls := "QuireSigns$Book", name := "thereAhead", desc := "(I)I" } : Jvm.MethodName) ∈ gw := gw_at 485 rfl rfl
set_option maxRecDepth 100000 in
theorem tw_486 : Jvm.Cond.instanceMethod ({ cls := "QuireSigns$Book", name := "thereAhead", desc := "(I)I" } : Jvm.MethodName) ∈ gw := gw_at 486 rfl rfl
set_option maxRecDepth 100000 in
theorem tw_487 : Jvm.Cond.selects "QuireSigns$Book" ({ cls := "QuireSigns$Book", name := "thereAhead", desc := "(I)I" } : Jvm.MethodName) ({ cls := "QuireSigns$Book", name := "thereAhead", desc := "(I)I" } : Jvm.MethodName) ∈ gw := gw_at 487 rfl rfl
set_option maxRecDepth 100000 in
theorem tw_488 : Jvm.Cond.code ({ cls := "QuireSigns$Book", name := "thereAhead", desc := "(I)I" } : Jvm.MethodName) prog_3_method_20_code (7 : Nat) (Option.some Jvm.ClassFile.FieldType.int) ∈ gw := gw_at 488 rfl rfl
set_option maxRecDepth 100000 in
theorem tw_489 : Jvm.Cond.methodLink "QuireSigns$Book" (104 : Nat) ({ cls := "java/lang/Math", name := "max", desc := "(II)I" } : Jvm.MethodName) ∈ gw := gw_at 489 rfl rfl
set_option maxRecDepth 100000 in
theorem tw_490 : Jvm.Cond.methodLink "QuireSigns$Book" (99 : Nat) ({ cls := "java/lang/Integer", name := "bitCount", desc := "(I)I" } : Jvm.MethodName) ∈ gw := gw_at 490 rfl rfl
set_option maxRecDepth 100000 in
theorem tw_491 : Jvm.Cond.methodLink "QuireSignsLaw" (46 : Nat) ({ cls := "QuireSigns", name := "readPile", desc := "()I" } : Jvm.MethodName) ∈ gw := gw_at 491 rfl rfl
set_option maxRecDepth 100000 in
theorem tw_492 : Jvm.Cond.instanceMethod ({ cls := "QuireSigns", name := "readPile", desc := "()I" } : Jvm.MethodName) ∈ gw := gw_at 492 rfl rfl
set_option maxRecDepth 100000 in
theorem tw_493 : Jvm.Cond.selects "QuireSigns" ({ cls := "QuireSigns", name := "readPile", desc := "()I" } : Jvm.MethodName) ({ cls := "QuireSigns", name := "readPile", desc := "()I" } : Jvm.MethodName) ∈ gw := gw_at 493 rfl rfl
set_option maxRecDepth 100000 in
theorem tw_494 : Jvm.Cond.code ({ cls := "QuireSigns", name := "readPile", desc := "()I" } : Jvm.MethodName) prog_1_method_9_code (3 : Nat) (Option.some Jvm.ClassFile.FieldType.int) ∈ gw := gw_at 494 rfl rfl
set_option maxRecDepth 100000 in
theorem tw_495 : Jvm.Cond.methodLink "QuireSigns" (133 : Nat) ({ cls := "QuireSigns$Text", name := "readAsPile", desc := "()I" } : Jvm.MethodName) ∈ gw := gw_at 495 rfl rfl
set_option maxRecDepth 100000 in
theorem tw_496 : Jvm.Cond.instanceMethod ({ cls := "QuireSigns$Text", name := "readAsPile", desc := "()I" } : Jvm.MethodName) ∈ gw := gw_at 496 rfl rfl
set_option maxRecDepth 100000 in
theorem tw_497 : Jvm.Cond.selects "QuireSigns$Text" ({ cls := "QuireSigns$Text", name := "readAsPile", desc := "()I" } : Jvm.MethodName) ({ cls := "QuireSigns$Text", name := "readAsPile", desc := "()I" } : Jvm.MethodName) ∈ gw := gw_at 497 rfl rfl
set_option maxRecDepth 100000 in
theorem tw_498 : Jvm.Cond.code ({ cls := "QuireSigns$Text", name := "readAsPile", desc := "()I" } : Jvm.MethodName) prog_8_method_10_code (1 : Nat) (Option.some Jvm.ClassFile.FieldType.int) ∈ gw := gw_at 498 rfl rfl
set_option maxRecDepth 100000 in
theorem tw_499 : Jvm.Cond.methodLink "QuireSigns" (136 : Nat) ({ cls := "QuireSigns", name := "findLeavesOfText", desc := "()Z" } : Jvm.MethodName) ∈ gw := gw_at 499 rfl rfl
set_option maxRecDepth 100000 in
theorem tw_501 : Jvm.Cond.instanceMethod ({ cls := "QuireSigns", name := "findLeavesOfText", desc := "()Z" } : Jvm.MethodName) ∈ gw := gw_at 501 rfl rfl
set_option maxRecDepth 100000 in
theorem tw_502 : Jvm.Cond.code ({ cls := "QuireSigns", name := "findLeavesOfText", desc := "()Z" } : Jvm.MethodName) prog_1_method_26_code (3 : Nat) (Option.some Jvm.ClassFile.FieldType.boolean) ∈ gw := gw_at 502 rfl rfl
set_option maxRecDepth 100000 in
theorem tw_503 : Jvm.Cond.methodLink "QuireSigns" (149 : Nat) ({ cls := "QuireSigns$Row", name := "empty", desc := "()V" } : Jvm.MethodName) ∈ gw := gw_at 503 rfl rfl
set_option maxRecDepth 100000 in
theorem tw_504 : Jvm.Cond.methodLink "QuireSigns" (222 : Nat) ({ cls := "QuireSigns$Book", name := "leafSigned", desc := "(II)I" } : Jvm.MethodName) ∈ gw := gw_at 504 rfl rfl
set_option maxRecDepth 100000 in
theorem tw_505 : Jvm.Cond.instanceMethod ({ cls := "QuireSigns$Book", name := "leafSigned", desc := "(II)I" } : Jvm.MethodName) ∈ gw := gw_at 505 rfl rfl
set_option maxRecDepth 100000 in
theorem tw_506 : Jvm.Cond.selects "QuireSigns$Book" ({ cls := "QuireSigns$Book", name := "leafSigned", desc := "(II)I" } : Jvm.MethodName) ({ cls := "QuireSigns$Book", name := "leafSigned", desc := "(II)I" } : Jvm.MethodName) ∈ gw := gw_at 506 rfl rfl
set_option maxRecDepth 100000 in
theorem tw_507 : Jvm.Cond.code ({ cls := "QuireSigns$Book", name := "leafSigned", desc := "(II)I" } : Jvm.MethodName) prog_3_method_22_code (4 : Nat) (Option.some Jvm.ClassFile.FieldType.int) ∈ gw := gw_at 507 rfl rfl
set_option maxRecDepth 100000 in
theorem tw_508 : Jvm.Cond.methodLink "QuireSigns" (258 : Nat) ({ cls := "QuireSigns$Row", name := "add", desc := "(I)V" } : Jvm.MethodName) ∈ gw := gw_at 508 rfl rfl
set_option maxRecDepth 100000 in
theorem tw_509 : Jvm.Cond.methodLink "QuireSigns" (140 : Nat) ({ cls := "QuireSigns", name := "allFoundThereOnce", desc := "()Z" } : Jvm.MethodName) ∈ gw := gw_at 509 rfl rfl
set_option maxRecDepth 100000 in
theorem tw_511 : Jvm.Cond.instanceMethod ({ cls := "QuireSigns", name := "allFoundThereOnce", desc := "()Z" } : Jvm.MethodName) ∈ gw := gw_at 511 rfl rfl
set_option maxRecDepth 100000 in
theorem tw_512 : Jvm.Cond.code ({ cls := "QuireSigns", name := "allFoundThereOnce", desc := "()Z" } : Jvm.MethodName) prog_1_method_27_code (3 : Nat) (Option.some Jvm.ClassFile.FieldType.boolean) ∈ gw := gw_at 512 rfl rfl
set_option maxRecDepth 100000 in
theorem tw_513 : Jvm.Cond.methodLink "QuireSigns" (143 : Nat) ({ cls := "QuireSigns$Row", name := "length", desc := "()I" } : Jvm.MethodName) ∈ gw := gw_at 513 rfl rfl
set_option maxRecDepth 100000 in
theorem tw_514 : Jvm.Cond.methodLink "QuireSigns" (152 : Nat) ({ cls := "QuireSigns$Row", name := "at", desc := "(I)I" } : Jvm.MethodName) ∈ gw := gw_at 514 rfl rfl
set_option maxRecDepth 100000 in
theorem tw_515 : Jvm.Cond.methodLink "QuireSigns" (260 : Nat) ({ cls := "QuireSigns$Row", name := "firstIndexOf", desc := "(I)I" } : Jvm.MethodName) ∈ gw := gw_at 515 rfl rfl
set_option maxRecDepth 100000 in
theorem tw_516 : Jvm.Cond.instanceMethod ({ cls := "QuireSigns$Row", name := "firstIndexOf", desc := "(I)I" } : Jvm.MethodName) ∈ gw := gw_at 516 rfl rfl
set_option maxRecDepth 100000 in
theorem tw_517 : Jvm.Cond.selects "QuireSigns$Row" ({ cls := "QuireSigns$Row", name := "firstIndexOf", desc := "(I)I" } : Jvm.MethodName) ({ cls := "QuireSigns$Row", name := "firstIndexOf", desc := "(I)I" } : Jvm.MethodName) ∈ gw := gw_at 517 rfl rfl
set_option maxRecDepth 100000 in
theorem tw_518 : Jvm.Cond.code ({ cls := "QuireSigns$Row", name := "firstIndexOf", desc := "(I)I" } : Jvm.MethodName) prog_6_method_4_code (3 : Nat) (Option.some Jvm.ClassFile.FieldType.int) ∈ gw := gw_at 518 rfl rfl
set_option maxRecDepth 100000 in
theorem tw_519 : Jvm.Cond.methodLink "QuireSigns" (155 : Nat) ({ cls := "QuireSigns$Book", name := "addToPile", desc := "(I)V" } : Jvm.MethodName) ∈ gw := gw_at 519 rfl rfl
set_option maxRecDepth 100000 in
theorem tw_520 : Jvm.Cond.instanceMethod ({ cls := "QuireSigns$Book", name := "addToPile", desc := "(I)V" } : Jvm.MethodName) ∈ gw := gw_at 520 rfl rfl
set_option maxRecDepth 100000 in
theorem tw_521 : Jvm.Cond.selects "QuireSigns$Book" ({ cls := "QuireSigns$Book", name := "addToPile", desc := "(I)V" } : Jvm.MethodName) ({ cls := "QuireSigns$Book", name := "addToPile", desc := "(I)V" } : Jvm.MethodName) ∈ gw := gw_at 521 rfl rfl
set_option maxRecDepth 100000 in
theorem tw_522 : Jvm.Cond.code ({ cls := "QuireSigns$Book", name := "addToPile", desc := "(I)V" } : Jvm.MethodName) prog_3_method_23_code (3 : Nat) (Option.none : Option Jvm.ClassFile.FieldType) ∈ gw := gw_at 522 rfl rfl
set_option maxRecDepth 100000 in
theorem tw_523 : Jvm.Cond.methodLink "QuireSignsLaw" (50 : Nat) ({ cls := "QuireSigns", name := "type", desc := "(C)I" } : Jvm.MethodName) ∈ gw := gw_at 523 rfl rfl
set_option maxRecDepth 100000 in
theorem tw_524 : Jvm.Cond.instanceMethod ({ cls := "QuireSigns", name := "type", desc := "(C)I" } : Jvm.MethodName) ∈ gw := gw_at 524 rfl rfl
set_option maxRecDepth 100000 in
theorem tw_525 : Jvm.Cond.selects "QuireSigns" ({ cls := "QuireSigns", name := "type", desc := "(C)I" } : Jvm.MethodName) ({ cls := "QuireSigns", name := "type", desc := "(C)I" } : Jvm.MethodName) ∈ gw := gw_at 525 rfl rfl
set_option maxRecDepth 100000 in
theorem tw_526 : Jvm.Cond.code ({ cls := "QuireSigns", name := "type", desc := "(C)I" } : Jvm.MethodName) prog_1_method_10_code (2 : Nat) (Option.some Jvm.ClassFile.FieldType.int) ∈ gw := gw_at 526 rfl rfl
set_option maxRecDepth 100000 in
theorem tw_527 : Jvm.Cond.methodLink "QuireSigns" (158 : Nat) ({ cls := "QuireSigns$Text", name := "length", desc := "()I" } : Jvm.MethodName) ∈ gw := gw_at 527 rfl rfl
set_option maxRecDepth 100000 in
theorem tw_528 : Jvm.Cond.instanceMethod ({ cls := "QuireSigns$Text", name := "length", desc := "()I" } : Jvm.MethodName) ∈ gw := gw_at 528 rfl rfl
set_option maxRecDepth 100000 in
theorem tw_529 : Jvm.Cond.selects "QuireSigns$Text" ({ cls := "QuireSigns$Text", name := "length", desc := "()I" } : Jvm.MethodName) ({ cls := "QuireSigns$Text", name := "length", desc := "()I" } : Jvm.MethodName) ∈ gw := gw_at 529 rfl rfl
set_option maxRecDepth 100000 in
theorem tw_530 : Jvm.Cond.code ({ cls := "QuireSigns$Text", name := "length", desc := "()I" } : Jvm.MethodName) prog_8_method_2_code (1 : Nat) (Option.some Jvm.ClassFile.FieldType.int) ∈ gw := gw_at 530 rfl rfl
set_option maxRecDepth 100000 in
theorem tw_531 : Jvm.Cond.methodLink "QuireSigns" (159 : Nat) ({ cls := "QuireSigns$Text", name := "add", desc := "(C)V" } : Jvm.MethodName) ∈ gw := gw_at 531 rfl rfl
set_option maxRecDepth 100000 in
theorem tw_532 : Jvm.Cond.instanceMethod ({ cls := "QuireSigns$Text", name := "add", desc := "(C)V" } : Jvm.MethodName) ∈ gw := gw_at 532 rfl rfl
set_option maxRecDepth 100000 in
theorem tw_533 : Jvm.Cond.selects "QuireSigns$Text" ({ cls := "QuireSigns$Text", name := "add", desc := "(C)V" } : Jvm.MethodName) ({ cls := "QuireSigns$Text", name := "add", desc := "(C)V" } : Jvm.MethodName) ∈ gw := gw_at 533 rfl rfl
set_option maxRecDepth 100000 in
theorem tw_534 : Jvm.Cond.code ({ cls := "QuireSigns$Text", name := "add", desc := "(C)V" } : Jvm.MethodName) prog_8_method_3_code (2 : Nat) (Option.none : Option Jvm.ClassFile.FieldType) ∈ gw := gw_at 534 rfl rfl
set_option maxRecDepth 100000 in
theorem tw_535 : Jvm.Cond.methodLink "QuireSignsLaw" (55 : Nat) ({ cls := "QuireSigns", name := "clearText", desc := "()I" } : Jvm.MethodName) ∈ gw := gw_at 535 rfl rfl
set_option maxRecDepth 100000 in
theorem tw_536 : Jvm.Cond.instanceMethod ({ cls := "QuireSigns", name := "clearText", desc := "()I" } : Jvm.MethodName) ∈ gw := gw_at 536 rfl rfl
set_option maxRecDepth 100000 in
theorem tw_537 : Jvm.Cond.selects "QuireSigns" ({ cls := "QuireSigns", name := "clearText", desc := "()I" } : Jvm.MethodName) ({ cls := "QuireSigns", name := "clearText", desc := "()I" } : Jvm.MethodName) ∈ gw := gw_at 537 rfl rfl
set_option maxRecDepth 100000 in
theorem tw_538 : Jvm.Cond.code ({ cls := "QuireSigns", name := "clearText", desc := "()I" } : Jvm.MethodName) prog_1_method_11_code (2 : Nat) (Option.some Jvm.ClassFile.FieldType.int) ∈ gw := gw_at 538 rfl rfl
set_option maxRecDepth 100000 in
theorem tw_539 : Jvm.Cond.methodLink "QuireSigns" (163 : Nat) ({ cls := "QuireSigns$Text", name := "empty", desc := "()V" } : Jvm.MethodName) ∈ gw := gw_at 539 rfl rfl
set_option maxRecDepth 100000 in
theorem tw_540 : Jvm.Cond.instanceMethod ({ cls := "QuireSigns$Text", name := "empty", desc := "()V" } : Jvm.MethodName) ∈ gw := gw_at 540 rfl rfl
set_option maxRecDepth 100000 in
theorem tw_541 : Jvm.Cond.selects "QuireSigns$Text" ({ cls := "QuireSigns$Text", name := "empty", desc := "()V" } : Jvm.MethodName) ({ cls := "QuireSigns$Text", name := "empty", desc := "()V" } : Jvm.MethodName) ∈ gw := gw_at 541 rfl rfl
set_option maxRecDepth 100000 in
theorem tw_542 : Jvm.Cond.code ({ cls := "QuireSigns$Text", name := "empty", desc := "()V" } : Jvm.MethodName) prog_8_method_4_code (1 : Nat) (Option.none : Option Jvm.ClassFile.FieldType) ∈ gw := gw_at 542 rfl rfl
set_option maxRecDepth 100000 in
theorem tw_543 : Jvm.Cond.methodLink "QuireSignsLaw" (59 : Nat) ({ cls := "QuireSigns", name := "undo", desc := "()I" } : Jvm.MethodName) ∈ gw := gw_at 543 rfl rfl
set_option maxRecDepth 100000 in
theorem tw_544 : Jvm.Cond.instanceMethod ({ cls := "QuireSigns", name := "undo", desc := "()I" } : Jvm.MethodName) ∈ gw := gw_at 544 rfl rfl
set_option maxRecDepth 100000 in
theorem tw_545 : Jvm.Cond.selects "QuireSigns" ({ cls := "QuireSigns", name := "undo", desc := "()I" } : Jvm.MethodName) ({ cls := "QuireSigns", name := "undo", desc := "()I" } : Jvm.MethodName) ∈ gw := gw_at 545 rfl rfl
set_option maxRecDepth 100000 in
theorem tw_546 : Jvm.Cond.code ({ cls := "QuireSigns", name := "undo", desc := "()I" } : Jvm.MethodName) prog_1_method_12_code (1 : Nat) (Option.some Jvm.ClassFile.FieldType.int) ∈ gw := gw_at 546 rfl rfl
set_option maxRecDepth 100000 in
theorem tw_547 : Jvm.Cond.methodLink "QuireSigns" (164 : Nat) ({ cls := "QuireSigns$History", name := "states", desc := "()I" } : Jvm.MethodName) ∈ gw := gw_at 547 rfl rfl
set_option maxRecDepth 100000 in
theorem tw_548 : Jvm.Cond.instanceMethod ({ cls := "QuireSigns$History", name := "states", desc := "()I" } : Jvm.MethodName) ∈ gw := gw_at 548 rfl rfl
set_option maxRecDepth 100000 in
theorem tw_549 : Jvm.Cond.selects "QuireSigns$History" ({ cls := "QuireSigns$History", name := "states", desc := "()I" } : Jvm.MethodName) ({ cls := "QuireSigns$History", name := "states", desc := "()I" } : Jvm.MethodName) ∈ gw := gw_at 549 rfl rfl
set_option maxRecDepth 100000 in
theorem tw_550 : Jvm.Cond.code ({ cls := "QuireSigns$History", name := "states", desc := "()I" } : Jvm.MethodName) prog_4_method_2_code (1 : Nat) (Option.some Jvm.ClassFile.FieldType.int) ∈ gw := gw_at 550 rfl rfl
set_option maxRecDepth 100000 in
theorem tw_551 : Jvm.Cond.methodLink "QuireSigns" (167 : Nat) ({ cls := "QuireSigns$History", name := "takeBack", desc := "(LQuireSigns$Book;)V" } : Jvm.MethodName) ∈ gw := gw_at 551 rfl rfl
set_option maxRecDepth 100000 in
theorem tw_552 : Jvm.Cond.instanceMethod ({ cls := "QuireSigns$History", name := "takeBack", desc := "(LQuireSigns$Book;)V" } : Jvm.MethodName) ∈ gw := gw_at 552 rfl rfl
set_option maxRecDepth 100000 in
theorem tw_553 : Jvm.Cond.selects "QuireSigns$History" ({ cls := "QuireSigns$History", name := "takeBack", desc := "(LQuireSigns$Book;)V" } : Jvm.MethodName) ({ cls := "QuireSigns$History", name := "takeBack", desc := "(LQuireSigns$Book;)V" } : Jvm.MethodName) ∈ gw := gw_at 553 rfl rfl
set_option maxRecDepth 100000 in
theorem tw_554 : Jvm.Cond.code ({ cls := "QuireSigns$History", name := "takeBack", desc := "(LQuireSigns$Book;)V" } : Jvm.MethodName) prog_4_method_4_code (3 : Nat) (Option.none : Option Jvm.ClassFile.FieldType) ∈ gw := gw_at 554 rfl rfl
set_option maxRecDepth 100000 in
theorem tw_555 : Jvm.Cond.methodLink "QuireSignsLaw" (63 : Nat) ({ cls := "QuireSigns", name := "keep", desc := "()I" } : Jvm.MethodName) ∈ gw := gw_at 555 rfl rfl
set_option maxRecDepth 100000 in
theorem tw_556 : Jvm.Cond.instanceMethod ({ cls := "QuireSigns", name := "keep", desc := "()I" } : Jvm.MethodName) ∈ gw := gw_at 556 rfl rfl
set_option maxRecDepth 100000 in
theorem tw_557 : Jvm.Cond.selects "QuireSigns" ({ cls := "QuireSigns", name := "keep", desc := "()I" } : Jvm.MethodName) ({ cls := "QuireSigns", name := "keep", desc := "()I" } : Jvm.MethodName) ∈ gw := gw_at 557 rfl rfl
set_option maxRecDepth 100000 in
theorem tw_558 : Jvm.Cond.code ({ cls := "QuireSigns", name := "keep", desc := "()I" } : Jvm.MethodName) prog_1_method_13_code (1 : Nat) (Option.some Jvm.ClassFile.FieldType.int) ∈ gw := gw_at 558 rfl rfl
set_option maxRecDepth 100000 in
theorem tw_559 : Jvm.Cond.methodLink "QuireSigns" (170 : Nat) ({ cls := "QuireSigns$Book", name := "become", desc := "(LQuireSigns$Book;)V" } : Jvm.MethodName) ∈ gw := gw_at 559 rfl rfl
set_option maxRecDepth 100000 in
theorem tw_560 : Jvm.Cond.methodLink "QuireSignsLaw" (67 : Nat) ({ cls := "QuireSigns", name := "restore", desc := "()I" } : Jvm.MethodName) ∈ gw := gw_at 560 rfl rfl
set_option maxRecDepth 100000 in
theorem tw_561 : Jvm.Cond.instanceMethod ({ cls := "QuireSigns", name := "restore", desc := "()I" } : Jvm.MethodName) ∈ gw := gw_at 561 rfl rfl
set_option maxRecDepth 100000 in
theorem tw_562 : Jvm.Cond.selects "QuireSigns" ({ cls := "QuireSigns", name := "restore", desc := "()I" } : Jvm.MethodName) ({ cls := "QuireSigns", name := "restore", desc := "()I" } : Jvm.MethodName) ∈ gw := gw_at 562 rfl rfl
set_option maxRecDepth 100000 in
theorem tw_563 : Jvm.Cond.code ({ cls := "QuireSigns", name := "restore", desc := "()I" } : Jvm.MethodName) prog_1_method_14_code (1 : Nat) (Option.some Jvm.ClassFile.FieldType.int) ∈ gw := gw_at 563 rfl rfl
set_option maxRecDepth 100000 in
theorem tw_564 : Jvm.Cond.methodLink "QuireSignsLaw" (71 : Nat) ({ cls := "QuireSigns", name := "quire", desc := "(II)I" } : Jvm.MethodName) ∈ gw := gw_at 564 rfl rfl
set_option maxRecDepth 100000 in
theorem tw_565 : Jvm.Cond.instanceMethod ({ cls := "QuireSigns", name := "quire", desc := "(II)I" } : Jvm.MethodName) ∈ gw := gw_at 565 rfl rfl
set_option maxRecDepth 100000 in
theorem tw_566 : Jvm.Cond.selects "QuireSigns" ({ cls := "QuireSigns", name := "quire", desc := "(II)I" } : Jvm.MethodName) ({ cls := "QuireSigns", name := "quire", desc := "(II)I" } : Jvm.MethodName) ∈ gw := gw_at 566 rfl rfl
set_option maxRecDepth 100000 in
theorem tw_567 : Jvm.Cond.code ({ cls := "QuireSigns", name := "quire", desc := "(II)I" } : Jvm.MethodName) prog_1_method_15_code (4 : Nat) (Option.some Jvm.ClassFile.FieldType.int) ∈ gw := gw_at 567 rfl rfl
set_option maxRecDepth 100000 in
theorem tw_568 : Jvm.Cond.methodLink "QuireSigns" (180 : Nat) ({ cls := "QuireSigns$Sign", name := "times", desc := "(I)I" } : Jvm.MethodName) ∈ gw := gw_at 568 rfl rfl
set_option maxRecDepth 100000 in
theorem tw_569 : Jvm.Cond.methodLink "QuireSigns" (183 : Nat) ({ cls := "QuireSigns$Sign", name := "isStarred", desc := "(I)Z" } : Jvm.MethodName) ∈ gw := gw_at 569 rfl rfl
set_option maxRecDepth 100000 in
theorem tw_570 : Jvm.Cond.methodLink "QuireSigns" (192 : Nat) ({ cls := "QuireSigns$Book", name := "firstLeaf", desc := "(I)I" } : Jvm.MethodName) ∈ gw := gw_at 570 rfl rfl
set_option maxRecDepth 100000 in
theorem tw_571 : Jvm.Cond.methodLink "QuireSigns" (195 : Nat) ({ cls := "QuireSigns$Book", name := "signedIn", desc := "(I)I" } : Jvm.MethodName) ∈ gw := gw_at 571 rfl rfl
set_option maxRecDepth 100000 in
theorem tw_572 : Jvm.Cond.methodLink "QuireSigns" (198 : Nat) ({ cls := "QuireSigns$Book", name := "thereIn", desc := "(I)I" } : Jvm.MethodName) ∈ gw := gw_at 572 rfl rfl
set_option maxRecDepth 100000 in
theorem tw_573 : Jvm.Cond.instanceMethod ({ cls := "QuireSigns$Book", name := "thereIn", desc := "(I)I" } : Jvm.MethodName) ∈ gw := gw_at 573 rfl rfl
set_option maxRecDepth 100000 in
theorem tw_574 : Jvm.Cond.selects "QuireSigns$Book" ({ cls := "QuireSigns$Book", name := "thereIn", desc := "(I)I" } : Jvm.MethodName) ({ cls := "QuireSigns$Book", name := "thereIn", desc := "(I)I" } : Jvm.MethodName) ∈ gw := gw_at 574 rfl rfl
set_option maxRecDepth 100000 in
theorem tw_575 : Jvm.Cond.code ({ cls := "QuireSigns$Book", name := "thereIn", desc := "(I)I" } : Jvm.MethodName) prog_3_method_19_code (2 : Nat) (Option.some Jvm.ClassFile.FieldType.int) ∈ gw := gw_at 575 rfl rfl
set_option maxRecDepth 100000 in
theorem tw_576 : Jvm.Cond.methodLink "QuireSigns" (201 : Nat) ({ cls := "QuireSigns$Book", name := "sameAhead", desc := "(I)I" } : Jvm.MethodName) ∈ gw := gw_at 576 rfl rfl
set_option maxRecDepth 100000 in
theorem tw_577 : Jvm.Cond.instanceMethod ({ cls := "QuireSigns$Book", name := "sameAhead", desc := "(I)I" } : Jvm.MethodName) ∈ gw := gw_at 577 rfl rfl
set_option maxRecDepth 100000 in
theorem tw_578 : Jvm.Cond.selects "QuireSigns$Book" ({ cls := "QuireSigns$Book", name := "sameAhead", desc := "(I)I" } : Jvm.MethodName) ({ cls := "QuireSigns$Book", name := "sameAhead", desc := "(I)I" } : Jvm.MethodName) ∈ gw := gw_at 578 rfl rfl
set_option maxRecDepth 100000 in
theorem tw_579 : Jvm.Cond.code ({ cls := "QuireSigns$Book", name := "sameAhead", desc := "(I)I" } : Jvm.MethodName) prog_3_method_8_code (4 : Nat) (Option.some Jvm.ClassFile.FieldType.int) ∈ gw := gw_at 579 rfl rfl
set_option maxRecDepth 100000 in
theorem tw_580 : Jvm.Cond.methodLink "QuireSignsLaw" (76 : Nat) ({ cls := "QuireSigns", name := "leaf", desc := "(II)I" } : Jvm.MethodName) ∈ gw := gw_at 580 rfl rfl
set_option maxRecDepth 100000 in
theorem tw_581 : Jvm.Cond.instanceMethod ({ cls := "QuireSigns", name := "leaf", desc := "(II)I" } : Jvm.MethodName) ∈ gw := gw_at 581 rfl rfl
set_option maxRecDepth 100000 in
theorem tw_582 : Jvm.Cond.selects "QuireSigns" ({ cls := "QuireSigns", name := "leaf", desc := "(II)I" } : Jvm.MethodName) ({ cls := "QuireSigns", name := "leaf", desc := "(II)I" } : Jvm.MethodName) ∈ gw := gw_at 582 rfl rfl
set_option maxRecDepth 100000 in
theorem tw_583 : Jvm.Cond.code ({ cls := "QuireSigns", name := "leaf", desc := "(II)I" } : Jvm.MethodName) prog_1_method_16_code (5 : Nat) (Option.some Jvm.ClassFile.FieldType.int) ∈ gw := gw_at 583 rfl rfl
set_option maxRecDepth 100000 in
theorem tw_584 : Jvm.Cond.methodLink "QuireSigns" (204 : Nat) ({ cls := "QuireSigns$Book", name := "quireOf", desc := "(I)I" } : Jvm.MethodName) ∈ gw := gw_at 584 rfl rfl
set_option maxRecDepth 100000 in
theorem tw_585 : Jvm.Cond.methodLink "QuireSigns" (207 : Nat) ({ cls := "QuireSigns$Book", name := "numberOf", desc := "(I)I" } : Jvm.MethodName) ∈ gw := gw_at 585 rfl rfl
set_option maxRecDepth 100000 in
theorem tw_586 : Jvm.Cond.methodLink "QuireSigns" (210 : Nat) ({ cls := "QuireSigns", name := "leafHangingWith", desc := "(I)I" } : Jvm.MethodName) ∈ gw := gw_at 586 rfl rfl
set_option maxRecDepth 100000 in
theorem tw_588 : Jvm.Cond.instanceMethod ({ cls := "QuireSigns", name := "leafHangingWith", desc := "(I)I" } : Jvm.MethodName) ∈ gw := gw_at 588 rfl rfl
set_option maxRecDepth 100000 in
theorem tw_589 : Jvm.Cond.code ({ cls := "QuireSigns", name := "leafHangingWith", desc := "(I)I" } : Jvm.MethodName) prog_1_method_28_code (5 : Nat) (Option.some Jvm.ClassFile.FieldType.int) ∈ gw := gw_at 589 rfl rfl
set_option maxRecDepth 100000 in
theorem tw_590 : Jvm.Cond.methodLink "QuireSigns" (213 : Nat) ({ cls := "QuireSigns$Book", name := "thereAhead", desc := "(I)I" } : Jvm.MethodName) ∈ gw := gw_at 590 rfl rfl
set_option maxRecDepth 100000 in
theorem tw_591 : Jvm.Cond.methodLink "QuireSignsLaw" (80 : Nat) ({ cls := "QuireSigns", name := "find", desc := "()I" } : Jvm.MethodName) ∈ gw := gw_at 591 rfl rfl
set_option maxRecDepth 100000 in
theorem tw_592 : Jvm.Cond.instanceMethod ({ cls := "QuireSigns", name := "find", desc := "()I" } : Jvm.MethodName) ∈ gw := gw_at 592 rfl rfl
set_option maxRecDepth 100000 in
theorem tw_593 : Jvm.Cond.selects "QuireSigns" ({ cls := "QuireSigns", name := "find", desc := "()I" } : Jvm.MethodName) ({ cls := "QuireSigns", name := "find", desc := "()I" } : Jvm.MethodName) ∈ gw := gw_at 593 rfl rfl
set_option maxRecDepth 100000 in
theorem tw_594 : Jvm.Cond.code ({ cls := "QuireSigns", name := "find", desc := "()I" } : Jvm.MethodName) prog_1_method_17_code (3 : Nat) (Option.some Jvm.ClassFile.FieldType.int) ∈ gw := gw_at 594 rfl rfl
set_option maxRecDepth 100000 in
theorem tw_595 : Jvm.Cond.methodLink "QuireSignsLaw" (84 : Nat) ({ cls := "QuireSigns", name := "lapse", desc := "(II)I" } : Jvm.MethodName) ∈ gw := gw_at 595 rfl rfl
set_option maxRecDepth 100000 in
theorem tw_596 : Jvm.Cond.instanceMethod ({ cls := "QuireSigns", name := "lapse", desc := "(II)I" } : Jvm.MethodName) ∈ gw := gw_at 596 rfl rfl
set_option maxRecDepth 100000 in
theorem tw_597 : Jvm.Cond.selects "QuireSigns" ({ cls := "QuireSigns", name := "lapse", desc := "(II)I" } : Jvm.MethodName) ({ cls := "QuireSigns", name := "lapse", desc := "(II)I" } : Jvm.MethodName) ∈ gw := gw_at 597 rfl rfl
set_option maxRecDepth 100000 in
theorem tw_598 : Jvm.Cond.code ({ cls := "QuireSigns", name := "lapse", desc := "(II)I" } : Jvm.MethodName) prog_1_method_18_code (4 : Nat) (Option.some Jvm.ClassFile.FieldType.int) ∈ gw := gw_at 598 rfl rfl
set_option maxRecDepth 100000 in
theorem tw_599 : Jvm.Cond.methodLink "QuireSigns" (226 : Nat) ({ cls := "QuireSigns$Lapses", name := "quireAt", desc := "(LQuireSigns$Book;I)I" } : Jvm.MethodName) ∈ gw := gw_at 599 rfl rfl
set_option maxRecDepth 100000 in
theorem tw_600 : Jvm.Cond.static ({ cls := "QuireSigns$Lapses", name := "quireAt", desc := "(LQuireSigns$Book;I)I" } : Jvm.MethodName) ∈ gw := gw_at 600 rfl rfl
set_option maxRecDepth 100000 in
theorem tw_601 : Jvm.Cond.code ({ cls := "QuireSigns$Lapses", name := "quireAt", desc := "(LQuireSigns$Book;I)I" } : Jvm.MethodName) prog_5_method_5_code (4 : Nat) (Option.some Jvm.ClassFile.FieldType.int) ∈ gw := gw_at 601 rfl rfl
set_option maxRecDepth 100000 in
theorem tw_602 : Jvm.Cond.methodLink "QuireSigns$Lapses" (47 : Nat) ({ cls := "QuireSigns$Book", name := "quires", desc := "()I" } : Jvm.MethodName) ∈ gw := gw_at 602 rfl rfl
set_option maxRecDepth 100000 in
theorem tw_603 : Jvm.Cond.methodLink "QuireSigns$Lapses" (39 : Nat) ({ cls := "QuireSigns$Lapses", name := "kind", desc := "(LQuireSigns$Book;I)I" } : Jvm.MethodName) ∈ gw := gw_at 603 rfl rfl
set_option maxRecDepth 100000 in
theorem tw_604 : Jvm.Cond.static ({ cls := "QuireSigns$Lapses", name := "kind", desc := "(LQuireSigns$Book;I)I" } : Jvm.MethodName) ∈ gw := gw_at 604 rfl rfl
set_option maxRecDepth 100000 in
theorem tw_605 : Jvm.Cond.code ({ cls := "QuireSigns$Lapses", name := "kind", desc := "(LQuireSigns$Book;I)I" } : Jvm.MethodName) prog_5_method_2_code (4 : Nat) (Option.some Jvm.ClassFile.FieldType.int) ∈ gw := gw_at 605 rfl rfl
set_option maxRecDepth 100000 in
theorem tw_606 : Jvm.Cond.methodLink "QuireSigns$Lapses" (13 : Nat) ({ cls := "QuireSigns$Row", name := "at", desc := "(I)I" } : Jvm.MethodName) ∈ gw := gw_at 606 rfl rfl
set_option maxRecDepth 100000 in
theorem tw_607 : Jvm.Cond.methodLink "QuireSigns$Lapses" (19 : Nat) ({ cls := "QuireSigns$Book", name := "lastLettersAhead", desc := "(I)I" } : Jvm.MethodName) ∈ gw := gw_at 607 rfl rfl
set_option maxRecDepth 100000 in
theorem tw_608 : Jvm.Cond.methodLink "QuireSigns$Lapses" (22 : Nat) ({ cls := "QuireSigns$Sign", name := "isStarred", desc := "(I)Z" } : Jvm.MethodName) ∈ gw := gw_at 608 rfl rfl
set_option maxRecDepth 100000 in
theorem tw_609 : Jvm.Cond.methodLink "QuireSigns$Lapses" (34 : Nat) ({ cls := "QuireSigns$Alphabet", name := "nextSign", desc := "(I)I" } : Jvm.MethodName) ∈ gw := gw_at 609 rfl rfl
set_option maxRecDepth 100000 in
theorem tw_610 : Jvm.Cond.methodLink "QuireSigns" (232 : Nat) ({ cls := "QuireSigns$Lapses", name := "kind", desc := "(LQuireSigns$Book;I)I" } : Jvm.MethodName) ∈ gw := gw_at 610 rfl rfl
set_option maxRecDepth 100000 in
theorem tw_611 : Jvm.Cond.methodLink "QuireSigns" (235 : Nat) ({ cls := "QuireSigns$Lapses", name := "width", desc := "(LQuireSigns$Book;I)I" } : Jvm.MethodName) ∈ gw := gw_at 611 rfl rfl
set_option maxRecDepth 100000 in
theorem tw_612 : Jvm.Cond.static ({ cls := "QuireSigns$Lapses", name := "width", desc := "(LQuireSigns$Book;I)I" } : Jvm.MethodName) ∈ gw := gw_at 612 rfl rfl
set_option maxRecDepth 100000 in
theorem tw_613 : Jvm.Cond.code ({ cls := "QuireSigns$Lapses", name := "width", desc := "(LQuireSigns$Book;I)I" } : Jvm.MethodName) prog_5_method_3_code (2 : Nat) (Option.some Jvm.ClassFile.FieldType.int) ∈ gw := gw_at 613 rfl rfl
set_option maxRecDepth 100000 in
theorem tw_614 : Jvm.Cond.methodLink "QuireSigns$Lapses" (43 : Nat) ({ cls := "QuireSigns$Alphabet", name := "signsBetween", desc := "(II)I" } : Jvm.MethodName) ∈ gw := gw_at 614 rfl rfl
set_option maxRecDepth 100000 in
theorem tw_615 : Jvm.Cond.methodLink "QuireSignsLaw" (88 : Nat) ({ cls := "QuireSigns", name := "piled", desc := "(II)I" } : Jvm.MethodName) ∈ gw := gw_at 615 rfl rfl
set_option maxRecDepth 100000 in
theorem tw_616 : Jvm.Cond.instanceMethod ({ cls := "QuireSigns", name := "piled", desc := "(II)I" } : Jvm.MethodName) ∈ gw := gw_at 616 rfl rfl
set_option maxRecDepth 100000 in
theorem tw_617 : Jvm.Cond.selects "QuireSigns" ({ cls := "QuireSigns", name := "piled", desc := "(II)I" } : Jvm.MethodName) ({ cls := "QuireSigns", name := "piled", desc := "(II)I" } : Jvm.MethodName) ∈ gw := gw_at 617 rfl rfl
set_option maxRecDepth 100000 in
theorem tw_618 : Jvm.Cond.code ({ cls := "QuireSigns", name := "piled", desc := "(II)I" } : Jvm.MethodName) prog_1_method_19_code (4 : Nat) (Option.some Jvm.ClassFile.FieldType.int) ∈ gw := gw_at 618 rfl rfl
set_option maxRecDepth 100000 in
theorem tw_619 : Jvm.Cond.methodLink "QuireSignsLaw" (92 : Nat) ({ cls := "QuireSigns", name := "sheets", desc := "(I)I" } : Jvm.MethodName) ∈ gw := gw_at 619 rfl rfl
set_option maxRecDepth 100000 in
theorem tw_620 : Jvm.Cond.instanceMethod ({ cls := "QuireSigns", name := "sheets", desc := "(I)I" } : Jvm.MethodName) ∈ gw := gw_at 620 rfl rfl
set_option maxRecDepth 100000 in
theorem tw_621 : Jvm.Cond.selects "QuireSigns" ({ cls := "QuireSigns", name := "sheets", desc := "(I)I" } : Jvm.MethodName) ({ cls := "QuireSigns", name := "sheets", desc := "(I)I" } : Jvm.MethodName) ∈ gw := gw_at 621 rfl rfl
set_option maxRecDepth 100000 in
theorem tw_622 : Jvm.Cond.code ({ cls := "QuireSigns", name := "sheets", desc := "(I)I" } : Jvm.MethodName) prog_1_method_20_code (4 : Nat) (Option.some Jvm.ClassFile.FieldType.int) ∈ gw := gw_at 622 rfl rfl
set_option maxRecDepth 100000 in
theorem tw_623 : Jvm.Cond.methodLink "QuireSignsLaw" (96 : Nat) ({ cls := "QuireSigns", name := "formula", desc := "(I)I" } : Jvm.MethodName) ∈ gw := gw_at 623 rfl rfl
set_option maxRecDepth 100000 in
theorem tw_624 : Jvm.Cond.instanceMethod ({ cls := "QuireSigns", name := "formula", desc := "(I)I" } : Jvm.MethodName) ∈ gw := gw_at 624 rfl rfl
set_option maxRecDepth 100000 in
theorem tw_625 : Jvm.Cond.selects "QuireSigns" ({ cls := "QuireSigns", name := "formula", desc := "(I)I" } : Jvm.MethodName) ({ cls := "QuireSigns", name := "formula", desc := "(I)I" } : Jvm.MethodName) ∈ gw := gw_at 625 rfl rfl
set_option maxRecDepth 100000 in
theorem tw_626 : Jvm.Cond.code ({ cls := "QuireSigns", name := "formula", desc := "(I)I" } : Jvm.MethodName) prog_1_method_21_code (2 : Nat) (Option.some Jvm.ClassFile.FieldType.int) ∈ gw := gw_at 626 rfl rfl
set_option maxRecDepth 100000 in
theorem tw_627 : Jvm.Cond.methodLink "QuireSigns" (238 : Nat) ({ cls := "QuireSigns$Writer", name := "write", desc := "(LQuireSigns$Book;)V" } : Jvm.MethodName) ∈ gw := gw_at 627 rfl rfl
set_option maxRecDepth 100000 in
theorem tw_628 : Jvm.Cond.instanceMethod ({ cls := "QuireSigns$Writer", name := "write", desc := "(LQuireSigns$Book;)V" } : Jvm.MethodName) ∈ gw := gw_at 628 rfl rfl
set_option maxRecDepth 100000 in
theorem tw_629 : Jvm.Cond.selects "QuireSigns$Writer" ({ cls := "QuireSigns$Writer", name := "write", desc := "(LQuireSigns$Book;)V" } : Jvm.MethodName) ({ cls := "QuireSigns$Writer", name := "write", desc := "(LQuireSigns$Book;)V" } : Jvm.MethodName) ∈ gw := gw_at 629 rfl rfl
set_option maxRecDepth 100000 in
theorem tw_630 : Jvm.Cond.code ({ cls := "QuireSigns$Writer", name := "write", desc := "(LQuireSigns$Book;)V" } : Jvm.MethodName) prog_9_method_5_code (4 : Nat) (Option.none : Option Jvm.ClassFile.FieldType) ∈ gw := gw_at 630 rfl rfl
set_option maxRecDepth 100000 in
theorem tw_631 : Jvm.Cond.methodLink "QuireSigns$Writer" (32 : Nat) ({ cls := "QuireSigns$Row", name := "empty", desc := "()V" } : Jvm.MethodName) ∈ gw := gw_at 631 rfl rfl
set_option maxRecDepth 100000 in
theorem tw_632 : Jvm.Cond.methodLink "QuireSigns$Writer" (35 : Nat) ({ cls := "QuireSigns$Book", name := "quires", desc := "()I" } : Jvm.MethodName) ∈ gw := gw_at 632 rfl rfl
set_option maxRecDepth 100000 in
theorem tw_633 : Jvm.Cond.methodLink "QuireSigns$Writer" (40 : Nat) ({ cls := "QuireSigns$Writer", name := "goesOn", desc := "(LQuireSigns$Book;I)Z" } : Jvm.MethodName) ∈ gw := gw_at 633 rfl rfl
set_option maxRecDepth 100000 in
theorem tw_634 : Jvm.Cond.static ({ cls := "QuireSigns$Writer", name := "goesOn", desc := "(LQuireSigns$Book;I)Z" } : Jvm.MethodName) ∈ gw := gw_at 634 rfl rfl
set_option maxRecDepth 100000 in
theorem tw_635 : Jvm.Cond.code ({ cls := "QuireSigns$Writer", name := "goesOn", desc := "(LQuireSigns$Book;I)Z" } : Jvm.MethodName) prog_9_method_6_code (4 : Nat) (Option.some Jvm.ClassFile.FieldType.boolean) ∈ gw := gw_at 635 rfl rfl
set_option maxRecDepth 100000 in
theorem tw_636 : Jvm.Cond.methodLink "QuireSigns$Writer" (24 : Nat) ({ cls := "QuireSigns$Row", name := "at", desc := "(I)I" } : Jvm.MethodName) ∈ gw := gw_at 636 rfl rfl
set_option maxRecDepth 100000 in
theorem tw_637 : Jvm.Cond.methodLink "QuireSigns$Writer" (66 : Nat) ({ cls := "QuireSigns$Alphabet", name := "nextSign", desc := "(I)I" } : Jvm.MethodName) ∈ gw := gw_at 637 rfl rfl
set_option maxRecDepth 100000 in
theorem tw_638 : Jvm.Cond.methodLink "QuireSigns$Writer" (71 : Nat) ({ cls := "QuireSigns$Sign", name := "times", desc := "(I)I" } : Jvm.MethodName) ∈ gw := gw_at 638 rfl rfl
set_option maxRecDepth 100000 in
theorem tw_639 : Jvm.Cond.methodLink "QuireSigns$Writer" (47 : Nat) ({ cls := "QuireSigns$Writer", name := "beginEntry", desc := "(I)V" } : Jvm.MethodName) ∈ gw := gw_at 639 rfl rfl
set_option maxRecDepth 100000 in
theorem tw_641 : Jvm.Cond.instanceMethod ({ cls := "QuireSigns$Writer", name := "beginEntry", desc := "(I)V" } : Jvm.MethodName) ∈ gw := gw_at 641 rfl rfl
set_option maxRecDepth 100000 in
theorem tw_642 : Jvm.Cond.code ({ cls := "QuireSigns$Writer", name := "beginEntry", desc := "(I)V" } : Jvm.MethodName) prog_9_method_7_code (2 : Nat) (Option.none : Option Jvm.ClassFile.FieldType) ∈ gw := gw_at 642 rfl rfl
set_option maxRecDepth 100000 in
theorem tw_643 : Jvm.Cond.methodLink "QuireSigns$Writer" (50 : Nat) ({ cls := "QuireSigns$Row", name := "add", desc := "(I)V" } : Jvm.MethodName) ∈ gw := gw_at 643 rfl rfl
set_option maxRecDepth 100000 in
theorem tw_644 : Jvm.Cond.methodLink "QuireSigns$Writer" (53 : Nat) ({ cls := "QuireSigns$Writer", name := "writeSign", desc := "(I)V" } : Jvm.MethodName) ∈ gw := gw_at 644 rfl rfl
set_option maxRecDepth 100000 in
theorem tw_646 : Jvm.Cond.instanceMethod ({ cls := "QuireSigns$Writer", name := "writeSign", desc := "(I)V" } : Jvm.MethodName) ∈ gw := gw_at 646 rfl rfl
set_option maxRecDepth 100000 in
theorem tw_647 : Jvm.Cond.code ({ cls := "QuireSigns$Writer", name := "writeSign", desc := "(I)V" } : Jvm.MethodName) prog_9_method_8_code (4 : Nat) (Option.none : Option Jvm.ClassFile.FieldType) ∈ gw := gw_at 647 rfl rfl
set_option maxRecDepth 100000 in
theorem tw_648 : Jvm.Cond.methodLink "QuireSigns$Writer" (76 : Nat) ({ cls := "QuireSigns$Sign", name := "isStarred", desc := "(I)Z" } : Jvm.MethodName) ∈ gw := gw_at 648 rfl rfl
set_option maxRecDepth 100000 in
theorem tw_649 : Jvm.Cond.methodLink "QuireSigns$Writer" (80 : Nat) ({ cls := "QuireSigns$Sign", name := "letter", desc := "(I)I" } : Jvm.MethodName) ∈ gw := gw_at 649 rfl rfl
set_option maxRecDepth 100000 in
theorem tw_650 : Jvm.Cond.methodLink "QuireSigns$Writer" (59 : Nat) ({ cls := "QuireSigns$Writer", name := "writeNumber", desc := "(I)V" } : Jvm.MethodName) ∈ gw := gw_at 650 rfl rfl
set_option maxRecDepth 100000 in
theorem tw_652 : Jvm.Cond.instanceMethod ({ cls := "QuireSigns$Writer", name := "writeNumber", desc := "(I)V" } : Jvm.MethodName) ∈ gw := gw_at 652 rfl rfl
set_option maxRecDepth 100000 in
theorem tw_653 : Jvm.Cond.code ({ cls := "QuireSigns$Writer", name := "writeNumber", desc := "(I)V" } : Jvm.MethodName) prog_9_method_9_code (2 : Nat) (Option.none : Option Jvm.ClassFile.FieldType) ∈ gw := gw_at 653 rfl rfl
set_option maxRecDepth 100000 in
theorem tw_654 : Jvm.Cond.methodLink "QuireSigns" (241 : Nat) ({ cls := "QuireSigns$Writer", name := "length", desc := "()I" } : Jvm.MethodName) ∈ gw := gw_at 654 rfl rfl
set_option maxRecDepth 100000 in
theorem tw_655 : Jvm.Cond.instanceMethod ({ cls := "QuireSigns$Writer", name := "length", desc := "()I" } : Jvm.MethodName) ∈ gw := gw_at 655 rfl rfl
set_option maxRecDepth 100000 in
theorem tw_656 : Jvm.Cond.selects "QuireSigns$Writer" ({ cls := "QuireSigns$Writer", name := "length", desc := "()I" } : Jvm.MethodName) ({ cls := "QuireSigns$Writer", name := "length", desc := "()I" } : Jvm.MethodName) ∈ gw := gw_at 656 rfl rfl
set_option maxRecDepth 100000 in
theorem tw_657 : Jvm.Cond.code ({ cls := "QuireSigns$Writer", name := "length", desc := "()I" } : Jvm.MethodName) prog_9_method_2_code (1 : Nat) (Option.some Jvm.ClassFile.FieldType.int) ∈ gw := gw_at 657 rfl rfl
set_option maxRecDepth 100000 in
theorem tw_658 : Jvm.Cond.methodLink "QuireSigns$Writer" (20 : Nat) ({ cls := "QuireSigns$Row", name := "length", desc := "()I" } : Jvm.MethodName) ∈ gw := gw_at 658 rfl rfl
set_option maxRecDepth 100000 in
theorem tw_659 : Jvm.Cond.methodLink "QuireSigns" (242 : Nat) ({ cls := "QuireSigns$Writer", name := "characterAt", desc := "(I)I" } : Jvm.MethodName) ∈ gw := gw_at 659 rfl rfl
set_option maxRecDepth 100000 in
theorem tw_660 : Jvm.Cond.instanceMethod ({ cls := "QuireSigns$Writer", name := "characterAt", desc := "(I)I" } : Jvm.MethodName) ∈ gw := gw_at 660 rfl rfl
set_option maxRecDepth 100000 in
theorem tw_661 : Jvm.Cond.selects "QuireSigns$Writer" ({ cls := "QuireSigns$Writer", name := "characterAt", desc := "(I)I" } : Jvm.MethodName) ({ cls := "QuireSigns$Writer", name := "characterAt", desc := "(I)I" } : Jvm.MethodName) ∈ gw := gw_at 661 rfl rfl
set_option maxRecDepth 100000 in
theorem tw_662 : Jvm.Cond.code ({ cls := "QuireSigns$Writer", name := "characterAt", desc := "(I)I" } : Jvm.MethodName) prog_9_method_3_code (2 : Nat) (Option.some Jvm.ClassFile.FieldType.int) ∈ gw := gw_at 662 rfl rfl
set_option maxRecDepth 100000 in
theorem tw_663 : Jvm.Cond.methodLink "QuireSignsLaw" (100 : Nat) ({ cls := "QuireSigns", name := "count", desc := "(I)I" } : Jvm.MethodName) ∈ gw := gw_at 663 rfl rfl
set_option maxRecDepth 100000 in
theorem tw_664 : Jvm.Cond.instanceMethod ({ cls := "QuireSigns", name := "count", desc := "(I)I" } : Jvm.MethodName) ∈ gw := gw_at 664 rfl rfl
set_option maxRecDepth 100000 in
theorem tw_665 : Jvm.Cond.selects "QuireSigns" ({ cls := "QuireSigns", name := "count", desc := "(I)I" } : Jvm.MethodName) ({ cls := "QuireSigns", name := "count", desc := "(I)I" } : Jvm.MethodName) ∈ gw := gw_at 665 rfl rfl
set_option maxRecDepth 100000 in
theorem tw_666 : Jvm.Cond.code ({ cls := "QuireSigns", name := "count", desc := "(I)I" } : Jvm.MethodName) prog_1_method_22_code (2 : Nat) (Option.some Jvm.ClassFile.FieldType.int) ∈ gw := gw_at 666 rfl rfl
set_option maxRecDepth 100000 in
theorem tw_667 : Jvm.Cond.methodLink "QuireSigns" (245 : Nat) ({ cls := "QuireSigns$Book", name := "starredQuires", desc := "()I" } : Jvm.MethodName) ∈ gw := gw_at 667 rfl rfl
set_option maxRecDepth 100000 in
theorem tw_668 : Jvm.Cond.instanceMethod ({ cls := "QuireSigns$Book", name := "starredQuires", desc := "()I" } : Jvm.MethodName) ∈ gw := gw_at 668 rfl rfl
set_option maxRecDepth 100000 in
theorem tw_669 : Jvm.Cond.selects "QuireSigns$Book" ({ cls := "QuireSigns$Book", name := "starredQuires", desc := "()I" } : Jvm.MethodName) ({ cls := "QuireSigns$Book", name := "starredQuires", desc := "()I" } : Jvm.MethodName) ∈ gw := gw_at 669 rfl rfl
set_option maxRecDepth 100000 in
theorem tw_670 : Jvm.Cond.code ({ cls := "QuireSigns$Book", name := "starredQuires", desc := "()I" } : Jvm.MethodName) prog_3_method_7_code (3 : Nat) (Option.some Jvm.ClassFile.FieldType.int) ∈ gw := gw_at 670 rfl rfl
set_option maxRecDepth 100000 in
theorem tw_671 : Jvm.Cond.methodLink "QuireSigns" (248 : Nat) ({ cls := "QuireSigns$Lapses", name := "number", desc := "(LQuireSigns$Book;)I" } : Jvm.MethodName) ∈ gw := gw_at 671 rfl rfl
set_option maxRecDepth 100000 in
theorem tw_672 : Jvm.Cond.static ({ cls := "QuireSigns$Lapses", name := "number", desc := "(LQuireSigns$Book;)I" } : Jvm.MethodName) ∈ gw := gw_at 672 rfl rfl
set_option maxRecDepth 100000 in
theorem tw_673 : Jvm.Cond.code ({ cls := "QuireSigns$Lapses", name := "number", desc := "(LQuireSigns$Book;)I" } : Jvm.MethodName) prog_5_method_4_code (3 : Nat) (Option.some Jvm.ClassFile.FieldType.int) ∈ gw := gw_at 673 rfl rfl
set_option maxRecDepth 100000 in
theorem tw_674 : Jvm.Cond.methodLink "QuireSigns" (251 : Nat) ({ cls := "QuireSigns$Writer", name := "entries", desc := "()I" } : Jvm.MethodName) ∈ gw := gw_at 674 rfl rfl
set_option maxRecDepth 100000 in
theorem tw_675 : Jvm.Cond.instanceMethod ({ cls := "QuireSigns$Writer", name := "entries", desc := "()I" } : Jvm.MethodName) ∈ gw := gw_at 675 rfl rfl
set_option maxRecDepth 100000 in
theorem tw_676 : Jvm.Cond.selects "QuireSigns$Writer" ({ cls := "QuireSigns$Writer", name := "entries", desc := "()I" } : Jvm.MethodName) ({ cls := "QuireSigns$Writer", name := "entries", desc := "()I" } : Jvm.MethodName) ∈ gw := gw_at 676 rfl rfl
set_option maxRecDepth 100000 in
theorem tw_677 : Jvm.Cond.code ({ cls := "QuireSigns$Writer", name := "entries", desc := "()I" } : Jvm.MethodName) prog_9_method_4_code (1 : Nat) (Option.some Jvm.ClassFile.FieldType.int) ∈ gw := gw_at 677 rfl rfl
set_option maxRecDepth 100000 in
theorem tw_678 : Jvm.Cond.classLink "QuireSignsLaw" (10 : Nat) "QuireSignsModel" ∈ gw := gw_at 678 rfl rfl
set_option maxRecDepth 100000 in
theorem tw_679 : Jvm.Cond.instantiable "QuireSignsModel" (14 : Nat) ∈ gw := gw_at 679 rfl rfl
set_option maxRecDepth 100000 in
theorem tw_680 : Jvm.Cond.methodLink "QuireSignsLaw" (12 : Nat) ({ cls := "QuireSignsModel", name := "<init>", desc := "()V" } : Jvm.MethodName) ∈ gw := gw_at 680 rfl rfl
set_option maxRecDepth 100000 in
theorem tw_681 : Jvm.Cond.instanceMethod ({ cls := "QuireSignsModel", name := "<init>", desc := "()V" } : Jvm.MethodName) ∈ gw := gw_at 681 rfl rfl
set_option maxRecDepth 100000 in
theorem tw_682 : Jvm.Cond.code ({ cls := "QuireSignsModel", name := "<init>", desc := "()V" } : Jvm.MethodName) prog_11_method_1_code (1 : Nat) (Option.none : Option Jvm.ClassFile.FieldType) ∈ gw := gw_at 682 rfl rfl
set_option maxRecDepth 100000 in
theorem tw_683 : Jvm.Cond.methodLink "QuireSignsModel" (1 : Nat) ({ cls := "java/lang/Object", name := "<init>", desc := "()V" } : Jvm.MethodName) ∈ gw := gw_at 683 rfl rfl
set_option maxRecDepth 100000 in
theorem tw_684 : Jvm.Cond.constant "QuireSignsModel" (23 : Nat) (6291968 : Int32) ∈ gw := gw_at 684 rfl rfl
set_option maxRecDepth 100000 in
theorem tw_685 : Jvm.Cond.fieldLink "QuireSignsModel" (7 : Nat) "QuireSignsModel" "s" "[I" ∈ gw := gw_at 685 rfl rfl
set_option maxRecDepth 100000 in
theorem tw_686 : Jvm.Cond.fieldLink "QuireSignsModel" (24 : Nat) "QuireSignsModel" "states" "I" ∈ gw := gw_at 686 rfl rfl
set_option maxRecDepth 100000 in
theorem tw_687 : Jvm.Cond.fieldLink "QuireSignsModel" (135 : Nat) "QuireSignsModel" "isKept" "Z" ∈ gw := gw_at 687 rfl rfl
set_option maxRecDepth 100000 in
theorem tw_688 : Jvm.Cond.fieldLink "QuireSignsModel" (13 : Nat) "QuireSignsModel" "text" "[C" ∈ gw := gw_at 688 rfl rfl
set_option maxRecDepth 100000 in
theorem tw_689 : Jvm.Cond.fieldLink "QuireSignsModel" (77 : Nat) "QuireSignsModel" "typed" "I" ∈ gw := gw_at 689 rfl rfl
set_option maxRecDepth 100000 in
theorem tw_690 : Jvm.Cond.fieldLink "QuireSignsModel" (74 : Nat) "QuireSignsModel" "at" "I" ∈ gw := gw_at 690 rfl rfl
set_option maxRecDepth 100000 in
theorem tw_691 : Jvm.Cond.fieldLink "QuireSignsModel" (70 : Nat) "QuireSignsModel" "isRight" "Z" ∈ gw := gw_at 691 rfl rfl
set_option maxRecDepth 100000 in
theorem tw_692 : Jvm.Cond.fieldLink "QuireSignsModel" (80 : Nat) "QuireSignsModel" "times" "I" ∈ gw := gw_at 692 rfl rfl
set_option maxRecDepth 100000 in
theorem tw_693 : Jvm.Cond.fieldLink "QuireSignsModel" (83 : Nat) "QuireSignsModel" "letter" "I" ∈ gw := gw_at 693 rfl rfl
set_option maxRecDepth 100000 in
theorem tw_694 : Jvm.Cond.fieldLink "QuireSignsModel" (17 : Nat) "QuireSignsModel" "told" "[I" ∈ gw := gw_at 694 rfl rfl
set_option maxRecDepth 100000 in
theorem tw_695 : Jvm.Cond.fieldLink "QuireSignsModel" (94 : Nat) "QuireSignsModel" "items" "I" ∈ gw := gw_at 695 rfl rfl
set_option maxRecDepth 100000 in
theorem tw_696 : Jvm.Cond.fieldLink "QuireSignsModel" (20 : Nat) "QuireSignsModel" "formula" "[C" ∈ gw := gw_at 696 rfl rfl
set_option maxRecDepth 100000 in
theorem tw_697 : Jvm.Cond.fieldLink "QuireSignsModel" (159 : Nat) "QuireSignsModel" "length" "I" ∈ gw := gw_at 697 rfl rfl
set_option maxRecDepth 100000 in
theorem tw_698 : Jvm.Cond.fieldLink "QuireSignsModel" (166 : Nat) "QuireSignsModel" "entries" "I" ∈ gw := gw_at 698 rfl rfl
set_option maxRecDepth 100000 in
theorem tw_699 : Jvm.Cond.laysFinal "QuireSignsModel" "QuireSignsModel" "s" "[I" ∈ gw := gw_at 699 rfl rfl
set_option maxRecDepth 100000 in
theorem tw_701 : Jvm.Cond.lays "QuireSignsModel" "QuireSignsModel" "states" "I" ∈ gw := gw_at 701 rfl rfl
set_option maxRecDepth 100000 in
theorem tw_703 : Jvm.Cond.lays "QuireSignsModel" "QuireSignsModel" "isKept" "Z" ∈ gw := gw_at 703 rfl rfl
set_option maxRecDepth 100000 in
theorem tw_705 : Jvm.Cond.laysFinal "QuireSignsModel" "QuireSignsModel" "text" "[C" ∈ gw := gw_at 705 rfl rfl
set_option maxRecDepth 100000 in
theorem tw_707 : Jvm.Cond.lays "QuireSignsModel" "QuireSignsModel" "typed" "I" ∈ gw := gw_at 707 rfl rfl
set_option maxRecDepth 100000 in
theorem tw_709 : Jvm.Cond.lays "QuireSignsModel" "QuireSignsModel" "at" "I" ∈ gw := gw_at 709 rfl rfl
set_option maxRecDepth 100000 in
theorem tw_711 : Jvm.Cond.lays "QuireSignsModel" "QuireSignsModel" "isRight" "Z" ∈ gw := gw_at 711 rfl rfl
set_option maxRecDepth 100000 in
theorem tw_713 : Jvm.Cond.lays "QuireSignsModel" "QuireSignsModel" "times" "I" ∈ gw := gw_at 713 rfl rfl
set_option maxRecDepth 100000 in
theorem tw_715 : Jvm.Cond.lays "QuireSignsModel" "QuireSignsModel" "letter" "I" ∈ gw := gw_at 715 rfl rfl
set_option maxRecDepth 100000 in
theorem tw_717 : Jvm.Cond.laysFinal "QuireSignsModel" "QuireSignsModel" "told" "[I" ∈ gw := gw_at 717 rfl rfl
set_option maxRecDepth 100000 in
theorem tw_719 : Jvm.Cond.lays "QuireSignsModel" "QuireSignsModel" "items" "I" ∈ gw := gw_at 719 rfl rfl
set_option maxRecDepth 100000 in
theorem tw_721 : Jvm.Cond.laysFinal "QuireSignsModel" "QuireSignsModel" "formula" "[C" ∈ gw := gw_at 721 rfl rfl
set_option maxRecDepth 100000 in
theorem tw_723 : Jvm.Cond.lays "QuireSignsModel" "QuireSignsModel" "length" "I" ∈ gw := gw_at 723 rfl rfl
set_option maxRecDepth 100000 in
theorem tw_725 : Jvm.Cond.lays "QuireSignsModel" "QuireSignsModel" "entries" "I" ∈ gw := gw_at 725 rfl rfl
set_option maxRecDepth 100000 in
theorem tw_728 : Jvm.Cond.arrayClass Jvm.ClassFile.FieldType.char ∈ gw := gw_at 728 rfl rfl
set_option maxRecDepth 100000 in
theorem tw_729 : Jvm.Cond.methodLink "QuireSignsLaw" (17 : Nat) ({ cls := "QuireSignsModel", name := "leaveOut", desc := "(CZ)I" } : Jvm.MethodName) ∈ gw := gw_at 729 rfl rfl
set_option maxRecDepth 100000 in
theorem tw_730 : Jvm.Cond.instanceMethod ({ cls := "QuireSignsModel", name := "leaveOut", desc := "(CZ)I" } : Jvm.MethodName) ∈ gw := gw_at 730 rfl rfl
set_option maxRecDepth 100000 in
theorem tw_731 : Jvm.Cond.selects "QuireSignsModel" ({ cls := "QuireSignsModel", name := "leaveOut", desc := "(CZ)I" } : Jvm.MethodName) ({ cls := "QuireSignsModel", name := "leaveOut", desc := "(CZ)I" } : Jvm.MethodName) ∈ gw := gw_at 731 rfl rfl
set_option maxRecDepth 100000 in
theorem tw_732 : Jvm.Cond.code ({ cls := "QuireSignsModel", name := "leaveOut", desc := "(CZ)I" } : Jvm.MethodName) prog_11_method_23_code (3 : Nat) (Option.some Jvm.ClassFile.FieldType.int) ∈ gw := gw_at 732 rfl rfl
set_option maxRecDepth 100000 in
theorem tw_733 : Jvm.Cond.methodLink "QuireSignsModel" (40 : Nat) ({ cls := "QuireSignsModel", name := "in", desc := "(III)Z" } : Jvm.MethodName) ∈ gw := gw_at 733 rfl rfl
set_option maxRecDepth 100000 in
theorem tw_734 : Jvm.Cond.static ({ cls := "QuireSignsModel", name := "in", desc := "(III)Z" } : Jvm.MethodName) ∈ gw := gw_at 734 rfl rfl
set_option maxRecDepth 100000 in
theorem tw_735 : Jvm.Cond.code ({ cls := "QuireSignsModel", name := "in", desc := "(III)Z" } : Jvm.MethodName) prog_11_method_2_code (3 : Nat) (Option.some Jvm.ClassFile.FieldType.boolean) ∈ gw := gw_at 735 rfl rfl
set_option maxRecDepth 100000 in
theorem tw_736 : Jvm.Cond.methodLink "QuireSignsModel" (32 : Nat) ({ cls := "QuireSignsModel", name := "isOut", desc := "(I)Z" } : Jvm.MethodName) ∈ gw := gw_at 736 rfl rfl
set_option maxRecDepth 100000 in
theorem tw_738 : Jvm.Cond.instanceMethod ({ cls := "QuireSignsModel", name := "isOut", desc := "(I)Z" } : Jvm.MethodName) ∈ gw := gw_at 738 rfl rfl
set_option maxRecDepth 100000 in
theorem tw_739 : Jvm.Cond.code ({ cls := "QuireSignsModel", name := "isOut", desc := "(I)Z" } : Jvm.MethodName) prog_11_method_5_code (2 : Nat) (Option.some Jvm.ClassFile.FieldType.boolean) ∈ gw := gw_at 739 rfl rfl
set_option maxRecDepth 100000 in
theorem tw_740 : Jvm.Cond.methodLink "QuireSignsModel" (61 : Nat) ({ cls := "QuireSignsModel", name := "letters", desc := "()I" } : Jvm.MethodName) ∈ gw := gw_at 740 rfl rfl
set_option maxRecDepth 100000 in
theorem tw_742 : Jvm.Cond.instanceMethod ({ cls := "QuireSignsModel", name := "letters", desc := "()I" } : Jvm.MethodName) ∈ gw := gw_at 742 rfl rfl
set_option maxRecDepth 100000 in
theorem tw_743 : Jvm.Cond.code ({ cls := "QuireSignsModel", name := "letters", desc := "()I" } : Jvm.MethodName) prog_11_method_6_code (3 : Nat) (Option.some Jvm.ClassFile.FieldType.int) ∈ gw := gw_at 743 rfl rfl
set_option maxRecDepth 100000 in
theorem tw_744 : Jvm.Cond.methodLink "QuireSignsModel" (64 : Nat) ({ cls := "QuireSignsModel", name := "records", desc := "()V" } : Jvm.MethodName) ∈ gw := gw_at 744 rfl rfl
set_option maxRecDepth 100000 in
theorem tw_746 : Jvm.Cond.instanceMethod ({ cls := "QuireSignsModel", name := "records", desc := "()V" } : Jvm.MethodName) ∈ gw := gw_at 746 rfl rfl
set_option maxRecDepth 100000 in
theorem tw_747 : Jvm.Cond.code ({ cls := "QuireSignsModel", name := "records", desc := "()V" } : Jvm.MethodName) prog_11_method_4_code (2 : Nat) (Option.none : Option Jvm.ClassFile.FieldType) ∈ gw := gw_at 747 rfl rfl
set_option maxRecDepth 100000 in
theorem tw_748 : Jvm.Cond.methodLink "QuireSignsModel" (28 : Nat) ({ cls := "QuireSignsModel", name := "copies", desc := "(II)V" } : Jvm.MethodName) ∈ gw := gw_at 748 rfl rfl
set_option maxRecDepth 100000 in
theorem tw_750 : Jvm.Cond.instanceMethod ({ cls := "QuireSignsModel", name := "copies", desc := "(II)V" } : Jvm.MethodName) ∈ gw := gw_at 750 rfl rfl
set_option maxRecDepth 100000 in
theorem tw_751 : Jvm.Cond.code ({ cls := "QuireSignsModel", name := "copies", desc := "(II)V" } : Jvm.MethodName) prog_11_method_3_code (4 : Nat) (Option.none : Option Jvm.ClassFile.FieldType) ∈ gw := gw_at 751 rfl rfl
set_option maxRecDepth 100000 in
theorem tw_752 : Jvm.Cond.methodLink "QuireSignsLaw" (22 : Nat) ({ cls := "QuireSignsModel", name := "setSigning", desc := "(I)I" } : Jvm.MethodName) ∈ gw := gw_at 752 rfl rfl
set_option maxRecDepth 100000 in
theorem tw_753 : Jvm.Cond.instanceMethod ({ cls := "QuireSignsModel", name := "setSigning", desc := "(I)I" } : Jvm.MethodName) ∈ gw := gw_at 753 rfl rfl
set_option maxRecDepth 100000 in
theorem tw_754 : Jvm.Cond.selects "QuireSignsModel" ({ cls := "QuireSignsModel", name := "setSigning", desc := "(I)I" } : Jvm.MethodName) ({ cls := "QuireSignsModel", name := "setSigning", desc := "(I)I" } : Jvm.MethodName) ∈ gw := gw_at 754 rfl rfl
set_option maxRecDepth 100000 in
theorem tw_755 : Jvm.Cond.code ({ cls := "QuireSignsModel", name := "setSigning", desc := "(I)I" } : Jvm.MethodName) prog_11_method_24_code (2 : Nat) (Option.some Jvm.ClassFile.FieldType.int) ∈ gw := gw_at 755 rfl rfl
set_option maxRecDepth 100000 in
theorem tw_756 : Jvm.Cond.methodLink "QuireSignsModel" (67 : Nat) ({ cls := "QuireSignsModel", name := "signedOfAll", desc := "()I" } : Jvm.MethodName) ∈ gw := gw_at 756 rfl rfl
set_option maxRecDepth 100000 in
theorem tw_758 : Jvm.Cond.instanceMethod ({ cls := "QuireSignsModel", name := "signedOfAll", desc := "()I" } : Jvm.MethodName) ∈ gw := gw_at 758 rfl rfl
set_option maxRecDepth 100000 in
theorem tw_759 : Jvm.Cond.code ({ cls := "QuireSignsModel", name := "signedOfAll", desc := "()I" } : Jvm.MethodName) prog_11_method_16_code (3 : Nat) (Option.some Jvm.ClassFile.FieldType.int) ∈ gw := gw_at 759 rfl rfl
set_option maxRecDepth 100000 in
theorem tw_760 : Jvm.Cond.methodLink "QuireSignsModel" (44 : Nat) ({ cls := "QuireSignsModel", name := "signed", desc := "(I)I" } : Jvm.MethodName) ∈ gw := gw_at 760 rfl rfl
set_option maxRecDepth 100000 in
theorem tw_762 : Jvm.Cond.instanceMethod ({ cls := "QuireSignsModel", name := "signed", desc := "(I)I" } : Jvm.MethodName) ∈ gw := gw_at 762 rfl rfl
set_option maxRecDepth 100000 in
theorem tw_763 : Jvm.Cond.code ({ cls := "QuireSignsModel", name := "signed", desc := "(I)I" } : Jvm.MethodName) prog_11_method_15_code (4 : Nat) (Option.some Jvm.ClassFile.FieldType.int) ∈ gw := gw_at 763 rfl rfl
set_option maxRecDepth 100000 in
theorem tw_764 : Jvm.Cond.methodLink "QuireSignsModel" (36 : Nat) ({ cls := "QuireSignsModel", name := "of", desc := "(II)I" } : Jvm.MethodName) ∈ gw := gw_at 764 rfl rfl
set_option maxRecDepth 100000 in
theorem tw_765 : Jvm.Cond.static ({ cls := "QuireSignsModel", name := "of", desc := "(II)I" } : Jvm.MethodName) ∈ gw := gw_at 765 rfl rfl
set_option maxRecDepth 100000 in
theorem tw_766 : Jvm.Cond.code ({ cls := "QuireSignsModel", name := "of", desc := "(II)I" } : Jvm.MethodName) prog_11_method_8_code (2 : Nat) (Option.some Jvm.ClassFile.FieldType.int) ∈ gw := gw_at 766 rfl rfl
set_option maxRecDepth 100000 in
theorem tw_767 : Jvm.Cond.methodLink "QuireSignsLaw" (27 : Nat) ({ cls := "QuireSignsModel", name := "readFormula", desc := "()I" } : Jvm.MethodName) ∈ gw := gw_at 767 rfl rfl
set_option maxRecDepth 100000 in
theorem tw_768 : Jvm.Cond.instanceMethod ({ cls := "QuireSignsModel", name := "readFormula", desc := "()I" } : Jvm.MethodName) ∈ gw := gw_at 768 rfl rfl
set_option maxRecDepth 100000 in
theorem tw_769 : Jvm.Cond.selects "QuireSignsModel" ({ cls := "QuireSignsModel", name := "readFormula", desc := "()I" } : Jvm.MethodName) ({ cls := "QuireSignsModel", name := "readFormula", desc := "()I" } : Jvm.MethodName) ∈ gw := gw_at 769 rfl rfl
set_option maxRecDepth 100000 in
theorem tw_770 : Jvm.Cond.code ({ cls := "QuireSignsModel", name := "readFormula", desc := "()I" } : Jvm.MethodName) prog_11_method_30_code (5 : Nat) (Option.some Jvm.ClassFile.FieldType.int) ∈ gw := gw_at 770 rfl rfl
set_option maxRecDepth 100000 in
theorem tw_771 : Jvm.Cond.methodLink "QuireSignsModel" (103 : Nat) ({ cls := "QuireSignsModel", name := "fault", desc := "(Z)I" } : Jvm.MethodName) ∈ gw := gw_at 771 rfl rfl
set_option maxRecDepth 100000 in
theorem tw_773 : Jvm.Cond.instanceMethod ({ cls := "QuireSignsModel", name := "fault", desc := "(Z)I" } : Jvm.MethodName) ∈ gw := gw_at 773 rfl rfl
set_option maxRecDepth 100000 in
theorem tw_774 : Jvm.Cond.code ({ cls := "QuireSignsModel", name := "fault", desc := "(Z)I" } : Jvm.MethodName) prog_11_method_29_code (3 : Nat) (Option.some Jvm.ClassFile.FieldType.int) ∈ gw := gw_at 774 rfl rfl
set_option maxRecDepth 100000 in
theorem tw_775 : Jvm.Cond.methodLink "QuireSignsModel" (100 : Nat) ({ cls := "QuireSignsModel", name := "item", desc := "(Z)V" } : Jvm.MethodName) ∈ gw := gw_at 775 rfl rfl
set_option maxRecDepth 100000 in
theorem tw_777 : Jvm.Cond.instanceMethod ({ cls := "QuireSignsModel", name := "item", desc := "(Z)V" } : Jvm.MethodName) ∈ gw := gw_at 777 rfl rfl
set_option maxRecDepth 100000 in
theorem tw_778 : Jvm.Cond.code ({ cls := "QuireSignsModel", name := "item", desc := "(Z)V" } : Jvm.MethodName) prog_11_method_28_code (3 : Nat) (Option.none : Option Jvm.ClassFile.FieldType) ∈ gw := gw_at 778 rfl rfl
set_option maxRecDepth 100000 in
theorem tw_779 : Jvm.Cond.methodLink "QuireSignsModel" (90 : Nat) ({ cls := "QuireSignsModel", name := "reads", desc := "(Z)V" } : Jvm.MethodName) ∈ gw := gw_at 779 rfl rfl
set_option maxRecDepth 100000 in
theorem tw_781 : Jvm.Cond.instanceMethod ({ cls := "QuireSignsModel", name := "reads", desc := "(Z)V" } : Jvm.MethodName) ∈ gw := gw_at 781 rfl rfl
set_option maxRecDepth 100000 in
theorem tw_782 : Jvm.Cond.code ({ cls := "QuireSignsModel", name := "reads", desc := "(Z)V" } : Jvm.MethodName) prog_11_method_26_code (2 : Nat) (Option.none : Option Jvm.ClassFile.FieldType) ∈ gw := gw_at 782 rfl rfl
set_option maxRecDepth 100000 in
theorem tw_783 : Jvm.Cond.methodLink "QuireSignsModel" (86 : Nat) ({ cls := "QuireSignsModel", name := "isNext", desc := "(II)Z" } : Jvm.MethodName) ∈ gw := gw_at 783 rfl rfl
set_option maxRecDepth 100000 in
theorem tw_785 : Jvm.Cond.instanceMethod ({ cls := "QuireSignsModel", name := "isNext", desc := "(II)Z" } : Jvm.MethodName) ∈ gw := gw_at 785 rfl rfl
set_option maxRecDepth 100000 in
theorem tw_786 : Jvm.Cond.code ({ cls := "QuireSignsModel", name := "isNext", desc := "(II)Z" } : Jvm.MethodName) prog_11_method_25_code (3 : Nat) (Option.some Jvm.ClassFile.FieldType.boolean) ∈ gw := gw_at 786 rfl rfl
set_option maxRecDepth 100000 in
theorem tw_787 : Jvm.Cond.methodLink "QuireSignsModel" (97 : Nat) ({ cls := "QuireSignsModel", name := "number", desc := "()I" } : Jvm.MethodName) ∈ gw := gw_at 787 rfl rfl
set_option maxRecDepth 100000 in
theorem tw_789 : Jvm.Cond.instanceMethod ({ cls := "QuireSignsModel", name := "number", desc := "()I" } : Jvm.MethodName) ∈ gw := gw_at 789 rfl rfl
set_option maxRecDepth 100000 in
theorem tw_790 : Jvm.Cond.code ({ cls := "QuireSignsModel", name := "number", desc := "()I" } : Jvm.MethodName) prog_11_method_27_code (2 : Nat) (Option.some Jvm.ClassFile.FieldType.int) ∈ gw := gw_at 790 rfl rfl
set_option maxRecDepth 100000 in
theorem tw_791 : Jvm.Cond.methodLink "QuireSignsModel" (107 : Nat) ({ cls := "QuireSignsModel", name := "puts", desc := "(IIII)V" } : Jvm.MethodName) ∈ gw := gw_at 791 rfl rfl
set_option maxRecDepth 100000 in
theorem tw_793 : Jvm.Cond.instanceMethod ({ cls := "QuireSignsModel", name := "puts", desc := "(IIII)V" } : Jvm.MethodName) ∈ gw := gw_at 793 rfl rfl
set_option maxRecDepth 100000 in
theorem tw_794 : Jvm.Cond.code ({ cls := "QuireSignsModel", name := "puts", desc := "(IIII)V" } : Jvm.MethodName) prog_11_method_22_code (7 : Nat) (Option.none : Option Jvm.ClassFile.FieldType) ∈ gw := gw_at 794 rfl rfl
set_option maxRecDepth 100000 in
theorem tw_795 : Jvm.Cond.methodLink "QuireSignsLaw" (31 : Nat) ({ cls := "QuireSignsModel", name := "signNext", desc := "(I)I" } : Jvm.MethodName) ∈ gw := gw_at 795 rfl rfl
set_option maxRecDepth 100000 in
theorem tw_796 : Jvm.Cond.instanceMethod ({ cls := "QuireSignsModel", name := "signNext", desc := "(I)I" } : Jvm.MethodName) ∈ gw := gw_at 796 rfl rfl
set_option maxRecDepth 100000 in
theorem tw_797 : Jvm.Cond.selects "QuireSignsModel" ({ cls := "QuireSignsModel", name := "signNext", desc := "(I)I" } : Jvm.MethodName) ({ cls := "QuireSignsModel", name := "signNext", desc := "(I)I" } : Jvm.MethodName) ∈ gw := gw_at 797 rfl rfl
set_option maxRecDepth 100000 in
theorem tw_798 : Jvm.Cond.code ({ cls := "QuireSignsModel", name := "signNext", desc := "(I)I" } : Jvm.MethodName) prog_11_method_31_code (4 : Nat) (Option.some Jvm.ClassFile.FieldType.int) ∈ gw := gw_at 798 rfl rfl
set_option maxRecDepth 100000 in
theorem tw_799 : Jvm.Cond.methodLink "QuireSignsModel" (111 : Nat) ({ cls := "QuireSignsModel", name := "isStarred", desc := "(I)Z" } : Jvm.MethodName) ∈ gw := gw_at 799 rfl rfl
set_option maxRecDepth 100000 in
theorem tw_801 : Jvm.Cond.instanceMethod ({ cls := "QuireSignsModel", name := "isStarred", desc := "(I)Z" } : Jvm.MethodName) ∈ gw := gw_at 801 rfl rfl
set_option maxRecDepth 100000 in
theorem tw_802 : Jvm.Cond.code ({ cls := "QuireSignsModel", name := "isStarred", desc := "(I)Z" } : Jvm.MethodName) prog_11_method_9_code (2 : Nat) (Option.some Jvm.ClassFile.FieldType.boolean) ∈ gw := gw_at 802 rfl rfl
set_option maxRecDepth 100000 in
theorem tw_803 : Jvm.Cond.methodLink "QuireSignsModel" (114 : Nat) ({ cls := "QuireSignsModel", name := "sign", desc := "(I)I" } : Jvm.MethodName) ∈ gw := gw_at 803 rfl rfl
set_option maxRecDepth 100000 in
theorem tw_805 : Jvm.Cond.instanceMethod ({ cls := "QuireSignsModel", name := "sign", desc := "(I)I" } : Jvm.MethodName) ∈ gw := gw_at 805 rfl rfl
set_option maxRecDepth 100000 in
theorem tw_806 : Jvm.Cond.code ({ cls := "QuireSignsModel", name := "sign", desc := "(I)I" } : Jvm.MethodName) prog_11_method_10_code (2 : Nat) (Option.some Jvm.ClassFile.FieldType.int) ∈ gw := gw_at 806 rfl rfl
set_option maxRecDepth 100000 in
theorem tw_807 : Jvm.Cond.methodLink "QuireSignsModel" (117 : Nat) ({ cls := "QuireSignsModel", name := "next", desc := "(I)I" } : Jvm.MethodName) ∈ gw := gw_at 807 rfl rfl
set_option maxRecDepth 100000 in
theorem tw_809 : Jvm.Cond.instanceMethod ({ cls := "QuireSignsModel", name := "next", desc := "(I)I" } : Jvm.MethodName) ∈ gw := gw_at 809 rfl rfl
set_option maxRecDepth 100000 in
theorem tw_810 : Jvm.Cond.code ({ cls := "QuireSignsModel", name := "next", desc := "(I)I" } : Jvm.MethodName) prog_11_method_7_code (3 : Nat) (Option.some Jvm.ClassFile.FieldType.int) ∈ gw := gw_at 810 rfl rfl
set_option maxRecDepth 100000 in
theorem tw_811 : Jvm.Cond.methodLink "QuireSignsLaw" (36 : Nat) ({ cls := "QuireSignsModel", name := "insert", desc := "(III)I" } : Jvm.MethodName) ∈ gw := gw_at 811 rfl rfl
set_option maxRecDepth 100000 in
theorem tw_812 : Jvm.Cond.instanceMethod ({ cls := "QuireSignsModel", name := "insert", desc := "(III)I" } : Jvm.MethodName) ∈ gw := gw_at 812 rfl rfl
set_option maxRecDepth 100000 in
theorem tw_813 : Jvm.Cond.selects "QuireSignsModel" ({ cls := "QuireSignsModel", name := "insert", desc := "(III)I" } : Jvm.MethodName) ({ cls := "QuireSignsModel", name := "insert", desc := "(III)I" } : Jvm.MethodName) ∈ gw := gw_at 813 rfl rfl
set_option maxRecDepth 100000 in
theorem tw_814 : Jvm.Cond.code ({ cls := "QuireSignsModel", name := "insert", desc := "(III)I" } : Jvm.MethodName) prog_11_method_32_code (4 : Nat) (Option.some Jvm.ClassFile.FieldType.int) ∈ gw := gw_at 814 rfl rfl
set_option maxRecDepth 100000 in
theorem tw_815 : Jvm.Cond.methodLink "QuireSignsModel" (48 : Nat) ({ cls := "QuireSignsModel", name := "leaves", desc := "()I" } : Jvm.MethodName) ∈ gw := gw_at 815 rfl rfl
set_option maxRecDepth 100000 in
theorem tw_817 : Jvm.Cond.instanceMethod ({ cls := "QuireSignsModel", name := "leaves", desc := "()I" } : Jvm.MethodName) ∈ gw := gw_at 817 rfl rfl
set_option maxRecDepth 100000 in
theorem tw_818 : Jvm.Cond.code ({ cls := "QuireSignsModel", name := "leaves", desc := "()I" } : Jvm.MethodName) prog_11_method_13_code (3 : Nat) (Option.some Jvm.ClassFile.FieldType.int) ∈ gw := gw_at 818 rfl rfl
set_option maxRecDepth 100000 in
theorem tw_819 : Jvm.Cond.methodLink "QuireSignsLaw" (40 : Nat) ({ cls := "QuireSignsModel", name := "remove", desc := "(I)I" } : Jvm.MethodName) ∈ gw := gw_at 819 rfl rfl
set_option maxRecDepth 100000 in
theorem tw_820 : Jvm.Cond.instanceMethod ({ cls := "QuireSignsModel", name := "remove", desc := "(I)I" } : Jvm.MethodName) ∈ gw := gw_at 820 rfl rfl
set_option maxRecDepth 100000 in
theorem tw_821 : Jvm.Cond.selects "QuireSignsModel" ({ cls := "QuireSignsModel", name := "remove", desc := "(I)I" } : Jvm.MethodName) ({ cls := "QuireSignsModel", name := "remove", desc := "(I)I" } : Jvm.MethodName) ∈ gw := gw_at 821 rfl rfl
set_option maxRecDepth 100000 in
theorem tw_822 : Jvm.Cond.code ({ cls := "QuireSignsModel", name := "remove", desc := "(I)I" } : Jvm.MethodName) prog_11_method_33_code (4 : Nat) (Option.some Jvm.ClassFile.FieldType.int) ∈ gw := gw_at 822 rfl rfl
set_option maxRecDepth 100000 in
theorem tw_823 : Jvm.Cond.methodLink "QuireSignsModel" (120 : Nat) ({ cls := "QuireSignsModel", name := "isQuire", desc := "(I)Z" } : Jvm.MethodName) ∈ gw := gw_at 823 rfl rfl
set_option maxRecDepth 100000 in
theorem tw_825 : Jvm.Cond.instanceMethod ({ cls := "QuireSignsModel", name := "isQuire", desc := "(I)Z" } : Jvm.MethodName) ∈ gw := gw_at 825 rfl rfl
set_option maxRecDepth 100000 in
theorem tw_826 : Jvm.Cond.code ({ cls := "QuireSignsModel", name := "isQuire", desc := "(I)Z" } : Jvm.MethodName) prog_11_method_12_code (2 : Nat) (Option.some Jvm.ClassFile.FieldType.boolean) ∈ gw := gw_at 826 rfl rfl
set_option maxRecDepth 100000 in
theorem tw_827 : Jvm.Cond.methodLink "QuireSignsLaw" (45 : Nat) ({ cls := "QuireSignsModel", name := "lose", desc := "(IZ)I" } : Jvm.MethodName) ∈ gw := gw_at 827 rfl rfl
set_option maxRecDepth 100000 in
theorem tw_828 : Jvm.Cond.instanceMethod ({ cls := "QuireSignsModel", name := "lose", desc := "(IZ)I" } : Jvm.MethodName) ∈ gw := gw_at 828 rfl rfl
set_option maxRecDepth 100000 in
theorem tw_829 : Jvm.Cond.selects "QuireSignsModel" ({ cls := "QuireSignsModel", name := "lose", desc := "(IZ)I" } : Jvm.MethodName) ({ cls := "QuireSignsModel", name := "lose", desc := "(IZ)I" } : Jvm.MethodName) ∈ gw := gw_at 829 rfl rfl
set_option maxRecDepth 100000 in
theorem tw_830 : Jvm.Cond.code ({ cls := "QuireSignsModel", name := "lose", desc := "(IZ)I" } : Jvm.MethodName) prog_11_method_34_code (4 : Nat) (Option.some Jvm.ClassFile.FieldType.int) ∈ gw := gw_at 830 rfl rfl
set_option maxRecDepth 100000 in
theorem tw_831 : Jvm.Cond.methodLink "QuireSignsModel" (123 : Nat) ({ cls := "QuireSignsModel", name := "isLeaf", desc := "(I)Z" } : Jvm.MethodName) ∈ gw := gw_at 831 rfl rfl
set_option maxRecDepth 100000 in
theorem tw_833 : Jvm.Cond.instanceMethod ({ cls := "QuireSignsModel", name := "isLeaf", desc := "(I)Z" } : Jvm.MethodName) ∈ gw := gw_at 833 rfl rfl
set_option maxRecDepth 100000 in
theorem tw_834 : Jvm.Cond.code ({ cls := "QuireSignsModel", name := "isLeaf", desc := "(I)Z" } : Jvm.MethodName) prog_11_method_17_code (2 : Nat) (Option.some Jvm.ClassFile.FieldType.boolean) ∈ gw := gw_at 834 rfl rfl
set_option maxRecDepth 100000 in
theorem tw_835 : Jvm.Cond.methodLink "QuireSignsModel" (126 : Nat) ({ cls := "QuireSignsModel", name := "isLost", desc := "(I)Z" } : Jvm.MethodName) ∈ gw := gw_at 835 rfl rfl
set_option maxRecDepth 100000 in
theorem tw_837 : Jvm.Cond.instanceMethod ({ cls := "QuireSignsModel", name := "isLost", desc := "(I)Z" } : Jvm.MethodName) ∈ gw := gw_at 837 rfl rfl
set_option maxRecDepth 100000 in
theorem tw_838 : Jvm.Cond.code ({ cls := "QuireSignsModel", name := "isLost", desc := "(I)Z" } : Jvm.MethodName) prog_11_method_19_code (3 : Nat) (Option.some Jvm.ClassFile.FieldType.boolean) ∈ gw := gw_at 838 rfl rfl
set_option maxRecDepth 100000 in
theorem tw_839 : Jvm.Cond.methodLink "QuireSignsModel" (55 : Nat) ({ cls := "QuireSignsModel", name := "quireOf", desc := "(I)I" } : Jvm.MethodName) ∈ gw := gw_at 839 rfl rfl
set_option maxRecDepth 100000 in
theorem tw_841 : Jvm.Cond.instanceMethod ({ cls := "QuireSignsModel", name := "quireOf", desc := "(I)I" } : Jvm.MethodName) ∈ gw := gw_at 841 rfl rfl
set_option maxRecDepth 100000 in
theorem tw_842 : Jvm.Cond.code ({ cls := "QuireSignsModel", name := "quireOf", desc := "(I)I" } : Jvm.MethodName) prog_11_method_18_code (3 : Nat) (Option.some Jvm.ClassFile.FieldType.int) ∈ gw := gw_at 842 rfl rfl
set_option maxRecDepth 100000 in
theorem tw_843 : Jvm.Cond.methodLink "QuireSignsModel" (52 : Nat) ({ cls := "QuireSignsModel", name := "first", desc := "(I)I" } : Jvm.MethodName) ∈ gw := gw_at 843 rfl rfl
set_option maxRecDepth 100000 in
theorem tw_845 : Jvm.Cond.instanceMethod ({ cls := "QuireSignsModel", name := "first", desc := "(I)I" } : Jvm.MethodName) ∈ gw := gw_at 845 rfl rfl
set_option maxRecDepth 100000 in
theorem tw_846 : Jvm.Cond.code ({ cls := "QuireSignsModel", name := "first", desc := "(I)I" } : Jvm.MethodName) prog_11_method_14_code (4 : Nat) (Option.some Jvm.ClassFile.FieldType.int) ∈ gw := gw_at 846 rfl rfl
set_option maxRecDepth 100000 in
theorem tw_847 : Jvm.Cond.methodLink "QuireSignsModel" (129 : Nat) ({ cls := "QuireSignsModel", name := "thereOfAll", desc := "()I" } : Jvm.MethodName) ∈ gw := gw_at 847 rfl rfl
set_option maxRecDepth 100000 in
theorem tw_849 : Jvm.Cond.instanceMethod ({ cls := "QuireSignsModel", name := "thereOfAll", desc := "()I" } : Jvm.MethodName) ∈ gw := gw_at 849 rfl rfl
set_option maxRecDepth 100000 in
theorem tw_850 : Jvm.Cond.code ({ cls := "QuireSignsModel", name := "thereOfAll", desc := "()I" } : Jvm.MethodName) prog_11_method_21_code (3 : Nat) (Option.some Jvm.ClassFile.FieldType.int) ∈ gw := gw_at 850 rfl rfl
set_option maxRecDepth 100000 in
theorem tw_851 : Jvm.Cond.methodLink "QuireSignsModel" (58 : Nat) ({ cls := "QuireSignsModel", name := "there", desc := "(I)I" } : Jvm.MethodName) ∈ gw := gw_at 851 rfl rfl
set_option maxRecDepth 100000 in
theorem tw_853 : Jvm.Cond.instanceMethod ({ cls := "QuireSignsModel", name := "there", desc := "(I)I" } : Jvm.MethodName) ∈ gw := gw_at 853 rfl rfl
set_option maxRecDepth 100000 in
theorem tw_854 : Jvm.Cond.code ({ cls := "QuireSignsModel", name := "there", desc := "(I)I" } : Jvm.MethodName) prog_11_method_20_code (4 : Nat) (Option.some Jvm.ClassFile.FieldType.int) ∈ gw := gw_at 854 rfl rfl
set_option maxRecDepth 100000 in
theorem tw_855 : Jvm.Cond.methodLink "QuireSignsLaw" (49 : Nat) ({ cls := "QuireSignsModel", name := "readPile", desc := "()I" } : Jvm.MethodName) ∈ gw := gw_at 855 rfl rfl
set_option maxRecDepth 100000 in
theorem tw_856 : Jvm.Cond.instanceMethod ({ cls := "QuireSignsModel", name := "readPile", desc := "()I" } : Jvm.MethodName) ∈ gw := gw_at 856 rfl rfl
set_option maxRecDepth 100000 in
theorem tw_857 : Jvm.Cond.selects "QuireSignsModel" ({ cls := "QuireSignsModel", name := "readPile", desc := "()I" } : Jvm.MethodName) ({ cls := "QuireSignsModel", name := "readPile", desc := "()I" } : Jvm.MethodName) ∈ gw := gw_at 857 rfl rfl
set_option maxRecDepth 100000 in
theorem tw_858 : Jvm.Cond.code ({ cls := "QuireSignsModel", name := "readPile", desc := "()I" } : Jvm.MethodName) prog_11_method_36_code (5 : Nat) (Option.some Jvm.ClassFile.FieldType.int) ∈ gw := gw_at 858 rfl rfl
set_option maxRecDepth 100000 in
theorem tw_859 : Jvm.Cond.methodLink "QuireSignsModel" (132 : Nat) ({ cls := "QuireSignsModel", name := "found", desc := "(I)I" } : Jvm.MethodName) ∈ gw := gw_at 859 rfl rfl
set_option maxRecDepth 100000 in
theorem tw_861 : Jvm.Cond.instanceMethod ({ cls := "QuireSignsModel", name := "found", desc := "(I)I" } : Jvm.MethodName) ∈ gw := gw_at 861 rfl rfl
set_option maxRecDepth 100000 in
theorem tw_862 : Jvm.Cond.code ({ cls := "QuireSignsModel", name := "found", desc := "(I)I" } : Jvm.MethodName) prog_11_method_35_code (4 : Nat) (Option.some Jvm.ClassFile.FieldType.int) ∈ gw := gw_at 862 rfl rfl
set_option maxRecDepth 100000 in
theorem tw_863 : Jvm.Cond.methodLink "QuireSignsLaw" (54 : Nat) ({ cls := "QuireSignsModel", name := "type", desc := "(C)I" } : Jvm.MethodName) ∈ gw := gw_at 863 rfl rfl
set_option maxRecDepth 100000 in
theorem tw_864 : Jvm.Cond.instanceMethod ({ cls := "QuireSignsModel", name := "type", desc := "(C)I" } : Jvm.MethodName) ∈ gw := gw_at 864 rfl rfl
set_option maxRecDepth 100000 in
theorem tw_865 : Jvm.Cond.selects "QuireSignsModel" ({ cls := "QuireSignsModel", name := "type", desc := "(C)I" } : Jvm.MethodName) ({ cls := "QuireSignsModel", name := "type", desc := "(C)I" } : Jvm.MethodName) ∈ gw := gw_at 865 rfl rfl
set_option maxRecDepth 100000 in
theorem tw_866 : Jvm.Cond.code ({ cls := "QuireSignsModel", name := "type", desc := "(C)I" } : Jvm.MethodName) prog_11_method_37_code (2 : Nat) (Option.some Jvm.ClassFile.FieldType.int) ∈ gw := gw_at 866 rfl rfl
set_option maxRecDepth 100000 in
theorem tw_867 : Jvm.Cond.methodLink "QuireSignsLaw" (58 : Nat) ({ cls := "QuireSignsModel", name := "clearText", desc := "()I" } : Jvm.MethodName) ∈ gw := gw_at 867 rfl rfl
set_option maxRecDepth 100000 in
theorem tw_868 : Jvm.Cond.instanceMethod ({ cls := "QuireSignsModel", name := "clearText", desc := "()I" } : Jvm.MethodName) ∈ gw := gw_at 868 rfl rfl
set_option maxRecDepth 100000 in
theorem tw_869 : Jvm.Cond.selects "QuireSignsModel" ({ cls := "QuireSignsModel", name := "clearText", desc := "()I" } : Jvm.MethodName) ({ cls := "QuireSignsModel", name := "clearText", desc := "()I" } : Jvm.MethodName) ∈ gw := gw_at 869 rfl rfl
set_option maxRecDepth 100000 in
theorem tw_870 : Jvm.Cond.code ({ cls := "QuireSignsModel", name := "clearText", desc := "()I" } : Jvm.MethodName) prog_11_method_38_code (2 : Nat) (Option.some Jvm.ClassFile.FieldType.int) ∈ gw := gw_at 870 rfl rfl
set_option maxRecDepth 100000 in
theorem tw_871 : Jvm.Cond.methodLink "QuireSignsLaw" (62 : Nat) ({ cls := "QuireSignsModel", name := "undo", desc := "()I" } : Jvm.MethodName) ∈ gw := gw_at 871 rfl rfl
set_option maxRecDepth 100000 in
theorem tw_872 : Jvm.Cond.instanceMethod ({ cls := "QuireSignsModel", name := "undo", desc := "()I" } : Jvm.MethodName) ∈ gw := gw_at 872 rfl rfl
set_option maxRecDepth 100000 in
theorem tw_873 : Jvm.Cond.selects "QuireSignsModel" ({ cls := "QuireSignsModel", name := "undo", desc := "()I" } : Jvm.MethodName) ({ cls := "QuireSignsModel", name := "undo", desc := "()I" } : Jvm.MethodName) ∈ gw := gw_at 873 rfl rfl
set_option maxRecDepth 100000 in
theorem tw_874 : Jvm.Cond.code ({ cls := "QuireSignsModel", name := "undo", desc := "()I" } : Jvm.MethodName) prog_11_method_39_code (1 : Nat) (Option.some Jvm.ClassFile.FieldType.int) ∈ gw := gw_at 874 rfl rfl
set_option maxRecDepth 100000 in
theorem tw_875 : Jvm.Cond.methodLink "QuireSignsLaw" (66 : Nat) ({ cls := "QuireSignsModel", name := "keep", desc := "()I" } : Jvm.MethodName) ∈ gw := gw_at 875 rfl rfl
set_option maxRecDepth 100000 in
theorem tw_876 : Jvm.Cond.instanceMethod ({ cls := "QuireSignsModel", name := "keep", desc := "()I" } : Jvm.MethodName) ∈ gw := gw_at 876 rfl rfl
set_option maxRecDepth 100000 in
theorem tw_877 : Jvm.Cond.selects "QuireSignsModel" ({ cls := "QuireSignsModel", name := "keep", desc := "()I" } : Jvm.MethodName) ({ cls := "QuireSignsModel", name := "keep", desc := "()I" } : Jvm.MethodName) ∈ gw := gw_at 877 rfl rfl
set_option maxRecDepth 100000 in
theorem tw_878 : Jvm.Cond.code ({ cls := "QuireSignsModel", name := "keep", desc := "()I" } : Jvm.MethodName) prog_11_method_40_code (1 : Nat) (Option.some Jvm.ClassFile.FieldType.int) ∈ gw := gw_at 878 rfl rfl
set_option maxRecDepth 100000 in
theorem tw_879 : Jvm.Cond.methodLink "QuireSignsLaw" (70 : Nat) ({ cls := "QuireSignsModel", name := "restore", desc := "()I" } : Jvm.MethodName) ∈ gw := gw_at 879 rfl rfl
set_option maxRecDepth 100000 in
theorem tw_880 : Jvm.Cond.instanceMethod ({ cls := "QuireSignsModel", name := "restore", desc := "()I" } : Jvm.MethodName) ∈ gw := gw_at 880 rfl rfl
set_option maxRecDepth 100000 in
theorem tw_881 : Jvm.Cond.selects "QuireSignsModel" ({ cls := "QuireSignsModel", name := "restore", desc := "()I" } : Jvm.MethodName) ({ cls := "QuireSignsModel", name := "restore", desc := "()I" } : Jvm.MethodName) ∈ gw := gw_at 881 rfl rfl
set_option maxRecDepth 100000 in
theorem tw_882 : Jvm.Cond.code ({ cls := "QuireSignsModel", name := "restore", desc := "()I" } : Jvm.MethodName) prog_11_method_41_code (1 : Nat) (Option.some Jvm.ClassFile.FieldType.int) ∈ gw := gw_at 882 rfl rfl
set_option maxRecDepth 100000 in
theorem tw_883 : Jvm.Cond.methodLink "QuireSignsLaw" (75 : Nat) ({ cls := "QuireSignsModel", name := "quire", desc := "(II)I" } : Jvm.MethodName) ∈ gw := gw_at 883 rfl rfl
set_option maxRecDepth 100000 in
theorem tw_884 : Jvm.Cond.instanceMethod ({ cls := "QuireSignsModel", name := "quire", desc := "(II)I" } : Jvm.MethodName) ∈ gw := gw_at 884 rfl rfl
set_option maxRecDepth 100000 in
theorem tw_885 : Jvm.Cond.selects "QuireSignsModel" ({ cls := "QuireSignsModel", name := "quire", desc := "(II)I" } : Jvm.MethodName) ({ cls := "QuireSignsModel", name := "quire", desc := "(II)I" } : Jvm.MethodName) ∈ gw := gw_at 885 rfl rfl
set_option maxRecDepth 100000 in
theorem tw_886 : Jvm.Cond.code ({ cls := "QuireSignsModel", name := "quire", desc := "(II)I" } : Jvm.MethodName) prog_11_method_43_code (3 : Nat) (Option.some Jvm.ClassFile.FieldType.int) ∈ gw := gw_at 886 rfl rfl
set_option maxRecDepth 100000 in
theorem tw_887 : Jvm.Cond.methodLink "QuireSignsModel" (141 : Nat) ({ cls := "QuireSignsModel", name := "sameAhead", desc := "(I)I" } : Jvm.MethodName) ∈ gw := gw_at 887 rfl rfl
set_option maxRecDepth 100000 in
theorem tw_889 : Jvm.Cond.instanceMethod ({ cls := "QuireSignsModel", name := "sameAhead", desc := "(I)I" } : Jvm.MethodName) ∈ gw := gw_at 889 rfl rfl
set_option maxRecDepth 100000 in
theorem tw_890 : Jvm.Cond.code ({ cls := "QuireSignsModel", name := "sameAhead", desc := "(I)I" } : Jvm.MethodName) prog_11_method_42_code (4 : Nat) (Option.some Jvm.ClassFile.FieldType.int) ∈ gw := gw_at 890 rfl rfl
set_option maxRecDepth 100000 in
theorem tw_891 : Jvm.Cond.methodLink "QuireSignsModel" (138 : Nat) ({ cls := "QuireSignsModel", name := "areSame", desc := "(II)Z" } : Jvm.MethodName) ∈ gw := gw_at 891 rfl rfl
set_option maxRecDepth 100000 in
theorem tw_893 : Jvm.Cond.instanceMethod ({ cls := "QuireSignsModel", name := "areSame", desc := "(II)Z" } : Jvm.MethodName) ∈ gw := gw_at 893 rfl rfl
set_option maxRecDepth 100000 in
theorem tw_894 : Jvm.Cond.code ({ cls := "QuireSignsModel", name := "areSame", desc := "(II)Z" } : Jvm.MethodName) prog_11_method_11_code (3 : Nat) (Option.some Jvm.ClassFile.FieldType.boolean) ∈ gw := gw_at 894 rfl rfl
set_option maxRecDepth 100000 in
theorem tw_895 : Jvm.Cond.methodLink "QuireSignsLaw" (79 : Nat) ({ cls := "QuireSignsModel", name := "leaf", desc := "(II)I" } : Jvm.MethodName) ∈ gw := gw_at 895 rfl rfl
set_option maxRecDepth 100000 in
theorem tw_896 : Jvm.Cond.instanceMethod ({ cls := "QuireSignsModel", name := "leaf", desc := "(II)I" } : Jvm.MethodName) ∈ gw := gw_at 896 rfl rfl
set_option maxRecDepth 100000 in
theorem tw_897 : Jvm.Cond.selects "QuireSignsModel" ({ cls := "QuireSignsModel", name := "leaf", desc := "(II)I" } : Jvm.MethodName) ({ cls := "QuireSignsModel", name := "leaf", desc := "(II)I" } : Jvm.MethodName) ∈ gw := gw_at 897 rfl rfl
set_option maxRecDepth 100000 in
theorem tw_898 : Jvm.Cond.code ({ cls := "QuireSignsModel", name := "leaf", desc := "(II)I" } : Jvm.MethodName) prog_11_method_45_code (6 : Nat) (Option.some Jvm.ClassFile.FieldType.int) ∈ gw := gw_at 898 rfl rfl
set_option maxRecDepth 100000 in
theorem tw_899 : Jvm.Cond.methodLink "QuireSignsModel" (144 : Nat) ({ cls := "QuireSignsModel", name := "thereAhead", desc := "(I)I" } : Jvm.MethodName) ∈ gw := gw_at 899 rfl rfl
set_option maxRecDepth 100000 in
theorem tw_901 : Jvm.Cond.instanceMethod ({ cls := "QuireSignsModel", name := "thereAhead", desc := "(I)I" } : Jvm.MethodName) ∈ gw := gw_at 901 rfl rfl
set_option maxRecDepth 100000 in
theorem tw_902 : Jvm.Cond.code ({ cls := "QuireSignsModel", name := "thereAhead", desc := "(I)I" } : Jvm.MethodName) prog_11_method_44_code (4 : Nat) (Option.some Jvm.ClassFile.FieldType.int) ∈ gw := gw_at 902 rfl rfl
set_option maxRecDepth 100000 in
theorem tw_903 : Jvm.Cond.methodLink "QuireSignsLaw" (83 : Nat) ({ cls := "QuireSignsModel", name := "find", desc := "()I" } : Jvm.MethodName) ∈ gw := gw_at 903 rfl rfl
set_option maxRecDepth 100000 in
theorem tw_904 : Jvm.Cond.instanceMethod ({ cls := "QuireSignsModel", name := "find", desc := "()I" } : Jvm.MethodName) ∈ gw := gw_at 904 rfl rfl
set_option maxRecDepth 100000 in
theorem tw_905 : Jvm.Cond.selects "QuireSignsModel" ({ cls := "QuireSignsModel", name := "find", desc := "()I" } : Jvm.MethodName) ({ cls := "QuireSignsModel", name := "find", desc := "()I" } : Jvm.MethodName) ∈ gw := gw_at 905 rfl rfl
set_option maxRecDepth 100000 in
theorem tw_906 : Jvm.Cond.code ({ cls := "QuireSignsModel", name := "find", desc := "()I" } : Jvm.MethodName) prog_11_method_46_code (3 : Nat) (Option.some Jvm.ClassFile.FieldType.int) ∈ gw := gw_at 906 rfl rfl
set_option maxRecDepth 100000 in
theorem tw_907 : Jvm.Cond.methodLink "QuireSignsLaw" (87 : Nat) ({ cls := "QuireSignsModel", name := "lapse", desc := "(II)I" } : Jvm.MethodName) ∈ gw := gw_at 907 rfl rfl
set_option maxRecDepth 100000 in
theorem tw_908 : Jvm.Cond.instanceMethod ({ cls := "QuireSignsModel", name := "lapse", desc := "(II)I" } : Jvm.MethodName) ∈ gw := gw_at 908 rfl rfl
set_option maxRecDepth 100000 in
theorem tw_909 : Jvm.Cond.selects "QuireSignsModel" ({ cls := "QuireSignsModel", name := "lapse", desc := "(II)I" } : Jvm.MethodName) ({ cls := "QuireSignsModel", name := "lapse", desc := "(II)I" } : Jvm.MethodName) ∈ gw := gw_at 909 rfl rfl
set_option maxRecDepth 100000 in
theorem tw_910 : Jvm.Cond.code ({ cls := "QuireSignsModel", name := "lapse", desc := "(II)I" } : Jvm.MethodName) prog_11_method_50_code (8 : Nat) (Option.some Jvm.ClassFile.FieldType.int) ∈ gw := gw_at 910 rfl rfl
set_option maxRecDepth 100000 in
theorem tw_911 : Jvm.Cond.methodLink "QuireSignsModel" (150 : Nat) ({ cls := "QuireSignsModel", name := "isLapse", desc := "(I)Z" } : Jvm.MethodName) ∈ gw := gw_at 911 rfl rfl
set_option maxRecDepth 100000 in
theorem tw_913 : Jvm.Cond.instanceMethod ({ cls := "QuireSignsModel", name := "isLapse", desc := "(I)Z" } : Jvm.MethodName) ∈ gw := gw_at 913 rfl rfl
set_option maxRecDepth 100000 in
theorem tw_914 : Jvm.Cond.code ({ cls := "QuireSignsModel", name := "isLapse", desc := "(I)Z" } : Jvm.MethodName) prog_11_method_48_code (3 : Nat) (Option.some Jvm.ClassFile.FieldType.boolean) ∈ gw := gw_at 914 rfl rfl
set_option maxRecDepth 100000 in
theorem tw_915 : Jvm.Cond.methodLink "QuireSignsModel" (147 : Nat) ({ cls := "QuireSignsModel", name := "before", desc := "(I)I" } : Jvm.MethodName) ∈ gw := gw_at 915 rfl rfl
set_option maxRecDepth 100000 in
theorem tw_917 : Jvm.Cond.instanceMethod ({ cls := "QuireSignsModel", name := "before", desc := "(I)I" } : Jvm.MethodName) ∈ gw := gw_at 917 rfl rfl
set_option maxRecDepth 100000 in
theorem tw_918 : Jvm.Cond.code ({ cls := "QuireSignsModel", name := "before", desc := "(I)I" } : Jvm.MethodName) prog_11_method_47_code (4 : Nat) (Option.some Jvm.ClassFile.FieldType.int) ∈ gw := gw_at 918 rfl rfl
set_option maxRecDepth 100000 in
theorem tw_919 : Jvm.Cond.methodLink "QuireSignsModel" (153 : Nat) ({ cls := "QuireSignsModel", name := "between", desc := "(II)I" } : Jvm.MethodName) ∈ gw := gw_at 919 rfl rfl
set_option maxRecDepth 100000 in
theorem tw_921 : Jvm.Cond.instanceMethod ({ cls := "QuireSignsModel", name := "between", desc := "(II)I" } : Jvm.MethodName) ∈ gw := gw_at 921 rfl rfl
set_option maxRecDepth 100000 in
theorem tw_922 : Jvm.Cond.code ({ cls := "QuireSignsModel", name := "between", desc := "(II)I" } : Jvm.MethodName) prog_11_method_49_code (5 : Nat) (Option.some Jvm.ClassFile.FieldType.int) ∈ gw := gw_at 922 rfl rfl
set_option maxRecDepth 100000 in
theorem tw_923 : Jvm.Cond.methodLink "QuireSignsLaw" (91 : Nat) ({ cls := "QuireSignsModel", name := "piled", desc := "(II)I" } : Jvm.MethodName) ∈ gw := gw_at 923 rfl rfl
set_option maxRecDepth 100000 in
theorem tw_924 : Jvm.Cond.instanceMethod ({ cls := "QuireSignsModel", name := "piled", desc := "(II)I" } : Jvm.MethodName) ∈ gw := gw_at 924 rfl rfl
set_option maxRecDepth 100000 in
theorem tw_925 : Jvm.Cond.selects "QuireSignsModel" ({ cls := "QuireSignsModel", name := "piled", desc := "(II)I" } : Jvm.MethodName) ({ cls := "QuireSignsModel", name := "piled", desc := "(II)I" } : Jvm.MethodName) ∈ gw := gw_at 925 rfl rfl
set_option maxRecDepth 100000 in
theorem tw_926 : Jvm.Cond.code ({ cls := "QuireSignsModel", name := "piled", desc := "(II)I" } : Jvm.MethodName) prog_11_method_52_code (7 : Nat) (Option.some Jvm.ClassFile.FieldType.int) ∈ gw := gw_at 926 rfl rfl
set_option maxRecDepth 100000 in
theorem tw_927 : Jvm.Cond.methodLink "QuireSignsModel" (156 : Nat) ({ cls := "QuireSignsModel", name := "isPiled", desc := "(I)Z" } : Jvm.MethodName) ∈ gw := gw_at 927 rfl rfl
set_option maxRecDepth 100000 in
theorem tw_929 : Jvm.Cond.instanceMethod ({ cls := "QuireSignsModel", name := "isPiled", desc := "(I)Z" } : Jvm.MethodName) ∈ gw := gw_at 929 rfl rfl
set_option maxRecDepth 100000 in
theorem tw_930 : Jvm.Cond.code ({ cls := "QuireSignsModel", name := "isPiled", desc := "(I)Z" } : Jvm.MethodName) prog_11_method_51_code (4 : Nat) (Option.some Jvm.ClassFile.FieldType.boolean) ∈ gw := gw_at 930 rfl rfl
set_option maxRecDepth 100000 in
theorem tw_931 : Jvm.Cond.methodLink "QuireSignsLaw" (95 : Nat) ({ cls := "QuireSignsModel", name := "sheets", desc := "(I)I" } : Jvm.MethodName) ∈ gw := gw_at 931 rfl rfl
set_option maxRecDepth 100000 in
theorem tw_932 : Jvm.Cond.instanceMethod ({ cls := "QuireSignsModel", name := "sheets", desc := "(I)I" } : Jvm.MethodName) ∈ gw := gw_at 932 rfl rfl
set_option maxRecDepth 100000 in
theorem tw_933 : Jvm.Cond.selects "QuireSignsModel" ({ cls := "QuireSignsModel", name := "sheets", desc := "(I)I" } : Jvm.MethodName) ({ cls := "QuireSignsModel", name := "sheets", desc := "(I)I" } : Jvm.MethodName) ∈ gw := gw_at 933 rfl rfl
set_option maxRecDepth 100000 in
theorem tw_934 : Jvm.Cond.code ({ cls := "QuireSignsModel", name := "sheets", desc := "(I)I" } : Jvm.MethodName) prog_11_method_53_code (4 : Nat) (Option.some Jvm.ClassFile.FieldType.int) ∈ gw := gw_at 934 rfl rfl
set_option maxRecDepth 100000 in
theorem tw_935 : Jvm.Cond.methodLink "QuireSignsLaw" (99 : Nat) ({ cls := "QuireSignsModel", name := "formula", desc := "(I)I" } : Jvm.MethodName) ∈ gw := gw_at 935 rfl rfl
set_option maxRecDepth 100000 in
theorem tw_936 : Jvm.Cond.instanceMethod ({ cls := "QuireSignsModel", name := "formula", desc := "(I)I" } : Jvm.MethodName) ∈ gw := gw_at 936 rfl rfl
set_option maxRecDepth 100000 in
theorem tw_937 : Jvm.Cond.selects "QuireSignsModel" ({ cls := "QuireSignsModel", name := "formula", desc := "(I)I" } : Jvm.MethodName) ({ cls := "QuireSignsModel", name := "formula", desc := "(I)I" } : Jvm.MethodName) ∈ gw := gw_at 937 rfl rfl
set_option maxRecDepth 100000 in
theorem tw_938 : Jvm.Cond.code ({ cls := "QuireSignsModel", name := "formula", desc := "(I)I" } : Jvm.MethodName) prog_11_method_58_code (2 : Nat) (Option.some Jvm.ClassFile.FieldType.int) ∈ gw := gw_at 938 rfl rfl
set_option maxRecDepth 100000 in
theorem tw_939 : Jvm.Cond.methodLink "QuireSignsModel" (175 : Nat) ({ cls := "QuireSignsModel", name := "lays", desc := "()V" } : Jvm.MethodName) ∈ gw := gw_at 939 rfl rfl
set_option maxRecDepth 100000 in
theorem tw_941 : Jvm.Cond.instanceMethod ({ cls := "QuireSignsModel", name := "lays", desc := "()V" } : Jvm.MethodName) ∈ gw := gw_at 941 rfl rfl
set_option maxRecDepth 100000 in
theorem tw_942 : Jvm.Cond.code ({ cls := "QuireSignsModel", name := "lays", desc := "()V" } : Jvm.MethodName) prog_11_method_57_code (4 : Nat) (Option.none : Option Jvm.ClassFile.FieldType) ∈ gw := gw_at 942 rfl rfl
set_option maxRecDepth 100000 in
theorem tw_943 : Jvm.Cond.methodLink "QuireSignsModel" (169 : Nat) ({ cls := "QuireSignsModel", name := "goesOn", desc := "(I)Z" } : Jvm.MethodName) ∈ gw := gw_at 943 rfl rfl
set_option maxRecDepth 100000 in
theorem tw_945 : Jvm.Cond.instanceMethod ({ cls := "QuireSignsModel", name := "goesOn", desc := "(I)Z" } : Jvm.MethodName) ∈ gw := gw_at 945 rfl rfl
set_option maxRecDepth 100000 in
theorem tw_946 : Jvm.Cond.code ({ cls := "QuireSignsModel", name := "goesOn", desc := "(I)Z" } : Jvm.MethodName) prog_11_method_56_code (3 : Nat) (Option.some Jvm.ClassFile.FieldType.boolean) ∈ gw := gw_at 946 rfl rfl
set_option maxRecDepth 100000 in
theorem tw_947 : Jvm.Cond.methodLink "QuireSignsModel" (162 : Nat) ({ cls := "QuireSignsModel", name := "writes", desc := "(I)V" } : Jvm.MethodName) ∈ gw := gw_at 947 rfl rfl
set_option maxRecDepth 100000 in
theorem tw_949 : Jvm.Cond.instanceMethod ({ cls := "QuireSignsModel", name := "writes", desc := "(I)V" } : Jvm.MethodName) ∈ gw := gw_at 949 rfl rfl
set_option maxRecDepth 100000 in
theorem tw_950 : Jvm.Cond.code ({ cls := "QuireSignsModel", name := "writes", desc := "(I)V" } : Jvm.MethodName) prog_11_method_54_code (2 : Nat) (Option.none : Option Jvm.ClassFile.FieldType) ∈ gw := gw_at 950 rfl rfl
set_option maxRecDepth 100000 in
theorem tw_951 : Jvm.Cond.methodLink "QuireSignsModel" (172 : Nat) ({ cls := "QuireSignsModel", name := "writesSign", desc := "(I)V" } : Jvm.MethodName) ∈ gw := gw_at 951 rfl rfl
set_option maxRecDepth 100000 in
theorem tw_953 : Jvm.Cond.instanceMethod ({ cls := "QuireSignsModel", name := "writesSign", desc := "(I)V" } : Jvm.MethodName) ∈ gw := gw_at 953 rfl rfl
set_option maxRecDepth 100000 in
theorem tw_954 : Jvm.Cond.code ({ cls := "QuireSignsModel", name := "writesSign", desc := "(I)V" } : Jvm.MethodName) prog_11_method_55_code (3 : Nat) (Option.none : Option Jvm.ClassFile.FieldType) ∈ gw := gw_at 954 rfl rfl
set_option maxRecDepth 100000 in
theorem tw_955 : Jvm.Cond.methodLink "QuireSignsLaw" (103 : Nat) ({ cls := "QuireSignsModel", name := "count", desc := "(I)I" } : Jvm.MethodName) ∈ gw := gw_at 955 rfl rfl
set_option maxRecDepth 100000 in
theorem tw_956 : Jvm.Cond.instanceMethod ({ cls := "QuireSignsModel", name := "count", desc := "(I)I" } : Jvm.MethodName) ∈ gw := gw_at 956 rfl rfl
set_option maxRecDepth 100000 in
theorem tw_957 : Jvm.Cond.selects "QuireSignsModel" ({ cls := "QuireSignsModel", name := "count", desc := "(I)I" } : Jvm.MethodName) ({ cls := "QuireSignsModel", name := "count", desc := "(I)I" } : Jvm.MethodName) ∈ gw := gw_at 957 rfl rfl
set_option maxRecDepth 100000 in
theorem tw_958 : Jvm.Cond.code ({ cls := "QuireSignsModel", name := "count", desc := "(I)I" } : Jvm.MethodName) prog_11_method_61_code (2 : Nat) (Option.some Jvm.ClassFile.FieldType.int) ∈ gw := gw_at 958 rfl rfl
set_option maxRecDepth 100000 in
theorem tw_959 : Jvm.Cond.methodLink "QuireSignsModel" (178 : Nat) ({ cls := "QuireSignsModel", name := "starred", desc := "()I" } : Jvm.MethodName) ∈ gw := gw_at 959 rfl rfl
set_option maxRecDepth 100000 in
theorem tw_961 : Jvm.Cond.instanceMethod ({ cls := "QuireSignsModel", name := "starred", desc := "()I" } : Jvm.MethodName) ∈ gw := gw_at 961 rfl rfl
set_option maxRecDepth 100000 in
theorem tw_962 : Jvm.Cond.code ({ cls := "QuireSignsModel", name := "starred", desc := "()I" } : Jvm.MethodName) prog_11_method_59_code (3 : Nat) (Option.some Jvm.ClassFile.FieldType.int) ∈ gw := gw_at 962 rfl rfl
set_option maxRecDepth 100000 in
theorem tw_963 : Jvm.Cond.methodLink "QuireSignsModel" (181 : Nat) ({ cls := "QuireSignsModel", name := "lapses", desc := "()I" } : Jvm.MethodName) ∈ gw := gw_at 963 rfl rfl
set_option maxRecDepth 100000 in
theorem tw_965 : Jvm.Cond.instanceMethod ({ cls := "QuireSignsModel", name := "lapses", desc := "()I" } : Jvm.MethodName) ∈ gw := gw_at 965 rfl rfl
set_option maxRecDepth 100000 in
theorem tw_966 : Jvm.Cond.code ({ cls := "QuireSignsModel", name := "lapses", desc := "()I" } : Jvm.MethodName) prog_11_method_60_code (3 : Nat) (Option.some Jvm.ClassFile.FieldType.int) ∈ gw := gw_at 966 rfl rfl
def nwl : List Cond := [Jvm.Cond.methodLinkNest "QuireSigns" (11 : Nat) ({ cls := "QuireSigns$Book", name := "<init>", desc := "()V" } : Jvm.MethodName) "QuireSigns", Jvm.Cond.fieldLinkNest "QuireSigns" (51 : Nat) "QuireSigns$Book" "alphabet" "LQuireSigns$Alphabet;" "QuireSigns", Jvm.Cond.fieldLinkNest "QuireSigns$Lapses" (30 : Nat) "QuireSigns$Book" "alphabet" "LQuireSigns$Alphabet;" "QuireSigns", Jvm.Cond.fieldLinkNest "QuireSigns$Writer" (62 : Nat) "QuireSigns$Book" "alphabet" "LQuireSigns$Alphabet;" "QuireSigns", Jvm.Cond.fieldLinkNest "QuireSigns" (72 : Nat) "QuireSigns$Book" "signing" "I" "QuireSigns", Jvm.Cond.fieldLinkNest "QuireSigns$Lapses" (7 : Nat) "QuireSigns$Book" "signs" "LQuireSigns$Row;" "QuireSigns", Jvm.Cond.fieldLinkNest "QuireSigns$Writer" (44 : Nat) "QuireSigns$Book" "signs" "LQuireSigns$Row;" "QuireSigns", Jvm.Cond.fieldLinkNest "QuireSigns" (177 : Nat) "QuireSigns$Book" "signs" "LQuireSigns$Row;" "QuireSigns", Jvm.Cond.fieldLinkNest "QuireSigns$Writer" (56 : Nat) "QuireSigns$Book" "sizes" "LQuireSigns$Row;" "QuireSigns", Jvm.Cond.fieldLinkNest "QuireSigns" (189 : Nat) "QuireSigns$Book" "sizes" "LQuireSigns$Row;" "QuireSigns", Jvm.Cond.fieldLinkNest "QuireSigns" (146 : Nat) "QuireSigns$Book" "pile" "LQuireSigns$Row;" "QuireSigns", Jvm.Cond.methodLinkNest "QuireSigns$History" (17 : Nat) ({ cls := "QuireSigns$Book", name := "<init>", desc := "()V" } : Jvm.MethodName) "QuireSigns", Jvm.Cond.methodLinkNest "QuireSigns" (28 : Nat) ({ cls := "QuireSigns$Text", name := "<init>", desc := "()V" } : Jvm.MethodName) "QuireSigns", Jvm.Cond.methodLinkNest "QuireSigns" (35 : Nat) ({ cls := "QuireSigns$Writer", name := "<init>", desc := "()V" } : Jvm.MethodName) "QuireSigns"]
theorem nw_78 : Jvm.Cond.methodLinkNest "QuireSigns" (11 : Nat) ({ cls := "QuireSigns$Book", name := "<init>", desc := "()V" } : Jvm.MethodName) "QuireSigns" ∈ nwl := List.mem_of_getElem? (i := 0) rfl
theorem nw_111 : Jvm.Cond.fieldLinkNest "QuireSigns" (51 : Nat) "QuireSigns$Book" "alphabet" "LQuireSigns$Alphabet;" "QuireSigns" ∈ nwl := List.mem_of_getElem? (i := 1) rfl
theorem nw_112 : Jvm.Cond.fieldLinkNest "QuireSigns$Lapses" (30 : Nat) "QuireSigns$Book" "alphabet" "LQuireSigns$Alphabet;" "QuireSigns" ∈ nwl := List.mem_of_getElem? (i := 2) rfl
theorem nw_113 : Jvm.Cond.fieldLinkNest "QuireSigns$Writer" (62 : Nat) "QuireSigns$Book" "alphabet" "LQuireSigns$Alphabet;" "QuireSigns" ∈ nwl := List.mem_of_getElem? (i := 3) rfl
theorem nw_115 : Jvm.Cond.fieldLinkNest "QuireSigns" (72 : Nat) "QuireSigns$Book" "signing" "I" "QuireSigns" ∈ nwl := List.mem_of_getElem? (i := 4) rfl
theorem nw_117 : Jvm.Cond.fieldLinkNest "QuireSigns$Lapses" (7 : Nat) "QuireSigns$Book" "signs" "LQuireSigns$Row;" "QuireSigns" ∈ nwl := List.mem_of_getElem? (i := 5) rfl
theorem nw_118 : Jvm.Cond.fieldLinkNest "QuireSigns$Writer" (44 : Nat) "QuireSigns$Book" "signs" "LQuireSigns$Row;" "QuireSigns" ∈ nwl := List.mem_of_getElem? (i := 6) rfl
theorem nw_119 : Jvm.Cond.fieldLinkNest "QuireSigns" (177 : Nat) "QuireSigns$Book" "signs" "LQuireSigns$Row;" "QuireSigns" ∈ nwl := List.mem_of_getElem? (i := 7) rfl
theorem nw_121 : Jvm.Cond.fieldLinkNest "QuireSigns$Writer" (56 : Nat) "QuireSigns$Book" "sizes" "LQuireSigns$Row;" "QuireSigns" ∈ nwl := List.mem_of_getElem? (i := 8) rfl
theorem nw_122 : Jvm.Cond.fieldLinkNest "QuireSigns" (189 : Nat) "QuireSigns$Book" "sizes" "LQuireSigns$Row;" "QuireSigns" ∈ nwl := List.mem_of_getElem? (i := 9) rfl
theorem nw_125 : Jvm.Cond.fieldLinkNest "QuireSigns" (146 : Nat) "QuireSigns$Book" "pile" "LQuireSigns$Row;" "QuireSigns" ∈ nwl := List.mem_of_getElem? (i := 10) rfl
theorem nw_147 : Jvm.Cond.methodLinkNest "QuireSigns$History" (17 : Nat) ({ cls := "QuireSigns$Book", name := "<init>", desc := "()V" } : Jvm.MethodName) "QuireSigns" ∈ nwl := List.mem_of_getElem? (i := 11) rfl
theorem nw_157 : Jvm.Cond.methodLinkNest "QuireSigns" (28 : Nat) ({ cls := "QuireSigns$Text", name := "<init>", desc := "()V" } : Jvm.MethodName) "QuireSigns" ∈ nwl := List.mem_of_getElem? (i := 12) rfl
theorem nw_186 : Jvm.Cond.methodLinkNest "QuireSigns" (35 : Nat) ({ cls := "QuireSigns$Writer", name := "<init>", desc := "()V" } : Jvm.MethodName) "QuireSigns" ∈ nwl := List.mem_of_getElem? (i := 13) rfl
theorem nwl_in : ∀ w ∈ nwl, w ∈ lw_tbl := List.forall_mem_cons.mpr ⟨List.mem_of_getElem? (i := 78) rfl, List.forall_mem_cons.mpr ⟨List.mem_of_getElem? (i := 111) rfl, List.forall_mem_cons.mpr ⟨List.mem_of_getElem? (i := 112) rfl, List.forall_mem_cons.mpr ⟨List.mem_of_getElem? (i := 113) rfl, List.forall_mem_cons.mpr ⟨List.mem_of_getElem? (i := 115) rfl, List.forall_mem_cons.mpr ⟨List.mem_of_getElem? (i := 117) rfl, List.forall_mem_cons.mpr ⟨List.mem_of_getElem? (i := 118) rfl, List.forall_mem_cons.mpr ⟨List.mem_of_getElem? (i := 119) rfl, List.forall_mem_cons.mpr ⟨List.mem_of_getElem? (i := 121) rfl, List.forall_mem_cons.mpr ⟨List.mem_of_getElem? (i := 122) rfl, List.forall_mem_cons.mpr ⟨List.mem_of_getElem? (i := 125) rfl, List.forall_mem_cons.mpr ⟨List.mem_of_getElem? (i := 147) rfl, List.forall_mem_cons.mpr ⟨List.mem_of_getElem? (i := 157) rfl, List.forall_mem_cons.mpr ⟨List.mem_of_getElem? (i := 186) rfl, fun _ h => absurd h List.not_mem_nil⟩⟩⟩⟩⟩⟩⟩⟩⟩⟩⟩⟩⟩⟩
theorem nwl_tab : ∀ w ∈ nwl, w.onTables = true := List.forall_mem_cons.mpr ⟨rfl, List.forall_mem_cons.mpr ⟨rfl, List.forall_mem_cons.mpr ⟨rfl, List.forall_mem_cons.mpr ⟨rfl, List.forall_mem_cons.mpr ⟨rfl, List.forall_mem_cons.mpr ⟨rfl, List.forall_mem_cons.mpr ⟨rfl, List.forall_mem_cons.mpr ⟨rfl, List.forall_mem_cons.mpr ⟨rfl, List.forall_mem_cons.mpr ⟨rfl, List.forall_mem_cons.mpr ⟨rfl, List.forall_mem_cons.mpr ⟨rfl, List.forall_mem_cons.mpr ⟨rfl, List.forall_mem_cons.mpr ⟨rfl, fun _ h => absurd h List.not_mem_nil⟩⟩⟩⟩⟩⟩⟩⟩⟩⟩⟩⟩⟩⟩
/-- the words of nest mates, of a state -/
def nst (U : State) : Prop := ∀ w ∈ nwl, va_Nw w U
theorem nst_warm {s U : State} (hW : s.WarmedH U.vm) (h : nst s) : nst U := List.forall_mem_cons.mpr ⟨va_Nw.warmM hW (h _ nw_78), List.forall_mem_cons.mpr ⟨va_Nw.warmF hW (h _ nw_111), List.forall_mem_cons.mpr ⟨va_Nw.warmF hW (h _ nw_112), List.forall_mem_cons.mpr ⟨va_Nw.warmF hW (h _ nw_113), List.forall_mem_cons.mpr ⟨va_Nw.warmF hW (h _ nw_115), List.forall_mem_cons.mpr ⟨va_Nw.warmF hW (h _ nw_117), List.forall_mem_cons.mpr ⟨va_Nw.warmF hW (h _ nw_118), List.forall_mem_cons.mpr ⟨va_Nw.warmF hW (h _ nw_119), List.forall_mem_cons.mpr ⟨va_Nw.warmF hW (h _ nw_121), List.forall_mem_cons.mpr ⟨va_Nw.warmF hW (h _ nw_122), List.forall_mem_cons.mpr ⟨va_Nw.warmF hW (h _ nw_125), List.forall_mem_cons.mpr ⟨va_Nw.warmM hW (h _ nw_147), List.forall_mem_cons.mpr ⟨va_Nw.warmM hW (h _ nw_157), List.forall_mem_cons.mpr ⟨va_Nw.warmM hW (h _ nw_186), fun _ h => absurd h List.not_mem_nil⟩⟩⟩⟩⟩⟩⟩⟩⟩⟩⟩⟩⟩⟩
theorem nst_same {u U : State} (e : u.vm = U.vm) (h : nst u) : nst U := fun w hw => va_Nw.same (nwl_tab w hw) e (h w hw)
theorem inX0 : ∀ w ∈ u_ws RX0 TX0 1, w ∈ gw := List.forall_mem_cons.mpr ⟨tw_90, fun _ h => absurd h List.not_mem_nil⟩
theorem inX1 : ∀ w ∈ u_ws RX1 TX1 6, w ∈ gw := List.forall_mem_cons.mpr ⟨tw_126, List.forall_mem_cons.mpr ⟨tw_128, List.forall_mem_cons.mpr ⟨tw_130, List.forall_mem_cons.mpr ⟨tw_132, List.forall_mem_cons.mpr ⟨tw_134, List.forall_mem_cons.mpr ⟨tw_136, fun _ h => absurd h List.not_mem_nil⟩⟩⟩⟩⟩⟩
theorem inX2 : ∀ w ∈ u_ws RX2 TX2 2, w ∈ gw := List.forall_mem_cons.mpr ⟨tw_150, List.forall_mem_cons.mpr ⟨tw_152, fun _ h => absurd h List.not_mem_nil⟩⟩
theorem inX4 : ∀ w ∈ u_ws RX4 TX4 2, w ∈ gw := List.forall_mem_cons.mpr ⟨tw_104, List.forall_mem_cons.mpr ⟨tw_106, fun _ h => absurd h List.not_mem_nil⟩⟩
theorem inX6 : ∀ w ∈ u_ws RX6 TX6 6, w ∈ gw := List.forall_mem_cons.mpr ⟨tw_171, List.forall_mem_cons.mpr ⟨tw_173, List.forall_mem_cons.mpr ⟨tw_175, List.forall_mem_cons.mpr ⟨tw_177, List.forall_mem_cons.mpr ⟨tw_179, List.forall_mem_cons.mpr ⟨tw_181, fun _ h => absurd h List.not_mem_nil⟩⟩⟩⟩⟩⟩
theorem inX7 : ∀ w ∈ u_ws RX7 TX7 2, w ∈ gw := List.forall_mem_cons.mpr ⟨tw_194, List.forall_mem_cons.mpr ⟨tw_196, fun _ h => absurd h List.not_mem_nil⟩⟩
theorem inX8 : ∀ w ∈ u_ws RX8 TX8 7, w ∈ gw := List.forall_mem_cons.mpr ⟨tw_208, List.forall_mem_cons.mpr ⟨tw_210, List.forall_mem_cons.mpr ⟨tw_212, List.forall_mem_cons.mpr ⟨tw_214, List.forall_mem_cons.mpr ⟨tw_216, List.forall_mem_cons.mpr ⟨tw_218, List.forall_mem_cons.mpr ⟨tw_220, fun _ h => absurd h List.not_mem_nil⟩⟩⟩⟩⟩⟩⟩
theorem inX9 : ∀ w ∈ u_ws RX9 TX9 14, w ∈ gw := List.forall_mem_cons.mpr ⟨tw_699, List.forall_mem_cons.mpr ⟨tw_701, List.forall_mem_cons.mpr ⟨tw_703, List.forall_mem_cons.mpr ⟨tw_705, List.forall_mem_cons.mpr ⟨tw_707, List.forall_mem_cons.mpr ⟨tw_709, List.forall_mem_cons.mpr ⟨tw_711, List.forall_mem_cons.mpr ⟨tw_713, List.forall_mem_cons.mpr ⟨tw_715, List.forall_mem_cons.mpr ⟨tw_717, List.forall_mem_cons.mpr ⟨tw_719, List.forall_mem_cons.mpr ⟨tw_721, List.forall_mem_cons.mpr ⟨tw_723, List.forall_mem_cons.mpr ⟨tw_725, fun _ h => absurd h List.not_mem_nil⟩⟩⟩⟩⟩⟩⟩⟩⟩⟩⟩⟩⟩⟩
abbrev vwCl : List vw_C := [(RX0, TX0, 1), (RX1, TX1, 6), (RX2, TX2, 2), (RX4, TX4, 2), (RX6, TX6, 6), (RX7, TX7, 2), (RX8, TX8, 7), (RX9, TX9, 14)]
end
section
theorem dX0_init_0 : decode cX0_init 0 = .ok (.aload_n 0, 1) := by decide +kernel
theorem dX0_init_1 : decode cX0_init 1 = .ok (.invokespecial 1, 3) := by decide +kernel
theorem dX0_init_4 : decode cX0_init 4 = .ok (.aload_n 0, 1) := by decide +kernel
theorem dX0_init_5 : decode cX0_init 5 = .ok (.iload_n 1, 1) := by decide +kernel
theorem dX0_init_6 : decode cX0_init 6 = .ok (.putfield 7, 3) := by decide +kernel
theorem dX0_init_9 : decode cX0_init 9 = .ok (.return_, 1) := by decide +kernel
theorem dX0_has_0 : decode cX0_has 0 = .ok (.iload_n 1, 1) := by decide +kernel
theorem dX0_has_1 : decode cX0_has 1 = .ok (.ifCond .lt 24, 3) := by decide +kernel
theorem dX0_has_4 : decode cX0_has 4 = .ok (.iload_n 1, 1) := by decide +kernel
theorem dX0_has_5 : decode cX0_has 5 = .ok (.bipush 26, 2) := by decide +kernel
theorem dX0_has_7 : decode cX0_has 7 = .ok (.if_icmp .ge 18, 3) := by decide +kernel
theorem dX0_has_10 : decode cX0_has 10 = .ok (.aload_n 0, 1) := by decide +kernel
theorem dX0_has_11 : decode cX0_has 11 = .ok (.getfield 7, 3) := by decide +kernel
theorem dX0_has_14 : decode cX0_has 14 = .ok (.iload_n 1, 1) := by decide +kernel
theorem dX0_has_15 : decode cX0_has 15 = .ok (.ishr, 1) := by decide +kernel
theorem dX0_has_16 : decode cX0_has 16 = .ok (.iconst 1, 1) := by decide +kernel
theorem dX0_has_17 : decode cX0_has 17 = .ok (.iand, 1) := by decide +kernel
theorem dX0_has_18 : decode cX0_has 18 = .ok (.ifCond .ne 7, 3) := by decide +kernel
theorem dX0_has_21 : decode cX0_has 21 = .ok (.iconst 1, 1) := by decide +kernel
theorem dX0_has_22 : decode cX0_has 22 = .ok (.goto 4, 3) := by decide +kernel
theorem dX0_has_25 : decode cX0_has 25 = .ok (.iconst 0, 1) := by decide +kernel
theorem dX0_has_26 : decode cX0_has 26 = .ok (.ireturn, 1) := by decide +kernel
theorem dX0_letters_0 : decode cX0_letters 0 = .ok (.bipush 26, 2) := by decide +kernel
theorem dX0_letters_2 : decode cX0_letters 2 = .ok (.aload_n 0, 1) := by decide +kernel
theorem dX0_letters_3 : decode cX0_letters 3 = .ok (.getfield 7, 3) := by decide +kernel
theorem dX0_letters_6 : decode cX0_letters 6 = .ok (.invokestatic 15, 3) := by decide +kernel
theorem dX0_letters_9 : decode cX0_letters 9 = .ok (.isub, 1) := by decide +kernel
theorem dX0_letters_10 : decode cX0_letters 10 = .ok (.ireturn, 1) := by decide +kernel
theorem dX0_turn_0 : decode cX0_turn 0 = .ok (.aload_n 0, 1) := by decide +kernel
theorem dX0_turn_1 : decode cX0_turn 1 = .ok (.dup, 1) := by decide +kernel
theorem dX0_turn_2 : decode cX0_turn 2 = .ok (.getfield 7, 3) := by decide +kernel
theorem dX0_turn_5 : decode cX0_turn 5 = .ok (.iconst 1, 1) := by decide +kernel
theorem dX0_turn_6 : decode cX0_turn 6 = .ok (.iload_n 1, 1) := by decide +kernel
theorem dX0_turn_7 : decode cX0_turn 7 = .ok (.ishl, 1) := by decide +kernel
theorem dX0_turn_8 : decode cX0_turn 8 = .ok (.ixor, 1) := by decide +kernel
theorem dX0_turn_9 : decode cX0_turn 9 = .ok (.putfield 7, 3) := by decide +kernel
theorem dX0_turn_12 : decode cX0_turn 12 = .ok (.return_, 1) := by decide +kernel
theorem dX0_nextSign_0 : decode cX0_nextSign 0 = .ok (.iload_n 1, 1) := by decide +kernel
theorem dX0_nextSign_1 : decode cX0_nextSign 1 = .ok (.iconst 1, 1) := by decide +kernel
theorem dX0_nextSign_2 : decode cX0_nextSign 2 = .ok (.iadd, 1) := by decide +kernel
theorem dX0_nextSign_3 : decode cX0_nextSign 3 = .ok (.istore_n 2, 1) := by decide +kernel
theorem dX0_nextSign_4 : decode cX0_nextSign 4 = .ok (.iload_n 2, 1) := by decide +kernel
theorem dX0_nextSign_5 : decode cX0_nextSign 5 = .ok (.bipush 78, 2) := by decide +kernel
theorem dX0_nextSign_7 : decode cX0_nextSign 7 = .ok (.if_icmp .ge 22, 3) := by decide +kernel
theorem dX0_nextSign_10 : decode cX0_nextSign 10 = .ok (.aload_n 0, 1) := by decide +kernel
theorem dX0_nextSign_11 : decode cX0_nextSign 11 = .ok (.iload_n 2, 1) := by decide +kernel
theorem dX0_nextSign_12 : decode cX0_nextSign 12 = .ok (.invokestatic 21, 3) := by decide +kernel
theorem dX0_nextSign_15 : decode cX0_nextSign 15 = .ok (.invokevirtual 24, 3) := by decide +kernel
theorem dX0_nextSign_18 : decode cX0_nextSign 18 = .ok (.ifCond .eq 5, 3) := by decide +kernel
theorem dX0_nextSign_21 : decode cX0_nextSign 21 = .ok (.iload_n 2, 1) := by decide +kernel
theorem dX0_nextSign_22 : decode cX0_nextSign 22 = .ok (.ireturn, 1) := by decide +kernel
theorem dX0_nextSign_23 : decode cX0_nextSign 23 = .ok (.iinc 2 1, 3) := by decide +kernel
theorem dX0_nextSign_26 : decode cX0_nextSign 26 = .ok (.goto (-22), 3) := by decide +kernel
theorem dX0_nextSign_29 : decode cX0_nextSign 29 = .ok (.iconst (-1), 1) := by decide +kernel
theorem dX0_nextSign_30 : decode cX0_nextSign 30 = .ok (.ireturn, 1) := by decide +kernel
theorem dX0_signsBetween_0 : decode cX0_signsBetween 0 = .ok (.iconst 0, 1) := by decide +kernel
theorem dX0_signsBetween_1 : decode cX0_signsBetween 1 = .ok (.istore_n 3, 1) := by decide +kernel
theorem dX0_signsBetween_2 : decode cX0_signsBetween 2 = .ok (.iload_n 1, 1) := by decide +kernel
theorem dX0_signsBetween_3 : decode cX0_signsBetween 3 = .ok (.iconst 1, 1) := by decide +kernel
theorem dX0_signsBetween_4 : decode cX0_signsBetween 4 = .ok (.iadd, 1) := by decide +kernel
theorem dX0_signsBetween_5 : decode cX0_signsBetween 5 = .ok (.istore 4, 2) := by decide +kernel
theorem dX0_signsBetween_7 : decode cX0_signsBetween 7 = .ok (.iload 4, 2) := by decide +kernel
theorem dX0_signsBetween_9 : decode cX0_signsBetween 9 = .ok (.iload_n 2, 1) := by decide +kernel
theorem dX0_signsBetween_10 : decode cX0_signsBetween 10 = .ok (.if_icmp .ge 31, 3) := by decide +kernel
theorem dX0_signsBetween_13 : decode cX0_signsBetween 13 = .ok (.iload 4, 2) := by decide +kernel
theorem dX0_signsBetween_15 : decode cX0_signsBetween 15 = .ok (.bipush 78, 2) := by decide +kernel
theorem dX0_signsBetween_17 : decode cX0_signsBetween 17 = .ok (.if_icmp .ge 24, 3) := by decide +kernel
theorem dX0_signsBetween_20 : decode cX0_signsBetween 20 = .ok (.aload_n 0, 1) := by decide +kernel
theorem dX0_signsBetween_21 : decode cX0_signsBetween 21 = .ok (.iload 4, 2) := by decide +kernel
theorem dX0_signsBetween_23 : decode cX0_signsBetween 23 = .ok (.invokestatic 21, 3) := by decide +kernel
theorem dX0_signsBetween_26 : decode cX0_signsBetween 26 = .ok (.invokevirtual 24, 3) := by decide +kernel
theorem dX0_signsBetween_29 : decode cX0_signsBetween 29 = .ok (.ifCond .eq 6, 3) := by decide +kernel
theorem dX0_signsBetween_32 : decode cX0_signsBetween 32 = .ok (.iinc 3 1, 3) := by decide +kernel
theorem dX0_signsBetween_35 : decode cX0_signsBetween 35 = .ok (.iinc 4 1, 3) := by decide +kernel
theorem dX0_signsBetween_38 : decode cX0_signsBetween 38 = .ok (.goto (-31), 3) := by decide +kernel
theorem dX0_signsBetween_41 : decode cX0_signsBetween 41 = .ok (.iload_n 3, 1) := by decide +kernel
theorem dX0_signsBetween_42 : decode cX0_signsBetween 42 = .ok (.ireturn, 1) := by decide +kernel
theorem dX0_become_0 : decode cX0_become 0 = .ok (.aload_n 0, 1) := by decide +kernel
theorem dX0_become_1 : decode cX0_become 1 = .ok (.aload_n 1, 1) := by decide +kernel
theorem dX0_become_2 : decode cX0_become 2 = .ok (.getfield 7, 3) := by decide +kernel
theorem dX0_become_5 : decode cX0_become 5 = .ok (.putfield 7, 3) := by decide +kernel
theorem dX0_become_8 : decode cX0_become 8 = .ok (.return_, 1) := by decide +kernel
theorem dX1_init_0 : decode cX1_init 0 = .ok (.aload_n 0, 1) := by decide +kernel
theorem dX1_init_1 : decode cX1_init 1 = .ok (.invokespecial 3, 3) := by decide +kernel
theorem dX1_init_4 : decode cX1_init 4 = .ok (.aload_n 0, 1) := by decide +kernel
theorem dX1_init_5 : decode cX1_init 5 = .ok (.new 9, 3) := by decide +kernel
theorem dX1_init_8 : decode cX1_init 8 = .ok (.dup, 1) := by decide +kernel
theorem dX1_init_9 : decode cX1_init 9 = .ok (.ldc 11, 2) := by decide +kernel
theorem dX1_init_11 : decode cX1_init 11 = .ok (.invokespecial 12, 3) := by decide +kernel
theorem dX1_init_14 : decode cX1_init 14 = .ok (.putfield 15, 3) := by decide +kernel
theorem dX1_init_17 : decode cX1_init 17 = .ok (.aload_n 0, 1) := by decide +kernel
theorem dX1_init_18 : decode cX1_init 18 = .ok (.iconst 1, 1) := by decide +kernel
theorem dX1_init_19 : decode cX1_init 19 = .ok (.putfield 21, 3) := by decide +kernel
theorem dX1_init_22 : decode cX1_init 22 = .ok (.aload_n 0, 1) := by decide +kernel
theorem dX1_init_23 : decode cX1_init 23 = .ok (.new 25, 3) := by decide +kernel
theorem dX1_init_26 : decode cX1_init 26 = .ok (.dup, 1) := by decide +kernel
theorem dX1_init_27 : decode cX1_init 27 = .ok (.bipush 40, 2) := by decide +kernel
theorem dX1_init_29 : decode cX1_init 29 = .ok (.invokespecial 27, 3) := by decide +kernel
theorem dX1_init_32 : decode cX1_init 32 = .ok (.putfield 28, 3) := by decide +kernel
theorem dX1_init_35 : decode cX1_init 35 = .ok (.aload_n 0, 1) := by decide +kernel
theorem dX1_init_36 : decode cX1_init 36 = .ok (.new 25, 3) := by decide +kernel
theorem dX1_init_39 : decode cX1_init 39 = .ok (.dup, 1) := by decide +kernel
theorem dX1_init_40 : decode cX1_init 40 = .ok (.bipush 40, 2) := by decide +kernel
theorem dX1_init_42 : decode cX1_init 42 = .ok (.invokespecial 27, 3) := by decide +kernel
theorem dX1_init_45 : decode cX1_init 45 = .ok (.putfield 32, 3) := by decide +kernel
theorem dX1_init_48 : decode cX1_init 48 = .ok (.aload_n 0, 1) := by decide +kernel
theorem dX1_init_49 : decode cX1_init 49 = .ok (.new 25, 3) := by decide +kernel
theorem dX1_init_52 : decode cX1_init 52 = .ok (.dup, 1) := by decide +kernel
theorem dX1_init_53 : decode cX1_init 53 = .ok (.bipush 40, 2) := by decide +kernel
theorem dX1_init_55 : decode cX1_init 55 = .ok (.invokespecial 27, 3) := by decide +kernel
theorem dX1_init_58 : decode cX1_init 58 = .ok (.putfield 35, 3) := by decide +kernel
theorem dX1_init_61 : decode cX1_init 61 = .ok (.aload_n 0, 1) := by decide +kernel
theorem dX1_init_62 : decode cX1_init 62 = .ok (.new 25, 3) := by decide +kernel
theorem dX1_init_65 : decode cX1_init 65 = .ok (.dup, 1) := by decide +kernel
theorem dX1_init_66 : decode cX1_init 66 = .ok (.bipush 12, 2) := by decide +kernel
theorem dX1_init_68 : decode cX1_init 68 = .ok (.invokespecial 27, 3) := by decide +kernel
theorem dX1_init_71 : decode cX1_init 71 = .ok (.putfield 38, 3) := by decide +kernel
theorem dX1_init_74 : decode cX1_init 74 = .ok (.return_, 1) := by decide +kernel
theorem dX1_become_0 : decode cX1_become 0 = .ok (.aload_n 0, 1) := by decide +kernel
theorem dX1_become_1 : decode cX1_become 1 = .ok (.getfield 15, 3) := by decide +kernel
theorem dX1_become_4 : decode cX1_become 4 = .ok (.aload_n 1, 1) := by decide +kernel
theorem dX1_become_5 : decode cX1_become 5 = .ok (.getfield 15, 3) := by decide +kernel
theorem dX1_become_8 : decode cX1_become 8 = .ok (.invokevirtual 41, 3) := by decide +kernel
theorem dX1_become_11 : decode cX1_become 11 = .ok (.aload_n 0, 1) := by decide +kernel
theorem dX1_become_12 : decode cX1_become 12 = .ok (.aload_n 1, 1) := by decide +kernel
theorem dX1_become_13 : decode cX1_become 13 = .ok (.getfield 21, 3) := by decide +kernel
theorem dX1_become_16 : decode cX1_become 16 = .ok (.putfield 21, 3) := by decide +kernel
theorem dX1_become_19 : decode cX1_become 19 = .ok (.aload_n 0, 1) := by decide +kernel
theorem dX1_become_20 : decode cX1_become 20 = .ok (.getfield 28, 3) := by decide +kernel
theorem dX1_become_23 : decode cX1_become 23 = .ok (.aload_n 1, 1) := by decide +kernel
theorem dX1_become_24 : decode cX1_become 24 = .ok (.getfield 28, 3) := by decide +kernel
theorem dX1_become_27 : decode cX1_become 27 = .ok (.invokevirtual 45, 3) := by decide +kernel
theorem dX1_become_30 : decode cX1_become 30 = .ok (.aload_n 0, 1) := by decide +kernel
theorem dX1_become_31 : decode cX1_become 31 = .ok (.getfield 32, 3) := by decide +kernel
theorem dX1_become_34 : decode cX1_become 34 = .ok (.aload_n 1, 1) := by decide +kernel
theorem dX1_become_35 : decode cX1_become 35 = .ok (.getfield 32, 3) := by decide +kernel
theorem dX1_become_38 : decode cX1_become 38 = .ok (.invokevirtual 45, 3) := by decide +kernel
theorem dX1_become_41 : decode cX1_become 41 = .ok (.aload_n 0, 1) := by decide +kernel
theorem dX1_become_42 : decode cX1_become 42 = .ok (.getfield 35, 3) := by decide +kernel
theorem dX1_become_45 : decode cX1_become 45 = .ok (.aload_n 1, 1) := by decide +kernel
theorem dX1_become_46 : decode cX1_become 46 = .ok (.getfield 35, 3) := by decide +kernel
theorem dX1_become_49 : decode cX1_become 49 = .ok (.invokevirtual 45, 3) := by decide +kernel
theorem dX1_become_52 : decode cX1_become 52 = .ok (.aload_n 0, 1) := by decide +kernel
theorem dX1_become_53 : decode cX1_become 53 = .ok (.getfield 38, 3) := by decide +kernel
theorem dX1_become_56 : decode cX1_become 56 = .ok (.aload_n 1, 1) := by decide +kernel
theorem dX1_become_57 : decode cX1_become 57 = .ok (.getfield 38, 3) := by decide +kernel
theorem dX1_become_60 : decode cX1_become 60 = .ok (.invokevirtual 45, 3) := by decide +kernel
theorem dX1_become_63 : decode cX1_become 63 = .ok (.return_, 1) := by decide +kernel
theorem dX1_quires_0 : decode cX1_quires 0 = .ok (.aload_n 0, 1) := by decide +kernel
theorem dX1_quires_1 : decode cX1_quires 1 = .ok (.getfield 28, 3) := by decide +kernel
theorem dX1_quires_4 : decode cX1_quires 4 = .ok (.invokevirtual 48, 3) := by decide +kernel
theorem dX1_quires_7 : decode cX1_quires 7 = .ok (.ireturn, 1) := by decide +kernel
theorem dX1_hasQuire_0 : decode cX1_hasQuire 0 = .ok (.iload_n 1, 1) := by decide +kernel
theorem dX1_hasQuire_1 : decode cX1_hasQuire 1 = .ok (.ifCond .lt 15, 3) := by decide +kernel
theorem dX1_hasQuire_4 : decode cX1_hasQuire 4 = .ok (.iload_n 1, 1) := by decide +kernel
theorem dX1_hasQuire_5 : decode cX1_hasQuire 5 = .ok (.aload_n 0, 1) := by decide +kernel
theorem dX1_hasQuire_6 : decode cX1_hasQuire 6 = .ok (.invokevirtual 52, 3) := by decide +kernel
theorem dX1_hasQuire_9 : decode cX1_hasQuire 9 = .ok (.if_icmp .ge 7, 3) := by decide +kernel
theorem dX1_hasQuire_12 : decode cX1_hasQuire 12 = .ok (.iconst 1, 1) := by decide +kernel
theorem dX1_hasQuire_13 : decode cX1_hasQuire 13 = .ok (.goto 4, 3) := by decide +kernel
theorem dX1_hasQuire_16 : decode cX1_hasQuire 16 = .ok (.iconst 0, 1) := by decide +kernel
theorem dX1_hasQuire_17 : decode cX1_hasQuire 17 = .ok (.ireturn, 1) := by decide +kernel
theorem dX1_addQuire_0 : decode cX1_addQuire 0 = .ok (.aload_n 0, 1) := by decide +kernel
theorem dX1_addQuire_1 : decode cX1_addQuire 1 = .ok (.getfield 28, 3) := by decide +kernel
theorem dX1_addQuire_4 : decode cX1_addQuire 4 = .ok (.iload_n 1, 1) := by decide +kernel
theorem dX1_addQuire_5 : decode cX1_addQuire 5 = .ok (.iload_n 2, 1) := by decide +kernel
theorem dX1_addQuire_6 : decode cX1_addQuire 6 = .ok (.invokevirtual 55, 3) := by decide +kernel
theorem dX1_addQuire_9 : decode cX1_addQuire 9 = .ok (.aload_n 0, 1) := by decide +kernel
theorem dX1_addQuire_10 : decode cX1_addQuire 10 = .ok (.getfield 32, 3) := by decide +kernel
theorem dX1_addQuire_13 : decode cX1_addQuire 13 = .ok (.iload_n 1, 1) := by decide +kernel
theorem dX1_addQuire_14 : decode cX1_addQuire 14 = .ok (.iload_n 3, 1) := by decide +kernel
theorem dX1_addQuire_15 : decode cX1_addQuire 15 = .ok (.invokevirtual 55, 3) := by decide +kernel
theorem dX1_addQuire_18 : decode cX1_addQuire 18 = .ok (.aload_n 0, 1) := by decide +kernel
theorem dX1_addQuire_19 : decode cX1_addQuire 19 = .ok (.getfield 35, 3) := by decide +kernel
theorem dX1_addQuire_22 : decode cX1_addQuire 22 = .ok (.iload_n 1, 1) := by decide +kernel
theorem dX1_addQuire_23 : decode cX1_addQuire 23 = .ok (.iconst 0, 1) := by decide +kernel
theorem dX1_addQuire_24 : decode cX1_addQuire 24 = .ok (.invokevirtual 55, 3) := by decide +kernel
theorem dX1_addQuire_27 : decode cX1_addQuire 27 = .ok (.aload_n 0, 1) := by decide +kernel
theorem dX1_addQuire_28 : decode cX1_addQuire 28 = .ok (.getfield 38, 3) := by decide +kernel
theorem dX1_addQuire_31 : decode cX1_addQuire 31 = .ok (.invokevirtual 59, 3) := by decide +kernel
theorem dX1_addQuire_34 : decode cX1_addQuire 34 = .ok (.return_, 1) := by decide +kernel
theorem dX1_dropQuire_0 : decode cX1_dropQuire 0 = .ok (.aload_n 0, 1) := by decide +kernel
theorem dX1_dropQuire_1 : decode cX1_dropQuire 1 = .ok (.getfield 28, 3) := by decide +kernel
theorem dX1_dropQuire_4 : decode cX1_dropQuire 4 = .ok (.iload_n 1, 1) := by decide +kernel
theorem dX1_dropQuire_5 : decode cX1_dropQuire 5 = .ok (.invokevirtual 62, 3) := by decide +kernel
theorem dX1_dropQuire_8 : decode cX1_dropQuire 8 = .ok (.aload_n 0, 1) := by decide +kernel
theorem dX1_dropQuire_9 : decode cX1_dropQuire 9 = .ok (.getfield 32, 3) := by decide +kernel
theorem dX1_dropQuire_12 : decode cX1_dropQuire 12 = .ok (.iload_n 1, 1) := by decide +kernel
theorem dX1_dropQuire_13 : decode cX1_dropQuire 13 = .ok (.invokevirtual 62, 3) := by decide +kernel
theorem dX1_dropQuire_16 : decode cX1_dropQuire 16 = .ok (.aload_n 0, 1) := by decide +kernel
theorem dX1_dropQuire_17 : decode cX1_dropQuire 17 = .ok (.getfield 35, 3) := by decide +kernel
theorem dX1_dropQuire_20 : decode cX1_dropQuire 20 = .ok (.iload_n 1, 1) := by decide +kernel
theorem dX1_dropQuire_21 : decode cX1_dropQuire 21 = .ok (.invokevirtual 62, 3) := by decide +kernel
theorem dX1_dropQuire_24 : decode cX1_dropQuire 24 = .ok (.aload_n 0, 1) := by decide +kernel
theorem dX1_dropQuire_25 : decode cX1_dropQuire 25 = .ok (.getfield 38, 3) := by decide +kernel
theorem dX1_dropQuire_28 : decode cX1_dropQuire 28 = .ok (.invokevirtual 59, 3) := by decide +kernel
theorem dX1_dropQuire_31 : decode cX1_dropQuire 31 = .ok (.return_, 1) := by decide +kernel
theorem dX1_starredQuires_0 : decode cX1_starredQuires 0 = .ok (.iconst 0, 1) := by decide +kernel
theorem dX1_starredQuires_1 : decode cX1_starredQuires 1 = .ok (.istore_n 1, 1) := by decide +kernel
theorem dX1_starredQuires_2 : decode cX1_starredQuires 2 = .ok (.iconst 0, 1) := by decide +kernel
theorem dX1_starredQuires_3 : decode cX1_starredQuires 3 = .ok (.istore_n 2, 1) := by decide +kernel
theorem dX1_starredQuires_4 : decode cX1_starredQuires 4 = .ok (.iload_n 2, 1) := by decide +kernel
theorem dX1_starredQuires_5 : decode cX1_starredQuires 5 = .ok (.aload_n 0, 1) := by decide +kernel
theorem dX1_starredQuires_6 : decode cX1_starredQuires 6 = .ok (.invokevirtual 52, 3) := by decide +kernel
theorem dX1_starredQuires_9 : decode cX1_starredQuires 9 = .ok (.if_icmp .ge 26, 3) := by decide +kernel
theorem dX1_starredQuires_12 : decode cX1_starredQuires 12 = .ok (.aload_n 0, 1) := by decide +kernel
theorem dX1_starredQuires_13 : decode cX1_starredQuires 13 = .ok (.getfield 28, 3) := by decide +kernel
theorem dX1_starredQuires_16 : decode cX1_starredQuires 16 = .ok (.iload_n 2, 1) := by decide +kernel
theorem dX1_starredQuires_17 : decode cX1_starredQuires 17 = .ok (.invokevirtual 65, 3) := by decide +kernel
theorem dX1_starredQuires_20 : decode cX1_starredQuires 20 = .ok (.invokestatic 69, 3) := by decide +kernel
theorem dX1_starredQuires_23 : decode cX1_starredQuires 23 = .ok (.ifCond .eq 6, 3) := by decide +kernel
theorem dX1_starredQuires_26 : decode cX1_starredQuires 26 = .ok (.iinc 1 1, 3) := by decide +kernel
theorem dX1_starredQuires_29 : decode cX1_starredQuires 29 = .ok (.iinc 2 1, 3) := by decide +kernel
theorem dX1_starredQuires_32 : decode cX1_starredQuires 32 = .ok (.goto (-28), 3) := by decide +kernel
theorem dX1_starredQuires_35 : decode cX1_starredQuires 35 = .ok (.iload_n 1, 1) := by decide +kernel
theorem dX1_starredQuires_36 : decode cX1_starredQuires 36 = .ok (.ireturn, 1) := by decide +kernel
theorem dX1_sameAhead_0 : decode cX1_sameAhead 0 = .ok (.iconst 0, 1) := by decide +kernel
theorem dX1_sameAhead_1 : decode cX1_sameAhead 1 = .ok (.istore_n 2, 1) := by decide +kernel
theorem dX1_sameAhead_2 : decode cX1_sameAhead 2 = .ok (.iconst 0, 1) := by decide +kernel
theorem dX1_sameAhead_3 : decode cX1_sameAhead 3 = .ok (.istore_n 3, 1) := by decide +kernel
theorem dX1_sameAhead_4 : decode cX1_sameAhead 4 = .ok (.iload_n 3, 1) := by decide +kernel
theorem dX1_sameAhead_5 : decode cX1_sameAhead 5 = .ok (.iload_n 1, 1) := by decide +kernel
theorem dX1_sameAhead_6 : decode cX1_sameAhead 6 = .ok (.if_icmp .ge 31, 3) := by decide +kernel
theorem dX1_sameAhead_9 : decode cX1_sameAhead 9 = .ok (.aload_n 0, 1) := by decide +kernel
theorem dX1_sameAhead_10 : decode cX1_sameAhead 10 = .ok (.getfield 28, 3) := by decide +kernel
theorem dX1_sameAhead_13 : decode cX1_sameAhead 13 = .ok (.iload_n 3, 1) := by decide +kernel
theorem dX1_sameAhead_14 : decode cX1_sameAhead 14 = .ok (.invokevirtual 65, 3) := by decide +kernel
theorem dX1_sameAhead_17 : decode cX1_sameAhead 17 = .ok (.aload_n 0, 1) := by decide +kernel
theorem dX1_sameAhead_18 : decode cX1_sameAhead 18 = .ok (.getfield 28, 3) := by decide +kernel
theorem dX1_sameAhead_21 : decode cX1_sameAhead 21 = .ok (.iload_n 1, 1) := by decide +kernel
theorem dX1_sameAhead_22 : decode cX1_sameAhead 22 = .ok (.invokevirtual 65, 3) := by decide +kernel
theorem dX1_sameAhead_25 : decode cX1_sameAhead 25 = .ok (.if_icmp .ne 6, 3) := by decide +kernel
theorem dX1_sameAhead_28 : decode cX1_sameAhead 28 = .ok (.iinc 2 1, 3) := by decide +kernel
theorem dX1_sameAhead_31 : decode cX1_sameAhead 31 = .ok (.iinc 3 1, 3) := by decide +kernel
theorem dX1_sameAhead_34 : decode cX1_sameAhead 34 = .ok (.goto (-30), 3) := by decide +kernel
theorem dX1_sameAhead_37 : decode cX1_sameAhead 37 = .ok (.iload_n 2, 1) := by decide +kernel
theorem dX1_sameAhead_38 : decode cX1_sameAhead 38 = .ok (.ireturn, 1) := by decide +kernel
theorem dX1_lastLettersAhead_0 : decode cX1_lastLettersAhead 0 = .ok (.iload_n 1, 1) := by decide +kernel
theorem dX1_lastLettersAhead_1 : decode cX1_lastLettersAhead 1 = .ok (.iconst 1, 1) := by decide +kernel
theorem dX1_lastLettersAhead_2 : decode cX1_lastLettersAhead 2 = .ok (.isub, 1) := by decide +kernel
theorem dX1_lastLettersAhead_3 : decode cX1_lastLettersAhead 3 = .ok (.istore_n 2, 1) := by decide +kernel
theorem dX1_lastLettersAhead_4 : decode cX1_lastLettersAhead 4 = .ok (.iload_n 2, 1) := by decide +kernel
theorem dX1_lastLettersAhead_5 : decode cX1_lastLettersAhead 5 = .ok (.ifCond .lt 32, 3) := by decide +kernel
theorem dX1_lastLettersAhead_8 : decode cX1_lastLettersAhead 8 = .ok (.aload_n 0, 1) := by decide +kernel
theorem dX1_lastLettersAhead_9 : decode cX1_lastLettersAhead 9 = .ok (.getfield 28, 3) := by decide +kernel
theorem dX1_lastLettersAhead_12 : decode cX1_lastLettersAhead 12 = .ok (.iload_n 2, 1) := by decide +kernel
theorem dX1_lastLettersAhead_13 : decode cX1_lastLettersAhead 13 = .ok (.invokevirtual 65, 3) := by decide +kernel
theorem dX1_lastLettersAhead_16 : decode cX1_lastLettersAhead 16 = .ok (.invokestatic 69, 3) := by decide +kernel
theorem dX1_lastLettersAhead_19 : decode cX1_lastLettersAhead 19 = .ok (.ifCond .ne 12, 3) := by decide +kernel
theorem dX1_lastLettersAhead_22 : decode cX1_lastLettersAhead 22 = .ok (.aload_n 0, 1) := by decide +kernel
theorem dX1_lastLettersAhead_23 : decode cX1_lastLettersAhead 23 = .ok (.getfield 28, 3) := by decide +kernel
theorem dX1_lastLettersAhead_26 : decode cX1_lastLettersAhead 26 = .ok (.iload_n 2, 1) := by decide +kernel
theorem dX1_lastLettersAhead_27 : decode cX1_lastLettersAhead 27 = .ok (.invokevirtual 65, 3) := by decide +kernel
theorem dX1_lastLettersAhead_30 : decode cX1_lastLettersAhead 30 = .ok (.ireturn, 1) := by decide +kernel
theorem dX1_lastLettersAhead_31 : decode cX1_lastLettersAhead 31 = .ok (.iinc 2 (-1), 3) := by decide +kernel
theorem dX1_lastLettersAhead_34 : decode cX1_lastLettersAhead 34 = .ok (.goto (-30), 3) := by decide +kernel
theorem dX1_lastLettersAhead_37 : decode cX1_lastLettersAhead 37 = .ok (.iconst (-1), 1) := by decide +kernel
theorem dX1_lastLettersAhead_38 : decode cX1_lastLettersAhead 38 = .ok (.ireturn, 1) := by decide +kernel
theorem dX1_firstLeaf_0 : decode cX1_firstLeaf 0 = .ok (.iconst 0, 1) := by decide +kernel
theorem dX1_firstLeaf_1 : decode cX1_firstLeaf 1 = .ok (.istore_n 2, 1) := by decide +kernel
theorem dX1_firstLeaf_2 : decode cX1_firstLeaf 2 = .ok (.iconst 0, 1) := by decide +kernel
theorem dX1_firstLeaf_3 : decode cX1_firstLeaf 3 = .ok (.istore_n 3, 1) := by decide +kernel
theorem dX1_firstLeaf_4 : decode cX1_firstLeaf 4 = .ok (.iload_n 3, 1) := by decide +kernel
theorem dX1_firstLeaf_5 : decode cX1_firstLeaf 5 = .ok (.iload_n 1, 1) := by decide +kernel
theorem dX1_firstLeaf_6 : decode cX1_firstLeaf 6 = .ok (.if_icmp .ge 20, 3) := by decide +kernel
theorem dX1_firstLeaf_9 : decode cX1_firstLeaf 9 = .ok (.iload_n 2, 1) := by decide +kernel
theorem dX1_firstLeaf_10 : decode cX1_firstLeaf 10 = .ok (.aload_n 0, 1) := by decide +kernel
theorem dX1_firstLeaf_11 : decode cX1_firstLeaf 11 = .ok (.getfield 32, 3) := by decide +kernel
theorem dX1_firstLeaf_14 : decode cX1_firstLeaf 14 = .ok (.iload_n 3, 1) := by decide +kernel
theorem dX1_firstLeaf_15 : decode cX1_firstLeaf 15 = .ok (.invokevirtual 65, 3) := by decide +kernel
theorem dX1_firstLeaf_18 : decode cX1_firstLeaf 18 = .ok (.iadd, 1) := by decide +kernel
theorem dX1_firstLeaf_19 : decode cX1_firstLeaf 19 = .ok (.istore_n 2, 1) := by decide +kernel
theorem dX1_firstLeaf_20 : decode cX1_firstLeaf 20 = .ok (.iinc 3 1, 3) := by decide +kernel
theorem dX1_firstLeaf_23 : decode cX1_firstLeaf 23 = .ok (.goto (-19), 3) := by decide +kernel
theorem dX1_firstLeaf_26 : decode cX1_firstLeaf 26 = .ok (.iload_n 2, 1) := by decide +kernel
theorem dX1_firstLeaf_27 : decode cX1_firstLeaf 27 = .ok (.ireturn, 1) := by decide +kernel
theorem dX1_leaves_0 : decode cX1_leaves 0 = .ok (.aload_n 0, 1) := by decide +kernel
theorem dX1_leaves_1 : decode cX1_leaves 1 = .ok (.aload_n 0, 1) := by decide +kernel
theorem dX1_leaves_2 : decode cX1_leaves 2 = .ok (.invokevirtual 52, 3) := by decide +kernel
theorem dX1_leaves_5 : decode cX1_leaves 5 = .ok (.invokevirtual 75, 3) := by decide +kernel
theorem dX1_leaves_8 : decode cX1_leaves 8 = .ok (.ireturn, 1) := by decide +kernel
theorem dX1_hasLeaf_0 : decode cX1_hasLeaf 0 = .ok (.iload_n 1, 1) := by decide +kernel
theorem dX1_hasLeaf_1 : decode cX1_hasLeaf 1 = .ok (.ifCond .lt 15, 3) := by decide +kernel
theorem dX1_hasLeaf_4 : decode cX1_hasLeaf 4 = .ok (.iload_n 1, 1) := by decide +kernel
theorem dX1_hasLeaf_5 : decode cX1_hasLeaf 5 = .ok (.aload_n 0, 1) := by decide +kernel
theorem dX1_hasLeaf_6 : decode cX1_hasLeaf 6 = .ok (.invokevirtual 78, 3) := by decide +kernel
theorem dX1_hasLeaf_9 : decode cX1_hasLeaf 9 = .ok (.if_icmp .ge 7, 3) := by decide +kernel
theorem dX1_hasLeaf_12 : decode cX1_hasLeaf 12 = .ok (.iconst 1, 1) := by decide +kernel
theorem dX1_hasLeaf_13 : decode cX1_hasLeaf 13 = .ok (.goto 4, 3) := by decide +kernel
theorem dX1_hasLeaf_16 : decode cX1_hasLeaf 16 = .ok (.iconst 0, 1) := by decide +kernel
theorem dX1_hasLeaf_17 : decode cX1_hasLeaf 17 = .ok (.ireturn, 1) := by decide +kernel
theorem dX1_quireOf_0 : decode cX1_quireOf 0 = .ok (.iconst 0, 1) := by decide +kernel
theorem dX1_quireOf_1 : decode cX1_quireOf 1 = .ok (.istore_n 2, 1) := by decide +kernel
theorem dX1_quireOf_2 : decode cX1_quireOf 2 = .ok (.aload_n 0, 1) := by decide +kernel
theorem dX1_quireOf_3 : decode cX1_quireOf 3 = .ok (.getfield 32, 3) := by decide +kernel
theorem dX1_quireOf_6 : decode cX1_quireOf 6 = .ok (.iconst 0, 1) := by decide +kernel
theorem dX1_quireOf_7 : decode cX1_quireOf 7 = .ok (.invokevirtual 65, 3) := by decide +kernel
theorem dX1_quireOf_10 : decode cX1_quireOf 10 = .ok (.istore_n 3, 1) := by decide +kernel
theorem dX1_quireOf_11 : decode cX1_quireOf 11 = .ok (.iload_n 2, 1) := by decide +kernel
theorem dX1_quireOf_12 : decode cX1_quireOf 12 = .ok (.aload_n 0, 1) := by decide +kernel
theorem dX1_quireOf_13 : decode cX1_quireOf 13 = .ok (.invokevirtual 52, 3) := by decide +kernel
theorem dX1_quireOf_16 : decode cX1_quireOf 16 = .ok (.iconst 1, 1) := by decide +kernel
theorem dX1_quireOf_17 : decode cX1_quireOf 17 = .ok (.isub, 1) := by decide +kernel
theorem dX1_quireOf_18 : decode cX1_quireOf 18 = .ok (.if_icmp .ge 25, 3) := by decide +kernel
theorem dX1_quireOf_21 : decode cX1_quireOf 21 = .ok (.iload_n 1, 1) := by decide +kernel
theorem dX1_quireOf_22 : decode cX1_quireOf 22 = .ok (.iload_n 3, 1) := by decide +kernel
theorem dX1_quireOf_23 : decode cX1_quireOf 23 = .ok (.if_icmp .lt 20, 3) := by decide +kernel
theorem dX1_quireOf_26 : decode cX1_quireOf 26 = .ok (.iinc 2 1, 3) := by decide +kernel
theorem dX1_quireOf_29 : decode cX1_quireOf 29 = .ok (.iload_n 3, 1) := by decide +kernel
theorem dX1_quireOf_30 : decode cX1_quireOf 30 = .ok (.aload_n 0, 1) := by decide +kernel
theorem dX1_quireOf_31 : decode cX1_quireOf 31 = .ok (.getfield 32, 3) := by decide +kernel
theorem dX1_quireOf_34 : decode cX1_quireOf 34 = .ok (.iload_n 2, 1) := by decide +kernel
theorem dX1_quireOf_35 : decode cX1_quireOf 35 = .ok (.invokevirtual 65, 3) := by decide +kernel
theorem dX1_quireOf_38 : decode cX1_quireOf 38 = .ok (.iadd, 1) := by decide +kernel
theorem dX1_quireOf_39 : decode cX1_quireOf 39 = .ok (.istore_n 3, 1) := by decide +kernel
theorem dX1_quireOf_40 : decode cX1_quireOf 40 = .ok (.goto (-29), 3) := by decide +kernel
theorem dX1_quireOf_43 : decode cX1_quireOf 43 = .ok (.iload_n 2, 1) := by decide +kernel
theorem dX1_quireOf_44 : decode cX1_quireOf 44 = .ok (.ireturn, 1) := by decide +kernel
theorem dX1_numberOf_0 : decode cX1_numberOf 0 = .ok (.iload_n 1, 1) := by decide +kernel
theorem dX1_numberOf_1 : decode cX1_numberOf 1 = .ok (.aload_n 0, 1) := by decide +kernel
theorem dX1_numberOf_2 : decode cX1_numberOf 2 = .ok (.aload_n 0, 1) := by decide +kernel
theorem dX1_numberOf_3 : decode cX1_numberOf 3 = .ok (.iload_n 1, 1) := by decide +kernel
theorem dX1_numberOf_4 : decode cX1_numberOf 4 = .ok (.invokevirtual 81, 3) := by decide +kernel
theorem dX1_numberOf_7 : decode cX1_numberOf 7 = .ok (.invokevirtual 75, 3) := by decide +kernel
theorem dX1_numberOf_10 : decode cX1_numberOf 10 = .ok (.isub, 1) := by decide +kernel
theorem dX1_numberOf_11 : decode cX1_numberOf 11 = .ok (.iconst 1, 1) := by decide +kernel
theorem dX1_numberOf_12 : decode cX1_numberOf 12 = .ok (.iadd, 1) := by decide +kernel
theorem dX1_numberOf_13 : decode cX1_numberOf 13 = .ok (.ireturn, 1) := by decide +kernel
theorem dX1_signedIn_0 : decode cX1_signedIn 0 = .ok (.aload_n 0, 1) := by decide +kernel
theorem dX1_signedIn_1 : decode cX1_signedIn 1 = .ok (.getfield 32, 3) := by decide +kernel
theorem dX1_signedIn_4 : decode cX1_signedIn 4 = .ok (.iload_n 1, 1) := by decide +kernel
theorem dX1_signedIn_5 : decode cX1_signedIn 5 = .ok (.invokevirtual 65, 3) := by decide +kernel
theorem dX1_signedIn_8 : decode cX1_signedIn 8 = .ok (.istore_n 2, 1) := by decide +kernel
theorem dX1_signedIn_9 : decode cX1_signedIn 9 = .ok (.iload_n 2, 1) := by decide +kernel
theorem dX1_signedIn_10 : decode cX1_signedIn 10 = .ok (.iconst 1, 1) := by decide +kernel
theorem dX1_signedIn_11 : decode cX1_signedIn 11 = .ok (.iadd, 1) := by decide +kernel
theorem dX1_signedIn_12 : decode cX1_signedIn 12 = .ok (.iconst 2, 1) := by decide +kernel
theorem dX1_signedIn_13 : decode cX1_signedIn 13 = .ok (.idiv, 1) := by decide +kernel
theorem dX1_signedIn_14 : decode cX1_signedIn 14 = .ok (.istore_n 3, 1) := by decide +kernel
theorem dX1_signedIn_15 : decode cX1_signedIn 15 = .ok (.aload_n 0, 1) := by decide +kernel
theorem dX1_signedIn_16 : decode cX1_signedIn 16 = .ok (.getfield 21, 3) := by decide +kernel
theorem dX1_signedIn_19 : decode cX1_signedIn 19 = .ok (.lookupswitch 35 #[(0, 25), (1, 27)], 25) := by decide +kernel
theorem dX1_signedIn_44 : decode cX1_signedIn 44 = .ok (.iload_n 3, 1) := by decide +kernel
theorem dX1_signedIn_45 : decode cX1_signedIn 45 = .ok (.ireturn, 1) := by decide +kernel
theorem dX1_signedIn_46 : decode cX1_signedIn 46 = .ok (.iload_n 3, 1) := by decide +kernel
theorem dX1_signedIn_47 : decode cX1_signedIn 47 = .ok (.iconst 1, 1) := by decide +kernel
theorem dX1_signedIn_48 : decode cX1_signedIn 48 = .ok (.iadd, 1) := by decide +kernel
theorem dX1_signedIn_49 : decode cX1_signedIn 49 = .ok (.iload_n 2, 1) := by decide +kernel
theorem dX1_signedIn_50 : decode cX1_signedIn 50 = .ok (.invokestatic 84, 3) := by decide +kernel
theorem dX1_signedIn_53 : decode cX1_signedIn 53 = .ok (.ireturn, 1) := by decide +kernel
theorem dX1_signedIn_54 : decode cX1_signedIn 54 = .ok (.iload_n 2, 1) := by decide +kernel
theorem dX1_signedIn_55 : decode cX1_signedIn 55 = .ok (.ireturn, 1) := by decide +kernel
theorem dX1_signedLeaves_0 : decode cX1_signedLeaves 0 = .ok (.iconst 0, 1) := by decide +kernel
theorem dX1_signedLeaves_1 : decode cX1_signedLeaves 1 = .ok (.istore_n 1, 1) := by decide +kernel
theorem dX1_signedLeaves_2 : decode cX1_signedLeaves 2 = .ok (.iconst 0, 1) := by decide +kernel
theorem dX1_signedLeaves_3 : decode cX1_signedLeaves 3 = .ok (.istore_n 2, 1) := by decide +kernel
theorem dX1_signedLeaves_4 : decode cX1_signedLeaves 4 = .ok (.iload_n 2, 1) := by decide +kernel
theorem dX1_signedLeaves_5 : decode cX1_signedLeaves 5 = .ok (.aload_n 0, 1) := by decide +kernel
theorem dX1_signedLeaves_6 : decode cX1_signedLeaves 6 = .ok (.invokevirtual 52, 3) := by decide +kernel
theorem dX1_signedLeaves_9 : decode cX1_signedLeaves 9 = .ok (.if_icmp .ge 17, 3) := by decide +kernel
theorem dX1_signedLeaves_12 : decode cX1_signedLeaves 12 = .ok (.iload_n 1, 1) := by decide +kernel
theorem dX1_signedLeaves_13 : decode cX1_signedLeaves 13 = .ok (.aload_n 0, 1) := by decide +kernel
theorem dX1_signedLeaves_14 : decode cX1_signedLeaves 14 = .ok (.iload_n 2, 1) := by decide +kernel
theorem dX1_signedLeaves_15 : decode cX1_signedLeaves 15 = .ok (.invokevirtual 90, 3) := by decide +kernel
theorem dX1_signedLeaves_18 : decode cX1_signedLeaves 18 = .ok (.iadd, 1) := by decide +kernel
theorem dX1_signedLeaves_19 : decode cX1_signedLeaves 19 = .ok (.istore_n 1, 1) := by decide +kernel
theorem dX1_signedLeaves_20 : decode cX1_signedLeaves 20 = .ok (.iinc 2 1, 3) := by decide +kernel
theorem dX1_signedLeaves_23 : decode cX1_signedLeaves 23 = .ok (.goto (-19), 3) := by decide +kernel
theorem dX1_signedLeaves_26 : decode cX1_signedLeaves 26 = .ok (.iload_n 1, 1) := by decide +kernel
theorem dX1_signedLeaves_27 : decode cX1_signedLeaves 27 = .ok (.ireturn, 1) := by decide +kernel
theorem dX1_isLost_0 : decode cX1_isLost 0 = .ok (.aload_n 0, 1) := by decide +kernel
theorem dX1_isLost_1 : decode cX1_isLost 1 = .ok (.getfield 35, 3) := by decide +kernel
theorem dX1_isLost_4 : decode cX1_isLost 4 = .ok (.aload_n 0, 1) := by decide +kernel
theorem dX1_isLost_5 : decode cX1_isLost 5 = .ok (.iload_n 1, 1) := by decide +kernel
theorem dX1_isLost_6 : decode cX1_isLost 6 = .ok (.invokevirtual 81, 3) := by decide +kernel
theorem dX1_isLost_9 : decode cX1_isLost 9 = .ok (.invokevirtual 65, 3) := by decide +kernel
theorem dX1_isLost_12 : decode cX1_isLost 12 = .ok (.aload_n 0, 1) := by decide +kernel
theorem dX1_isLost_13 : decode cX1_isLost 13 = .ok (.iload_n 1, 1) := by decide +kernel
theorem dX1_isLost_14 : decode cX1_isLost 14 = .ok (.invokevirtual 93, 3) := by decide +kernel
theorem dX1_isLost_17 : decode cX1_isLost 17 = .ok (.iconst 1, 1) := by decide +kernel
theorem dX1_isLost_18 : decode cX1_isLost 18 = .ok (.isub, 1) := by decide +kernel
theorem dX1_isLost_19 : decode cX1_isLost 19 = .ok (.ishr, 1) := by decide +kernel
theorem dX1_isLost_20 : decode cX1_isLost 20 = .ok (.iconst 1, 1) := by decide +kernel
theorem dX1_isLost_21 : decode cX1_isLost 21 = .ok (.iand, 1) := by decide +kernel
theorem dX1_isLost_22 : decode cX1_isLost 22 = .ok (.iconst 1, 1) := by decide +kernel
theorem dX1_isLost_23 : decode cX1_isLost 23 = .ok (.if_icmp .ne 7, 3) := by decide +kernel
theorem dX1_isLost_26 : decode cX1_isLost 26 = .ok (.iconst 1, 1) := by decide +kernel
theorem dX1_isLost_27 : decode cX1_isLost 27 = .ok (.goto 4, 3) := by decide +kernel
theorem dX1_isLost_30 : decode cX1_isLost 30 = .ok (.iconst 0, 1) := by decide +kernel
theorem dX1_isLost_31 : decode cX1_isLost 31 = .ok (.ireturn, 1) := by decide +kernel
theorem dX1_turnLost_0 : decode cX1_turnLost 0 = .ok (.aload_n 0, 1) := by decide +kernel
theorem dX1_turnLost_1 : decode cX1_turnLost 1 = .ok (.iload_n 1, 1) := by decide +kernel
theorem dX1_turnLost_2 : decode cX1_turnLost 2 = .ok (.invokevirtual 81, 3) := by decide +kernel
theorem dX1_turnLost_5 : decode cX1_turnLost 5 = .ok (.istore_n 2, 1) := by decide +kernel
theorem dX1_turnLost_6 : decode cX1_turnLost 6 = .ok (.aload_n 0, 1) := by decide +kernel
theorem dX1_turnLost_7 : decode cX1_turnLost 7 = .ok (.getfield 35, 3) := by decide +kernel
theorem dX1_turnLost_10 : decode cX1_turnLost 10 = .ok (.iload_n 2, 1) := by decide +kernel
theorem dX1_turnLost_11 : decode cX1_turnLost 11 = .ok (.aload_n 0, 1) := by decide +kernel
theorem dX1_turnLost_12 : decode cX1_turnLost 12 = .ok (.getfield 35, 3) := by decide +kernel
theorem dX1_turnLost_15 : decode cX1_turnLost 15 = .ok (.iload_n 2, 1) := by decide +kernel
theorem dX1_turnLost_16 : decode cX1_turnLost 16 = .ok (.invokevirtual 65, 3) := by decide +kernel
theorem dX1_turnLost_19 : decode cX1_turnLost 19 = .ok (.iconst 1, 1) := by decide +kernel
theorem dX1_turnLost_20 : decode cX1_turnLost 20 = .ok (.aload_n 0, 1) := by decide +kernel
theorem dX1_turnLost_21 : decode cX1_turnLost 21 = .ok (.iload_n 1, 1) := by decide +kernel
theorem dX1_turnLost_22 : decode cX1_turnLost 22 = .ok (.invokevirtual 93, 3) := by decide +kernel
theorem dX1_turnLost_25 : decode cX1_turnLost 25 = .ok (.iconst 1, 1) := by decide +kernel
theorem dX1_turnLost_26 : decode cX1_turnLost 26 = .ok (.isub, 1) := by decide +kernel
theorem dX1_turnLost_27 : decode cX1_turnLost 27 = .ok (.ishl, 1) := by decide +kernel
theorem dX1_turnLost_28 : decode cX1_turnLost 28 = .ok (.ixor, 1) := by decide +kernel
theorem dX1_turnLost_29 : decode cX1_turnLost 29 = .ok (.invokevirtual 96, 3) := by decide +kernel
theorem dX1_turnLost_32 : decode cX1_turnLost 32 = .ok (.aload_n 0, 1) := by decide +kernel
theorem dX1_turnLost_33 : decode cX1_turnLost 33 = .ok (.getfield 38, 3) := by decide +kernel
theorem dX1_turnLost_36 : decode cX1_turnLost 36 = .ok (.invokevirtual 59, 3) := by decide +kernel
theorem dX1_turnLost_39 : decode cX1_turnLost 39 = .ok (.return_, 1) := by decide +kernel
theorem dX1_thereIn_0 : decode cX1_thereIn 0 = .ok (.aload_n 0, 1) := by decide +kernel
theorem dX1_thereIn_1 : decode cX1_thereIn 1 = .ok (.getfield 32, 3) := by decide +kernel
theorem dX1_thereIn_4 : decode cX1_thereIn 4 = .ok (.iload_n 1, 1) := by decide +kernel
theorem dX1_thereIn_5 : decode cX1_thereIn 5 = .ok (.invokevirtual 65, 3) := by decide +kernel
theorem dX1_thereIn_8 : decode cX1_thereIn 8 = .ok (.aload_n 0, 1) := by decide +kernel
theorem dX1_thereIn_9 : decode cX1_thereIn 9 = .ok (.getfield 35, 3) := by decide +kernel
theorem dX1_thereIn_12 : decode cX1_thereIn 12 = .ok (.iload_n 1, 1) := by decide +kernel
theorem dX1_thereIn_13 : decode cX1_thereIn 13 = .ok (.invokevirtual 65, 3) := by decide +kernel
theorem dX1_thereIn_16 : decode cX1_thereIn 16 = .ok (.invokestatic 99, 3) := by decide +kernel
theorem dX1_thereIn_19 : decode cX1_thereIn 19 = .ok (.isub, 1) := by decide +kernel
theorem dX1_thereIn_20 : decode cX1_thereIn 20 = .ok (.ireturn, 1) := by decide +kernel
theorem dX1_thereAhead_0 : decode cX1_thereAhead 0 = .ok (.iconst 0, 1) := by decide +kernel
theorem dX1_thereAhead_1 : decode cX1_thereAhead 1 = .ok (.istore_n 2, 1) := by decide +kernel
theorem dX1_thereAhead_2 : decode cX1_thereAhead 2 = .ok (.iconst 0, 1) := by decide +kernel
theorem dX1_thereAhead_3 : decode cX1_thereAhead 3 = .ok (.istore_n 3, 1) := by decide +kernel
theorem dX1_thereAhead_4 : decode cX1_thereAhead 4 = .ok (.iconst 0, 1) := by decide +kernel
theorem dX1_thereAhead_5 : decode cX1_thereAhead 5 = .ok (.istore 4, 2) := by decide +kernel
theorem dX1_thereAhead_7 : decode cX1_thereAhead 7 = .ok (.iload 4, 2) := by decide +kernel
theorem dX1_thereAhead_9 : decode cX1_thereAhead 9 = .ok (.aload_n 0, 1) := by decide +kernel
theorem dX1_thereAhead_10 : decode cX1_thereAhead 10 = .ok (.invokevirtual 52, 3) := by decide +kernel
theorem dX1_thereAhead_13 : decode cX1_thereAhead 13 = .ok (.if_icmp .ge 64, 3) := by decide +kernel
theorem dX1_thereAhead_16 : decode cX1_thereAhead 16 = .ok (.aload_n 0, 1) := by decide +kernel
theorem dX1_thereAhead_17 : decode cX1_thereAhead 17 = .ok (.getfield 32, 3) := by decide +kernel
theorem dX1_thereAhead_20 : decode cX1_thereAhead 20 = .ok (.iload 4, 2) := by decide +kernel
theorem dX1_thereAhead_22 : decode cX1_thereAhead 22 = .ok (.invokevirtual 65, 3) := by decide +kernel
theorem dX1_thereAhead_25 : decode cX1_thereAhead 25 = .ok (.istore 5, 2) := by decide +kernel
theorem dX1_thereAhead_27 : decode cX1_thereAhead 27 = .ok (.iload 5, 2) := by decide +kernel
theorem dX1_thereAhead_29 : decode cX1_thereAhead 29 = .ok (.iload_n 1, 1) := by decide +kernel
theorem dX1_thereAhead_30 : decode cX1_thereAhead 30 = .ok (.iload_n 3, 1) := by decide +kernel
theorem dX1_thereAhead_31 : decode cX1_thereAhead 31 = .ok (.isub, 1) := by decide +kernel
theorem dX1_thereAhead_32 : decode cX1_thereAhead 32 = .ok (.iconst 0, 1) := by decide +kernel
theorem dX1_thereAhead_33 : decode cX1_thereAhead 33 = .ok (.invokestatic 104, 3) := by decide +kernel
theorem dX1_thereAhead_36 : decode cX1_thereAhead 36 = .ok (.invokestatic 84, 3) := by decide +kernel
theorem dX1_thereAhead_39 : decode cX1_thereAhead 39 = .ok (.istore 6, 2) := by decide +kernel
theorem dX1_thereAhead_41 : decode cX1_thereAhead 41 = .ok (.iload_n 2, 1) := by decide +kernel
theorem dX1_thereAhead_42 : decode cX1_thereAhead 42 = .ok (.iload 6, 2) := by decide +kernel
theorem dX1_thereAhead_44 : decode cX1_thereAhead 44 = .ok (.aload_n 0, 1) := by decide +kernel
theorem dX1_thereAhead_45 : decode cX1_thereAhead 45 = .ok (.getfield 35, 3) := by decide +kernel
theorem dX1_thereAhead_48 : decode cX1_thereAhead 48 = .ok (.iload 4, 2) := by decide +kernel
theorem dX1_thereAhead_50 : decode cX1_thereAhead 50 = .ok (.invokevirtual 65, 3) := by decide +kernel
theorem dX1_thereAhead_53 : decode cX1_thereAhead 53 = .ok (.iconst 1, 1) := by decide +kernel
theorem dX1_thereAhead_54 : decode cX1_thereAhead 54 = .ok (.iload 6, 2) := by decide +kernel
theorem dX1_thereAhead_56 : decode cX1_thereAhead 56 = .ok (.ishl, 1) := by decide +kernel
theorem dX1_thereAhead_57 : decode cX1_thereAhead 57 = .ok (.iconst 1, 1) := by decide +kernel
theorem dX1_thereAhead_58 : decode cX1_thereAhead 58 = .ok (.isub, 1) := by decide +kernel
theorem dX1_thereAhead_59 : decode cX1_thereAhead 59 = .ok (.iand, 1) := by decide +kernel
theorem dX1_thereAhead_60 : decode cX1_thereAhead 60 = .ok (.invokestatic 99, 3) := by decide +kernel
theorem dX1_thereAhead_63 : decode cX1_thereAhead 63 = .ok (.isub, 1) := by decide +kernel
theorem dX1_thereAhead_64 : decode cX1_thereAhead 64 = .ok (.iadd, 1) := by decide +kernel
theorem dX1_thereAhead_65 : decode cX1_thereAhead 65 = .ok (.istore_n 2, 1) := by decide +kernel
theorem dX1_thereAhead_66 : decode cX1_thereAhead 66 = .ok (.iload_n 3, 1) := by decide +kernel
theorem dX1_thereAhead_67 : decode cX1_thereAhead 67 = .ok (.iload 5, 2) := by decide +kernel
theorem dX1_thereAhead_69 : decode cX1_thereAhead 69 = .ok (.iadd, 1) := by decide +kernel
theorem dX1_thereAhead_70 : decode cX1_thereAhead 70 = .ok (.istore_n 3, 1) := by decide +kernel
theorem dX1_thereAhead_71 : decode cX1_thereAhead 71 = .ok (.iinc 4 1, 3) := by decide +kernel
theorem dX1_thereAhead_74 : decode cX1_thereAhead 74 = .ok (.goto (-67), 3) := by decide +kernel
theorem dX1_thereAhead_77 : decode cX1_thereAhead 77 = .ok (.iload_n 2, 1) := by decide +kernel
theorem dX1_thereAhead_78 : decode cX1_thereAhead 78 = .ok (.ireturn, 1) := by decide +kernel
theorem dX1_leavesThere_0 : decode cX1_leavesThere 0 = .ok (.aload_n 0, 1) := by decide +kernel
theorem dX1_leavesThere_1 : decode cX1_leavesThere 1 = .ok (.aload_n 0, 1) := by decide +kernel
theorem dX1_leavesThere_2 : decode cX1_leavesThere 2 = .ok (.invokevirtual 78, 3) := by decide +kernel
theorem dX1_leavesThere_5 : decode cX1_leavesThere 5 = .ok (.invokevirtual 107, 3) := by decide +kernel
theorem dX1_leavesThere_8 : decode cX1_leavesThere 8 = .ok (.ireturn, 1) := by decide +kernel
theorem dX1_leafSigned_0 : decode cX1_leafSigned 0 = .ok (.iconst 0, 1) := by decide +kernel
theorem dX1_leafSigned_1 : decode cX1_leafSigned 1 = .ok (.istore_n 3, 1) := by decide +kernel
theorem dX1_leafSigned_2 : decode cX1_leafSigned 2 = .ok (.iload_n 3, 1) := by decide +kernel
theorem dX1_leafSigned_3 : decode cX1_leafSigned 3 = .ok (.aload_n 0, 1) := by decide +kernel
theorem dX1_leafSigned_4 : decode cX1_leafSigned 4 = .ok (.invokevirtual 52, 3) := by decide +kernel
theorem dX1_leafSigned_7 : decode cX1_leafSigned 7 = .ok (.if_icmp .ge 43, 3) := by decide +kernel
theorem dX1_leafSigned_10 : decode cX1_leafSigned 10 = .ok (.aload_n 0, 1) := by decide +kernel
theorem dX1_leafSigned_11 : decode cX1_leafSigned 11 = .ok (.getfield 28, 3) := by decide +kernel
theorem dX1_leafSigned_14 : decode cX1_leafSigned 14 = .ok (.iload_n 3, 1) := by decide +kernel
theorem dX1_leafSigned_15 : decode cX1_leafSigned 15 = .ok (.invokevirtual 65, 3) := by decide +kernel
theorem dX1_leafSigned_18 : decode cX1_leafSigned 18 = .ok (.iload_n 1, 1) := by decide +kernel
theorem dX1_leafSigned_19 : decode cX1_leafSigned 19 = .ok (.if_icmp .ne 25, 3) := by decide +kernel
theorem dX1_leafSigned_22 : decode cX1_leafSigned 22 = .ok (.iload_n 2, 1) := by decide +kernel
theorem dX1_leafSigned_23 : decode cX1_leafSigned 23 = .ok (.aload_n 0, 1) := by decide +kernel
theorem dX1_leafSigned_24 : decode cX1_leafSigned 24 = .ok (.getfield 32, 3) := by decide +kernel
theorem dX1_leafSigned_27 : decode cX1_leafSigned 27 = .ok (.iload_n 3, 1) := by decide +kernel
theorem dX1_leafSigned_28 : decode cX1_leafSigned 28 = .ok (.invokevirtual 65, 3) := by decide +kernel
theorem dX1_leafSigned_31 : decode cX1_leafSigned 31 = .ok (.if_icmp .gt 13, 3) := by decide +kernel
theorem dX1_leafSigned_34 : decode cX1_leafSigned 34 = .ok (.aload_n 0, 1) := by decide +kernel
theorem dX1_leafSigned_35 : decode cX1_leafSigned 35 = .ok (.iload_n 3, 1) := by decide +kernel
theorem dX1_leafSigned_36 : decode cX1_leafSigned 36 = .ok (.invokevirtual 75, 3) := by decide +kernel
theorem dX1_leafSigned_39 : decode cX1_leafSigned 39 = .ok (.iload_n 2, 1) := by decide +kernel
theorem dX1_leafSigned_40 : decode cX1_leafSigned 40 = .ok (.iadd, 1) := by decide +kernel
theorem dX1_leafSigned_41 : decode cX1_leafSigned 41 = .ok (.iconst 1, 1) := by decide +kernel
theorem dX1_leafSigned_42 : decode cX1_leafSigned 42 = .ok (.isub, 1) := by decide +kernel
theorem dX1_leafSigned_43 : decode cX1_leafSigned 43 = .ok (.ireturn, 1) := by decide +kernel
theorem dX1_leafSigned_44 : decode cX1_leafSigned 44 = .ok (.iinc 3 1, 3) := by decide +kernel
theorem dX1_leafSigned_47 : decode cX1_leafSigned 47 = .ok (.goto (-45), 3) := by decide +kernel
theorem dX1_leafSigned_50 : decode cX1_leafSigned 50 = .ok (.iconst (-1), 1) := by decide +kernel
theorem dX1_leafSigned_51 : decode cX1_leafSigned 51 = .ok (.ireturn, 1) := by decide +kernel
theorem dX1_addToPile_0 : decode cX1_addToPile 0 = .ok (.aload_n 0, 1) := by decide +kernel
theorem dX1_addToPile_1 : decode cX1_addToPile 1 = .ok (.getfield 38, 3) := by decide +kernel
theorem dX1_addToPile_4 : decode cX1_addToPile 4 = .ok (.invokevirtual 48, 3) := by decide +kernel
theorem dX1_addToPile_7 : decode cX1_addToPile 7 = .ok (.istore_n 2, 1) := by decide +kernel
theorem dX1_addToPile_8 : decode cX1_addToPile 8 = .ok (.iload_n 2, 1) := by decide +kernel
theorem dX1_addToPile_9 : decode cX1_addToPile 9 = .ok (.ifCond .le 23, 3) := by decide +kernel
theorem dX1_addToPile_12 : decode cX1_addToPile 12 = .ok (.aload_n 0, 1) := by decide +kernel
theorem dX1_addToPile_13 : decode cX1_addToPile 13 = .ok (.getfield 38, 3) := by decide +kernel
theorem dX1_addToPile_16 : decode cX1_addToPile 16 = .ok (.iload_n 2, 1) := by decide +kernel
theorem dX1_addToPile_17 : decode cX1_addToPile 17 = .ok (.iconst 1, 1) := by decide +kernel
theorem dX1_addToPile_18 : decode cX1_addToPile 18 = .ok (.isub, 1) := by decide +kernel
theorem dX1_addToPile_19 : decode cX1_addToPile 19 = .ok (.invokevirtual 65, 3) := by decide +kernel
theorem dX1_addToPile_22 : decode cX1_addToPile 22 = .ok (.iload_n 1, 1) := by decide +kernel
theorem dX1_addToPile_23 : decode cX1_addToPile 23 = .ok (.if_icmp .le 9, 3) := by decide +kernel
theorem dX1_addToPile_26 : decode cX1_addToPile 26 = .ok (.iinc 2 (-1), 3) := by decide +kernel
theorem dX1_addToPile_29 : decode cX1_addToPile 29 = .ok (.goto (-21), 3) := by decide +kernel
theorem dX1_addToPile_32 : decode cX1_addToPile 32 = .ok (.aload_n 0, 1) := by decide +kernel
theorem dX1_addToPile_33 : decode cX1_addToPile 33 = .ok (.getfield 38, 3) := by decide +kernel
theorem dX1_addToPile_36 : decode cX1_addToPile 36 = .ok (.iload_n 2, 1) := by decide +kernel
theorem dX1_addToPile_37 : decode cX1_addToPile 37 = .ok (.iload_n 1, 1) := by decide +kernel
theorem dX1_addToPile_38 : decode cX1_addToPile 38 = .ok (.invokevirtual 55, 3) := by decide +kernel
theorem dX1_addToPile_41 : decode cX1_addToPile 41 = .ok (.return_, 1) := by decide +kernel
theorem dX2_init_0 : decode cX2_init 0 = .ok (.aload_n 0, 1) := by decide +kernel
theorem dX2_init_1 : decode cX2_init 1 = .ok (.invokespecial 3, 3) := by decide +kernel
theorem dX2_init_4 : decode cX2_init 4 = .ok (.aload_n 0, 1) := by decide +kernel
theorem dX2_init_5 : decode cX2_init 5 = .ok (.iconst 4, 1) := by decide +kernel
theorem dX2_init_6 : decode cX2_init 6 = .ok (.anewarray 9, 3) := by decide +kernel
theorem dX2_init_9 : decode cX2_init 9 = .ok (.putfield 11, 3) := by decide +kernel
theorem dX2_init_12 : decode cX2_init 12 = .ok (.iconst 0, 1) := by decide +kernel
theorem dX2_init_13 : decode cX2_init 13 = .ok (.istore_n 1, 1) := by decide +kernel
theorem dX2_init_14 : decode cX2_init 14 = .ok (.iload_n 1, 1) := by decide +kernel
theorem dX2_init_15 : decode cX2_init 15 = .ok (.aload_n 0, 1) := by decide +kernel
theorem dX2_init_16 : decode cX2_init 16 = .ok (.getfield 11, 3) := by decide +kernel
theorem dX2_init_19 : decode cX2_init 19 = .ok (.arraylength, 1) := by decide +kernel
theorem dX2_init_20 : decode cX2_init 20 = .ok (.if_icmp .ge 22, 3) := by decide +kernel
theorem dX2_init_23 : decode cX2_init 23 = .ok (.aload_n 0, 1) := by decide +kernel
theorem dX2_init_24 : decode cX2_init 24 = .ok (.getfield 11, 3) := by decide +kernel
theorem dX2_init_27 : decode cX2_init 27 = .ok (.iload_n 1, 1) := by decide +kernel
theorem dX2_init_28 : decode cX2_init 28 = .ok (.new 9, 3) := by decide +kernel
theorem dX2_init_31 : decode cX2_init 31 = .ok (.dup, 1) := by decide +kernel
theorem dX2_init_32 : decode cX2_init 32 = .ok (.invokespecial 17, 3) := by decide +kernel
theorem dX2_init_35 : decode cX2_init 35 = .ok (.aastore, 1) := by decide +kernel
theorem dX2_init_36 : decode cX2_init 36 = .ok (.iinc 1 1, 3) := by decide +kernel
theorem dX2_init_39 : decode cX2_init 39 = .ok (.goto (-25), 3) := by decide +kernel
theorem dX2_init_42 : decode cX2_init 42 = .ok (.return_, 1) := by decide +kernel
theorem dX2_states_0 : decode cX2_states 0 = .ok (.aload_n 0, 1) := by decide +kernel
theorem dX2_states_1 : decode cX2_states 1 = .ok (.getfield 18, 3) := by decide +kernel
theorem dX2_states_4 : decode cX2_states 4 = .ok (.ireturn, 1) := by decide +kernel
theorem dX2_record_0 : decode cX2_record 0 = .ok (.aload_n 0, 1) := by decide +kernel
theorem dX2_record_1 : decode cX2_record 1 = .ok (.getfield 18, 3) := by decide +kernel
theorem dX2_record_4 : decode cX2_record 4 = .ok (.aload_n 0, 1) := by decide +kernel
theorem dX2_record_5 : decode cX2_record 5 = .ok (.getfield 11, 3) := by decide +kernel
theorem dX2_record_8 : decode cX2_record 8 = .ok (.arraylength, 1) := by decide +kernel
theorem dX2_record_9 : decode cX2_record 9 = .ok (.if_icmp .lt 7, 3) := by decide +kernel
theorem dX2_record_12 : decode cX2_record 12 = .ok (.aload_n 0, 1) := by decide +kernel
theorem dX2_record_13 : decode cX2_record 13 = .ok (.invokevirtual 22, 3) := by decide +kernel
theorem dX2_record_16 : decode cX2_record 16 = .ok (.aload_n 0, 1) := by decide +kernel
theorem dX2_record_17 : decode cX2_record 17 = .ok (.aload_n 0, 1) := by decide +kernel
theorem dX2_record_18 : decode cX2_record 18 = .ok (.getfield 18, 3) := by decide +kernel
theorem dX2_record_21 : decode cX2_record 21 = .ok (.invokevirtual 25, 3) := by decide +kernel
theorem dX2_record_24 : decode cX2_record 24 = .ok (.astore_n 2, 1) := by decide +kernel
theorem dX2_record_25 : decode cX2_record 25 = .ok (.aload_n 2, 1) := by decide +kernel
theorem dX2_record_26 : decode cX2_record 26 = .ok (.ifnull 18, 3) := by decide +kernel
theorem dX2_record_29 : decode cX2_record 29 = .ok (.aload_n 2, 1) := by decide +kernel
theorem dX2_record_30 : decode cX2_record 30 = .ok (.aload_n 1, 1) := by decide +kernel
theorem dX2_record_31 : decode cX2_record 31 = .ok (.invokevirtual 29, 3) := by decide +kernel
theorem dX2_record_34 : decode cX2_record 34 = .ok (.aload_n 0, 1) := by decide +kernel
theorem dX2_record_35 : decode cX2_record 35 = .ok (.dup, 1) := by decide +kernel
theorem dX2_record_36 : decode cX2_record 36 = .ok (.getfield 18, 3) := by decide +kernel
theorem dX2_record_39 : decode cX2_record 39 = .ok (.iconst 1, 1) := by decide +kernel
theorem dX2_record_40 : decode cX2_record 40 = .ok (.iadd, 1) := by decide +kernel
theorem dX2_record_41 : decode cX2_record 41 = .ok (.putfield 18, 3) := by decide +kernel
theorem dX2_record_44 : decode cX2_record 44 = .ok (.return_, 1) := by decide +kernel
theorem dX2_takeBack_0 : decode cX2_takeBack 0 = .ok (.aload_n 0, 1) := by decide +kernel
theorem dX2_takeBack_1 : decode cX2_takeBack 1 = .ok (.aload_n 0, 1) := by decide +kernel
theorem dX2_takeBack_2 : decode cX2_takeBack 2 = .ok (.getfield 18, 3) := by decide +kernel
theorem dX2_takeBack_5 : decode cX2_takeBack 5 = .ok (.iconst 1, 1) := by decide +kernel
theorem dX2_takeBack_6 : decode cX2_takeBack 6 = .ok (.isub, 1) := by decide +kernel
theorem dX2_takeBack_7 : decode cX2_takeBack 7 = .ok (.invokevirtual 25, 3) := by decide +kernel
theorem dX2_takeBack_10 : decode cX2_takeBack 10 = .ok (.astore_n 2, 1) := by decide +kernel
theorem dX2_takeBack_11 : decode cX2_takeBack 11 = .ok (.aload_n 2, 1) := by decide +kernel
theorem dX2_takeBack_12 : decode cX2_takeBack 12 = .ok (.ifnull 18, 3) := by decide +kernel
theorem dX2_takeBack_15 : decode cX2_takeBack 15 = .ok (.aload_n 1, 1) := by decide +kernel
theorem dX2_takeBack_16 : decode cX2_takeBack 16 = .ok (.aload_n 2, 1) := by decide +kernel
theorem dX2_takeBack_17 : decode cX2_takeBack 17 = .ok (.invokevirtual 29, 3) := by decide +kernel
theorem dX2_takeBack_20 : decode cX2_takeBack 20 = .ok (.aload_n 0, 1) := by decide +kernel
theorem dX2_takeBack_21 : decode cX2_takeBack 21 = .ok (.dup, 1) := by decide +kernel
theorem dX2_takeBack_22 : decode cX2_takeBack 22 = .ok (.getfield 18, 3) := by decide +kernel
theorem dX2_takeBack_25 : decode cX2_takeBack 25 = .ok (.iconst 1, 1) := by decide +kernel
theorem dX2_takeBack_26 : decode cX2_takeBack 26 = .ok (.isub, 1) := by decide +kernel
theorem dX2_takeBack_27 : decode cX2_takeBack 27 = .ok (.putfield 18, 3) := by decide +kernel
theorem dX2_takeBack_30 : decode cX2_takeBack 30 = .ok (.return_, 1) := by decide +kernel
theorem dX2_bookAt_0 : decode cX2_bookAt 0 = .ok (.iload_n 1, 1) := by decide +kernel
theorem dX2_bookAt_1 : decode cX2_bookAt 1 = .ok (.ifCond .lt 21, 3) := by decide +kernel
theorem dX2_bookAt_4 : decode cX2_bookAt 4 = .ok (.iload_n 1, 1) := by decide +kernel
theorem dX2_bookAt_5 : decode cX2_bookAt 5 = .ok (.aload_n 0, 1) := by decide +kernel
theorem dX2_bookAt_6 : decode cX2_bookAt 6 = .ok (.getfield 11, 3) := by decide +kernel
theorem dX2_bookAt_9 : decode cX2_bookAt 9 = .ok (.arraylength, 1) := by decide +kernel
theorem dX2_bookAt_10 : decode cX2_bookAt 10 = .ok (.if_icmp .ge 12, 3) := by decide +kernel
theorem dX2_bookAt_13 : decode cX2_bookAt 13 = .ok (.aload_n 0, 1) := by decide +kernel
theorem dX2_bookAt_14 : decode cX2_bookAt 14 = .ok (.getfield 11, 3) := by decide +kernel
theorem dX2_bookAt_17 : decode cX2_bookAt 17 = .ok (.iload_n 1, 1) := by decide +kernel
theorem dX2_bookAt_18 : decode cX2_bookAt 18 = .ok (.aaload, 1) := by decide +kernel
theorem dX2_bookAt_19 : decode cX2_bookAt 19 = .ok (.goto 4, 3) := by decide +kernel
theorem dX2_bookAt_22 : decode cX2_bookAt 22 = .ok (.aconst_null, 1) := by decide +kernel
theorem dX2_bookAt_23 : decode cX2_bookAt 23 = .ok (.areturn, 1) := by decide +kernel
theorem dX2_dropOldest_0 : decode cX2_dropOldest 0 = .ok (.iconst 1, 1) := by decide +kernel
theorem dX2_dropOldest_1 : decode cX2_dropOldest 1 = .ok (.istore_n 1, 1) := by decide +kernel
theorem dX2_dropOldest_2 : decode cX2_dropOldest 2 = .ok (.iload_n 1, 1) := by decide +kernel
theorem dX2_dropOldest_3 : decode cX2_dropOldest 3 = .ok (.aload_n 0, 1) := by decide +kernel
theorem dX2_dropOldest_4 : decode cX2_dropOldest 4 = .ok (.getfield 11, 3) := by decide +kernel
theorem dX2_dropOldest_7 : decode cX2_dropOldest 7 = .ok (.arraylength, 1) := by decide +kernel
theorem dX2_dropOldest_8 : decode cX2_dropOldest 8 = .ok (.if_icmp .ge 39, 3) := by decide +kernel
theorem dX2_dropOldest_11 : decode cX2_dropOldest 11 = .ok (.aload_n 0, 1) := by decide +kernel
theorem dX2_dropOldest_12 : decode cX2_dropOldest 12 = .ok (.getfield 11, 3) := by decide +kernel
theorem dX2_dropOldest_15 : decode cX2_dropOldest 15 = .ok (.iload_n 1, 1) := by decide +kernel
theorem dX2_dropOldest_16 : decode cX2_dropOldest 16 = .ok (.iconst 1, 1) := by decide +kernel
theorem dX2_dropOldest_17 : decode cX2_dropOldest 17 = .ok (.isub, 1) := by decide +kernel
theorem dX2_dropOldest_18 : decode cX2_dropOldest 18 = .ok (.aaload, 1) := by decide +kernel
theorem dX2_dropOldest_19 : decode cX2_dropOldest 19 = .ok (.astore_n 2, 1) := by decide +kernel
theorem dX2_dropOldest_20 : decode cX2_dropOldest 20 = .ok (.aload_n 0, 1) := by decide +kernel
theorem dX2_dropOldest_21 : decode cX2_dropOldest 21 = .ok (.getfield 11, 3) := by decide +kernel
theorem dX2_dropOldest_24 : decode cX2_dropOldest 24 = .ok (.iload_n 1, 1) := by decide +kernel
theorem dX2_dropOldest_25 : decode cX2_dropOldest 25 = .ok (.iconst 1, 1) := by decide +kernel
theorem dX2_dropOldest_26 : decode cX2_dropOldest 26 = .ok (.isub, 1) := by decide +kernel
theorem dX2_dropOldest_27 : decode cX2_dropOldest 27 = .ok (.aload_n 0, 1) := by decide +kernel
theorem dX2_dropOldest_28 : decode cX2_dropOldest 28 = .ok (.getfield 11, 3) := by decide +kernel
theorem dX2_dropOldest_31 : decode cX2_dropOldest 31 = .ok (.iload_n 1, 1) := by decide +kernel
theorem dX2_dropOldest_32 : decode cX2_dropOldest 32 = .ok (.aaload, 1) := by decide +kernel
theorem dX2_dropOldest_33 : decode cX2_dropOldest 33 = .ok (.aastore, 1) := by decide +kernel
theorem dX2_dropOldest_34 : decode cX2_dropOldest 34 = .ok (.aload_n 0, 1) := by decide +kernel
theorem dX2_dropOldest_35 : decode cX2_dropOldest 35 = .ok (.getfield 11, 3) := by decide +kernel
theorem dX2_dropOldest_38 : decode cX2_dropOldest 38 = .ok (.iload_n 1, 1) := by decide +kernel
theorem dX2_dropOldest_39 : decode cX2_dropOldest 39 = .ok (.aload_n 2, 1) := by decide +kernel
theorem dX2_dropOldest_40 : decode cX2_dropOldest 40 = .ok (.aastore, 1) := by decide +kernel
theorem dX2_dropOldest_41 : decode cX2_dropOldest 41 = .ok (.iinc 1 1, 3) := by decide +kernel
theorem dX2_dropOldest_44 : decode cX2_dropOldest 44 = .ok (.goto (-42), 3) := by decide +kernel
theorem dX2_dropOldest_47 : decode cX2_dropOldest 47 = .ok (.aload_n 0, 1) := by decide +kernel
theorem dX2_dropOldest_48 : decode cX2_dropOldest 48 = .ok (.dup, 1) := by decide +kernel
theorem dX2_dropOldest_49 : decode cX2_dropOldest 49 = .ok (.getfield 18, 3) := by decide +kernel
theorem dX2_dropOldest_52 : decode cX2_dropOldest 52 = .ok (.iconst 1, 1) := by decide +kernel
theorem dX2_dropOldest_53 : decode cX2_dropOldest 53 = .ok (.isub, 1) := by decide +kernel
theorem dX2_dropOldest_54 : decode cX2_dropOldest 54 = .ok (.putfield 18, 3) := by decide +kernel
theorem dX2_dropOldest_57 : decode cX2_dropOldest 57 = .ok (.return_, 1) := by decide +kernel
theorem dX3_kind_0 : decode cX3_kind 0 = .ok (.aload_n 0, 1) := by decide +kernel
theorem dX3_kind_1 : decode cX3_kind 1 = .ok (.getfield 7, 3) := by decide +kernel
theorem dX3_kind_4 : decode cX3_kind 4 = .ok (.iload_n 1, 1) := by decide +kernel
theorem dX3_kind_5 : decode cX3_kind 5 = .ok (.invokevirtual 13, 3) := by decide +kernel
theorem dX3_kind_8 : decode cX3_kind 8 = .ok (.istore_n 2, 1) := by decide +kernel
theorem dX3_kind_9 : decode cX3_kind 9 = .ok (.aload_n 0, 1) := by decide +kernel
theorem dX3_kind_10 : decode cX3_kind 10 = .ok (.iload_n 1, 1) := by decide +kernel
theorem dX3_kind_11 : decode cX3_kind 11 = .ok (.invokevirtual 19, 3) := by decide +kernel
theorem dX3_kind_14 : decode cX3_kind 14 = .ok (.istore_n 3, 1) := by decide +kernel
theorem dX3_kind_15 : decode cX3_kind 15 = .ok (.iload_n 2, 1) := by decide +kernel
theorem dX3_kind_16 : decode cX3_kind 16 = .ok (.invokestatic 22, 3) := by decide +kernel
theorem dX3_kind_19 : decode cX3_kind 19 = .ok (.ifCond .ne 8, 3) := by decide +kernel
theorem dX3_kind_22 : decode cX3_kind 22 = .ok (.iload_n 3, 1) := by decide +kernel
theorem dX3_kind_23 : decode cX3_kind 23 = .ok (.iconst (-1), 1) := by decide +kernel
theorem dX3_kind_24 : decode cX3_kind 24 = .ok (.if_icmp .ne 5, 3) := by decide +kernel
theorem dX3_kind_27 : decode cX3_kind 27 = .ok (.iconst (-1), 1) := by decide +kernel
theorem dX3_kind_28 : decode cX3_kind 28 = .ok (.ireturn, 1) := by decide +kernel
theorem dX3_kind_29 : decode cX3_kind 29 = .ok (.iload_n 2, 1) := by decide +kernel
theorem dX3_kind_30 : decode cX3_kind 30 = .ok (.aload_n 0, 1) := by decide +kernel
theorem dX3_kind_31 : decode cX3_kind 31 = .ok (.getfield 30, 3) := by decide +kernel
theorem dX3_kind_34 : decode cX3_kind 34 = .ok (.iload_n 3, 1) := by decide +kernel
theorem dX3_kind_35 : decode cX3_kind 35 = .ok (.invokevirtual 34, 3) := by decide +kernel
theorem dX3_kind_38 : decode cX3_kind 38 = .ok (.if_icmp .ne 5, 3) := by decide +kernel
theorem dX3_kind_41 : decode cX3_kind 41 = .ok (.iconst (-1), 1) := by decide +kernel
theorem dX3_kind_42 : decode cX3_kind 42 = .ok (.ireturn, 1) := by decide +kernel
theorem dX3_kind_43 : decode cX3_kind 43 = .ok (.iload_n 2, 1) := by decide +kernel
theorem dX3_kind_44 : decode cX3_kind 44 = .ok (.iload_n 3, 1) := by decide +kernel
theorem dX3_kind_45 : decode cX3_kind 45 = .ok (.if_icmp .ne 5, 3) := by decide +kernel
theorem dX3_kind_48 : decode cX3_kind 48 = .ok (.iconst 0, 1) := by decide +kernel
theorem dX3_kind_49 : decode cX3_kind 49 = .ok (.ireturn, 1) := by decide +kernel
theorem dX3_kind_50 : decode cX3_kind 50 = .ok (.iload_n 2, 1) := by decide +kernel
theorem dX3_kind_51 : decode cX3_kind 51 = .ok (.iload_n 3, 1) := by decide +kernel
theorem dX3_kind_52 : decode cX3_kind 52 = .ok (.if_icmp .ge 7, 3) := by decide +kernel
theorem dX3_kind_55 : decode cX3_kind 55 = .ok (.iconst 1, 1) := by decide +kernel
theorem dX3_kind_56 : decode cX3_kind 56 = .ok (.goto 4, 3) := by decide +kernel
theorem dX3_kind_59 : decode cX3_kind 59 = .ok (.iconst 2, 1) := by decide +kernel
theorem dX3_kind_60 : decode cX3_kind 60 = .ok (.ireturn, 1) := by decide +kernel
theorem dX3_width_0 : decode cX3_width 0 = .ok (.aload_n 0, 1) := by decide +kernel
theorem dX3_width_1 : decode cX3_width 1 = .ok (.iload_n 1, 1) := by decide +kernel
theorem dX3_width_2 : decode cX3_width 2 = .ok (.invokestatic 39, 3) := by decide +kernel
theorem dX3_width_5 : decode cX3_width 5 = .ok (.iconst 2, 1) := by decide +kernel
theorem dX3_width_6 : decode cX3_width 6 = .ok (.if_icmp .eq 5, 3) := by decide +kernel
theorem dX3_width_9 : decode cX3_width 9 = .ok (.iconst 0, 1) := by decide +kernel
theorem dX3_width_10 : decode cX3_width 10 = .ok (.ireturn, 1) := by decide +kernel
theorem dX3_width_11 : decode cX3_width 11 = .ok (.aload_n 0, 1) := by decide +kernel
theorem dX3_width_12 : decode cX3_width 12 = .ok (.getfield 30, 3) := by decide +kernel
theorem dX3_width_15 : decode cX3_width 15 = .ok (.aload_n 0, 1) := by decide +kernel
theorem dX3_width_16 : decode cX3_width 16 = .ok (.iload_n 1, 1) := by decide +kernel
theorem dX3_width_17 : decode cX3_width 17 = .ok (.invokevirtual 19, 3) := by decide +kernel
theorem dX3_width_20 : decode cX3_width 20 = .ok (.aload_n 0, 1) := by decide +kernel
theorem dX3_width_21 : decode cX3_width 21 = .ok (.getfield 7, 3) := by decide +kernel
theorem dX3_width_24 : decode cX3_width 24 = .ok (.iload_n 1, 1) := by decide +kernel
theorem dX3_width_25 : decode cX3_width 25 = .ok (.invokevirtual 13, 3) := by decide +kernel
theorem dX3_width_28 : decode cX3_width 28 = .ok (.invokevirtual 43, 3) := by decide +kernel
theorem dX3_width_31 : decode cX3_width 31 = .ok (.ireturn, 1) := by decide +kernel
theorem dX3_number_0 : decode cX3_number 0 = .ok (.iconst 0, 1) := by decide +kernel
theorem dX3_number_1 : decode cX3_number 1 = .ok (.istore_n 1, 1) := by decide +kernel
theorem dX3_number_2 : decode cX3_number 2 = .ok (.iconst 0, 1) := by decide +kernel
theorem dX3_number_3 : decode cX3_number 3 = .ok (.istore_n 2, 1) := by decide +kernel
theorem dX3_number_4 : decode cX3_number 4 = .ok (.iload_n 2, 1) := by decide +kernel
theorem dX3_number_5 : decode cX3_number 5 = .ok (.aload_n 0, 1) := by decide +kernel
theorem dX3_number_6 : decode cX3_number 6 = .ok (.invokevirtual 47, 3) := by decide +kernel
theorem dX3_number_9 : decode cX3_number 9 = .ok (.if_icmp .ge 21, 3) := by decide +kernel
theorem dX3_number_12 : decode cX3_number 12 = .ok (.aload_n 0, 1) := by decide +kernel
theorem dX3_number_13 : decode cX3_number 13 = .ok (.iload_n 2, 1) := by decide +kernel
theorem dX3_number_14 : decode cX3_number 14 = .ok (.invokestatic 39, 3) := by decide +kernel
theorem dX3_number_17 : decode cX3_number 17 = .ok (.iconst (-1), 1) := by decide +kernel
theorem dX3_number_18 : decode cX3_number 18 = .ok (.if_icmp .eq 6, 3) := by decide +kernel
theorem dX3_number_21 : decode cX3_number 21 = .ok (.iinc 1 1, 3) := by decide +kernel
theorem dX3_number_24 : decode cX3_number 24 = .ok (.iinc 2 1, 3) := by decide +kernel
theorem dX3_number_27 : decode cX3_number 27 = .ok (.goto (-23), 3) := by decide +kernel
theorem dX3_number_30 : decode cX3_number 30 = .ok (.iload_n 1, 1) := by decide +kernel
theorem dX3_number_31 : decode cX3_number 31 = .ok (.ireturn, 1) := by decide +kernel
theorem dX3_quireAt_0 : decode cX3_quireAt 0 = .ok (.iconst 0, 1) := by decide +kernel
theorem dX3_quireAt_1 : decode cX3_quireAt 1 = .ok (.istore_n 2, 1) := by decide +kernel
theorem dX3_quireAt_2 : decode cX3_quireAt 2 = .ok (.iconst 0, 1) := by decide +kernel
theorem dX3_quireAt_3 : decode cX3_quireAt 3 = .ok (.istore_n 3, 1) := by decide +kernel
theorem dX3_quireAt_4 : decode cX3_quireAt 4 = .ok (.iload_n 3, 1) := by decide +kernel
theorem dX3_quireAt_5 : decode cX3_quireAt 5 = .ok (.aload_n 0, 1) := by decide +kernel
theorem dX3_quireAt_6 : decode cX3_quireAt 6 = .ok (.invokevirtual 47, 3) := by decide +kernel
theorem dX3_quireAt_9 : decode cX3_quireAt 9 = .ok (.if_icmp .ge 28, 3) := by decide +kernel
theorem dX3_quireAt_12 : decode cX3_quireAt 12 = .ok (.aload_n 0, 1) := by decide +kernel
theorem dX3_quireAt_13 : decode cX3_quireAt 13 = .ok (.iload_n 3, 1) := by decide +kernel
theorem dX3_quireAt_14 : decode cX3_quireAt 14 = .ok (.invokestatic 39, 3) := by decide +kernel
theorem dX3_quireAt_17 : decode cX3_quireAt 17 = .ok (.iconst (-1), 1) := by decide +kernel
theorem dX3_quireAt_18 : decode cX3_quireAt 18 = .ok (.if_icmp .eq 13, 3) := by decide +kernel
theorem dX3_quireAt_21 : decode cX3_quireAt 21 = .ok (.iload_n 2, 1) := by decide +kernel
theorem dX3_quireAt_22 : decode cX3_quireAt 22 = .ok (.iload_n 1, 1) := by decide +kernel
theorem dX3_quireAt_23 : decode cX3_quireAt 23 = .ok (.if_icmp .ne 5, 3) := by decide +kernel
theorem dX3_quireAt_26 : decode cX3_quireAt 26 = .ok (.iload_n 3, 1) := by decide +kernel
theorem dX3_quireAt_27 : decode cX3_quireAt 27 = .ok (.ireturn, 1) := by decide +kernel
theorem dX3_quireAt_28 : decode cX3_quireAt 28 = .ok (.iinc 2 1, 3) := by decide +kernel
theorem dX3_quireAt_31 : decode cX3_quireAt 31 = .ok (.iinc 3 1, 3) := by decide +kernel
theorem dX3_quireAt_34 : decode cX3_quireAt 34 = .ok (.goto (-30), 3) := by decide +kernel
theorem dX3_quireAt_37 : decode cX3_quireAt 37 = .ok (.iconst (-1), 1) := by decide +kernel
theorem dX3_quireAt_38 : decode cX3_quireAt 38 = .ok (.ireturn, 1) := by decide +kernel
theorem dX4_init_0 : decode cX4_init 0 = .ok (.aload_n 0, 1) := by decide +kernel
theorem dX4_init_1 : decode cX4_init 1 = .ok (.invokespecial 1, 3) := by decide +kernel
theorem dX4_init_4 : decode cX4_init 4 = .ok (.aload_n 0, 1) := by decide +kernel
theorem dX4_init_5 : decode cX4_init 5 = .ok (.iload_n 1, 1) := by decide +kernel
theorem dX4_init_6 : decode cX4_init 6 = .ok (.iconst 0, 1) := by decide +kernel
theorem dX4_init_7 : decode cX4_init 7 = .ok (.invokestatic 7, 3) := by decide +kernel
theorem dX4_init_10 : decode cX4_init 10 = .ok (.newarray .int, 2) := by decide +kernel
theorem dX4_init_12 : decode cX4_init 12 = .ok (.putfield 13, 3) := by decide +kernel
theorem dX4_init_15 : decode cX4_init 15 = .ok (.return_, 1) := by decide +kernel
theorem dX4_length_0 : decode cX4_length 0 = .ok (.aload_n 0, 1) := by decide +kernel
theorem dX4_length_1 : decode cX4_length 1 = .ok (.getfield 19, 3) := by decide +kernel
theorem dX4_length_4 : decode cX4_length 4 = .ok (.ireturn, 1) := by decide +kernel
theorem dX4_at_0 : decode cX4_at 0 = .ok (.iload_n 1, 1) := by decide +kernel
theorem dX4_at_1 : decode cX4_at 1 = .ok (.ifCond .lt 29, 3) := by decide +kernel
theorem dX4_at_4 : decode cX4_at 4 = .ok (.iload_n 1, 1) := by decide +kernel
theorem dX4_at_5 : decode cX4_at 5 = .ok (.aload_n 0, 1) := by decide +kernel
theorem dX4_at_6 : decode cX4_at 6 = .ok (.getfield 19, 3) := by decide +kernel
theorem dX4_at_9 : decode cX4_at 9 = .ok (.if_icmp .ge 21, 3) := by decide +kernel
theorem dX4_at_12 : decode cX4_at 12 = .ok (.iload_n 1, 1) := by decide +kernel
theorem dX4_at_13 : decode cX4_at 13 = .ok (.aload_n 0, 1) := by decide +kernel
theorem dX4_at_14 : decode cX4_at 14 = .ok (.getfield 13, 3) := by decide +kernel
theorem dX4_at_17 : decode cX4_at 17 = .ok (.arraylength, 1) := by decide +kernel
theorem dX4_at_18 : decode cX4_at 18 = .ok (.if_icmp .ge 12, 3) := by decide +kernel
theorem dX4_at_21 : decode cX4_at 21 = .ok (.aload_n 0, 1) := by decide +kernel
theorem dX4_at_22 : decode cX4_at 22 = .ok (.getfield 13, 3) := by decide +kernel
theorem dX4_at_25 : decode cX4_at 25 = .ok (.iload_n 1, 1) := by decide +kernel
theorem dX4_at_26 : decode cX4_at 26 = .ok (.iaload, 1) := by decide +kernel
theorem dX4_at_27 : decode cX4_at 27 = .ok (.goto 4, 3) := by decide +kernel
theorem dX4_at_30 : decode cX4_at 30 = .ok (.iconst (-1), 1) := by decide +kernel
theorem dX4_at_31 : decode cX4_at 31 = .ok (.ireturn, 1) := by decide +kernel
theorem dX4_firstIndexOf_0 : decode cX4_firstIndexOf 0 = .ok (.iconst 0, 1) := by decide +kernel
theorem dX4_firstIndexOf_1 : decode cX4_firstIndexOf 1 = .ok (.istore_n 2, 1) := by decide +kernel
theorem dX4_firstIndexOf_2 : decode cX4_firstIndexOf 2 = .ok (.iload_n 2, 1) := by decide +kernel
theorem dX4_firstIndexOf_3 : decode cX4_firstIndexOf 3 = .ok (.aload_n 0, 1) := by decide +kernel
theorem dX4_firstIndexOf_4 : decode cX4_firstIndexOf 4 = .ok (.getfield 19, 3) := by decide +kernel
theorem dX4_firstIndexOf_7 : decode cX4_firstIndexOf 7 = .ok (.if_icmp .ge 20, 3) := by decide +kernel
theorem dX4_firstIndexOf_10 : decode cX4_firstIndexOf 10 = .ok (.aload_n 0, 1) := by decide +kernel
theorem dX4_firstIndexOf_11 : decode cX4_firstIndexOf 11 = .ok (.iload_n 2, 1) := by decide +kernel
theorem dX4_firstIndexOf_12 : decode cX4_firstIndexOf 12 = .ok (.invokevirtual 23, 3) := by decide +kernel
theorem dX4_firstIndexOf_15 : decode cX4_firstIndexOf 15 = .ok (.iload_n 1, 1) := by decide +kernel
theorem dX4_firstIndexOf_16 : decode cX4_firstIndexOf 16 = .ok (.if_icmp .ne 5, 3) := by decide +kernel
theorem dX4_firstIndexOf_19 : decode cX4_firstIndexOf 19 = .ok (.iload_n 2, 1) := by decide +kernel
theorem dX4_firstIndexOf_20 : decode cX4_firstIndexOf 20 = .ok (.ireturn, 1) := by decide +kernel
theorem dX4_firstIndexOf_21 : decode cX4_firstIndexOf 21 = .ok (.iinc 2 1, 3) := by decide +kernel
theorem dX4_firstIndexOf_24 : decode cX4_firstIndexOf 24 = .ok (.goto (-22), 3) := by decide +kernel
theorem dX4_firstIndexOf_27 : decode cX4_firstIndexOf 27 = .ok (.aload_n 0, 1) := by decide +kernel
theorem dX4_firstIndexOf_28 : decode cX4_firstIndexOf 28 = .ok (.getfield 19, 3) := by decide +kernel
theorem dX4_firstIndexOf_31 : decode cX4_firstIndexOf 31 = .ok (.ireturn, 1) := by decide +kernel
theorem dX4_set_0 : decode cX4_set 0 = .ok (.iload_n 1, 1) := by decide +kernel
theorem dX4_set_1 : decode cX4_set 1 = .ok (.ifCond .lt 27, 3) := by decide +kernel
theorem dX4_set_4 : decode cX4_set 4 = .ok (.iload_n 1, 1) := by decide +kernel
theorem dX4_set_5 : decode cX4_set 5 = .ok (.aload_n 0, 1) := by decide +kernel
theorem dX4_set_6 : decode cX4_set 6 = .ok (.getfield 19, 3) := by decide +kernel
theorem dX4_set_9 : decode cX4_set 9 = .ok (.if_icmp .ge 19, 3) := by decide +kernel
theorem dX4_set_12 : decode cX4_set 12 = .ok (.iload_n 1, 1) := by decide +kernel
theorem dX4_set_13 : decode cX4_set 13 = .ok (.aload_n 0, 1) := by decide +kernel
theorem dX4_set_14 : decode cX4_set 14 = .ok (.getfield 13, 3) := by decide +kernel
theorem dX4_set_17 : decode cX4_set 17 = .ok (.arraylength, 1) := by decide +kernel
theorem dX4_set_18 : decode cX4_set 18 = .ok (.if_icmp .ge 10, 3) := by decide +kernel
theorem dX4_set_21 : decode cX4_set 21 = .ok (.aload_n 0, 1) := by decide +kernel
theorem dX4_set_22 : decode cX4_set 22 = .ok (.getfield 13, 3) := by decide +kernel
theorem dX4_set_25 : decode cX4_set 25 = .ok (.iload_n 1, 1) := by decide +kernel
theorem dX4_set_26 : decode cX4_set 26 = .ok (.iload_n 2, 1) := by decide +kernel
theorem dX4_set_27 : decode cX4_set 27 = .ok (.iastore, 1) := by decide +kernel
theorem dX4_set_28 : decode cX4_set 28 = .ok (.return_, 1) := by decide +kernel
theorem dX4_add_0 : decode cX4_add 0 = .ok (.aload_n 0, 1) := by decide +kernel
theorem dX4_add_1 : decode cX4_add 1 = .ok (.aload_n 0, 1) := by decide +kernel
theorem dX4_add_2 : decode cX4_add 2 = .ok (.getfield 19, 3) := by decide +kernel
theorem dX4_add_5 : decode cX4_add 5 = .ok (.iload_n 1, 1) := by decide +kernel
theorem dX4_add_6 : decode cX4_add 6 = .ok (.invokevirtual 27, 3) := by decide +kernel
theorem dX4_add_9 : decode cX4_add 9 = .ok (.return_, 1) := by decide +kernel
theorem dX4_addAt_0 : decode cX4_addAt 0 = .ok (.iload_n 1, 1) := by decide +kernel
theorem dX4_addAt_1 : decode cX4_addAt 1 = .ok (.ifCond .lt 23, 3) := by decide +kernel
theorem dX4_addAt_4 : decode cX4_addAt 4 = .ok (.iload_n 1, 1) := by decide +kernel
theorem dX4_addAt_5 : decode cX4_addAt 5 = .ok (.aload_n 0, 1) := by decide +kernel
theorem dX4_addAt_6 : decode cX4_addAt 6 = .ok (.getfield 19, 3) := by decide +kernel
theorem dX4_addAt_9 : decode cX4_addAt 9 = .ok (.if_icmp .gt 15, 3) := by decide +kernel
theorem dX4_addAt_12 : decode cX4_addAt 12 = .ok (.aload_n 0, 1) := by decide +kernel
theorem dX4_addAt_13 : decode cX4_addAt 13 = .ok (.getfield 19, 3) := by decide +kernel
theorem dX4_addAt_16 : decode cX4_addAt 16 = .ok (.aload_n 0, 1) := by decide +kernel
theorem dX4_addAt_17 : decode cX4_addAt 17 = .ok (.getfield 13, 3) := by decide +kernel
theorem dX4_addAt_20 : decode cX4_addAt 20 = .ok (.arraylength, 1) := by decide +kernel
theorem dX4_addAt_21 : decode cX4_addAt 21 = .ok (.if_icmp .lt 4, 3) := by decide +kernel
theorem dX4_addAt_24 : decode cX4_addAt 24 = .ok (.return_, 1) := by decide +kernel
theorem dX4_addAt_25 : decode cX4_addAt 25 = .ok (.aload_n 0, 1) := by decide +kernel
theorem dX4_addAt_26 : decode cX4_addAt 26 = .ok (.dup, 1) := by decide +kernel
theorem dX4_addAt_27 : decode cX4_addAt 27 = .ok (.getfield 19, 3) := by decide +kernel
theorem dX4_addAt_30 : decode cX4_addAt 30 = .ok (.iconst 1, 1) := by decide +kernel
theorem dX4_addAt_31 : decode cX4_addAt 31 = .ok (.iadd, 1) := by decide +kernel
theorem dX4_addAt_32 : decode cX4_addAt 32 = .ok (.putfield 19, 3) := by decide +kernel
theorem dX4_addAt_35 : decode cX4_addAt 35 = .ok (.aload_n 0, 1) := by decide +kernel
theorem dX4_addAt_36 : decode cX4_addAt 36 = .ok (.getfield 19, 3) := by decide +kernel
theorem dX4_addAt_39 : decode cX4_addAt 39 = .ok (.iconst 1, 1) := by decide +kernel
theorem dX4_addAt_40 : decode cX4_addAt 40 = .ok (.isub, 1) := by decide +kernel
theorem dX4_addAt_41 : decode cX4_addAt 41 = .ok (.istore_n 3, 1) := by decide +kernel
theorem dX4_addAt_42 : decode cX4_addAt 42 = .ok (.iload_n 3, 1) := by decide +kernel
theorem dX4_addAt_43 : decode cX4_addAt 43 = .ok (.iload_n 1, 1) := by decide +kernel
theorem dX4_addAt_44 : decode cX4_addAt 44 = .ok (.if_icmp .le 21, 3) := by decide +kernel
theorem dX4_addAt_47 : decode cX4_addAt 47 = .ok (.aload_n 0, 1) := by decide +kernel
theorem dX4_addAt_48 : decode cX4_addAt 48 = .ok (.iload_n 3, 1) := by decide +kernel
theorem dX4_addAt_49 : decode cX4_addAt 49 = .ok (.aload_n 0, 1) := by decide +kernel
theorem dX4_addAt_50 : decode cX4_addAt 50 = .ok (.iload_n 3, 1) := by decide +kernel
theorem dX4_addAt_51 : decode cX4_addAt 51 = .ok (.iconst 1, 1) := by decide +kernel
theorem dX4_addAt_52 : decode cX4_addAt 52 = .ok (.isub, 1) := by decide +kernel
theorem dX4_addAt_53 : decode cX4_addAt 53 = .ok (.invokevirtual 23, 3) := by decide +kernel
theorem dX4_addAt_56 : decode cX4_addAt 56 = .ok (.invokevirtual 31, 3) := by decide +kernel
theorem dX4_addAt_59 : decode cX4_addAt 59 = .ok (.iinc 3 (-1), 3) := by decide +kernel
theorem dX4_addAt_62 : decode cX4_addAt 62 = .ok (.goto (-20), 3) := by decide +kernel
theorem dX4_addAt_65 : decode cX4_addAt 65 = .ok (.aload_n 0, 1) := by decide +kernel
theorem dX4_addAt_66 : decode cX4_addAt 66 = .ok (.iload_n 1, 1) := by decide +kernel
theorem dX4_addAt_67 : decode cX4_addAt 67 = .ok (.iload_n 2, 1) := by decide +kernel
theorem dX4_addAt_68 : decode cX4_addAt 68 = .ok (.invokevirtual 31, 3) := by decide +kernel
theorem dX4_addAt_71 : decode cX4_addAt 71 = .ok (.return_, 1) := by decide +kernel
theorem dX4_drop_0 : decode cX4_drop 0 = .ok (.iload_n 1, 1) := by decide +kernel
theorem dX4_drop_1 : decode cX4_drop 1 = .ok (.ifCond .lt 11, 3) := by decide +kernel
theorem dX4_drop_4 : decode cX4_drop 4 = .ok (.iload_n 1, 1) := by decide +kernel
theorem dX4_drop_5 : decode cX4_drop 5 = .ok (.aload_n 0, 1) := by decide +kernel
theorem dX4_drop_6 : decode cX4_drop 6 = .ok (.getfield 19, 3) := by decide +kernel
theorem dX4_drop_9 : decode cX4_drop 9 = .ok (.if_icmp .lt 4, 3) := by decide +kernel
theorem dX4_drop_12 : decode cX4_drop 12 = .ok (.return_, 1) := by decide +kernel
theorem dX4_drop_13 : decode cX4_drop 13 = .ok (.iload_n 1, 1) := by decide +kernel
theorem dX4_drop_14 : decode cX4_drop 14 = .ok (.istore_n 2, 1) := by decide +kernel
theorem dX4_drop_15 : decode cX4_drop 15 = .ok (.iload_n 2, 1) := by decide +kernel
theorem dX4_drop_16 : decode cX4_drop 16 = .ok (.aload_n 0, 1) := by decide +kernel
theorem dX4_drop_17 : decode cX4_drop 17 = .ok (.getfield 19, 3) := by decide +kernel
theorem dX4_drop_20 : decode cX4_drop 20 = .ok (.iconst 1, 1) := by decide +kernel
theorem dX4_drop_21 : decode cX4_drop 21 = .ok (.isub, 1) := by decide +kernel
theorem dX4_drop_22 : decode cX4_drop 22 = .ok (.if_icmp .ge 21, 3) := by decide +kernel
theorem dX4_drop_25 : decode cX4_drop 25 = .ok (.aload_n 0, 1) := by decide +kernel
theorem dX4_drop_26 : decode cX4_drop 26 = .ok (.iload_n 2, 1) := by decide +kernel
theorem dX4_drop_27 : decode cX4_drop 27 = .ok (.aload_n 0, 1) := by decide +kernel
theorem dX4_drop_28 : decode cX4_drop 28 = .ok (.iload_n 2, 1) := by decide +kernel
theorem dX4_drop_29 : decode cX4_drop 29 = .ok (.iconst 1, 1) := by decide +kernel
theorem dX4_drop_30 : decode cX4_drop 30 = .ok (.iadd, 1) := by decide +kernel
theorem dX4_drop_31 : decode cX4_drop 31 = .ok (.invokevirtual 23, 3) := by decide +kernel
theorem dX4_drop_34 : decode cX4_drop 34 = .ok (.invokevirtual 31, 3) := by decide +kernel
theorem dX4_drop_37 : decode cX4_drop 37 = .ok (.iinc 2 1, 3) := by decide +kernel
theorem dX4_drop_40 : decode cX4_drop 40 = .ok (.goto (-25), 3) := by decide +kernel
theorem dX4_drop_43 : decode cX4_drop 43 = .ok (.aload_n 0, 1) := by decide +kernel
theorem dX4_drop_44 : decode cX4_drop 44 = .ok (.dup, 1) := by decide +kernel
theorem dX4_drop_45 : decode cX4_drop 45 = .ok (.getfield 19, 3) := by decide +kernel
theorem dX4_drop_48 : decode cX4_drop 48 = .ok (.iconst 1, 1) := by decide +kernel
theorem dX4_drop_49 : decode cX4_drop 49 = .ok (.isub, 1) := by decide +kernel
theorem dX4_drop_50 : decode cX4_drop 50 = .ok (.putfield 19, 3) := by decide +kernel
theorem dX4_drop_53 : decode cX4_drop 53 = .ok (.return_, 1) := by decide +kernel
theorem dX4_empty_0 : decode cX4_empty 0 = .ok (.aload_n 0, 1) := by decide +kernel
theorem dX4_empty_1 : decode cX4_empty 1 = .ok (.iconst 0, 1) := by decide +kernel
theorem dX4_empty_2 : decode cX4_empty 2 = .ok (.putfield 19, 3) := by decide +kernel
theorem dX4_empty_5 : decode cX4_empty 5 = .ok (.return_, 1) := by decide +kernel
theorem dX4_become_0 : decode cX4_become 0 = .ok (.aload_n 0, 1) := by decide +kernel
theorem dX4_become_1 : decode cX4_become 1 = .ok (.aload_n 1, 1) := by decide +kernel
theorem dX4_become_2 : decode cX4_become 2 = .ok (.getfield 19, 3) := by decide +kernel
theorem dX4_become_5 : decode cX4_become 5 = .ok (.aload_n 0, 1) := by decide +kernel
theorem dX4_become_6 : decode cX4_become 6 = .ok (.getfield 13, 3) := by decide +kernel
theorem dX4_become_9 : decode cX4_become 9 = .ok (.arraylength, 1) := by decide +kernel
theorem dX4_become_10 : decode cX4_become 10 = .ok (.invokestatic 34, 3) := by decide +kernel
theorem dX4_become_13 : decode cX4_become 13 = .ok (.putfield 19, 3) := by decide +kernel
theorem dX4_become_16 : decode cX4_become 16 = .ok (.iconst 0, 1) := by decide +kernel
theorem dX4_become_17 : decode cX4_become 17 = .ok (.istore_n 2, 1) := by decide +kernel
theorem dX4_become_18 : decode cX4_become 18 = .ok (.iload_n 2, 1) := by decide +kernel
theorem dX4_become_19 : decode cX4_become 19 = .ok (.aload_n 0, 1) := by decide +kernel
theorem dX4_become_20 : decode cX4_become 20 = .ok (.getfield 19, 3) := by decide +kernel
theorem dX4_become_23 : decode cX4_become 23 = .ok (.if_icmp .ge 19, 3) := by decide +kernel
theorem dX4_become_26 : decode cX4_become 26 = .ok (.aload_n 0, 1) := by decide +kernel
theorem dX4_become_27 : decode cX4_become 27 = .ok (.iload_n 2, 1) := by decide +kernel
theorem dX4_become_28 : decode cX4_become 28 = .ok (.aload_n 1, 1) := by decide +kernel
theorem dX4_become_29 : decode cX4_become 29 = .ok (.iload_n 2, 1) := by decide +kernel
theorem dX4_become_30 : decode cX4_become 30 = .ok (.invokevirtual 23, 3) := by decide +kernel
theorem dX4_become_33 : decode cX4_become 33 = .ok (.invokevirtual 31, 3) := by decide +kernel
theorem dX4_become_36 : decode cX4_become 36 = .ok (.iinc 2 1, 3) := by decide +kernel
theorem dX4_become_39 : decode cX4_become 39 = .ok (.goto (-21), 3) := by decide +kernel
theorem dX4_become_42 : decode cX4_become 42 = .ok (.return_, 1) := by decide +kernel
theorem dX5_ofLetters_0 : decode cX5_ofLetters 0 = .ok (.iload_n 1, 1) := by decide +kernel
theorem dX5_ofLetters_1 : decode cX5_ofLetters 1 = .ok (.iconst 1, 1) := by decide +kernel
theorem dX5_ofLetters_2 : decode cX5_ofLetters 2 = .ok (.isub, 1) := by decide +kernel
theorem dX5_ofLetters_3 : decode cX5_ofLetters 3 = .ok (.bipush 26, 2) := by decide +kernel
theorem dX5_ofLetters_5 : decode cX5_ofLetters 5 = .ok (.imul, 1) := by decide +kernel
theorem dX5_ofLetters_6 : decode cX5_ofLetters 6 = .ok (.iload_n 0, 1) := by decide +kernel
theorem dX5_ofLetters_7 : decode cX5_ofLetters 7 = .ok (.iadd, 1) := by decide +kernel
theorem dX5_ofLetters_8 : decode cX5_ofLetters 8 = .ok (.ireturn, 1) := by decide +kernel
theorem dX5_ofStars_0 : decode cX5_ofStars 0 = .ok (.bipush 78, 2) := by decide +kernel
theorem dX5_ofStars_2 : decode cX5_ofStars 2 = .ok (.iload_n 0, 1) := by decide +kernel
theorem dX5_ofStars_3 : decode cX5_ofStars 3 = .ok (.iadd, 1) := by decide +kernel
theorem dX5_ofStars_4 : decode cX5_ofStars 4 = .ok (.iconst 1, 1) := by decide +kernel
theorem dX5_ofStars_5 : decode cX5_ofStars 5 = .ok (.isub, 1) := by decide +kernel
theorem dX5_ofStars_6 : decode cX5_ofStars 6 = .ok (.ireturn, 1) := by decide +kernel
theorem dX5_isStarred_0 : decode cX5_isStarred 0 = .ok (.iload_n 0, 1) := by decide +kernel
theorem dX5_isStarred_1 : decode cX5_isStarred 1 = .ok (.bipush 78, 2) := by decide +kernel
theorem dX5_isStarred_3 : decode cX5_isStarred 3 = .ok (.if_icmp .lt 7, 3) := by decide +kernel
theorem dX5_isStarred_6 : decode cX5_isStarred 6 = .ok (.iconst 1, 1) := by decide +kernel
theorem dX5_isStarred_7 : decode cX5_isStarred 7 = .ok (.goto 4, 3) := by decide +kernel
theorem dX5_isStarred_10 : decode cX5_isStarred 10 = .ok (.iconst 0, 1) := by decide +kernel
theorem dX5_isStarred_11 : decode cX5_isStarred 11 = .ok (.ireturn, 1) := by decide +kernel
theorem dX5_letter_0 : decode cX5_letter 0 = .ok (.iload_n 0, 1) := by decide +kernel
theorem dX5_letter_1 : decode cX5_letter 1 = .ok (.bipush 26, 2) := by decide +kernel
theorem dX5_letter_3 : decode cX5_letter 3 = .ok (.irem, 1) := by decide +kernel
theorem dX5_letter_4 : decode cX5_letter 4 = .ok (.ireturn, 1) := by decide +kernel
theorem dX5_times_0 : decode cX5_times 0 = .ok (.iload_n 0, 1) := by decide +kernel
theorem dX5_times_1 : decode cX5_times 1 = .ok (.invokestatic 9, 3) := by decide +kernel
theorem dX5_times_4 : decode cX5_times 4 = .ok (.ifCond .eq 12, 3) := by decide +kernel
theorem dX5_times_7 : decode cX5_times 7 = .ok (.iload_n 0, 1) := by decide +kernel
theorem dX5_times_8 : decode cX5_times 8 = .ok (.bipush 78, 2) := by decide +kernel
theorem dX5_times_10 : decode cX5_times 10 = .ok (.isub, 1) := by decide +kernel
theorem dX5_times_11 : decode cX5_times 11 = .ok (.iconst 1, 1) := by decide +kernel
theorem dX5_times_12 : decode cX5_times 12 = .ok (.iadd, 1) := by decide +kernel
theorem dX5_times_13 : decode cX5_times 13 = .ok (.goto 9, 3) := by decide +kernel
theorem dX5_times_16 : decode cX5_times 16 = .ok (.iload_n 0, 1) := by decide +kernel
theorem dX5_times_17 : decode cX5_times 17 = .ok (.bipush 26, 2) := by decide +kernel
theorem dX5_times_19 : decode cX5_times 19 = .ok (.idiv, 1) := by decide +kernel
theorem dX5_times_20 : decode cX5_times 20 = .ok (.iconst 1, 1) := by decide +kernel
theorem dX5_times_21 : decode cX5_times 21 = .ok (.iadd, 1) := by decide +kernel
theorem dX5_times_22 : decode cX5_times 22 = .ok (.ireturn, 1) := by decide +kernel
theorem dX6_init_0 : decode cX6_init 0 = .ok (.aload_n 0, 1) := by decide +kernel
theorem dX6_init_1 : decode cX6_init 1 = .ok (.invokespecial 3, 3) := by decide +kernel
theorem dX6_init_4 : decode cX6_init 4 = .ok (.aload_n 0, 1) := by decide +kernel
theorem dX6_init_5 : decode cX6_init 5 = .ok (.new 9, 3) := by decide +kernel
theorem dX6_init_8 : decode cX6_init 8 = .ok (.dup, 1) := by decide +kernel
theorem dX6_init_9 : decode cX6_init 9 = .ok (.bipush 60, 2) := by decide +kernel
theorem dX6_init_11 : decode cX6_init 11 = .ok (.invokespecial 11, 3) := by decide +kernel
theorem dX6_init_14 : decode cX6_init 14 = .ok (.putfield 14, 3) := by decide +kernel
theorem dX6_init_17 : decode cX6_init 17 = .ok (.aload_n 0, 1) := by decide +kernel
theorem dX6_init_18 : decode cX6_init 18 = .ok (.new 9, 3) := by decide +kernel
theorem dX6_init_21 : decode cX6_init 21 = .ok (.dup, 1) := by decide +kernel
theorem dX6_init_22 : decode cX6_init 22 = .ok (.bipush 20, 2) := by decide +kernel
theorem dX6_init_24 : decode cX6_init 24 = .ok (.invokespecial 11, 3) := by decide +kernel
theorem dX6_init_27 : decode cX6_init 27 = .ok (.putfield 20, 3) := by decide +kernel
theorem dX6_init_30 : decode cX6_init 30 = .ok (.aload_n 0, 1) := by decide +kernel
theorem dX6_init_31 : decode cX6_init 31 = .ok (.new 9, 3) := by decide +kernel
theorem dX6_init_34 : decode cX6_init 34 = .ok (.dup, 1) := by decide +kernel
theorem dX6_init_35 : decode cX6_init 35 = .ok (.bipush 20, 2) := by decide +kernel
theorem dX6_init_37 : decode cX6_init 37 = .ok (.invokespecial 11, 3) := by decide +kernel
theorem dX6_init_40 : decode cX6_init 40 = .ok (.putfield 23, 3) := by decide +kernel
theorem dX6_init_43 : decode cX6_init 43 = .ok (.aload_n 0, 1) := by decide +kernel
theorem dX6_init_44 : decode cX6_init 44 = .ok (.new 9, 3) := by decide +kernel
theorem dX6_init_47 : decode cX6_init 47 = .ok (.dup, 1) := by decide +kernel
theorem dX6_init_48 : decode cX6_init 48 = .ok (.bipush 20, 2) := by decide +kernel
theorem dX6_init_50 : decode cX6_init 50 = .ok (.invokespecial 11, 3) := by decide +kernel
theorem dX6_init_53 : decode cX6_init 53 = .ok (.putfield 26, 3) := by decide +kernel
theorem dX6_init_56 : decode cX6_init 56 = .ok (.aload_n 0, 1) := by decide +kernel
theorem dX6_init_57 : decode cX6_init 57 = .ok (.new 29, 3) := by decide +kernel
theorem dX6_init_60 : decode cX6_init 60 = .ok (.dup, 1) := by decide +kernel
theorem dX6_init_61 : decode cX6_init 61 = .ok (.iconst 0, 1) := by decide +kernel
theorem dX6_init_62 : decode cX6_init 62 = .ok (.invokespecial 31, 3) := by decide +kernel
theorem dX6_init_65 : decode cX6_init 65 = .ok (.putfield 32, 3) := by decide +kernel
theorem dX6_init_68 : decode cX6_init 68 = .ok (.return_, 1) := by decide +kernel
theorem dX6_length_0 : decode cX6_length 0 = .ok (.aload_n 0, 1) := by decide +kernel
theorem dX6_length_1 : decode cX6_length 1 = .ok (.getfield 14, 3) := by decide +kernel
theorem dX6_length_4 : decode cX6_length 4 = .ok (.invokevirtual 36, 3) := by decide +kernel
theorem dX6_length_7 : decode cX6_length 7 = .ok (.ireturn, 1) := by decide +kernel
theorem dX6_add_0 : decode cX6_add 0 = .ok (.aload_n 0, 1) := by decide +kernel
theorem dX6_add_1 : decode cX6_add 1 = .ok (.getfield 14, 3) := by decide +kernel
theorem dX6_add_4 : decode cX6_add 4 = .ok (.iload_n 1, 1) := by decide +kernel
theorem dX6_add_5 : decode cX6_add 5 = .ok (.invokevirtual 40, 3) := by decide +kernel
theorem dX6_add_8 : decode cX6_add 8 = .ok (.return_, 1) := by decide +kernel
theorem dX6_empty_0 : decode cX6_empty 0 = .ok (.aload_n 0, 1) := by decide +kernel
theorem dX6_empty_1 : decode cX6_empty 1 = .ok (.getfield 14, 3) := by decide +kernel
theorem dX6_empty_4 : decode cX6_empty 4 = .ok (.invokevirtual 43, 3) := by decide +kernel
theorem dX6_empty_7 : decode cX6_empty 7 = .ok (.return_, 1) := by decide +kernel
theorem dX6_entries_0 : decode cX6_entries 0 = .ok (.aload_n 0, 1) := by decide +kernel
theorem dX6_entries_1 : decode cX6_entries 1 = .ok (.getfield 26, 3) := by decide +kernel
theorem dX6_entries_4 : decode cX6_entries 4 = .ok (.invokevirtual 36, 3) := by decide +kernel
theorem dX6_entries_7 : decode cX6_entries 7 = .ok (.ireturn, 1) := by decide +kernel
theorem dX6_firstSign_0 : decode cX6_firstSign 0 = .ok (.aload_n 0, 1) := by decide +kernel
theorem dX6_firstSign_1 : decode cX6_firstSign 1 = .ok (.getfield 20, 3) := by decide +kernel
theorem dX6_firstSign_4 : decode cX6_firstSign 4 = .ok (.iload_n 1, 1) := by decide +kernel
theorem dX6_firstSign_5 : decode cX6_firstSign 5 = .ok (.invokevirtual 46, 3) := by decide +kernel
theorem dX6_firstSign_8 : decode cX6_firstSign 8 = .ok (.ireturn, 1) := by decide +kernel
theorem dX6_lastSign_0 : decode cX6_lastSign 0 = .ok (.aload_n 0, 1) := by decide +kernel
theorem dX6_lastSign_1 : decode cX6_lastSign 1 = .ok (.getfield 23, 3) := by decide +kernel
theorem dX6_lastSign_4 : decode cX6_lastSign 4 = .ok (.iload_n 1, 1) := by decide +kernel
theorem dX6_lastSign_5 : decode cX6_lastSign 5 = .ok (.invokevirtual 46, 3) := by decide +kernel
theorem dX6_lastSign_8 : decode cX6_lastSign 8 = .ok (.ireturn, 1) := by decide +kernel
theorem dX6_number_0 : decode cX6_number 0 = .ok (.aload_n 0, 1) := by decide +kernel
theorem dX6_number_1 : decode cX6_number 1 = .ok (.getfield 26, 3) := by decide +kernel
theorem dX6_number_4 : decode cX6_number 4 = .ok (.iload_n 1, 1) := by decide +kernel
theorem dX6_number_5 : decode cX6_number 5 = .ok (.invokevirtual 46, 3) := by decide +kernel
theorem dX6_number_8 : decode cX6_number 8 = .ok (.ireturn, 1) := by decide +kernel
theorem dX6_readAsFormula_0 : decode cX6_readAsFormula 0 = .ok (.aload_n 0, 1) := by decide +kernel
theorem dX6_readAsFormula_1 : decode cX6_readAsFormula 1 = .ok (.aload_n 1, 1) := by decide +kernel
theorem dX6_readAsFormula_2 : decode cX6_readAsFormula 2 = .ok (.iconst 1, 1) := by decide +kernel
theorem dX6_readAsFormula_3 : decode cX6_readAsFormula 3 = .ok (.invokevirtual 50, 3) := by decide +kernel
theorem dX6_readAsFormula_6 : decode cX6_readAsFormula 6 = .ok (.ireturn, 1) := by decide +kernel
theorem dX6_readAsPile_0 : decode cX6_readAsPile 0 = .ok (.aload_n 0, 1) := by decide +kernel
theorem dX6_readAsPile_1 : decode cX6_readAsPile 1 = .ok (.aload_n 0, 1) := by decide +kernel
theorem dX6_readAsPile_2 : decode cX6_readAsPile 2 = .ok (.getfield 32, 3) := by decide +kernel
theorem dX6_readAsPile_5 : decode cX6_readAsPile 5 = .ok (.iconst 0, 1) := by decide +kernel
theorem dX6_readAsPile_6 : decode cX6_readAsPile 6 = .ok (.invokevirtual 50, 3) := by decide +kernel
theorem dX6_readAsPile_9 : decode cX6_readAsPile 9 = .ok (.ireturn, 1) := by decide +kernel
theorem dX6_readEntries_0 : decode cX6_readEntries 0 = .ok (.aload_n 0, 1) := by decide +kernel
theorem dX6_readEntries_1 : decode cX6_readEntries 1 = .ok (.getfield 20, 3) := by decide +kernel
theorem dX6_readEntries_4 : decode cX6_readEntries 4 = .ok (.invokevirtual 43, 3) := by decide +kernel
theorem dX6_readEntries_7 : decode cX6_readEntries 7 = .ok (.aload_n 0, 1) := by decide +kernel
theorem dX6_readEntries_8 : decode cX6_readEntries 8 = .ok (.getfield 23, 3) := by decide +kernel
theorem dX6_readEntries_11 : decode cX6_readEntries 11 = .ok (.invokevirtual 43, 3) := by decide +kernel
theorem dX6_readEntries_14 : decode cX6_readEntries 14 = .ok (.aload_n 0, 1) := by decide +kernel
theorem dX6_readEntries_15 : decode cX6_readEntries 15 = .ok (.getfield 26, 3) := by decide +kernel
theorem dX6_readEntries_18 : decode cX6_readEntries 18 = .ok (.invokevirtual 43, 3) := by decide +kernel
theorem dX6_readEntries_21 : decode cX6_readEntries 21 = .ok (.aload_n 0, 1) := by decide +kernel
theorem dX6_readEntries_22 : decode cX6_readEntries 22 = .ok (.iconst 0, 1) := by decide +kernel
theorem dX6_readEntries_23 : decode cX6_readEntries 23 = .ok (.putfield 54, 3) := by decide +kernel
theorem dX6_readEntries_26 : decode cX6_readEntries 26 = .ok (.iconst 0, 1) := by decide +kernel
theorem dX6_readEntries_27 : decode cX6_readEntries 27 = .ok (.istore_n 3, 1) := by decide +kernel
theorem dX6_readEntries_28 : decode cX6_readEntries 28 = .ok (.iload_n 3, 1) := by decide +kernel
theorem dX6_readEntries_29 : decode cX6_readEntries 29 = .ok (.aload_n 0, 1) := by decide +kernel
theorem dX6_readEntries_30 : decode cX6_readEntries 30 = .ok (.getfield 14, 3) := by decide +kernel
theorem dX6_readEntries_33 : decode cX6_readEntries 33 = .ok (.invokevirtual 36, 3) := by decide +kernel
theorem dX6_readEntries_36 : decode cX6_readEntries 36 = .ok (.if_icmp .gt 70, 3) := by decide +kernel
theorem dX6_readEntries_39 : decode cX6_readEntries 39 = .ok (.aload_n 0, 1) := by decide +kernel
theorem dX6_readEntries_40 : decode cX6_readEntries 40 = .ok (.aload_n 1, 1) := by decide +kernel
theorem dX6_readEntries_41 : decode cX6_readEntries 41 = .ok (.iload_n 2, 1) := by decide +kernel
theorem dX6_readEntries_42 : decode cX6_readEntries 42 = .ok (.invokevirtual 57, 3) := by decide +kernel
theorem dX6_readEntries_45 : decode cX6_readEntries 45 = .ok (.ifCond .ne 8, 3) := by decide +kernel
theorem dX6_readEntries_48 : decode cX6_readEntries 48 = .ok (.aload_n 0, 1) := by decide +kernel
theorem dX6_readEntries_49 : decode cX6_readEntries 49 = .ok (.getfield 54, 3) := by decide +kernel
theorem dX6_readEntries_52 : decode cX6_readEntries 52 = .ok (.ireturn, 1) := by decide +kernel
theorem dX6_readEntries_53 : decode cX6_readEntries 53 = .ok (.aload_n 0, 1) := by decide +kernel
theorem dX6_readEntries_54 : decode cX6_readEntries 54 = .ok (.getfield 54, 3) := by decide +kernel
theorem dX6_readEntries_57 : decode cX6_readEntries 57 = .ok (.aload_n 0, 1) := by decide +kernel
theorem dX6_readEntries_58 : decode cX6_readEntries 58 = .ok (.getfield 14, 3) := by decide +kernel
theorem dX6_readEntries_61 : decode cX6_readEntries 61 = .ok (.invokevirtual 36, 3) := by decide +kernel
theorem dX6_readEntries_64 : decode cX6_readEntries 64 = .ok (.if_icmp .ne 5, 3) := by decide +kernel
theorem dX6_readEntries_67 : decode cX6_readEntries 67 = .ok (.iconst (-1), 1) := by decide +kernel
theorem dX6_readEntries_68 : decode cX6_readEntries 68 = .ok (.ireturn, 1) := by decide +kernel
theorem dX6_readEntries_69 : decode cX6_readEntries 69 = .ok (.aload_n 0, 1) := by decide +kernel
theorem dX6_readEntries_70 : decode cX6_readEntries 70 = .ok (.getfield 14, 3) := by decide +kernel
theorem dX6_readEntries_73 : decode cX6_readEntries 73 = .ok (.aload_n 0, 1) := by decide +kernel
theorem dX6_readEntries_74 : decode cX6_readEntries 74 = .ok (.getfield 54, 3) := by decide +kernel
theorem dX6_readEntries_77 : decode cX6_readEntries 77 = .ok (.invokevirtual 46, 3) := by decide +kernel
theorem dX6_readEntries_80 : decode cX6_readEntries 80 = .ok (.bipush 44, 2) := by decide +kernel
theorem dX6_readEntries_82 : decode cX6_readEntries 82 = .ok (.if_icmp .eq 8, 3) := by decide +kernel
theorem dX6_readEntries_85 : decode cX6_readEntries 85 = .ok (.aload_n 0, 1) := by decide +kernel
theorem dX6_readEntries_86 : decode cX6_readEntries 86 = .ok (.getfield 54, 3) := by decide +kernel
theorem dX6_readEntries_89 : decode cX6_readEntries 89 = .ok (.ireturn, 1) := by decide +kernel
theorem dX6_readEntries_90 : decode cX6_readEntries 90 = .ok (.aload_n 0, 1) := by decide +kernel
theorem dX6_readEntries_91 : decode cX6_readEntries 91 = .ok (.dup, 1) := by decide +kernel
theorem dX6_readEntries_92 : decode cX6_readEntries 92 = .ok (.getfield 54, 3) := by decide +kernel
theorem dX6_readEntries_95 : decode cX6_readEntries 95 = .ok (.iconst 1, 1) := by decide +kernel
theorem dX6_readEntries_96 : decode cX6_readEntries 96 = .ok (.iadd, 1) := by decide +kernel
theorem dX6_readEntries_97 : decode cX6_readEntries 97 = .ok (.putfield 54, 3) := by decide +kernel
theorem dX6_readEntries_100 : decode cX6_readEntries 100 = .ok (.iinc 3 1, 3) := by decide +kernel
theorem dX6_readEntries_103 : decode cX6_readEntries 103 = .ok (.goto (-75), 3) := by decide +kernel
theorem dX6_readEntries_106 : decode cX6_readEntries 106 = .ok (.aload_n 0, 1) := by decide +kernel
theorem dX6_readEntries_107 : decode cX6_readEntries 107 = .ok (.getfield 54, 3) := by decide +kernel
theorem dX6_readEntries_110 : decode cX6_readEntries 110 = .ok (.ireturn, 1) := by decide +kernel
theorem dX6_readEntry_0 : decode cX6_readEntry 0 = .ok (.aload_n 0, 1) := by decide +kernel
theorem dX6_readEntry_1 : decode cX6_readEntry 1 = .ok (.aload_n 1, 1) := by decide +kernel
theorem dX6_readEntry_2 : decode cX6_readEntry 2 = .ok (.invokevirtual 61, 3) := by decide +kernel
theorem dX6_readEntry_5 : decode cX6_readEntry 5 = .ok (.istore_n 3, 1) := by decide +kernel
theorem dX6_readEntry_6 : decode cX6_readEntry 6 = .ok (.iload_n 3, 1) := by decide +kernel
theorem dX6_readEntry_7 : decode cX6_readEntry 7 = .ok (.iconst (-1), 1) := by decide +kernel
theorem dX6_readEntry_8 : decode cX6_readEntry 8 = .ok (.if_icmp .ne 5, 3) := by decide +kernel
theorem dX6_readEntry_11 : decode cX6_readEntry 11 = .ok (.iconst 0, 1) := by decide +kernel
theorem dX6_readEntry_12 : decode cX6_readEntry 12 = .ok (.ireturn, 1) := by decide +kernel
theorem dX6_readEntry_13 : decode cX6_readEntry 13 = .ok (.iload_n 3, 1) := by decide +kernel
theorem dX6_readEntry_14 : decode cX6_readEntry 14 = .ok (.istore 4, 2) := by decide +kernel
theorem dX6_readEntry_16 : decode cX6_readEntry 16 = .ok (.iload_n 2, 1) := by decide +kernel
theorem dX6_readEntry_17 : decode cX6_readEntry 17 = .ok (.ifCond .eq 52, 3) := by decide +kernel
theorem dX6_readEntry_20 : decode cX6_readEntry 20 = .ok (.iload_n 3, 1) := by decide +kernel
theorem dX6_readEntry_21 : decode cX6_readEntry 21 = .ok (.invokestatic 67, 3) := by decide +kernel
theorem dX6_readEntry_24 : decode cX6_readEntry 24 = .ok (.ifCond .ne 45, 3) := by decide +kernel
theorem dX6_readEntry_27 : decode cX6_readEntry 27 = .ok (.aload_n 0, 1) := by decide +kernel
theorem dX6_readEntry_28 : decode cX6_readEntry 28 = .ok (.getfield 14, 3) := by decide +kernel
theorem dX6_readEntry_31 : decode cX6_readEntry 31 = .ok (.aload_n 0, 1) := by decide +kernel
theorem dX6_readEntry_32 : decode cX6_readEntry 32 = .ok (.getfield 54, 3) := by decide +kernel
theorem dX6_readEntry_35 : decode cX6_readEntry 35 = .ok (.invokevirtual 46, 3) := by decide +kernel
theorem dX6_readEntry_38 : decode cX6_readEntry 38 = .ok (.bipush 45, 2) := by decide +kernel
theorem dX6_readEntry_40 : decode cX6_readEntry 40 = .ok (.if_icmp .ne 29, 3) := by decide +kernel
theorem dX6_readEntry_43 : decode cX6_readEntry 43 = .ok (.aload_n 0, 1) := by decide +kernel
theorem dX6_readEntry_44 : decode cX6_readEntry 44 = .ok (.dup, 1) := by decide +kernel
theorem dX6_readEntry_45 : decode cX6_readEntry 45 = .ok (.getfield 54, 3) := by decide +kernel
theorem dX6_readEntry_48 : decode cX6_readEntry 48 = .ok (.iconst 1, 1) := by decide +kernel
theorem dX6_readEntry_49 : decode cX6_readEntry 49 = .ok (.iadd, 1) := by decide +kernel
theorem dX6_readEntry_50 : decode cX6_readEntry 50 = .ok (.putfield 54, 3) := by decide +kernel
theorem dX6_readEntry_53 : decode cX6_readEntry 53 = .ok (.aload_n 0, 1) := by decide +kernel
theorem dX6_readEntry_54 : decode cX6_readEntry 54 = .ok (.aload_n 1, 1) := by decide +kernel
theorem dX6_readEntry_55 : decode cX6_readEntry 55 = .ok (.iload_n 3, 1) := by decide +kernel
theorem dX6_readEntry_56 : decode cX6_readEntry 56 = .ok (.invokevirtual 71, 3) := by decide +kernel
theorem dX6_readEntry_59 : decode cX6_readEntry 59 = .ok (.istore 4, 2) := by decide +kernel
theorem dX6_readEntry_61 : decode cX6_readEntry 61 = .ok (.iload 4, 2) := by decide +kernel
theorem dX6_readEntry_63 : decode cX6_readEntry 63 = .ok (.iconst (-1), 1) := by decide +kernel
theorem dX6_readEntry_64 : decode cX6_readEntry 64 = .ok (.if_icmp .ne 5, 3) := by decide +kernel
theorem dX6_readEntry_67 : decode cX6_readEntry 67 = .ok (.iconst 0, 1) := by decide +kernel
theorem dX6_readEntry_68 : decode cX6_readEntry 68 = .ok (.ireturn, 1) := by decide +kernel
theorem dX6_readEntry_69 : decode cX6_readEntry 69 = .ok (.aload_n 0, 1) := by decide +kernel
theorem dX6_readEntry_70 : decode cX6_readEntry 70 = .ok (.invokevirtual 75, 3) := by decide +kernel
theorem dX6_readEntry_73 : decode cX6_readEntry 73 = .ok (.istore 5, 2) := by decide +kernel
theorem dX6_readEntry_75 : decode cX6_readEntry 75 = .ok (.iload 5, 2) := by decide +kernel
theorem dX6_readEntry_77 : decode cX6_readEntry 77 = .ok (.ifCond .ne 5, 3) := by decide +kernel
theorem dX6_readEntry_80 : decode cX6_readEntry 80 = .ok (.iconst 0, 1) := by decide +kernel
theorem dX6_readEntry_81 : decode cX6_readEntry 81 = .ok (.ireturn, 1) := by decide +kernel
theorem dX6_readEntry_82 : decode cX6_readEntry 82 = .ok (.aload_n 0, 1) := by decide +kernel
theorem dX6_readEntry_83 : decode cX6_readEntry 83 = .ok (.getfield 20, 3) := by decide +kernel
theorem dX6_readEntry_86 : decode cX6_readEntry 86 = .ok (.iload_n 3, 1) := by decide +kernel
theorem dX6_readEntry_87 : decode cX6_readEntry 87 = .ok (.invokevirtual 40, 3) := by decide +kernel
theorem dX6_readEntry_90 : decode cX6_readEntry 90 = .ok (.aload_n 0, 1) := by decide +kernel
theorem dX6_readEntry_91 : decode cX6_readEntry 91 = .ok (.getfield 23, 3) := by decide +kernel
theorem dX6_readEntry_94 : decode cX6_readEntry 94 = .ok (.iload 4, 2) := by decide +kernel
theorem dX6_readEntry_96 : decode cX6_readEntry 96 = .ok (.invokevirtual 40, 3) := by decide +kernel
theorem dX6_readEntry_99 : decode cX6_readEntry 99 = .ok (.aload_n 0, 1) := by decide +kernel
theorem dX6_readEntry_100 : decode cX6_readEntry 100 = .ok (.getfield 26, 3) := by decide +kernel
theorem dX6_readEntry_103 : decode cX6_readEntry 103 = .ok (.iload 5, 2) := by decide +kernel
theorem dX6_readEntry_105 : decode cX6_readEntry 105 = .ok (.invokevirtual 40, 3) := by decide +kernel
theorem dX6_readEntry_108 : decode cX6_readEntry 108 = .ok (.iconst 1, 1) := by decide +kernel
theorem dX6_readEntry_109 : decode cX6_readEntry 109 = .ok (.ireturn, 1) := by decide +kernel
theorem dX6_readSign_0 : decode cX6_readSign 0 = .ok (.aload_n 0, 1) := by decide +kernel
theorem dX6_readSign_1 : decode cX6_readSign 1 = .ok (.getfield 14, 3) := by decide +kernel
theorem dX6_readSign_4 : decode cX6_readSign 4 = .ok (.aload_n 0, 1) := by decide +kernel
theorem dX6_readSign_5 : decode cX6_readSign 5 = .ok (.getfield 54, 3) := by decide +kernel
theorem dX6_readSign_8 : decode cX6_readSign 8 = .ok (.invokevirtual 46, 3) := by decide +kernel
theorem dX6_readSign_11 : decode cX6_readSign 11 = .ok (.bipush 42, 2) := by decide +kernel
theorem dX6_readSign_13 : decode cX6_readSign 13 = .ok (.if_icmp .ne 10, 3) := by decide +kernel
theorem dX6_readSign_16 : decode cX6_readSign 16 = .ok (.aload_n 0, 1) := by decide +kernel
theorem dX6_readSign_17 : decode cX6_readSign 17 = .ok (.invokevirtual 78, 3) := by decide +kernel
theorem dX6_readSign_20 : decode cX6_readSign 20 = .ok (.goto 8, 3) := by decide +kernel
theorem dX6_readSign_23 : decode cX6_readSign 23 = .ok (.aload_n 0, 1) := by decide +kernel
theorem dX6_readSign_24 : decode cX6_readSign 24 = .ok (.aload_n 1, 1) := by decide +kernel
theorem dX6_readSign_25 : decode cX6_readSign 25 = .ok (.invokevirtual 81, 3) := by decide +kernel
theorem dX6_readSign_28 : decode cX6_readSign 28 = .ok (.ireturn, 1) := by decide +kernel
theorem dX6_readStars_0 : decode cX6_readStars 0 = .ok (.iconst 0, 1) := by decide +kernel
theorem dX6_readStars_1 : decode cX6_readStars 1 = .ok (.istore_n 1, 1) := by decide +kernel
theorem dX6_readStars_2 : decode cX6_readStars 2 = .ok (.iload_n 1, 1) := by decide +kernel
theorem dX6_readStars_3 : decode cX6_readStars 3 = .ok (.iconst 5, 1) := by decide +kernel
theorem dX6_readStars_4 : decode cX6_readStars 4 = .ok (.if_icmp .ge 35, 3) := by decide +kernel
theorem dX6_readStars_7 : decode cX6_readStars 7 = .ok (.aload_n 0, 1) := by decide +kernel
theorem dX6_readStars_8 : decode cX6_readStars 8 = .ok (.getfield 14, 3) := by decide +kernel
theorem dX6_readStars_11 : decode cX6_readStars 11 = .ok (.aload_n 0, 1) := by decide +kernel
theorem dX6_readStars_12 : decode cX6_readStars 12 = .ok (.getfield 54, 3) := by decide +kernel
theorem dX6_readStars_15 : decode cX6_readStars 15 = .ok (.invokevirtual 46, 3) := by decide +kernel
theorem dX6_readStars_18 : decode cX6_readStars 18 = .ok (.bipush 42, 2) := by decide +kernel
theorem dX6_readStars_20 : decode cX6_readStars 20 = .ok (.if_icmp .ne 19, 3) := by decide +kernel
theorem dX6_readStars_23 : decode cX6_readStars 23 = .ok (.iinc 1 1, 3) := by decide +kernel
theorem dX6_readStars_26 : decode cX6_readStars 26 = .ok (.aload_n 0, 1) := by decide +kernel
theorem dX6_readStars_27 : decode cX6_readStars 27 = .ok (.dup, 1) := by decide +kernel
theorem dX6_readStars_28 : decode cX6_readStars 28 = .ok (.getfield 54, 3) := by decide +kernel
theorem dX6_readStars_31 : decode cX6_readStars 31 = .ok (.iconst 1, 1) := by decide +kernel
theorem dX6_readStars_32 : decode cX6_readStars 32 = .ok (.iadd, 1) := by decide +kernel
theorem dX6_readStars_33 : decode cX6_readStars 33 = .ok (.putfield 54, 3) := by decide +kernel
theorem dX6_readStars_36 : decode cX6_readStars 36 = .ok (.goto (-34), 3) := by decide +kernel
theorem dX6_readStars_39 : decode cX6_readStars 39 = .ok (.iload_n 1, 1) := by decide +kernel
theorem dX6_readStars_40 : decode cX6_readStars 40 = .ok (.invokestatic 84, 3) := by decide +kernel
theorem dX6_readStars_43 : decode cX6_readStars 43 = .ok (.ireturn, 1) := by decide +kernel
theorem dX6_readLetters_0 : decode cX6_readLetters 0 = .ok (.aload_n 0, 1) := by decide +kernel
theorem dX6_readLetters_1 : decode cX6_readLetters 1 = .ok (.getfield 14, 3) := by decide +kernel
theorem dX6_readLetters_4 : decode cX6_readLetters 4 = .ok (.aload_n 0, 1) := by decide +kernel
theorem dX6_readLetters_5 : decode cX6_readLetters 5 = .ok (.getfield 54, 3) := by decide +kernel
theorem dX6_readLetters_8 : decode cX6_readLetters 8 = .ok (.invokevirtual 46, 3) := by decide +kernel
theorem dX6_readLetters_11 : decode cX6_readLetters 11 = .ok (.bipush 65, 2) := by decide +kernel
theorem dX6_readLetters_13 : decode cX6_readLetters 13 = .ok (.isub, 1) := by decide +kernel
theorem dX6_readLetters_14 : decode cX6_readLetters 14 = .ok (.istore_n 2, 1) := by decide +kernel
theorem dX6_readLetters_15 : decode cX6_readLetters 15 = .ok (.aload_n 1, 1) := by decide +kernel
theorem dX6_readLetters_16 : decode cX6_readLetters 16 = .ok (.iload_n 2, 1) := by decide +kernel
theorem dX6_readLetters_17 : decode cX6_readLetters 17 = .ok (.invokevirtual 87, 3) := by decide +kernel
theorem dX6_readLetters_20 : decode cX6_readLetters 20 = .ok (.ifCond .ne 5, 3) := by decide +kernel
theorem dX6_readLetters_23 : decode cX6_readLetters 23 = .ok (.iconst (-1), 1) := by decide +kernel
theorem dX6_readLetters_24 : decode cX6_readLetters 24 = .ok (.ireturn, 1) := by decide +kernel
theorem dX6_readLetters_25 : decode cX6_readLetters 25 = .ok (.aload_n 0, 1) := by decide +kernel
theorem dX6_readLetters_26 : decode cX6_readLetters 26 = .ok (.dup, 1) := by decide +kernel
theorem dX6_readLetters_27 : decode cX6_readLetters 27 = .ok (.getfield 54, 3) := by decide +kernel
theorem dX6_readLetters_30 : decode cX6_readLetters 30 = .ok (.iconst 1, 1) := by decide +kernel
theorem dX6_readLetters_31 : decode cX6_readLetters 31 = .ok (.iadd, 1) := by decide +kernel
theorem dX6_readLetters_32 : decode cX6_readLetters 32 = .ok (.putfield 54, 3) := by decide +kernel
theorem dX6_readLetters_35 : decode cX6_readLetters 35 = .ok (.iconst 1, 1) := by decide +kernel
theorem dX6_readLetters_36 : decode cX6_readLetters 36 = .ok (.istore_n 3, 1) := by decide +kernel
theorem dX6_readLetters_37 : decode cX6_readLetters 37 = .ok (.iload_n 3, 1) := by decide +kernel
theorem dX6_readLetters_38 : decode cX6_readLetters 38 = .ok (.iconst 3, 1) := by decide +kernel
theorem dX6_readLetters_39 : decode cX6_readLetters 39 = .ok (.if_icmp .ge 37, 3) := by decide +kernel
theorem dX6_readLetters_42 : decode cX6_readLetters 42 = .ok (.aload_n 0, 1) := by decide +kernel
theorem dX6_readLetters_43 : decode cX6_readLetters 43 = .ok (.getfield 14, 3) := by decide +kernel
theorem dX6_readLetters_46 : decode cX6_readLetters 46 = .ok (.aload_n 0, 1) := by decide +kernel
theorem dX6_readLetters_47 : decode cX6_readLetters 47 = .ok (.getfield 54, 3) := by decide +kernel
theorem dX6_readLetters_50 : decode cX6_readLetters 50 = .ok (.invokevirtual 46, 3) := by decide +kernel
theorem dX6_readLetters_53 : decode cX6_readLetters 53 = .ok (.bipush 97, 2) := by decide +kernel
theorem dX6_readLetters_55 : decode cX6_readLetters 55 = .ok (.iload_n 2, 1) := by decide +kernel
theorem dX6_readLetters_56 : decode cX6_readLetters 56 = .ok (.iadd, 1) := by decide +kernel
theorem dX6_readLetters_57 : decode cX6_readLetters 57 = .ok (.if_icmp .ne 19, 3) := by decide +kernel
theorem dX6_readLetters_60 : decode cX6_readLetters 60 = .ok (.iinc 3 1, 3) := by decide +kernel
theorem dX6_readLetters_63 : decode cX6_readLetters 63 = .ok (.aload_n 0, 1) := by decide +kernel
theorem dX6_readLetters_64 : decode cX6_readLetters 64 = .ok (.dup, 1) := by decide +kernel
theorem dX6_readLetters_65 : decode cX6_readLetters 65 = .ok (.getfield 54, 3) := by decide +kernel
theorem dX6_readLetters_68 : decode cX6_readLetters 68 = .ok (.iconst 1, 1) := by decide +kernel
theorem dX6_readLetters_69 : decode cX6_readLetters 69 = .ok (.iadd, 1) := by decide +kernel
theorem dX6_readLetters_70 : decode cX6_readLetters 70 = .ok (.putfield 54, 3) := by decide +kernel
theorem dX6_readLetters_73 : decode cX6_readLetters 73 = .ok (.goto (-36), 3) := by decide +kernel
theorem dX6_readLetters_76 : decode cX6_readLetters 76 = .ok (.iload_n 2, 1) := by decide +kernel
theorem dX6_readLetters_77 : decode cX6_readLetters 77 = .ok (.iload_n 3, 1) := by decide +kernel
theorem dX6_readLetters_78 : decode cX6_readLetters 78 = .ok (.invokestatic 90, 3) := by decide +kernel
theorem dX6_readLetters_81 : decode cX6_readLetters 81 = .ok (.ireturn, 1) := by decide +kernel
theorem dX6_readLastSign_0 : decode cX6_readLastSign 0 = .ok (.aload_n 0, 1) := by decide +kernel
theorem dX6_readLastSign_1 : decode cX6_readLastSign 1 = .ok (.aload_n 1, 1) := by decide +kernel
theorem dX6_readLastSign_2 : decode cX6_readLastSign 2 = .ok (.invokevirtual 81, 3) := by decide +kernel
theorem dX6_readLastSign_5 : decode cX6_readLastSign 5 = .ok (.istore_n 3, 1) := by decide +kernel
theorem dX6_readLastSign_6 : decode cX6_readLastSign 6 = .ok (.iload_n 3, 1) := by decide +kernel
theorem dX6_readLastSign_7 : decode cX6_readLastSign 7 = .ok (.iconst (-1), 1) := by decide +kernel
theorem dX6_readLastSign_8 : decode cX6_readLastSign 8 = .ok (.if_icmp .ne 5, 3) := by decide +kernel
theorem dX6_readLastSign_11 : decode cX6_readLastSign 11 = .ok (.iconst (-1), 1) := by decide +kernel
theorem dX6_readLastSign_12 : decode cX6_readLastSign 12 = .ok (.ireturn, 1) := by decide +kernel
theorem dX6_readLastSign_13 : decode cX6_readLastSign 13 = .ok (.iload_n 3, 1) := by decide +kernel
theorem dX6_readLastSign_14 : decode cX6_readLastSign 14 = .ok (.invokestatic 94, 3) := by decide +kernel
theorem dX6_readLastSign_17 : decode cX6_readLastSign 17 = .ok (.iload_n 2, 1) := by decide +kernel
theorem dX6_readLastSign_18 : decode cX6_readLastSign 18 = .ok (.invokestatic 94, 3) := by decide +kernel
theorem dX6_readLastSign_21 : decode cX6_readLastSign 21 = .ok (.if_icmp .ne 8, 3) := by decide +kernel
theorem dX6_readLastSign_24 : decode cX6_readLastSign 24 = .ok (.iload_n 3, 1) := by decide +kernel
theorem dX6_readLastSign_25 : decode cX6_readLastSign 25 = .ok (.iload_n 2, 1) := by decide +kernel
theorem dX6_readLastSign_26 : decode cX6_readLastSign 26 = .ok (.if_icmp .ge 15, 3) := by decide +kernel
theorem dX6_readLastSign_29 : decode cX6_readLastSign 29 = .ok (.aload_n 0, 1) := by decide +kernel
theorem dX6_readLastSign_30 : decode cX6_readLastSign 30 = .ok (.dup, 1) := by decide +kernel
theorem dX6_readLastSign_31 : decode cX6_readLastSign 31 = .ok (.getfield 54, 3) := by decide +kernel
theorem dX6_readLastSign_34 : decode cX6_readLastSign 34 = .ok (.iconst 1, 1) := by decide +kernel
theorem dX6_readLastSign_35 : decode cX6_readLastSign 35 = .ok (.isub, 1) := by decide +kernel
theorem dX6_readLastSign_36 : decode cX6_readLastSign 36 = .ok (.putfield 54, 3) := by decide +kernel
theorem dX6_readLastSign_39 : decode cX6_readLastSign 39 = .ok (.iconst (-1), 1) := by decide +kernel
theorem dX6_readLastSign_40 : decode cX6_readLastSign 40 = .ok (.ireturn, 1) := by decide +kernel
theorem dX6_readLastSign_41 : decode cX6_readLastSign 41 = .ok (.iload_n 3, 1) := by decide +kernel
theorem dX6_readLastSign_42 : decode cX6_readLastSign 42 = .ok (.ireturn, 1) := by decide +kernel
theorem dX6_readNumber_0 : decode cX6_readNumber 0 = .ok (.aload_n 0, 1) := by decide +kernel
theorem dX6_readNumber_1 : decode cX6_readNumber 1 = .ok (.aload_n 0, 1) := by decide +kernel
theorem dX6_readNumber_2 : decode cX6_readNumber 2 = .ok (.getfield 54, 3) := by decide +kernel
theorem dX6_readNumber_5 : decode cX6_readNumber 5 = .ok (.invokevirtual 97, 3) := by decide +kernel
theorem dX6_readNumber_8 : decode cX6_readNumber 8 = .ok (.istore_n 1, 1) := by decide +kernel
theorem dX6_readNumber_9 : decode cX6_readNumber 9 = .ok (.iload_n 1, 1) := by decide +kernel
theorem dX6_readNumber_10 : decode cX6_readNumber 10 = .ok (.iconst 1, 1) := by decide +kernel
theorem dX6_readNumber_11 : decode cX6_readNumber 11 = .ok (.if_icmp .ge 5, 3) := by decide +kernel
theorem dX6_readNumber_14 : decode cX6_readNumber 14 = .ok (.iconst 0, 1) := by decide +kernel
theorem dX6_readNumber_15 : decode cX6_readNumber 15 = .ok (.ireturn, 1) := by decide +kernel
theorem dX6_readNumber_16 : decode cX6_readNumber 16 = .ok (.aload_n 0, 1) := by decide +kernel
theorem dX6_readNumber_17 : decode cX6_readNumber 17 = .ok (.dup, 1) := by decide +kernel
theorem dX6_readNumber_18 : decode cX6_readNumber 18 = .ok (.getfield 54, 3) := by decide +kernel
theorem dX6_readNumber_21 : decode cX6_readNumber 21 = .ok (.iconst 1, 1) := by decide +kernel
theorem dX6_readNumber_22 : decode cX6_readNumber 22 = .ok (.iadd, 1) := by decide +kernel
theorem dX6_readNumber_23 : decode cX6_readNumber 23 = .ok (.putfield 54, 3) := by decide +kernel
theorem dX6_readNumber_26 : decode cX6_readNumber 26 = .ok (.aload_n 0, 1) := by decide +kernel
theorem dX6_readNumber_27 : decode cX6_readNumber 27 = .ok (.aload_n 0, 1) := by decide +kernel
theorem dX6_readNumber_28 : decode cX6_readNumber 28 = .ok (.getfield 54, 3) := by decide +kernel
theorem dX6_readNumber_31 : decode cX6_readNumber 31 = .ok (.invokevirtual 97, 3) := by decide +kernel
theorem dX6_readNumber_34 : decode cX6_readNumber 34 = .ok (.istore_n 2, 1) := by decide +kernel
theorem dX6_readNumber_35 : decode cX6_readNumber 35 = .ok (.iload_n 2, 1) := by decide +kernel
theorem dX6_readNumber_36 : decode cX6_readNumber 36 = .ok (.ifCond .lt 14, 3) := by decide +kernel
theorem dX6_readNumber_39 : decode cX6_readNumber 39 = .ok (.iload_n 1, 1) := by decide +kernel
theorem dX6_readNumber_40 : decode cX6_readNumber 40 = .ok (.bipush 10, 2) := by decide +kernel
theorem dX6_readNumber_42 : decode cX6_readNumber 42 = .ok (.imul, 1) := by decide +kernel
theorem dX6_readNumber_43 : decode cX6_readNumber 43 = .ok (.iload_n 2, 1) := by decide +kernel
theorem dX6_readNumber_44 : decode cX6_readNumber 44 = .ok (.iadd, 1) := by decide +kernel
theorem dX6_readNumber_45 : decode cX6_readNumber 45 = .ok (.bipush 24, 2) := by decide +kernel
theorem dX6_readNumber_47 : decode cX6_readNumber 47 = .ok (.if_icmp .le 5, 3) := by decide +kernel
theorem dX6_readNumber_50 : decode cX6_readNumber 50 = .ok (.iload_n 1, 1) := by decide +kernel
theorem dX6_readNumber_51 : decode cX6_readNumber 51 = .ok (.ireturn, 1) := by decide +kernel
theorem dX6_readNumber_52 : decode cX6_readNumber 52 = .ok (.aload_n 0, 1) := by decide +kernel
theorem dX6_readNumber_53 : decode cX6_readNumber 53 = .ok (.dup, 1) := by decide +kernel
theorem dX6_readNumber_54 : decode cX6_readNumber 54 = .ok (.getfield 54, 3) := by decide +kernel
theorem dX6_readNumber_57 : decode cX6_readNumber 57 = .ok (.iconst 1, 1) := by decide +kernel
theorem dX6_readNumber_58 : decode cX6_readNumber 58 = .ok (.iadd, 1) := by decide +kernel
theorem dX6_readNumber_59 : decode cX6_readNumber 59 = .ok (.putfield 54, 3) := by decide +kernel
theorem dX6_readNumber_62 : decode cX6_readNumber 62 = .ok (.iload_n 1, 1) := by decide +kernel
theorem dX6_readNumber_63 : decode cX6_readNumber 63 = .ok (.bipush 10, 2) := by decide +kernel
theorem dX6_readNumber_65 : decode cX6_readNumber 65 = .ok (.imul, 1) := by decide +kernel
theorem dX6_readNumber_66 : decode cX6_readNumber 66 = .ok (.iload_n 2, 1) := by decide +kernel
theorem dX6_readNumber_67 : decode cX6_readNumber 67 = .ok (.iadd, 1) := by decide +kernel
theorem dX6_readNumber_68 : decode cX6_readNumber 68 = .ok (.ireturn, 1) := by decide +kernel
theorem dX6_digitAt_0 : decode cX6_digitAt 0 = .ok (.aload_n 0, 1) := by decide +kernel
theorem dX6_digitAt_1 : decode cX6_digitAt 1 = .ok (.getfield 14, 3) := by decide +kernel
theorem dX6_digitAt_4 : decode cX6_digitAt 4 = .ok (.iload_n 1, 1) := by decide +kernel
theorem dX6_digitAt_5 : decode cX6_digitAt 5 = .ok (.invokevirtual 46, 3) := by decide +kernel
theorem dX6_digitAt_8 : decode cX6_digitAt 8 = .ok (.bipush 48, 2) := by decide +kernel
theorem dX6_digitAt_10 : decode cX6_digitAt 10 = .ok (.isub, 1) := by decide +kernel
theorem dX6_digitAt_11 : decode cX6_digitAt 11 = .ok (.istore_n 2, 1) := by decide +kernel
theorem dX6_digitAt_12 : decode cX6_digitAt 12 = .ok (.iload_n 2, 1) := by decide +kernel
theorem dX6_digitAt_13 : decode cX6_digitAt 13 = .ok (.ifCond .lt 13, 3) := by decide +kernel
theorem dX6_digitAt_16 : decode cX6_digitAt 16 = .ok (.iload_n 2, 1) := by decide +kernel
theorem dX6_digitAt_17 : decode cX6_digitAt 17 = .ok (.bipush 9, 2) := by decide +kernel
theorem dX6_digitAt_19 : decode cX6_digitAt 19 = .ok (.if_icmp .gt 7, 3) := by decide +kernel
theorem dX6_digitAt_22 : decode cX6_digitAt 22 = .ok (.iload_n 2, 1) := by decide +kernel
theorem dX6_digitAt_23 : decode cX6_digitAt 23 = .ok (.goto 4, 3) := by decide +kernel
theorem dX6_digitAt_26 : decode cX6_digitAt 26 = .ok (.iconst (-1), 1) := by decide +kernel
theorem dX6_digitAt_27 : decode cX6_digitAt 27 = .ok (.ireturn, 1) := by decide +kernel
theorem dX7_init_0 : decode cX7_init 0 = .ok (.aload_n 0, 1) := by decide +kernel
theorem dX7_init_1 : decode cX7_init 1 = .ok (.invokespecial 3, 3) := by decide +kernel
theorem dX7_init_4 : decode cX7_init 4 = .ok (.aload_n 0, 1) := by decide +kernel
theorem dX7_init_5 : decode cX7_init 5 = .ok (.new 9, 3) := by decide +kernel
theorem dX7_init_8 : decode cX7_init 8 = .ok (.dup, 1) := by decide +kernel
theorem dX7_init_9 : decode cX7_init 9 = .ok (.sipush 320, 3) := by decide +kernel
theorem dX7_init_12 : decode cX7_init 12 = .ok (.invokespecial 11, 3) := by decide +kernel
theorem dX7_init_15 : decode cX7_init 15 = .ok (.putfield 14, 3) := by decide +kernel
theorem dX7_init_18 : decode cX7_init 18 = .ok (.return_, 1) := by decide +kernel
theorem dX7_length_0 : decode cX7_length 0 = .ok (.aload_n 0, 1) := by decide +kernel
theorem dX7_length_1 : decode cX7_length 1 = .ok (.getfield 14, 3) := by decide +kernel
theorem dX7_length_4 : decode cX7_length 4 = .ok (.invokevirtual 20, 3) := by decide +kernel
theorem dX7_length_7 : decode cX7_length 7 = .ok (.ireturn, 1) := by decide +kernel
theorem dX7_characterAt_0 : decode cX7_characterAt 0 = .ok (.aload_n 0, 1) := by decide +kernel
theorem dX7_characterAt_1 : decode cX7_characterAt 1 = .ok (.getfield 14, 3) := by decide +kernel
theorem dX7_characterAt_4 : decode cX7_characterAt 4 = .ok (.iload_n 1, 1) := by decide +kernel
theorem dX7_characterAt_5 : decode cX7_characterAt 5 = .ok (.invokevirtual 24, 3) := by decide +kernel
theorem dX7_characterAt_8 : decode cX7_characterAt 8 = .ok (.ireturn, 1) := by decide +kernel
theorem dX7_entries_0 : decode cX7_entries 0 = .ok (.aload_n 0, 1) := by decide +kernel
theorem dX7_entries_1 : decode cX7_entries 1 = .ok (.getfield 28, 3) := by decide +kernel
theorem dX7_entries_4 : decode cX7_entries 4 = .ok (.ireturn, 1) := by decide +kernel
theorem dX7_write_0 : decode cX7_write 0 = .ok (.aload_n 0, 1) := by decide +kernel
theorem dX7_write_1 : decode cX7_write 1 = .ok (.getfield 14, 3) := by decide +kernel
theorem dX7_write_4 : decode cX7_write 4 = .ok (.invokevirtual 32, 3) := by decide +kernel
theorem dX7_write_7 : decode cX7_write 7 = .ok (.aload_n 0, 1) := by decide +kernel
theorem dX7_write_8 : decode cX7_write 8 = .ok (.iconst 0, 1) := by decide +kernel
theorem dX7_write_9 : decode cX7_write 9 = .ok (.putfield 28, 3) := by decide +kernel
theorem dX7_write_12 : decode cX7_write 12 = .ok (.iconst 0, 1) := by decide +kernel
theorem dX7_write_13 : decode cX7_write 13 = .ok (.istore_n 2, 1) := by decide +kernel
theorem dX7_write_14 : decode cX7_write 14 = .ok (.iload_n 2, 1) := by decide +kernel
theorem dX7_write_15 : decode cX7_write 15 = .ok (.aload_n 1, 1) := by decide +kernel
theorem dX7_write_16 : decode cX7_write 16 = .ok (.invokevirtual 35, 3) := by decide +kernel
theorem dX7_write_19 : decode cX7_write 19 = .ok (.if_icmp .ge 89, 3) := by decide +kernel
theorem dX7_write_22 : decode cX7_write 22 = .ok (.aload_n 1, 1) := by decide +kernel
theorem dX7_write_23 : decode cX7_write 23 = .ok (.iload_n 2, 1) := by decide +kernel
theorem dX7_write_24 : decode cX7_write 24 = .ok (.iconst 1, 1) := by decide +kernel
theorem dX7_write_25 : decode cX7_write 25 = .ok (.iadd, 1) := by decide +kernel
theorem dX7_write_26 : decode cX7_write 26 = .ok (.invokestatic 40, 3) := by decide +kernel
theorem dX7_write_29 : decode cX7_write 29 = .ok (.ifCond .ne 7, 3) := by decide +kernel
theorem dX7_write_32 : decode cX7_write 32 = .ok (.iconst 1, 1) := by decide +kernel
theorem dX7_write_33 : decode cX7_write 33 = .ok (.goto 4, 3) := by decide +kernel
theorem dX7_write_36 : decode cX7_write 36 = .ok (.iconst 0, 1) := by decide +kernel
theorem dX7_write_37 : decode cX7_write 37 = .ok (.istore_n 3, 1) := by decide +kernel
theorem dX7_write_38 : decode cX7_write 38 = .ok (.aload_n 1, 1) := by decide +kernel
theorem dX7_write_39 : decode cX7_write 39 = .ok (.iload_n 2, 1) := by decide +kernel
theorem dX7_write_40 : decode cX7_write 40 = .ok (.invokestatic 40, 3) := by decide +kernel
theorem dX7_write_43 : decode cX7_write 43 = .ok (.ifCond .ne 18, 3) := by decide +kernel
theorem dX7_write_46 : decode cX7_write 46 = .ok (.aload_n 0, 1) := by decide +kernel
theorem dX7_write_47 : decode cX7_write 47 = .ok (.aload_n 1, 1) := by decide +kernel
theorem dX7_write_48 : decode cX7_write 48 = .ok (.getfield 44, 3) := by decide +kernel
theorem dX7_write_51 : decode cX7_write 51 = .ok (.iload_n 2, 1) := by decide +kernel
theorem dX7_write_52 : decode cX7_write 52 = .ok (.invokevirtual 24, 3) := by decide +kernel
theorem dX7_write_55 : decode cX7_write 55 = .ok (.invokevirtual 47, 3) := by decide +kernel
theorem dX7_write_58 : decode cX7_write 58 = .ok (.goto 28, 3) := by decide +kernel
theorem dX7_write_61 : decode cX7_write 61 = .ok (.iload_n 3, 1) := by decide +kernel
theorem dX7_write_62 : decode cX7_write 62 = .ok (.ifCond .eq 24, 3) := by decide +kernel
theorem dX7_write_65 : decode cX7_write 65 = .ok (.aload_n 0, 1) := by decide +kernel
theorem dX7_write_66 : decode cX7_write 66 = .ok (.getfield 14, 3) := by decide +kernel
theorem dX7_write_69 : decode cX7_write 69 = .ok (.bipush 45, 2) := by decide +kernel
theorem dX7_write_71 : decode cX7_write 71 = .ok (.invokevirtual 50, 3) := by decide +kernel
theorem dX7_write_74 : decode cX7_write 74 = .ok (.aload_n 0, 1) := by decide +kernel
theorem dX7_write_75 : decode cX7_write 75 = .ok (.aload_n 1, 1) := by decide +kernel
theorem dX7_write_76 : decode cX7_write 76 = .ok (.getfield 44, 3) := by decide +kernel
theorem dX7_write_79 : decode cX7_write 79 = .ok (.iload_n 2, 1) := by decide +kernel
theorem dX7_write_80 : decode cX7_write 80 = .ok (.invokevirtual 24, 3) := by decide +kernel
theorem dX7_write_83 : decode cX7_write 83 = .ok (.invokevirtual 53, 3) := by decide +kernel
theorem dX7_write_86 : decode cX7_write 86 = .ok (.iload_n 3, 1) := by decide +kernel
theorem dX7_write_87 : decode cX7_write 87 = .ok (.ifCond .eq 15, 3) := by decide +kernel
theorem dX7_write_90 : decode cX7_write 90 = .ok (.aload_n 0, 1) := by decide +kernel
theorem dX7_write_91 : decode cX7_write 91 = .ok (.aload_n 1, 1) := by decide +kernel
theorem dX7_write_92 : decode cX7_write 92 = .ok (.getfield 56, 3) := by decide +kernel
theorem dX7_write_95 : decode cX7_write 95 = .ok (.iload_n 2, 1) := by decide +kernel
theorem dX7_write_96 : decode cX7_write 96 = .ok (.invokevirtual 24, 3) := by decide +kernel
theorem dX7_write_99 : decode cX7_write 99 = .ok (.invokevirtual 59, 3) := by decide +kernel
theorem dX7_write_102 : decode cX7_write 102 = .ok (.iinc 2 1, 3) := by decide +kernel
theorem dX7_write_105 : decode cX7_write 105 = .ok (.goto (-91), 3) := by decide +kernel
theorem dX7_write_108 : decode cX7_write 108 = .ok (.return_, 1) := by decide +kernel
theorem dX7_goesOn_0 : decode cX7_goesOn 0 = .ok (.iload_n 1, 1) := by decide +kernel
theorem dX7_goesOn_1 : decode cX7_goesOn 1 = .ok (.iconst 1, 1) := by decide +kernel
theorem dX7_goesOn_2 : decode cX7_goesOn 2 = .ok (.if_icmp .lt 11, 3) := by decide +kernel
theorem dX7_goesOn_5 : decode cX7_goesOn 5 = .ok (.iload_n 1, 1) := by decide +kernel
theorem dX7_goesOn_6 : decode cX7_goesOn 6 = .ok (.aload_n 0, 1) := by decide +kernel
theorem dX7_goesOn_7 : decode cX7_goesOn 7 = .ok (.invokevirtual 35, 3) := by decide +kernel
theorem dX7_goesOn_10 : decode cX7_goesOn 10 = .ok (.if_icmp .lt 5, 3) := by decide +kernel
theorem dX7_goesOn_13 : decode cX7_goesOn 13 = .ok (.iconst 0, 1) := by decide +kernel
theorem dX7_goesOn_14 : decode cX7_goesOn 14 = .ok (.ireturn, 1) := by decide +kernel
theorem dX7_goesOn_15 : decode cX7_goesOn 15 = .ok (.aload_n 0, 1) := by decide +kernel
theorem dX7_goesOn_16 : decode cX7_goesOn 16 = .ok (.getfield 44, 3) := by decide +kernel
theorem dX7_goesOn_19 : decode cX7_goesOn 19 = .ok (.iload_n 1, 1) := by decide +kernel
theorem dX7_goesOn_20 : decode cX7_goesOn 20 = .ok (.invokevirtual 24, 3) := by decide +kernel
theorem dX7_goesOn_23 : decode cX7_goesOn 23 = .ok (.istore_n 2, 1) := by decide +kernel
theorem dX7_goesOn_24 : decode cX7_goesOn 24 = .ok (.aload_n 0, 1) := by decide +kernel
theorem dX7_goesOn_25 : decode cX7_goesOn 25 = .ok (.getfield 44, 3) := by decide +kernel
theorem dX7_goesOn_28 : decode cX7_goesOn 28 = .ok (.iload_n 1, 1) := by decide +kernel
theorem dX7_goesOn_29 : decode cX7_goesOn 29 = .ok (.iconst 1, 1) := by decide +kernel
theorem dX7_goesOn_30 : decode cX7_goesOn 30 = .ok (.isub, 1) := by decide +kernel
theorem dX7_goesOn_31 : decode cX7_goesOn 31 = .ok (.invokevirtual 24, 3) := by decide +kernel
theorem dX7_goesOn_34 : decode cX7_goesOn 34 = .ok (.istore_n 3, 1) := by decide +kernel
theorem dX7_goesOn_35 : decode cX7_goesOn 35 = .ok (.iload_n 2, 1) := by decide +kernel
theorem dX7_goesOn_36 : decode cX7_goesOn 36 = .ok (.aload_n 0, 1) := by decide +kernel
theorem dX7_goesOn_37 : decode cX7_goesOn 37 = .ok (.getfield 62, 3) := by decide +kernel
theorem dX7_goesOn_40 : decode cX7_goesOn 40 = .ok (.iload_n 3, 1) := by decide +kernel
theorem dX7_goesOn_41 : decode cX7_goesOn 41 = .ok (.invokevirtual 66, 3) := by decide +kernel
theorem dX7_goesOn_44 : decode cX7_goesOn 44 = .ok (.if_icmp .ne 39, 3) := by decide +kernel
theorem dX7_goesOn_47 : decode cX7_goesOn 47 = .ok (.iload_n 2, 1) := by decide +kernel
theorem dX7_goesOn_48 : decode cX7_goesOn 48 = .ok (.invokestatic 71, 3) := by decide +kernel
theorem dX7_goesOn_51 : decode cX7_goesOn 51 = .ok (.iload_n 3, 1) := by decide +kernel
theorem dX7_goesOn_52 : decode cX7_goesOn 52 = .ok (.invokestatic 71, 3) := by decide +kernel
theorem dX7_goesOn_55 : decode cX7_goesOn 55 = .ok (.if_icmp .ne 28, 3) := by decide +kernel
theorem dX7_goesOn_58 : decode cX7_goesOn 58 = .ok (.aload_n 0, 1) := by decide +kernel
theorem dX7_goesOn_59 : decode cX7_goesOn 59 = .ok (.getfield 56, 3) := by decide +kernel
theorem dX7_goesOn_62 : decode cX7_goesOn 62 = .ok (.iload_n 1, 1) := by decide +kernel
theorem dX7_goesOn_63 : decode cX7_goesOn 63 = .ok (.invokevirtual 24, 3) := by decide +kernel
theorem dX7_goesOn_66 : decode cX7_goesOn 66 = .ok (.aload_n 0, 1) := by decide +kernel
theorem dX7_goesOn_67 : decode cX7_goesOn 67 = .ok (.getfield 56, 3) := by decide +kernel
theorem dX7_goesOn_70 : decode cX7_goesOn 70 = .ok (.iload_n 1, 1) := by decide +kernel
theorem dX7_goesOn_71 : decode cX7_goesOn 71 = .ok (.iconst 1, 1) := by decide +kernel
theorem dX7_goesOn_72 : decode cX7_goesOn 72 = .ok (.isub, 1) := by decide +kernel
theorem dX7_goesOn_73 : decode cX7_goesOn 73 = .ok (.invokevirtual 24, 3) := by decide +kernel
theorem dX7_goesOn_76 : decode cX7_goesOn 76 = .ok (.if_icmp .ne 7, 3) := by decide +kernel
theorem dX7_goesOn_79 : decode cX7_goesOn 79 = .ok (.iconst 1, 1) := by decide +kernel
theorem dX7_goesOn_80 : decode cX7_goesOn 80 = .ok (.goto 4, 3) := by decide +kernel
theorem dX7_goesOn_83 : decode cX7_goesOn 83 = .ok (.iconst 0, 1) := by decide +kernel
theorem dX7_goesOn_84 : decode cX7_goesOn 84 = .ok (.ireturn, 1) := by decide +kernel
theorem dX7_beginEntry_0 : decode cX7_beginEntry 0 = .ok (.aload_n 0, 1) := by decide +kernel
theorem dX7_beginEntry_1 : decode cX7_beginEntry 1 = .ok (.getfield 28, 3) := by decide +kernel
theorem dX7_beginEntry_4 : decode cX7_beginEntry 4 = .ok (.ifCond .le 12, 3) := by decide +kernel
theorem dX7_beginEntry_7 : decode cX7_beginEntry 7 = .ok (.aload_n 0, 1) := by decide +kernel
theorem dX7_beginEntry_8 : decode cX7_beginEntry 8 = .ok (.getfield 14, 3) := by decide +kernel
theorem dX7_beginEntry_11 : decode cX7_beginEntry 11 = .ok (.bipush 44, 2) := by decide +kernel
theorem dX7_beginEntry_13 : decode cX7_beginEntry 13 = .ok (.invokevirtual 50, 3) := by decide +kernel
theorem dX7_beginEntry_16 : decode cX7_beginEntry 16 = .ok (.aload_n 0, 1) := by decide +kernel
theorem dX7_beginEntry_17 : decode cX7_beginEntry 17 = .ok (.dup, 1) := by decide +kernel
theorem dX7_beginEntry_18 : decode cX7_beginEntry 18 = .ok (.getfield 28, 3) := by decide +kernel
theorem dX7_beginEntry_21 : decode cX7_beginEntry 21 = .ok (.iconst 1, 1) := by decide +kernel
theorem dX7_beginEntry_22 : decode cX7_beginEntry 22 = .ok (.iadd, 1) := by decide +kernel
theorem dX7_beginEntry_23 : decode cX7_beginEntry 23 = .ok (.putfield 28, 3) := by decide +kernel
theorem dX7_beginEntry_26 : decode cX7_beginEntry 26 = .ok (.aload_n 0, 1) := by decide +kernel
theorem dX7_beginEntry_27 : decode cX7_beginEntry 27 = .ok (.iload_n 1, 1) := by decide +kernel
theorem dX7_beginEntry_28 : decode cX7_beginEntry 28 = .ok (.invokevirtual 53, 3) := by decide +kernel
theorem dX7_beginEntry_31 : decode cX7_beginEntry 31 = .ok (.return_, 1) := by decide +kernel
theorem dX7_writeSign_0 : decode cX7_writeSign 0 = .ok (.iload_n 1, 1) := by decide +kernel
theorem dX7_writeSign_1 : decode cX7_writeSign 1 = .ok (.invokestatic 76, 3) := by decide +kernel
theorem dX7_writeSign_4 : decode cX7_writeSign 4 = .ok (.istore_n 2, 1) := by decide +kernel
theorem dX7_writeSign_5 : decode cX7_writeSign 5 = .ok (.aload_n 0, 1) := by decide +kernel
theorem dX7_writeSign_6 : decode cX7_writeSign 6 = .ok (.getfield 14, 3) := by decide +kernel
theorem dX7_writeSign_9 : decode cX7_writeSign 9 = .ok (.iload_n 2, 1) := by decide +kernel
theorem dX7_writeSign_10 : decode cX7_writeSign 10 = .ok (.ifCond .eq 8, 3) := by decide +kernel
theorem dX7_writeSign_13 : decode cX7_writeSign 13 = .ok (.bipush 42, 2) := by decide +kernel
theorem dX7_writeSign_15 : decode cX7_writeSign 15 = .ok (.goto 10, 3) := by decide +kernel
theorem dX7_writeSign_18 : decode cX7_writeSign 18 = .ok (.bipush 65, 2) := by decide +kernel
theorem dX7_writeSign_20 : decode cX7_writeSign 20 = .ok (.iload_n 1, 1) := by decide +kernel
theorem dX7_writeSign_21 : decode cX7_writeSign 21 = .ok (.invokestatic 80, 3) := by decide +kernel
theorem dX7_writeSign_24 : decode cX7_writeSign 24 = .ok (.iadd, 1) := by decide +kernel
theorem dX7_writeSign_25 : decode cX7_writeSign 25 = .ok (.invokevirtual 50, 3) := by decide +kernel
theorem dX7_writeSign_28 : decode cX7_writeSign 28 = .ok (.iconst 1, 1) := by decide +kernel
theorem dX7_writeSign_29 : decode cX7_writeSign 29 = .ok (.istore_n 3, 1) := by decide +kernel
theorem dX7_writeSign_30 : decode cX7_writeSign 30 = .ok (.iload_n 3, 1) := by decide +kernel
theorem dX7_writeSign_31 : decode cX7_writeSign 31 = .ok (.iload_n 1, 1) := by decide +kernel
theorem dX7_writeSign_32 : decode cX7_writeSign 32 = .ok (.invokestatic 71, 3) := by decide +kernel
theorem dX7_writeSign_35 : decode cX7_writeSign 35 = .ok (.if_icmp .ge 32, 3) := by decide +kernel
theorem dX7_writeSign_38 : decode cX7_writeSign 38 = .ok (.aload_n 0, 1) := by decide +kernel
theorem dX7_writeSign_39 : decode cX7_writeSign 39 = .ok (.getfield 14, 3) := by decide +kernel
theorem dX7_writeSign_42 : decode cX7_writeSign 42 = .ok (.iload_n 2, 1) := by decide +kernel
theorem dX7_writeSign_43 : decode cX7_writeSign 43 = .ok (.ifCond .eq 8, 3) := by decide +kernel
theorem dX7_writeSign_46 : decode cX7_writeSign 46 = .ok (.bipush 42, 2) := by decide +kernel
theorem dX7_writeSign_48 : decode cX7_writeSign 48 = .ok (.goto 10, 3) := by decide +kernel
theorem dX7_writeSign_51 : decode cX7_writeSign 51 = .ok (.bipush 97, 2) := by decide +kernel
theorem dX7_writeSign_53 : decode cX7_writeSign 53 = .ok (.iload_n 1, 1) := by decide +kernel
theorem dX7_writeSign_54 : decode cX7_writeSign 54 = .ok (.invokestatic 80, 3) := by decide +kernel
theorem dX7_writeSign_57 : decode cX7_writeSign 57 = .ok (.iadd, 1) := by decide +kernel
theorem dX7_writeSign_58 : decode cX7_writeSign 58 = .ok (.invokevirtual 50, 3) := by decide +kernel
theorem dX7_writeSign_61 : decode cX7_writeSign 61 = .ok (.iinc 3 1, 3) := by decide +kernel
theorem dX7_writeSign_64 : decode cX7_writeSign 64 = .ok (.goto (-34), 3) := by decide +kernel
theorem dX7_writeSign_67 : decode cX7_writeSign 67 = .ok (.return_, 1) := by decide +kernel
theorem dX7_writeNumber_0 : decode cX7_writeNumber 0 = .ok (.iload_n 1, 1) := by decide +kernel
theorem dX7_writeNumber_1 : decode cX7_writeNumber 1 = .ok (.bipush 10, 2) := by decide +kernel
theorem dX7_writeNumber_3 : decode cX7_writeNumber 3 = .ok (.if_icmp .lt 17, 3) := by decide +kernel
theorem dX7_writeNumber_6 : decode cX7_writeNumber 6 = .ok (.aload_n 0, 1) := by decide +kernel
theorem dX7_writeNumber_7 : decode cX7_writeNumber 7 = .ok (.getfield 14, 3) := by decide +kernel
theorem dX7_writeNumber_10 : decode cX7_writeNumber 10 = .ok (.bipush 48, 2) := by decide +kernel
theorem dX7_writeNumber_12 : decode cX7_writeNumber 12 = .ok (.iload_n 1, 1) := by decide +kernel
theorem dX7_writeNumber_13 : decode cX7_writeNumber 13 = .ok (.bipush 10, 2) := by decide +kernel
theorem dX7_writeNumber_15 : decode cX7_writeNumber 15 = .ok (.idiv, 1) := by decide +kernel
theorem dX7_writeNumber_16 : decode cX7_writeNumber 16 = .ok (.iadd, 1) := by decide +kernel
theorem dX7_writeNumber_17 : decode cX7_writeNumber 17 = .ok (.invokevirtual 50, 3) := by decide +kernel
theorem dX7_writeNumber_20 : decode cX7_writeNumber 20 = .ok (.aload_n 0, 1) := by decide +kernel
theorem dX7_writeNumber_21 : decode cX7_writeNumber 21 = .ok (.getfield 14, 3) := by decide +kernel
theorem dX7_writeNumber_24 : decode cX7_writeNumber 24 = .ok (.bipush 48, 2) := by decide +kernel
theorem dX7_writeNumber_26 : decode cX7_writeNumber 26 = .ok (.iload_n 1, 1) := by decide +kernel
theorem dX7_writeNumber_27 : decode cX7_writeNumber 27 = .ok (.bipush 10, 2) := by decide +kernel
theorem dX7_writeNumber_29 : decode cX7_writeNumber 29 = .ok (.irem, 1) := by decide +kernel
theorem dX7_writeNumber_30 : decode cX7_writeNumber 30 = .ok (.iadd, 1) := by decide +kernel
theorem dX7_writeNumber_31 : decode cX7_writeNumber 31 = .ok (.invokevirtual 50, 3) := by decide +kernel
theorem dX7_writeNumber_34 : decode cX7_writeNumber 34 = .ok (.return_, 1) := by decide +kernel
end
section
theorem dX8_init_0 : decode cX8_init 0 = .ok (.aload_n 0, 1) := by decide +kernel
theorem dX8_init_1 : decode cX8_init 1 = .ok (.invokespecial 3, 3) := by decide +kernel
theorem dX8_init_4 : decode cX8_init 4 = .ok (.aload_n 0, 1) := by decide +kernel
theorem dX8_init_5 : decode cX8_init 5 = .ok (.new 9, 3) := by decide +kernel
theorem dX8_init_8 : decode cX8_init 8 = .ok (.dup, 1) := by decide +kernel
theorem dX8_init_9 : decode cX8_init 9 = .ok (.invokespecial 11, 3) := by decide +kernel
theorem dX8_init_12 : decode cX8_init 12 = .ok (.putfield 12, 3) := by decide +kernel
theorem dX8_init_15 : decode cX8_init 15 = .ok (.aload_n 0, 1) := by decide +kernel
theorem dX8_init_16 : decode cX8_init 16 = .ok (.new 9, 3) := by decide +kernel
theorem dX8_init_19 : decode cX8_init 19 = .ok (.dup, 1) := by decide +kernel
theorem dX8_init_20 : decode cX8_init 20 = .ok (.invokespecial 11, 3) := by decide +kernel
theorem dX8_init_23 : decode cX8_init 23 = .ok (.putfield 16, 3) := by decide +kernel
theorem dX8_init_26 : decode cX8_init 26 = .ok (.aload_n 0, 1) := by decide +kernel
theorem dX8_init_27 : decode cX8_init 27 = .ok (.new 19, 3) := by decide +kernel
theorem dX8_init_30 : decode cX8_init 30 = .ok (.dup, 1) := by decide +kernel
theorem dX8_init_31 : decode cX8_init 31 = .ok (.invokespecial 21, 3) := by decide +kernel
theorem dX8_init_34 : decode cX8_init 34 = .ok (.putfield 22, 3) := by decide +kernel
theorem dX8_init_37 : decode cX8_init 37 = .ok (.aload_n 0, 1) := by decide +kernel
theorem dX8_init_38 : decode cX8_init 38 = .ok (.new 26, 3) := by decide +kernel
theorem dX8_init_41 : decode cX8_init 41 = .ok (.dup, 1) := by decide +kernel
theorem dX8_init_42 : decode cX8_init 42 = .ok (.invokespecial 28, 3) := by decide +kernel
theorem dX8_init_45 : decode cX8_init 45 = .ok (.putfield 29, 3) := by decide +kernel
theorem dX8_init_48 : decode cX8_init 48 = .ok (.aload_n 0, 1) := by decide +kernel
theorem dX8_init_49 : decode cX8_init 49 = .ok (.new 33, 3) := by decide +kernel
theorem dX8_init_52 : decode cX8_init 52 = .ok (.dup, 1) := by decide +kernel
theorem dX8_init_53 : decode cX8_init 53 = .ok (.invokespecial 35, 3) := by decide +kernel
theorem dX8_init_56 : decode cX8_init 56 = .ok (.putfield 36, 3) := by decide +kernel
theorem dX8_init_59 : decode cX8_init 59 = .ok (.aload_n 0, 1) := by decide +kernel
theorem dX8_init_60 : decode cX8_init 60 = .ok (.new 40, 3) := by decide +kernel
theorem dX8_init_63 : decode cX8_init 63 = .ok (.dup, 1) := by decide +kernel
theorem dX8_init_64 : decode cX8_init 64 = .ok (.bipush 20, 2) := by decide +kernel
theorem dX8_init_66 : decode cX8_init 66 = .ok (.invokespecial 42, 3) := by decide +kernel
theorem dX8_init_69 : decode cX8_init 69 = .ok (.putfield 45, 3) := by decide +kernel
theorem dX8_init_72 : decode cX8_init 72 = .ok (.return_, 1) := by decide +kernel
theorem dX8_leaveOut_0 : decode cX8_leaveOut 0 = .ok (.iload_n 1, 1) := by decide +kernel
theorem dX8_leaveOut_1 : decode cX8_leaveOut 1 = .ok (.bipush 65, 2) := by decide +kernel
theorem dX8_leaveOut_3 : decode cX8_leaveOut 3 = .ok (.isub, 1) := by decide +kernel
theorem dX8_leaveOut_4 : decode cX8_leaveOut 4 = .ok (.istore_n 3, 1) := by decide +kernel
theorem dX8_leaveOut_5 : decode cX8_leaveOut 5 = .ok (.iload_n 3, 1) := by decide +kernel
theorem dX8_leaveOut_6 : decode cX8_leaveOut 6 = .ok (.ifCond .lt 9, 3) := by decide +kernel
theorem dX8_leaveOut_9 : decode cX8_leaveOut 9 = .ok (.iload_n 3, 1) := by decide +kernel
theorem dX8_leaveOut_10 : decode cX8_leaveOut 10 = .ok (.bipush 26, 2) := by decide +kernel
theorem dX8_leaveOut_12 : decode cX8_leaveOut 12 = .ok (.if_icmp .lt 5, 3) := by decide +kernel
theorem dX8_leaveOut_15 : decode cX8_leaveOut 15 = .ok (.iconst (-1), 1) := by decide +kernel
theorem dX8_leaveOut_16 : decode cX8_leaveOut 16 = .ok (.ireturn, 1) := by decide +kernel
theorem dX8_leaveOut_17 : decode cX8_leaveOut 17 = .ok (.aload_n 0, 1) := by decide +kernel
theorem dX8_leaveOut_18 : decode cX8_leaveOut 18 = .ok (.getfield 12, 3) := by decide +kernel
theorem dX8_leaveOut_21 : decode cX8_leaveOut 21 = .ok (.getfield 51, 3) := by decide +kernel
theorem dX8_leaveOut_24 : decode cX8_leaveOut 24 = .ok (.iload_n 3, 1) := by decide +kernel
theorem dX8_leaveOut_25 : decode cX8_leaveOut 25 = .ok (.invokevirtual 55, 3) := by decide +kernel
theorem dX8_leaveOut_28 : decode cX8_leaveOut 28 = .ok (.ifCond .ne 7, 3) := by decide +kernel
theorem dX8_leaveOut_31 : decode cX8_leaveOut 31 = .ok (.iconst 1, 1) := by decide +kernel
theorem dX8_leaveOut_32 : decode cX8_leaveOut 32 = .ok (.goto 4, 3) := by decide +kernel
theorem dX8_leaveOut_35 : decode cX8_leaveOut 35 = .ok (.iconst 0, 1) := by decide +kernel
theorem dX8_leaveOut_36 : decode cX8_leaveOut 36 = .ok (.istore 4, 2) := by decide +kernel
theorem dX8_leaveOut_38 : decode cX8_leaveOut 38 = .ok (.iload_n 2, 1) := by decide +kernel
theorem dX8_leaveOut_39 : decode cX8_leaveOut 39 = .ok (.ifCond .eq 25, 3) := by decide +kernel
theorem dX8_leaveOut_42 : decode cX8_leaveOut 42 = .ok (.iload 4, 2) := by decide +kernel
theorem dX8_leaveOut_44 : decode cX8_leaveOut 44 = .ok (.ifCond .ne 20, 3) := by decide +kernel
theorem dX8_leaveOut_47 : decode cX8_leaveOut 47 = .ok (.aload_n 0, 1) := by decide +kernel
theorem dX8_leaveOut_48 : decode cX8_leaveOut 48 = .ok (.getfield 12, 3) := by decide +kernel
theorem dX8_leaveOut_51 : decode cX8_leaveOut 51 = .ok (.getfield 51, 3) := by decide +kernel
theorem dX8_leaveOut_54 : decode cX8_leaveOut 54 = .ok (.invokevirtual 61, 3) := by decide +kernel
theorem dX8_leaveOut_57 : decode cX8_leaveOut 57 = .ok (.iconst 1, 1) := by decide +kernel
theorem dX8_leaveOut_58 : decode cX8_leaveOut 58 = .ok (.if_icmp .ne 6, 3) := by decide +kernel
theorem dX8_leaveOut_61 : decode cX8_leaveOut 61 = .ok (.bipush (-4), 2) := by decide +kernel
theorem dX8_leaveOut_63 : decode cX8_leaveOut 63 = .ok (.ireturn, 1) := by decide +kernel
theorem dX8_leaveOut_64 : decode cX8_leaveOut 64 = .ok (.iload_n 2, 1) := by decide +kernel
theorem dX8_leaveOut_65 : decode cX8_leaveOut 65 = .ok (.iload 4, 2) := by decide +kernel
theorem dX8_leaveOut_67 : decode cX8_leaveOut 67 = .ok (.if_icmp .ne 6, 3) := by decide +kernel
theorem dX8_leaveOut_70 : decode cX8_leaveOut 70 = .ok (.bipush (-5), 2) := by decide +kernel
theorem dX8_leaveOut_72 : decode cX8_leaveOut 72 = .ok (.ireturn, 1) := by decide +kernel
theorem dX8_leaveOut_73 : decode cX8_leaveOut 73 = .ok (.aload_n 0, 1) := by decide +kernel
theorem dX8_leaveOut_74 : decode cX8_leaveOut 74 = .ok (.getfield 22, 3) := by decide +kernel
theorem dX8_leaveOut_77 : decode cX8_leaveOut 77 = .ok (.aload_n 0, 1) := by decide +kernel
theorem dX8_leaveOut_78 : decode cX8_leaveOut 78 = .ok (.getfield 12, 3) := by decide +kernel
theorem dX8_leaveOut_81 : decode cX8_leaveOut 81 = .ok (.invokevirtual 65, 3) := by decide +kernel
theorem dX8_leaveOut_84 : decode cX8_leaveOut 84 = .ok (.aload_n 0, 1) := by decide +kernel
theorem dX8_leaveOut_85 : decode cX8_leaveOut 85 = .ok (.getfield 12, 3) := by decide +kernel
theorem dX8_leaveOut_88 : decode cX8_leaveOut 88 = .ok (.getfield 51, 3) := by decide +kernel
theorem dX8_leaveOut_91 : decode cX8_leaveOut 91 = .ok (.iload_n 3, 1) := by decide +kernel
theorem dX8_leaveOut_92 : decode cX8_leaveOut 92 = .ok (.invokevirtual 69, 3) := by decide +kernel
theorem dX8_leaveOut_95 : decode cX8_leaveOut 95 = .ok (.aload_n 0, 1) := by decide +kernel
theorem dX8_leaveOut_96 : decode cX8_leaveOut 96 = .ok (.getfield 12, 3) := by decide +kernel
theorem dX8_leaveOut_99 : decode cX8_leaveOut 99 = .ok (.getfield 51, 3) := by decide +kernel
theorem dX8_leaveOut_102 : decode cX8_leaveOut 102 = .ok (.invokevirtual 61, 3) := by decide +kernel
theorem dX8_leaveOut_105 : decode cX8_leaveOut 105 = .ok (.ireturn, 1) := by decide +kernel
theorem dX8_setSigning_0 : decode cX8_setSigning 0 = .ok (.iload_n 1, 1) := by decide +kernel
theorem dX8_setSigning_1 : decode cX8_setSigning 1 = .ok (.ifCond .lt 8, 3) := by decide +kernel
theorem dX8_setSigning_4 : decode cX8_setSigning 4 = .ok (.iload_n 1, 1) := by decide +kernel
theorem dX8_setSigning_5 : decode cX8_setSigning 5 = .ok (.iconst 2, 1) := by decide +kernel
theorem dX8_setSigning_6 : decode cX8_setSigning 6 = .ok (.if_icmp .le 6, 3) := by decide +kernel
theorem dX8_setSigning_9 : decode cX8_setSigning 9 = .ok (.bipush (-2), 2) := by decide +kernel
theorem dX8_setSigning_11 : decode cX8_setSigning 11 = .ok (.ireturn, 1) := by decide +kernel
theorem dX8_setSigning_12 : decode cX8_setSigning 12 = .ok (.iload_n 1, 1) := by decide +kernel
theorem dX8_setSigning_13 : decode cX8_setSigning 13 = .ok (.aload_n 0, 1) := by decide +kernel
theorem dX8_setSigning_14 : decode cX8_setSigning 14 = .ok (.getfield 12, 3) := by decide +kernel
theorem dX8_setSigning_17 : decode cX8_setSigning 17 = .ok (.getfield 72, 3) := by decide +kernel
theorem dX8_setSigning_20 : decode cX8_setSigning 20 = .ok (.if_icmp .ne 6, 3) := by decide +kernel
theorem dX8_setSigning_23 : decode cX8_setSigning 23 = .ok (.bipush (-5), 2) := by decide +kernel
theorem dX8_setSigning_25 : decode cX8_setSigning 25 = .ok (.ireturn, 1) := by decide +kernel
theorem dX8_setSigning_26 : decode cX8_setSigning 26 = .ok (.aload_n 0, 1) := by decide +kernel
theorem dX8_setSigning_27 : decode cX8_setSigning 27 = .ok (.getfield 22, 3) := by decide +kernel
theorem dX8_setSigning_30 : decode cX8_setSigning 30 = .ok (.aload_n 0, 1) := by decide +kernel
theorem dX8_setSigning_31 : decode cX8_setSigning 31 = .ok (.getfield 12, 3) := by decide +kernel
theorem dX8_setSigning_34 : decode cX8_setSigning 34 = .ok (.invokevirtual 65, 3) := by decide +kernel
theorem dX8_setSigning_37 : decode cX8_setSigning 37 = .ok (.aload_n 0, 1) := by decide +kernel
theorem dX8_setSigning_38 : decode cX8_setSigning 38 = .ok (.getfield 12, 3) := by decide +kernel
theorem dX8_setSigning_41 : decode cX8_setSigning 41 = .ok (.iload_n 1, 1) := by decide +kernel
theorem dX8_setSigning_42 : decode cX8_setSigning 42 = .ok (.putfield 72, 3) := by decide +kernel
theorem dX8_setSigning_45 : decode cX8_setSigning 45 = .ok (.aload_n 0, 1) := by decide +kernel
theorem dX8_setSigning_46 : decode cX8_setSigning 46 = .ok (.getfield 12, 3) := by decide +kernel
theorem dX8_setSigning_49 : decode cX8_setSigning 49 = .ok (.invokevirtual 76, 3) := by decide +kernel
theorem dX8_setSigning_52 : decode cX8_setSigning 52 = .ok (.ireturn, 1) := by decide +kernel
theorem dX8_readFormula_0 : decode cX8_readFormula 0 = .ok (.aload_n 0, 1) := by decide +kernel
theorem dX8_readFormula_1 : decode cX8_readFormula 1 = .ok (.getfield 29, 3) := by decide +kernel
theorem dX8_readFormula_4 : decode cX8_readFormula 4 = .ok (.aload_n 0, 1) := by decide +kernel
theorem dX8_readFormula_5 : decode cX8_readFormula 5 = .ok (.getfield 12, 3) := by decide +kernel
theorem dX8_readFormula_8 : decode cX8_readFormula 8 = .ok (.getfield 51, 3) := by decide +kernel
theorem dX8_readFormula_11 : decode cX8_readFormula 11 = .ok (.invokevirtual 79, 3) := by decide +kernel
theorem dX8_readFormula_14 : decode cX8_readFormula 14 = .ok (.istore_n 1, 1) := by decide +kernel
theorem dX8_readFormula_15 : decode cX8_readFormula 15 = .ok (.iload_n 1, 1) := by decide +kernel
theorem dX8_readFormula_16 : decode cX8_readFormula 16 = .ok (.iconst (-1), 1) := by decide +kernel
theorem dX8_readFormula_17 : decode cX8_readFormula 17 = .ok (.if_icmp .eq 8, 3) := by decide +kernel
theorem dX8_readFormula_20 : decode cX8_readFormula 20 = .ok (.bipush (-100), 2) := by decide +kernel
theorem dX8_readFormula_22 : decode cX8_readFormula 22 = .ok (.iload_n 1, 1) := by decide +kernel
theorem dX8_readFormula_23 : decode cX8_readFormula 23 = .ok (.isub, 1) := by decide +kernel
theorem dX8_readFormula_24 : decode cX8_readFormula 24 = .ok (.ireturn, 1) := by decide +kernel
theorem dX8_readFormula_25 : decode cX8_readFormula 25 = .ok (.aload_n 0, 1) := by decide +kernel
theorem dX8_readFormula_26 : decode cX8_readFormula 26 = .ok (.getfield 12, 3) := by decide +kernel
theorem dX8_readFormula_29 : decode cX8_readFormula 29 = .ok (.invokevirtual 83, 3) := by decide +kernel
theorem dX8_readFormula_32 : decode cX8_readFormula 32 = .ok (.aload_n 0, 1) := by decide +kernel
theorem dX8_readFormula_33 : decode cX8_readFormula 33 = .ok (.invokevirtual 86, 3) := by decide +kernel
theorem dX8_readFormula_36 : decode cX8_readFormula 36 = .ok (.iadd, 1) := by decide +kernel
theorem dX8_readFormula_37 : decode cX8_readFormula 37 = .ok (.bipush 40, 2) := by decide +kernel
theorem dX8_readFormula_39 : decode cX8_readFormula 39 = .ok (.if_icmp .le 6, 3) := by decide +kernel
theorem dX8_readFormula_42 : decode cX8_readFormula 42 = .ok (.bipush (-3), 2) := by decide +kernel
theorem dX8_readFormula_44 : decode cX8_readFormula 44 = .ok (.ireturn, 1) := by decide +kernel
theorem dX8_readFormula_45 : decode cX8_readFormula 45 = .ok (.aload_n 0, 1) := by decide +kernel
theorem dX8_readFormula_46 : decode cX8_readFormula 46 = .ok (.getfield 22, 3) := by decide +kernel
theorem dX8_readFormula_49 : decode cX8_readFormula 49 = .ok (.aload_n 0, 1) := by decide +kernel
theorem dX8_readFormula_50 : decode cX8_readFormula 50 = .ok (.getfield 12, 3) := by decide +kernel
theorem dX8_readFormula_53 : decode cX8_readFormula 53 = .ok (.invokevirtual 65, 3) := by decide +kernel
theorem dX8_readFormula_56 : decode cX8_readFormula 56 = .ok (.iconst 0, 1) := by decide +kernel
theorem dX8_readFormula_57 : decode cX8_readFormula 57 = .ok (.istore_n 2, 1) := by decide +kernel
theorem dX8_readFormula_58 : decode cX8_readFormula 58 = .ok (.iload_n 2, 1) := by decide +kernel
theorem dX8_readFormula_59 : decode cX8_readFormula 59 = .ok (.aload_n 0, 1) := by decide +kernel
theorem dX8_readFormula_60 : decode cX8_readFormula 60 = .ok (.getfield 29, 3) := by decide +kernel
theorem dX8_readFormula_63 : decode cX8_readFormula 63 = .ok (.invokevirtual 89, 3) := by decide +kernel
theorem dX8_readFormula_66 : decode cX8_readFormula 66 = .ok (.if_icmp .ge 14, 3) := by decide +kernel
theorem dX8_readFormula_69 : decode cX8_readFormula 69 = .ok (.aload_n 0, 1) := by decide +kernel
theorem dX8_readFormula_70 : decode cX8_readFormula 70 = .ok (.iload_n 2, 1) := by decide +kernel
theorem dX8_readFormula_71 : decode cX8_readFormula 71 = .ok (.invokevirtual 92, 3) := by decide +kernel
theorem dX8_readFormula_74 : decode cX8_readFormula 74 = .ok (.iinc 2 1, 3) := by decide +kernel
theorem dX8_readFormula_77 : decode cX8_readFormula 77 = .ok (.goto (-19), 3) := by decide +kernel
theorem dX8_readFormula_80 : decode cX8_readFormula 80 = .ok (.aload_n 0, 1) := by decide +kernel
theorem dX8_readFormula_81 : decode cX8_readFormula 81 = .ok (.getfield 12, 3) := by decide +kernel
theorem dX8_readFormula_84 : decode cX8_readFormula 84 = .ok (.invokevirtual 83, 3) := by decide +kernel
theorem dX8_readFormula_87 : decode cX8_readFormula 87 = .ok (.ireturn, 1) := by decide +kernel
theorem dX8_signNext_0 : decode cX8_signNext 0 = .ok (.iload_n 1, 1) := by decide +kernel
theorem dX8_signNext_1 : decode cX8_signNext 1 = .ok (.invokestatic 95, 3) := by decide +kernel
theorem dX8_signNext_4 : decode cX8_signNext 4 = .ok (.ifCond .ne 6, 3) := by decide +kernel
theorem dX8_signNext_7 : decode cX8_signNext 7 = .ok (.bipush (-2), 2) := by decide +kernel
theorem dX8_signNext_9 : decode cX8_signNext 9 = .ok (.ireturn, 1) := by decide +kernel
theorem dX8_signNext_10 : decode cX8_signNext 10 = .ok (.aload_n 0, 1) := by decide +kernel
theorem dX8_signNext_11 : decode cX8_signNext 11 = .ok (.getfield 12, 3) := by decide +kernel
theorem dX8_signNext_14 : decode cX8_signNext 14 = .ok (.invokevirtual 83, 3) := by decide +kernel
theorem dX8_signNext_17 : decode cX8_signNext 17 = .ok (.bipush 40, 2) := by decide +kernel
theorem dX8_signNext_19 : decode cX8_signNext 19 = .ok (.if_icmp .lt 6, 3) := by decide +kernel
theorem dX8_signNext_22 : decode cX8_signNext 22 = .ok (.bipush (-3), 2) := by decide +kernel
theorem dX8_signNext_24 : decode cX8_signNext 24 = .ok (.ireturn, 1) := by decide +kernel
theorem dX8_signNext_25 : decode cX8_signNext 25 = .ok (.aload_n 0, 1) := by decide +kernel
theorem dX8_signNext_26 : decode cX8_signNext 26 = .ok (.getfield 12, 3) := by decide +kernel
theorem dX8_signNext_29 : decode cX8_signNext 29 = .ok (.getfield 51, 3) := by decide +kernel
theorem dX8_signNext_32 : decode cX8_signNext 32 = .ok (.aload_n 0, 1) := by decide +kernel
theorem dX8_signNext_33 : decode cX8_signNext 33 = .ok (.getfield 12, 3) := by decide +kernel
theorem dX8_signNext_36 : decode cX8_signNext 36 = .ok (.aload_n 0, 1) := by decide +kernel
theorem dX8_signNext_37 : decode cX8_signNext 37 = .ok (.getfield 12, 3) := by decide +kernel
theorem dX8_signNext_40 : decode cX8_signNext 40 = .ok (.invokevirtual 83, 3) := by decide +kernel
theorem dX8_signNext_43 : decode cX8_signNext 43 = .ok (.invokevirtual 98, 3) := by decide +kernel
theorem dX8_signNext_46 : decode cX8_signNext 46 = .ok (.invokevirtual 102, 3) := by decide +kernel
theorem dX8_signNext_49 : decode cX8_signNext 49 = .ok (.istore_n 2, 1) := by decide +kernel
theorem dX8_signNext_50 : decode cX8_signNext 50 = .ok (.iload_n 2, 1) := by decide +kernel
theorem dX8_signNext_51 : decode cX8_signNext 51 = .ok (.iconst (-1), 1) := by decide +kernel
theorem dX8_signNext_52 : decode cX8_signNext 52 = .ok (.if_icmp .ne 6, 3) := by decide +kernel
theorem dX8_signNext_55 : decode cX8_signNext 55 = .ok (.bipush (-4), 2) := by decide +kernel
theorem dX8_signNext_57 : decode cX8_signNext 57 = .ok (.ireturn, 1) := by decide +kernel
theorem dX8_signNext_58 : decode cX8_signNext 58 = .ok (.aload_n 0, 1) := by decide +kernel
theorem dX8_signNext_59 : decode cX8_signNext 59 = .ok (.getfield 22, 3) := by decide +kernel
theorem dX8_signNext_62 : decode cX8_signNext 62 = .ok (.aload_n 0, 1) := by decide +kernel
theorem dX8_signNext_63 : decode cX8_signNext 63 = .ok (.getfield 12, 3) := by decide +kernel
theorem dX8_signNext_66 : decode cX8_signNext 66 = .ok (.invokevirtual 65, 3) := by decide +kernel
theorem dX8_signNext_69 : decode cX8_signNext 69 = .ok (.aload_n 0, 1) := by decide +kernel
theorem dX8_signNext_70 : decode cX8_signNext 70 = .ok (.getfield 12, 3) := by decide +kernel
theorem dX8_signNext_73 : decode cX8_signNext 73 = .ok (.aload_n 0, 1) := by decide +kernel
theorem dX8_signNext_74 : decode cX8_signNext 74 = .ok (.getfield 12, 3) := by decide +kernel
theorem dX8_signNext_77 : decode cX8_signNext 77 = .ok (.invokevirtual 83, 3) := by decide +kernel
theorem dX8_signNext_80 : decode cX8_signNext 80 = .ok (.iload_n 2, 1) := by decide +kernel
theorem dX8_signNext_81 : decode cX8_signNext 81 = .ok (.iload_n 1, 1) := by decide +kernel
theorem dX8_signNext_82 : decode cX8_signNext 82 = .ok (.invokevirtual 105, 3) := by decide +kernel
theorem dX8_signNext_85 : decode cX8_signNext 85 = .ok (.aload_n 0, 1) := by decide +kernel
theorem dX8_signNext_86 : decode cX8_signNext 86 = .ok (.getfield 12, 3) := by decide +kernel
theorem dX8_signNext_89 : decode cX8_signNext 89 = .ok (.invokevirtual 83, 3) := by decide +kernel
theorem dX8_signNext_92 : decode cX8_signNext 92 = .ok (.iconst 1, 1) := by decide +kernel
theorem dX8_signNext_93 : decode cX8_signNext 93 = .ok (.isub, 1) := by decide +kernel
theorem dX8_signNext_94 : decode cX8_signNext 94 = .ok (.ireturn, 1) := by decide +kernel
theorem dX8_insert_0 : decode cX8_insert 0 = .ok (.iload_n 1, 1) := by decide +kernel
theorem dX8_insert_1 : decode cX8_insert 1 = .ok (.ifCond .lt 14, 3) := by decide +kernel
theorem dX8_insert_4 : decode cX8_insert 4 = .ok (.iload_n 1, 1) := by decide +kernel
theorem dX8_insert_5 : decode cX8_insert 5 = .ok (.aload_n 0, 1) := by decide +kernel
theorem dX8_insert_6 : decode cX8_insert 6 = .ok (.getfield 12, 3) := by decide +kernel
theorem dX8_insert_9 : decode cX8_insert 9 = .ok (.invokevirtual 83, 3) := by decide +kernel
theorem dX8_insert_12 : decode cX8_insert 12 = .ok (.if_icmp .le 5, 3) := by decide +kernel
theorem dX8_insert_15 : decode cX8_insert 15 = .ok (.iconst (-1), 1) := by decide +kernel
theorem dX8_insert_16 : decode cX8_insert 16 = .ok (.ireturn, 1) := by decide +kernel
theorem dX8_insert_17 : decode cX8_insert 17 = .ok (.iload_n 2, 1) := by decide +kernel
theorem dX8_insert_18 : decode cX8_insert 18 = .ok (.iconst 1, 1) := by decide +kernel
theorem dX8_insert_19 : decode cX8_insert 19 = .ok (.if_icmp .lt 15, 3) := by decide +kernel
theorem dX8_insert_22 : decode cX8_insert 22 = .ok (.iload_n 2, 1) := by decide +kernel
theorem dX8_insert_23 : decode cX8_insert 23 = .ok (.iconst 5, 1) := by decide +kernel
theorem dX8_insert_24 : decode cX8_insert 24 = .ok (.if_icmp .gt 10, 3) := by decide +kernel
theorem dX8_insert_27 : decode cX8_insert 27 = .ok (.iload_n 3, 1) := by decide +kernel
theorem dX8_insert_28 : decode cX8_insert 28 = .ok (.invokestatic 95, 3) := by decide +kernel
theorem dX8_insert_31 : decode cX8_insert 31 = .ok (.ifCond .ne 6, 3) := by decide +kernel
theorem dX8_insert_34 : decode cX8_insert 34 = .ok (.bipush (-2), 2) := by decide +kernel
theorem dX8_insert_36 : decode cX8_insert 36 = .ok (.ireturn, 1) := by decide +kernel
theorem dX8_insert_37 : decode cX8_insert 37 = .ok (.aload_n 0, 1) := by decide +kernel
theorem dX8_insert_38 : decode cX8_insert 38 = .ok (.getfield 12, 3) := by decide +kernel
theorem dX8_insert_41 : decode cX8_insert 41 = .ok (.invokevirtual 83, 3) := by decide +kernel
theorem dX8_insert_44 : decode cX8_insert 44 = .ok (.bipush 40, 2) := by decide +kernel
theorem dX8_insert_46 : decode cX8_insert 46 = .ok (.if_icmp .lt 6, 3) := by decide +kernel
theorem dX8_insert_49 : decode cX8_insert 49 = .ok (.bipush (-3), 2) := by decide +kernel
theorem dX8_insert_51 : decode cX8_insert 51 = .ok (.ireturn, 1) := by decide +kernel
theorem dX8_insert_52 : decode cX8_insert 52 = .ok (.aload_n 0, 1) := by decide +kernel
theorem dX8_insert_53 : decode cX8_insert 53 = .ok (.getfield 22, 3) := by decide +kernel
theorem dX8_insert_56 : decode cX8_insert 56 = .ok (.aload_n 0, 1) := by decide +kernel
theorem dX8_insert_57 : decode cX8_insert 57 = .ok (.getfield 12, 3) := by decide +kernel
theorem dX8_insert_60 : decode cX8_insert 60 = .ok (.invokevirtual 65, 3) := by decide +kernel
theorem dX8_insert_63 : decode cX8_insert 63 = .ok (.aload_n 0, 1) := by decide +kernel
theorem dX8_insert_64 : decode cX8_insert 64 = .ok (.getfield 12, 3) := by decide +kernel
theorem dX8_insert_67 : decode cX8_insert 67 = .ok (.iload_n 1, 1) := by decide +kernel
theorem dX8_insert_68 : decode cX8_insert 68 = .ok (.iload_n 2, 1) := by decide +kernel
theorem dX8_insert_69 : decode cX8_insert 69 = .ok (.invokestatic 109, 3) := by decide +kernel
theorem dX8_insert_72 : decode cX8_insert 72 = .ok (.iload_n 3, 1) := by decide +kernel
theorem dX8_insert_73 : decode cX8_insert 73 = .ok (.invokevirtual 105, 3) := by decide +kernel
theorem dX8_insert_76 : decode cX8_insert 76 = .ok (.aload_n 0, 1) := by decide +kernel
theorem dX8_insert_77 : decode cX8_insert 77 = .ok (.getfield 12, 3) := by decide +kernel
theorem dX8_insert_80 : decode cX8_insert 80 = .ok (.invokevirtual 112, 3) := by decide +kernel
theorem dX8_insert_83 : decode cX8_insert 83 = .ok (.ireturn, 1) := by decide +kernel
theorem dX8_remove_0 : decode cX8_remove 0 = .ok (.aload_n 0, 1) := by decide +kernel
theorem dX8_remove_1 : decode cX8_remove 1 = .ok (.getfield 12, 3) := by decide +kernel
theorem dX8_remove_4 : decode cX8_remove 4 = .ok (.iload_n 1, 1) := by decide +kernel
theorem dX8_remove_5 : decode cX8_remove 5 = .ok (.invokevirtual 115, 3) := by decide +kernel
theorem dX8_remove_8 : decode cX8_remove 8 = .ok (.ifCond .ne 5, 3) := by decide +kernel
theorem dX8_remove_11 : decode cX8_remove 11 = .ok (.iconst (-1), 1) := by decide +kernel
theorem dX8_remove_12 : decode cX8_remove 12 = .ok (.ireturn, 1) := by decide +kernel
theorem dX8_remove_13 : decode cX8_remove 13 = .ok (.aload_n 0, 1) := by decide +kernel
theorem dX8_remove_14 : decode cX8_remove 14 = .ok (.getfield 22, 3) := by decide +kernel
theorem dX8_remove_17 : decode cX8_remove 17 = .ok (.aload_n 0, 1) := by decide +kernel
theorem dX8_remove_18 : decode cX8_remove 18 = .ok (.getfield 12, 3) := by decide +kernel
theorem dX8_remove_21 : decode cX8_remove 21 = .ok (.invokevirtual 65, 3) := by decide +kernel
theorem dX8_remove_24 : decode cX8_remove 24 = .ok (.aload_n 0, 1) := by decide +kernel
theorem dX8_remove_25 : decode cX8_remove 25 = .ok (.getfield 12, 3) := by decide +kernel
theorem dX8_remove_28 : decode cX8_remove 28 = .ok (.iload_n 1, 1) := by decide +kernel
theorem dX8_remove_29 : decode cX8_remove 29 = .ok (.invokevirtual 118, 3) := by decide +kernel
theorem dX8_remove_32 : decode cX8_remove 32 = .ok (.aload_n 0, 1) := by decide +kernel
theorem dX8_remove_33 : decode cX8_remove 33 = .ok (.getfield 12, 3) := by decide +kernel
theorem dX8_remove_36 : decode cX8_remove 36 = .ok (.invokevirtual 112, 3) := by decide +kernel
theorem dX8_remove_39 : decode cX8_remove 39 = .ok (.ireturn, 1) := by decide +kernel
theorem dX8_lose_0 : decode cX8_lose 0 = .ok (.aload_n 0, 1) := by decide +kernel
theorem dX8_lose_1 : decode cX8_lose 1 = .ok (.getfield 12, 3) := by decide +kernel
theorem dX8_lose_4 : decode cX8_lose 4 = .ok (.iload_n 1, 1) := by decide +kernel
theorem dX8_lose_5 : decode cX8_lose 5 = .ok (.invokevirtual 121, 3) := by decide +kernel
theorem dX8_lose_8 : decode cX8_lose 8 = .ok (.ifCond .ne 5, 3) := by decide +kernel
theorem dX8_lose_11 : decode cX8_lose 11 = .ok (.iconst (-1), 1) := by decide +kernel
theorem dX8_lose_12 : decode cX8_lose 12 = .ok (.ireturn, 1) := by decide +kernel
theorem dX8_lose_13 : decode cX8_lose 13 = .ok (.aload_n 0, 1) := by decide +kernel
theorem dX8_lose_14 : decode cX8_lose 14 = .ok (.getfield 12, 3) := by decide +kernel
theorem dX8_lose_17 : decode cX8_lose 17 = .ok (.iload_n 1, 1) := by decide +kernel
theorem dX8_lose_18 : decode cX8_lose 18 = .ok (.invokevirtual 124, 3) := by decide +kernel
theorem dX8_lose_21 : decode cX8_lose 21 = .ok (.iload_n 2, 1) := by decide +kernel
theorem dX8_lose_22 : decode cX8_lose 22 = .ok (.if_icmp .ne 6, 3) := by decide +kernel
theorem dX8_lose_25 : decode cX8_lose 25 = .ok (.bipush (-5), 2) := by decide +kernel
theorem dX8_lose_27 : decode cX8_lose 27 = .ok (.ireturn, 1) := by decide +kernel
theorem dX8_lose_28 : decode cX8_lose 28 = .ok (.aload_n 0, 1) := by decide +kernel
theorem dX8_lose_29 : decode cX8_lose 29 = .ok (.getfield 22, 3) := by decide +kernel
theorem dX8_lose_32 : decode cX8_lose 32 = .ok (.aload_n 0, 1) := by decide +kernel
theorem dX8_lose_33 : decode cX8_lose 33 = .ok (.getfield 12, 3) := by decide +kernel
theorem dX8_lose_36 : decode cX8_lose 36 = .ok (.invokevirtual 65, 3) := by decide +kernel
theorem dX8_lose_39 : decode cX8_lose 39 = .ok (.aload_n 0, 1) := by decide +kernel
theorem dX8_lose_40 : decode cX8_lose 40 = .ok (.getfield 12, 3) := by decide +kernel
theorem dX8_lose_43 : decode cX8_lose 43 = .ok (.iload_n 1, 1) := by decide +kernel
theorem dX8_lose_44 : decode cX8_lose 44 = .ok (.invokevirtual 127, 3) := by decide +kernel
theorem dX8_lose_47 : decode cX8_lose 47 = .ok (.aload_n 0, 1) := by decide +kernel
theorem dX8_lose_48 : decode cX8_lose 48 = .ok (.getfield 12, 3) := by decide +kernel
theorem dX8_lose_51 : decode cX8_lose 51 = .ok (.invokevirtual 130, 3) := by decide +kernel
theorem dX8_lose_54 : decode cX8_lose 54 = .ok (.ireturn, 1) := by decide +kernel
theorem dX8_readPile_0 : decode cX8_readPile 0 = .ok (.aload_n 0, 1) := by decide +kernel
theorem dX8_readPile_1 : decode cX8_readPile 1 = .ok (.getfield 29, 3) := by decide +kernel
theorem dX8_readPile_4 : decode cX8_readPile 4 = .ok (.invokevirtual 133, 3) := by decide +kernel
theorem dX8_readPile_7 : decode cX8_readPile 7 = .ok (.istore_n 1, 1) := by decide +kernel
theorem dX8_readPile_8 : decode cX8_readPile 8 = .ok (.iload_n 1, 1) := by decide +kernel
theorem dX8_readPile_9 : decode cX8_readPile 9 = .ok (.iconst (-1), 1) := by decide +kernel
theorem dX8_readPile_10 : decode cX8_readPile 10 = .ok (.if_icmp .eq 8, 3) := by decide +kernel
theorem dX8_readPile_13 : decode cX8_readPile 13 = .ok (.bipush (-100), 2) := by decide +kernel
theorem dX8_readPile_15 : decode cX8_readPile 15 = .ok (.iload_n 1, 1) := by decide +kernel
theorem dX8_readPile_16 : decode cX8_readPile 16 = .ok (.isub, 1) := by decide +kernel
theorem dX8_readPile_17 : decode cX8_readPile 17 = .ok (.ireturn, 1) := by decide +kernel
theorem dX8_readPile_18 : decode cX8_readPile 18 = .ok (.aload_n 0, 1) := by decide +kernel
theorem dX8_readPile_19 : decode cX8_readPile 19 = .ok (.invokevirtual 136, 3) := by decide +kernel
theorem dX8_readPile_22 : decode cX8_readPile 22 = .ok (.ifCond .ne 5, 3) := by decide +kernel
theorem dX8_readPile_25 : decode cX8_readPile 25 = .ok (.iconst (-1), 1) := by decide +kernel
theorem dX8_readPile_26 : decode cX8_readPile 26 = .ok (.ireturn, 1) := by decide +kernel
theorem dX8_readPile_27 : decode cX8_readPile 27 = .ok (.aload_n 0, 1) := by decide +kernel
theorem dX8_readPile_28 : decode cX8_readPile 28 = .ok (.invokevirtual 140, 3) := by decide +kernel
theorem dX8_readPile_31 : decode cX8_readPile 31 = .ok (.ifCond .ne 6, 3) := by decide +kernel
theorem dX8_readPile_34 : decode cX8_readPile 34 = .ok (.bipush (-4), 2) := by decide +kernel
theorem dX8_readPile_36 : decode cX8_readPile 36 = .ok (.ireturn, 1) := by decide +kernel
theorem dX8_readPile_37 : decode cX8_readPile 37 = .ok (.aload_n 0, 1) := by decide +kernel
theorem dX8_readPile_38 : decode cX8_readPile 38 = .ok (.getfield 45, 3) := by decide +kernel
theorem dX8_readPile_41 : decode cX8_readPile 41 = .ok (.invokevirtual 143, 3) := by decide +kernel
theorem dX8_readPile_44 : decode cX8_readPile 44 = .ok (.bipush 12, 2) := by decide +kernel
theorem dX8_readPile_46 : decode cX8_readPile 46 = .ok (.if_icmp .le 6, 3) := by decide +kernel
theorem dX8_readPile_49 : decode cX8_readPile 49 = .ok (.bipush (-3), 2) := by decide +kernel
theorem dX8_readPile_51 : decode cX8_readPile 51 = .ok (.ireturn, 1) := by decide +kernel
theorem dX8_readPile_52 : decode cX8_readPile 52 = .ok (.aload_n 0, 1) := by decide +kernel
theorem dX8_readPile_53 : decode cX8_readPile 53 = .ok (.getfield 22, 3) := by decide +kernel
theorem dX8_readPile_56 : decode cX8_readPile 56 = .ok (.aload_n 0, 1) := by decide +kernel
theorem dX8_readPile_57 : decode cX8_readPile 57 = .ok (.getfield 12, 3) := by decide +kernel
theorem dX8_readPile_60 : decode cX8_readPile 60 = .ok (.invokevirtual 65, 3) := by decide +kernel
theorem dX8_readPile_63 : decode cX8_readPile 63 = .ok (.aload_n 0, 1) := by decide +kernel
theorem dX8_readPile_64 : decode cX8_readPile 64 = .ok (.getfield 12, 3) := by decide +kernel
theorem dX8_readPile_67 : decode cX8_readPile 67 = .ok (.getfield 146, 3) := by decide +kernel
theorem dX8_readPile_70 : decode cX8_readPile 70 = .ok (.invokevirtual 149, 3) := by decide +kernel
theorem dX8_readPile_73 : decode cX8_readPile 73 = .ok (.iconst 0, 1) := by decide +kernel
theorem dX8_readPile_74 : decode cX8_readPile 74 = .ok (.istore_n 2, 1) := by decide +kernel
theorem dX8_readPile_75 : decode cX8_readPile 75 = .ok (.iload_n 2, 1) := by decide +kernel
theorem dX8_readPile_76 : decode cX8_readPile 76 = .ok (.aload_n 0, 1) := by decide +kernel
theorem dX8_readPile_77 : decode cX8_readPile 77 = .ok (.getfield 45, 3) := by decide +kernel
theorem dX8_readPile_80 : decode cX8_readPile 80 = .ok (.invokevirtual 143, 3) := by decide +kernel
theorem dX8_readPile_83 : decode cX8_readPile 83 = .ok (.if_icmp .ge 24, 3) := by decide +kernel
theorem dX8_readPile_86 : decode cX8_readPile 86 = .ok (.aload_n 0, 1) := by decide +kernel
theorem dX8_readPile_87 : decode cX8_readPile 87 = .ok (.getfield 12, 3) := by decide +kernel
theorem dX8_readPile_90 : decode cX8_readPile 90 = .ok (.aload_n 0, 1) := by decide +kernel
theorem dX8_readPile_91 : decode cX8_readPile 91 = .ok (.getfield 45, 3) := by decide +kernel
theorem dX8_readPile_94 : decode cX8_readPile 94 = .ok (.iload_n 2, 1) := by decide +kernel
theorem dX8_readPile_95 : decode cX8_readPile 95 = .ok (.invokevirtual 152, 3) := by decide +kernel
theorem dX8_readPile_98 : decode cX8_readPile 98 = .ok (.invokevirtual 155, 3) := by decide +kernel
theorem dX8_readPile_101 : decode cX8_readPile 101 = .ok (.iinc 2 1, 3) := by decide +kernel
theorem dX8_readPile_104 : decode cX8_readPile 104 = .ok (.goto (-29), 3) := by decide +kernel
theorem dX8_readPile_107 : decode cX8_readPile 107 = .ok (.aload_n 0, 1) := by decide +kernel
theorem dX8_readPile_108 : decode cX8_readPile 108 = .ok (.getfield 12, 3) := by decide +kernel
theorem dX8_readPile_111 : decode cX8_readPile 111 = .ok (.getfield 146, 3) := by decide +kernel
theorem dX8_readPile_114 : decode cX8_readPile 114 = .ok (.invokevirtual 143, 3) := by decide +kernel
theorem dX8_readPile_117 : decode cX8_readPile 117 = .ok (.ireturn, 1) := by decide +kernel
theorem dX8_type_0 : decode cX8_type 0 = .ok (.aload_n 0, 1) := by decide +kernel
theorem dX8_type_1 : decode cX8_type 1 = .ok (.getfield 29, 3) := by decide +kernel
theorem dX8_type_4 : decode cX8_type 4 = .ok (.invokevirtual 158, 3) := by decide +kernel
theorem dX8_type_7 : decode cX8_type 7 = .ok (.bipush 60, 2) := by decide +kernel
theorem dX8_type_9 : decode cX8_type 9 = .ok (.if_icmp .lt 6, 3) := by decide +kernel
theorem dX8_type_12 : decode cX8_type 12 = .ok (.bipush (-3), 2) := by decide +kernel
theorem dX8_type_14 : decode cX8_type 14 = .ok (.ireturn, 1) := by decide +kernel
theorem dX8_type_15 : decode cX8_type 15 = .ok (.aload_n 0, 1) := by decide +kernel
theorem dX8_type_16 : decode cX8_type 16 = .ok (.getfield 29, 3) := by decide +kernel
theorem dX8_type_19 : decode cX8_type 19 = .ok (.iload_n 1, 1) := by decide +kernel
theorem dX8_type_20 : decode cX8_type 20 = .ok (.invokevirtual 159, 3) := by decide +kernel
theorem dX8_type_23 : decode cX8_type 23 = .ok (.aload_n 0, 1) := by decide +kernel
theorem dX8_type_24 : decode cX8_type 24 = .ok (.getfield 29, 3) := by decide +kernel
theorem dX8_type_27 : decode cX8_type 27 = .ok (.invokevirtual 158, 3) := by decide +kernel
theorem dX8_type_30 : decode cX8_type 30 = .ok (.ireturn, 1) := by decide +kernel
theorem dX8_clearText_0 : decode cX8_clearText 0 = .ok (.aload_n 0, 1) := by decide +kernel
theorem dX8_clearText_1 : decode cX8_clearText 1 = .ok (.getfield 29, 3) := by decide +kernel
theorem dX8_clearText_4 : decode cX8_clearText 4 = .ok (.invokevirtual 158, 3) := by decide +kernel
theorem dX8_clearText_7 : decode cX8_clearText 7 = .ok (.istore_n 1, 1) := by decide +kernel
theorem dX8_clearText_8 : decode cX8_clearText 8 = .ok (.aload_n 0, 1) := by decide +kernel
theorem dX8_clearText_9 : decode cX8_clearText 9 = .ok (.getfield 29, 3) := by decide +kernel
theorem dX8_clearText_12 : decode cX8_clearText 12 = .ok (.invokevirtual 163, 3) := by decide +kernel
theorem dX8_clearText_15 : decode cX8_clearText 15 = .ok (.iload_n 1, 1) := by decide +kernel
theorem dX8_clearText_16 : decode cX8_clearText 16 = .ok (.ireturn, 1) := by decide +kernel
theorem dX8_undo_0 : decode cX8_undo 0 = .ok (.aload_n 0, 1) := by decide +kernel
theorem dX8_undo_1 : decode cX8_undo 1 = .ok (.getfield 22, 3) := by decide +kernel
theorem dX8_undo_4 : decode cX8_undo 4 = .ok (.invokevirtual 164, 3) := by decide +kernel
theorem dX8_undo_7 : decode cX8_undo 7 = .ok (.ifCond .ne 6, 3) := by decide +kernel
theorem dX8_undo_10 : decode cX8_undo 10 = .ok (.bipush (-5), 2) := by decide +kernel
theorem dX8_undo_12 : decode cX8_undo 12 = .ok (.ireturn, 1) := by decide +kernel
theorem dX8_undo_13 : decode cX8_undo 13 = .ok (.aload_n 0, 1) := by decide +kernel
theorem dX8_undo_14 : decode cX8_undo 14 = .ok (.getfield 22, 3) := by decide +kernel
theorem dX8_undo_17 : decode cX8_undo 17 = .ok (.aload_n 0, 1) := by decide +kernel
theorem dX8_undo_18 : decode cX8_undo 18 = .ok (.getfield 12, 3) := by decide +kernel
theorem dX8_undo_21 : decode cX8_undo 21 = .ok (.invokevirtual 167, 3) := by decide +kernel
theorem dX8_undo_24 : decode cX8_undo 24 = .ok (.aload_n 0, 1) := by decide +kernel
theorem dX8_undo_25 : decode cX8_undo 25 = .ok (.getfield 22, 3) := by decide +kernel
theorem dX8_undo_28 : decode cX8_undo 28 = .ok (.invokevirtual 164, 3) := by decide +kernel
theorem dX8_undo_31 : decode cX8_undo 31 = .ok (.ireturn, 1) := by decide +kernel
theorem dX8_keep_0 : decode cX8_keep 0 = .ok (.aload_n 0, 1) := by decide +kernel
theorem dX8_keep_1 : decode cX8_keep 1 = .ok (.getfield 16, 3) := by decide +kernel
theorem dX8_keep_4 : decode cX8_keep 4 = .ok (.aload_n 0, 1) := by decide +kernel
theorem dX8_keep_5 : decode cX8_keep 5 = .ok (.getfield 12, 3) := by decide +kernel
theorem dX8_keep_8 : decode cX8_keep 8 = .ok (.invokevirtual 170, 3) := by decide +kernel
theorem dX8_keep_11 : decode cX8_keep 11 = .ok (.aload_n 0, 1) := by decide +kernel
theorem dX8_keep_12 : decode cX8_keep 12 = .ok (.iconst 1, 1) := by decide +kernel
theorem dX8_keep_13 : decode cX8_keep 13 = .ok (.putfield 173, 3) := by decide +kernel
theorem dX8_keep_16 : decode cX8_keep 16 = .ok (.aload_n 0, 1) := by decide +kernel
theorem dX8_keep_17 : decode cX8_keep 17 = .ok (.getfield 12, 3) := by decide +kernel
theorem dX8_keep_20 : decode cX8_keep 20 = .ok (.invokevirtual 83, 3) := by decide +kernel
theorem dX8_keep_23 : decode cX8_keep 23 = .ok (.ireturn, 1) := by decide +kernel
theorem dX8_restore_0 : decode cX8_restore 0 = .ok (.aload_n 0, 1) := by decide +kernel
theorem dX8_restore_1 : decode cX8_restore 1 = .ok (.getfield 173, 3) := by decide +kernel
theorem dX8_restore_4 : decode cX8_restore 4 = .ok (.ifCond .ne 6, 3) := by decide +kernel
theorem dX8_restore_7 : decode cX8_restore 7 = .ok (.bipush (-5), 2) := by decide +kernel
theorem dX8_restore_9 : decode cX8_restore 9 = .ok (.ireturn, 1) := by decide +kernel
theorem dX8_restore_10 : decode cX8_restore 10 = .ok (.aload_n 0, 1) := by decide +kernel
theorem dX8_restore_11 : decode cX8_restore 11 = .ok (.getfield 22, 3) := by decide +kernel
theorem dX8_restore_14 : decode cX8_restore 14 = .ok (.aload_n 0, 1) := by decide +kernel
theorem dX8_restore_15 : decode cX8_restore 15 = .ok (.getfield 12, 3) := by decide +kernel
theorem dX8_restore_18 : decode cX8_restore 18 = .ok (.invokevirtual 65, 3) := by decide +kernel
theorem dX8_restore_21 : decode cX8_restore 21 = .ok (.aload_n 0, 1) := by decide +kernel
theorem dX8_restore_22 : decode cX8_restore 22 = .ok (.getfield 12, 3) := by decide +kernel
theorem dX8_restore_25 : decode cX8_restore 25 = .ok (.aload_n 0, 1) := by decide +kernel
theorem dX8_restore_26 : decode cX8_restore 26 = .ok (.getfield 16, 3) := by decide +kernel
theorem dX8_restore_29 : decode cX8_restore 29 = .ok (.invokevirtual 170, 3) := by decide +kernel
theorem dX8_restore_32 : decode cX8_restore 32 = .ok (.aload_n 0, 1) := by decide +kernel
theorem dX8_restore_33 : decode cX8_restore 33 = .ok (.getfield 12, 3) := by decide +kernel
theorem dX8_restore_36 : decode cX8_restore 36 = .ok (.invokevirtual 83, 3) := by decide +kernel
theorem dX8_restore_39 : decode cX8_restore 39 = .ok (.ireturn, 1) := by decide +kernel
theorem dX8_quire_0 : decode cX8_quire 0 = .ok (.aload_n 0, 1) := by decide +kernel
theorem dX8_quire_1 : decode cX8_quire 1 = .ok (.getfield 12, 3) := by decide +kernel
theorem dX8_quire_4 : decode cX8_quire 4 = .ok (.iload_n 1, 1) := by decide +kernel
theorem dX8_quire_5 : decode cX8_quire 5 = .ok (.invokevirtual 115, 3) := by decide +kernel
theorem dX8_quire_8 : decode cX8_quire 8 = .ok (.ifCond .ne 5, 3) := by decide +kernel
theorem dX8_quire_11 : decode cX8_quire 11 = .ok (.iconst (-1), 1) := by decide +kernel
theorem dX8_quire_12 : decode cX8_quire 12 = .ok (.ireturn, 1) := by decide +kernel
theorem dX8_quire_13 : decode cX8_quire 13 = .ok (.aload_n 0, 1) := by decide +kernel
theorem dX8_quire_14 : decode cX8_quire 14 = .ok (.getfield 12, 3) := by decide +kernel
theorem dX8_quire_17 : decode cX8_quire 17 = .ok (.getfield 177, 3) := by decide +kernel
theorem dX8_quire_20 : decode cX8_quire 20 = .ok (.iload_n 1, 1) := by decide +kernel
theorem dX8_quire_21 : decode cX8_quire 21 = .ok (.invokevirtual 152, 3) := by decide +kernel
theorem dX8_quire_24 : decode cX8_quire 24 = .ok (.istore_n 3, 1) := by decide +kernel
theorem dX8_quire_25 : decode cX8_quire 25 = .ok (.iload_n 2, 1) := by decide +kernel
theorem dX8_quire_26 : decode cX8_quire 26 = .ok (.tableswitch 115 0 6 #[42, 47, 67, 79, 88, 97, 106], 42) := by decide +kernel
theorem dX8_quire_68 : decode cX8_quire 68 = .ok (.iload_n 3, 1) := by decide +kernel
theorem dX8_quire_69 : decode cX8_quire 69 = .ok (.invokestatic 180, 3) := by decide +kernel
theorem dX8_quire_72 : decode cX8_quire 72 = .ok (.ireturn, 1) := by decide +kernel
theorem dX8_quire_73 : decode cX8_quire 73 = .ok (.iload_n 3, 1) := by decide +kernel
theorem dX8_quire_74 : decode cX8_quire 74 = .ok (.invokestatic 183, 3) := by decide +kernel
theorem dX8_quire_77 : decode cX8_quire 77 = .ok (.ifCond .eq 8, 3) := by decide +kernel
theorem dX8_quire_80 : decode cX8_quire 80 = .ok (.bipush (-5), 2) := by decide +kernel
theorem dX8_quire_82 : decode cX8_quire 82 = .ok (.goto 10, 3) := by decide +kernel
theorem dX8_quire_85 : decode cX8_quire 85 = .ok (.bipush 65, 2) := by decide +kernel
theorem dX8_quire_87 : decode cX8_quire 87 = .ok (.iload_n 3, 1) := by decide +kernel
theorem dX8_quire_88 : decode cX8_quire 88 = .ok (.invokestatic 186, 3) := by decide +kernel
theorem dX8_quire_91 : decode cX8_quire 91 = .ok (.iadd, 1) := by decide +kernel
theorem dX8_quire_92 : decode cX8_quire 92 = .ok (.ireturn, 1) := by decide +kernel
theorem dX8_quire_93 : decode cX8_quire 93 = .ok (.aload_n 0, 1) := by decide +kernel
theorem dX8_quire_94 : decode cX8_quire 94 = .ok (.getfield 12, 3) := by decide +kernel
theorem dX8_quire_97 : decode cX8_quire 97 = .ok (.getfield 189, 3) := by decide +kernel
theorem dX8_quire_100 : decode cX8_quire 100 = .ok (.iload_n 1, 1) := by decide +kernel
theorem dX8_quire_101 : decode cX8_quire 101 = .ok (.invokevirtual 152, 3) := by decide +kernel
theorem dX8_quire_104 : decode cX8_quire 104 = .ok (.ireturn, 1) := by decide +kernel
theorem dX8_quire_105 : decode cX8_quire 105 = .ok (.aload_n 0, 1) := by decide +kernel
theorem dX8_quire_106 : decode cX8_quire 106 = .ok (.getfield 12, 3) := by decide +kernel
theorem dX8_quire_109 : decode cX8_quire 109 = .ok (.iload_n 1, 1) := by decide +kernel
theorem dX8_quire_110 : decode cX8_quire 110 = .ok (.invokevirtual 192, 3) := by decide +kernel
theorem dX8_quire_113 : decode cX8_quire 113 = .ok (.ireturn, 1) := by decide +kernel
theorem dX8_quire_114 : decode cX8_quire 114 = .ok (.aload_n 0, 1) := by decide +kernel
theorem dX8_quire_115 : decode cX8_quire 115 = .ok (.getfield 12, 3) := by decide +kernel
theorem dX8_quire_118 : decode cX8_quire 118 = .ok (.iload_n 1, 1) := by decide +kernel
theorem dX8_quire_119 : decode cX8_quire 119 = .ok (.invokevirtual 195, 3) := by decide +kernel
theorem dX8_quire_122 : decode cX8_quire 122 = .ok (.ireturn, 1) := by decide +kernel
theorem dX8_quire_123 : decode cX8_quire 123 = .ok (.aload_n 0, 1) := by decide +kernel
theorem dX8_quire_124 : decode cX8_quire 124 = .ok (.getfield 12, 3) := by decide +kernel
theorem dX8_quire_127 : decode cX8_quire 127 = .ok (.iload_n 1, 1) := by decide +kernel
theorem dX8_quire_128 : decode cX8_quire 128 = .ok (.invokevirtual 198, 3) := by decide +kernel
theorem dX8_quire_131 : decode cX8_quire 131 = .ok (.ireturn, 1) := by decide +kernel
theorem dX8_quire_132 : decode cX8_quire 132 = .ok (.aload_n 0, 1) := by decide +kernel
theorem dX8_quire_133 : decode cX8_quire 133 = .ok (.getfield 12, 3) := by decide +kernel
theorem dX8_quire_136 : decode cX8_quire 136 = .ok (.iload_n 1, 1) := by decide +kernel
theorem dX8_quire_137 : decode cX8_quire 137 = .ok (.invokevirtual 201, 3) := by decide +kernel
theorem dX8_quire_140 : decode cX8_quire 140 = .ok (.ireturn, 1) := by decide +kernel
theorem dX8_quire_141 : decode cX8_quire 141 = .ok (.bipush (-2), 2) := by decide +kernel
theorem dX8_quire_143 : decode cX8_quire 143 = .ok (.ireturn, 1) := by decide +kernel
theorem dX8_leaf_0 : decode cX8_leaf 0 = .ok (.aload_n 0, 1) := by decide +kernel
theorem dX8_leaf_1 : decode cX8_leaf 1 = .ok (.getfield 12, 3) := by decide +kernel
theorem dX8_leaf_4 : decode cX8_leaf 4 = .ok (.iload_n 1, 1) := by decide +kernel
theorem dX8_leaf_5 : decode cX8_leaf 5 = .ok (.invokevirtual 121, 3) := by decide +kernel
theorem dX8_leaf_8 : decode cX8_leaf 8 = .ok (.ifCond .ne 5, 3) := by decide +kernel
theorem dX8_leaf_11 : decode cX8_leaf 11 = .ok (.iconst (-1), 1) := by decide +kernel
theorem dX8_leaf_12 : decode cX8_leaf 12 = .ok (.ireturn, 1) := by decide +kernel
theorem dX8_leaf_13 : decode cX8_leaf 13 = .ok (.aload_n 0, 1) := by decide +kernel
theorem dX8_leaf_14 : decode cX8_leaf 14 = .ok (.getfield 12, 3) := by decide +kernel
theorem dX8_leaf_17 : decode cX8_leaf 17 = .ok (.iload_n 1, 1) := by decide +kernel
theorem dX8_leaf_18 : decode cX8_leaf 18 = .ok (.invokevirtual 204, 3) := by decide +kernel
theorem dX8_leaf_21 : decode cX8_leaf 21 = .ok (.istore_n 3, 1) := by decide +kernel
theorem dX8_leaf_22 : decode cX8_leaf 22 = .ok (.aload_n 0, 1) := by decide +kernel
theorem dX8_leaf_23 : decode cX8_leaf 23 = .ok (.getfield 12, 3) := by decide +kernel
theorem dX8_leaf_26 : decode cX8_leaf 26 = .ok (.iload_n 1, 1) := by decide +kernel
theorem dX8_leaf_27 : decode cX8_leaf 27 = .ok (.invokevirtual 207, 3) := by decide +kernel
theorem dX8_leaf_30 : decode cX8_leaf 30 = .ok (.istore 4, 2) := by decide +kernel
theorem dX8_leaf_32 : decode cX8_leaf 32 = .ok (.iload_n 2, 1) := by decide +kernel
theorem dX8_leaf_33 : decode cX8_leaf 33 = .ok (.tableswitch 95 0 5 #[39, 41, 44, 63, 69, 86], 39) := by decide +kernel
theorem dX8_leaf_72 : decode cX8_leaf 72 = .ok (.iload_n 3, 1) := by decide +kernel
theorem dX8_leaf_73 : decode cX8_leaf 73 = .ok (.ireturn, 1) := by decide +kernel
theorem dX8_leaf_74 : decode cX8_leaf 74 = .ok (.iload 4, 2) := by decide +kernel
theorem dX8_leaf_76 : decode cX8_leaf 76 = .ok (.ireturn, 1) := by decide +kernel
theorem dX8_leaf_77 : decode cX8_leaf 77 = .ok (.iload 4, 2) := by decide +kernel
theorem dX8_leaf_79 : decode cX8_leaf 79 = .ok (.aload_n 0, 1) := by decide +kernel
theorem dX8_leaf_80 : decode cX8_leaf 80 = .ok (.getfield 12, 3) := by decide +kernel
theorem dX8_leaf_83 : decode cX8_leaf 83 = .ok (.iload_n 3, 1) := by decide +kernel
theorem dX8_leaf_84 : decode cX8_leaf 84 = .ok (.invokevirtual 195, 3) := by decide +kernel
theorem dX8_leaf_87 : decode cX8_leaf 87 = .ok (.if_icmp .gt 7, 3) := by decide +kernel
theorem dX8_leaf_90 : decode cX8_leaf 90 = .ok (.iconst 1, 1) := by decide +kernel
theorem dX8_leaf_91 : decode cX8_leaf 91 = .ok (.goto 4, 3) := by decide +kernel
theorem dX8_leaf_94 : decode cX8_leaf 94 = .ok (.iconst 0, 1) := by decide +kernel
theorem dX8_leaf_95 : decode cX8_leaf 95 = .ok (.ireturn, 1) := by decide +kernel
theorem dX8_leaf_96 : decode cX8_leaf 96 = .ok (.aload_n 0, 1) := by decide +kernel
theorem dX8_leaf_97 : decode cX8_leaf 97 = .ok (.iload_n 1, 1) := by decide +kernel
theorem dX8_leaf_98 : decode cX8_leaf 98 = .ok (.invokevirtual 210, 3) := by decide +kernel
theorem dX8_leaf_101 : decode cX8_leaf 101 = .ok (.ireturn, 1) := by decide +kernel
theorem dX8_leaf_102 : decode cX8_leaf 102 = .ok (.aload_n 0, 1) := by decide +kernel
theorem dX8_leaf_103 : decode cX8_leaf 103 = .ok (.getfield 12, 3) := by decide +kernel
theorem dX8_leaf_106 : decode cX8_leaf 106 = .ok (.iload_n 1, 1) := by decide +kernel
theorem dX8_leaf_107 : decode cX8_leaf 107 = .ok (.invokevirtual 124, 3) := by decide +kernel
theorem dX8_leaf_110 : decode cX8_leaf 110 = .ok (.ifCond .eq 7, 3) := by decide +kernel
theorem dX8_leaf_113 : decode cX8_leaf 113 = .ok (.iconst 1, 1) := by decide +kernel
theorem dX8_leaf_114 : decode cX8_leaf 114 = .ok (.goto 4, 3) := by decide +kernel
theorem dX8_leaf_117 : decode cX8_leaf 117 = .ok (.iconst 0, 1) := by decide +kernel
theorem dX8_leaf_118 : decode cX8_leaf 118 = .ok (.ireturn, 1) := by decide +kernel
theorem dX8_leaf_119 : decode cX8_leaf 119 = .ok (.aload_n 0, 1) := by decide +kernel
theorem dX8_leaf_120 : decode cX8_leaf 120 = .ok (.getfield 12, 3) := by decide +kernel
theorem dX8_leaf_123 : decode cX8_leaf 123 = .ok (.iload_n 1, 1) := by decide +kernel
theorem dX8_leaf_124 : decode cX8_leaf 124 = .ok (.invokevirtual 213, 3) := by decide +kernel
theorem dX8_leaf_127 : decode cX8_leaf 127 = .ok (.ireturn, 1) := by decide +kernel
theorem dX8_leaf_128 : decode cX8_leaf 128 = .ok (.bipush (-2), 2) := by decide +kernel
theorem dX8_leaf_130 : decode cX8_leaf 130 = .ok (.ireturn, 1) := by decide +kernel
theorem dX8_find_0 : decode cX8_find 0 = .ok (.aload_n 0, 1) := by decide +kernel
theorem dX8_find_1 : decode cX8_find 1 = .ok (.getfield 29, 3) := by decide +kernel
theorem dX8_find_4 : decode cX8_find 4 = .ok (.invokevirtual 133, 3) := by decide +kernel
theorem dX8_find_7 : decode cX8_find 7 = .ok (.istore_n 1, 1) := by decide +kernel
theorem dX8_find_8 : decode cX8_find 8 = .ok (.iload_n 1, 1) := by decide +kernel
theorem dX8_find_9 : decode cX8_find 9 = .ok (.iconst (-1), 1) := by decide +kernel
theorem dX8_find_10 : decode cX8_find 10 = .ok (.if_icmp .eq 8, 3) := by decide +kernel
theorem dX8_find_13 : decode cX8_find 13 = .ok (.bipush (-100), 2) := by decide +kernel
theorem dX8_find_15 : decode cX8_find 15 = .ok (.iload_n 1, 1) := by decide +kernel
theorem dX8_find_16 : decode cX8_find 16 = .ok (.isub, 1) := by decide +kernel
theorem dX8_find_17 : decode cX8_find 17 = .ok (.ireturn, 1) := by decide +kernel
theorem dX8_find_18 : decode cX8_find 18 = .ok (.aload_n 0, 1) := by decide +kernel
theorem dX8_find_19 : decode cX8_find 19 = .ok (.getfield 29, 3) := by decide +kernel
theorem dX8_find_22 : decode cX8_find 22 = .ok (.invokevirtual 89, 3) := by decide +kernel
theorem dX8_find_25 : decode cX8_find 25 = .ok (.iconst 1, 1) := by decide +kernel
theorem dX8_find_26 : decode cX8_find 26 = .ok (.if_icmp .eq 6, 3) := by decide +kernel
theorem dX8_find_29 : decode cX8_find 29 = .ok (.bipush (-2), 2) := by decide +kernel
theorem dX8_find_31 : decode cX8_find 31 = .ok (.ireturn, 1) := by decide +kernel
theorem dX8_find_32 : decode cX8_find 32 = .ok (.aload_n 0, 1) := by decide +kernel
theorem dX8_find_33 : decode cX8_find 33 = .ok (.getfield 12, 3) := by decide +kernel
theorem dX8_find_36 : decode cX8_find 36 = .ok (.aload_n 0, 1) := by decide +kernel
theorem dX8_find_37 : decode cX8_find 37 = .ok (.getfield 29, 3) := by decide +kernel
theorem dX8_find_40 : decode cX8_find 40 = .ok (.iconst 0, 1) := by decide +kernel
theorem dX8_find_41 : decode cX8_find 41 = .ok (.invokevirtual 216, 3) := by decide +kernel
theorem dX8_find_44 : decode cX8_find 44 = .ok (.aload_n 0, 1) := by decide +kernel
theorem dX8_find_45 : decode cX8_find 45 = .ok (.getfield 29, 3) := by decide +kernel
theorem dX8_find_48 : decode cX8_find 48 = .ok (.iconst 0, 1) := by decide +kernel
theorem dX8_find_49 : decode cX8_find 49 = .ok (.invokevirtual 219, 3) := by decide +kernel
theorem dX8_find_52 : decode cX8_find 52 = .ok (.invokevirtual 222, 3) := by decide +kernel
theorem dX8_find_55 : decode cX8_find 55 = .ok (.istore_n 2, 1) := by decide +kernel
theorem dX8_find_56 : decode cX8_find 56 = .ok (.iload_n 2, 1) := by decide +kernel
theorem dX8_find_57 : decode cX8_find 57 = .ok (.iconst (-1), 1) := by decide +kernel
theorem dX8_find_58 : decode cX8_find 58 = .ok (.if_icmp .ne 8, 3) := by decide +kernel
theorem dX8_find_61 : decode cX8_find 61 = .ok (.bipush (-5), 2) := by decide +kernel
theorem dX8_find_63 : decode cX8_find 63 = .ok (.goto 4, 3) := by decide +kernel
theorem dX8_find_66 : decode cX8_find 66 = .ok (.iload_n 2, 1) := by decide +kernel
theorem dX8_find_67 : decode cX8_find 67 = .ok (.ireturn, 1) := by decide +kernel
theorem dX8_lapse_0 : decode cX8_lapse 0 = .ok (.iload_n 1, 1) := by decide +kernel
theorem dX8_lapse_1 : decode cX8_lapse 1 = .ok (.ifCond .lt 12, 3) := by decide +kernel
theorem dX8_lapse_4 : decode cX8_lapse 4 = .ok (.iload_n 2, 1) := by decide +kernel
theorem dX8_lapse_5 : decode cX8_lapse 5 = .ok (.ifCond .lt 8, 3) := by decide +kernel
theorem dX8_lapse_8 : decode cX8_lapse 8 = .ok (.iload_n 2, 1) := by decide +kernel
theorem dX8_lapse_9 : decode cX8_lapse 9 = .ok (.iconst 2, 1) := by decide +kernel
theorem dX8_lapse_10 : decode cX8_lapse 10 = .ok (.if_icmp .le 6, 3) := by decide +kernel
theorem dX8_lapse_13 : decode cX8_lapse 13 = .ok (.bipush (-2), 2) := by decide +kernel
theorem dX8_lapse_15 : decode cX8_lapse 15 = .ok (.ireturn, 1) := by decide +kernel
theorem dX8_lapse_16 : decode cX8_lapse 16 = .ok (.aload_n 0, 1) := by decide +kernel
theorem dX8_lapse_17 : decode cX8_lapse 17 = .ok (.getfield 12, 3) := by decide +kernel
theorem dX8_lapse_20 : decode cX8_lapse 20 = .ok (.iload_n 1, 1) := by decide +kernel
theorem dX8_lapse_21 : decode cX8_lapse 21 = .ok (.invokestatic 226, 3) := by decide +kernel
theorem dX8_lapse_24 : decode cX8_lapse 24 = .ok (.istore_n 3, 1) := by decide +kernel
theorem dX8_lapse_25 : decode cX8_lapse 25 = .ok (.iload_n 3, 1) := by decide +kernel
theorem dX8_lapse_26 : decode cX8_lapse 26 = .ok (.iconst (-1), 1) := by decide +kernel
theorem dX8_lapse_27 : decode cX8_lapse 27 = .ok (.if_icmp .ne 6, 3) := by decide +kernel
theorem dX8_lapse_30 : decode cX8_lapse 30 = .ok (.bipush (-5), 2) := by decide +kernel
theorem dX8_lapse_32 : decode cX8_lapse 32 = .ok (.ireturn, 1) := by decide +kernel
theorem dX8_lapse_33 : decode cX8_lapse 33 = .ok (.iload_n 2, 1) := by decide +kernel
theorem dX8_lapse_34 : decode cX8_lapse 34 = .ok (.lookupswitch 37 #[(0, 26), (1, 28)], 26) := by decide +kernel
theorem dX8_lapse_60 : decode cX8_lapse 60 = .ok (.iload_n 3, 1) := by decide +kernel
theorem dX8_lapse_61 : decode cX8_lapse 61 = .ok (.ireturn, 1) := by decide +kernel
theorem dX8_lapse_62 : decode cX8_lapse 62 = .ok (.aload_n 0, 1) := by decide +kernel
theorem dX8_lapse_63 : decode cX8_lapse 63 = .ok (.getfield 12, 3) := by decide +kernel
theorem dX8_lapse_66 : decode cX8_lapse 66 = .ok (.iload_n 3, 1) := by decide +kernel
theorem dX8_lapse_67 : decode cX8_lapse 67 = .ok (.invokestatic 232, 3) := by decide +kernel
theorem dX8_lapse_70 : decode cX8_lapse 70 = .ok (.ireturn, 1) := by decide +kernel
theorem dX8_lapse_71 : decode cX8_lapse 71 = .ok (.aload_n 0, 1) := by decide +kernel
theorem dX8_lapse_72 : decode cX8_lapse 72 = .ok (.getfield 12, 3) := by decide +kernel
theorem dX8_lapse_75 : decode cX8_lapse 75 = .ok (.iload_n 3, 1) := by decide +kernel
theorem dX8_lapse_76 : decode cX8_lapse 76 = .ok (.invokestatic 235, 3) := by decide +kernel
theorem dX8_lapse_79 : decode cX8_lapse 79 = .ok (.ireturn, 1) := by decide +kernel
theorem dX8_piled_0 : decode cX8_piled 0 = .ok (.iload_n 1, 1) := by decide +kernel
theorem dX8_piled_1 : decode cX8_piled 1 = .ok (.ifCond .lt 12, 3) := by decide +kernel
theorem dX8_piled_4 : decode cX8_piled 4 = .ok (.iload_n 2, 1) := by decide +kernel
theorem dX8_piled_5 : decode cX8_piled 5 = .ok (.ifCond .lt 8, 3) := by decide +kernel
theorem dX8_piled_8 : decode cX8_piled 8 = .ok (.iload_n 2, 1) := by decide +kernel
theorem dX8_piled_9 : decode cX8_piled 9 = .ok (.iconst 1, 1) := by decide +kernel
theorem dX8_piled_10 : decode cX8_piled 10 = .ok (.if_icmp .le 6, 3) := by decide +kernel
theorem dX8_piled_13 : decode cX8_piled 13 = .ok (.bipush (-2), 2) := by decide +kernel
theorem dX8_piled_15 : decode cX8_piled 15 = .ok (.ireturn, 1) := by decide +kernel
theorem dX8_piled_16 : decode cX8_piled 16 = .ok (.iload_n 1, 1) := by decide +kernel
theorem dX8_piled_17 : decode cX8_piled 17 = .ok (.aload_n 0, 1) := by decide +kernel
theorem dX8_piled_18 : decode cX8_piled 18 = .ok (.getfield 12, 3) := by decide +kernel
theorem dX8_piled_21 : decode cX8_piled 21 = .ok (.getfield 146, 3) := by decide +kernel
theorem dX8_piled_24 : decode cX8_piled 24 = .ok (.invokevirtual 143, 3) := by decide +kernel
theorem dX8_piled_27 : decode cX8_piled 27 = .ok (.if_icmp .lt 6, 3) := by decide +kernel
theorem dX8_piled_30 : decode cX8_piled 30 = .ok (.bipush (-5), 2) := by decide +kernel
theorem dX8_piled_32 : decode cX8_piled 32 = .ok (.ireturn, 1) := by decide +kernel
theorem dX8_piled_33 : decode cX8_piled 33 = .ok (.aload_n 0, 1) := by decide +kernel
theorem dX8_piled_34 : decode cX8_piled 34 = .ok (.getfield 12, 3) := by decide +kernel
theorem dX8_piled_37 : decode cX8_piled 37 = .ok (.getfield 146, 3) := by decide +kernel
theorem dX8_piled_40 : decode cX8_piled 40 = .ok (.iload_n 1, 1) := by decide +kernel
theorem dX8_piled_41 : decode cX8_piled 41 = .ok (.invokevirtual 152, 3) := by decide +kernel
theorem dX8_piled_44 : decode cX8_piled 44 = .ok (.istore_n 3, 1) := by decide +kernel
theorem dX8_piled_45 : decode cX8_piled 45 = .ok (.iload_n 2, 1) := by decide +kernel
theorem dX8_piled_46 : decode cX8_piled 46 = .ok (.ifCond .ne 5, 3) := by decide +kernel
theorem dX8_piled_49 : decode cX8_piled 49 = .ok (.iload_n 3, 1) := by decide +kernel
theorem dX8_piled_50 : decode cX8_piled 50 = .ok (.ireturn, 1) := by decide +kernel
theorem dX8_piled_51 : decode cX8_piled 51 = .ok (.iload_n 1, 1) := by decide +kernel
theorem dX8_piled_52 : decode cX8_piled 52 = .ok (.aload_n 0, 1) := by decide +kernel
theorem dX8_piled_53 : decode cX8_piled 53 = .ok (.getfield 12, 3) := by decide +kernel
theorem dX8_piled_56 : decode cX8_piled 56 = .ok (.getfield 146, 3) := by decide +kernel
theorem dX8_piled_59 : decode cX8_piled 59 = .ok (.invokevirtual 143, 3) := by decide +kernel
theorem dX8_piled_62 : decode cX8_piled 62 = .ok (.iconst 1, 1) := by decide +kernel
theorem dX8_piled_63 : decode cX8_piled 63 = .ok (.isub, 1) := by decide +kernel
theorem dX8_piled_64 : decode cX8_piled 64 = .ok (.if_icmp .ne 6, 3) := by decide +kernel
theorem dX8_piled_67 : decode cX8_piled 67 = .ok (.bipush (-5), 2) := by decide +kernel
theorem dX8_piled_69 : decode cX8_piled 69 = .ok (.ireturn, 1) := by decide +kernel
theorem dX8_piled_70 : decode cX8_piled 70 = .ok (.aload_n 0, 1) := by decide +kernel
theorem dX8_piled_71 : decode cX8_piled 71 = .ok (.getfield 12, 3) := by decide +kernel
theorem dX8_piled_74 : decode cX8_piled 74 = .ok (.aload_n 0, 1) := by decide +kernel
theorem dX8_piled_75 : decode cX8_piled 75 = .ok (.getfield 12, 3) := by decide +kernel
theorem dX8_piled_78 : decode cX8_piled 78 = .ok (.getfield 146, 3) := by decide +kernel
theorem dX8_piled_81 : decode cX8_piled 81 = .ok (.iload_n 1, 1) := by decide +kernel
theorem dX8_piled_82 : decode cX8_piled 82 = .ok (.iconst 1, 1) := by decide +kernel
theorem dX8_piled_83 : decode cX8_piled 83 = .ok (.iadd, 1) := by decide +kernel
theorem dX8_piled_84 : decode cX8_piled 84 = .ok (.invokevirtual 152, 3) := by decide +kernel
theorem dX8_piled_87 : decode cX8_piled 87 = .ok (.invokevirtual 213, 3) := by decide +kernel
theorem dX8_piled_90 : decode cX8_piled 90 = .ok (.aload_n 0, 1) := by decide +kernel
theorem dX8_piled_91 : decode cX8_piled 91 = .ok (.getfield 12, 3) := by decide +kernel
theorem dX8_piled_94 : decode cX8_piled 94 = .ok (.iload_n 3, 1) := by decide +kernel
theorem dX8_piled_95 : decode cX8_piled 95 = .ok (.iconst 1, 1) := by decide +kernel
theorem dX8_piled_96 : decode cX8_piled 96 = .ok (.iadd, 1) := by decide +kernel
theorem dX8_piled_97 : decode cX8_piled 97 = .ok (.invokevirtual 213, 3) := by decide +kernel
theorem dX8_piled_100 : decode cX8_piled 100 = .ok (.isub, 1) := by decide +kernel
theorem dX8_piled_101 : decode cX8_piled 101 = .ok (.ireturn, 1) := by decide +kernel
theorem dX8_sheets_0 : decode cX8_sheets 0 = .ok (.iload_n 1, 1) := by decide +kernel
theorem dX8_sheets_1 : decode cX8_sheets 1 = .ok (.iconst 2, 1) := by decide +kernel
theorem dX8_sheets_2 : decode cX8_sheets 2 = .ok (.if_icmp .eq 23, 3) := by decide +kernel
theorem dX8_sheets_5 : decode cX8_sheets 5 = .ok (.iload_n 1, 1) := by decide +kernel
theorem dX8_sheets_6 : decode cX8_sheets 6 = .ok (.iconst 4, 1) := by decide +kernel
theorem dX8_sheets_7 : decode cX8_sheets 7 = .ok (.if_icmp .eq 18, 3) := by decide +kernel
theorem dX8_sheets_10 : decode cX8_sheets 10 = .ok (.iload_n 1, 1) := by decide +kernel
theorem dX8_sheets_11 : decode cX8_sheets 11 = .ok (.bipush 8, 2) := by decide +kernel
theorem dX8_sheets_13 : decode cX8_sheets 13 = .ok (.if_icmp .eq 12, 3) := by decide +kernel
theorem dX8_sheets_16 : decode cX8_sheets 16 = .ok (.iload_n 1, 1) := by decide +kernel
theorem dX8_sheets_17 : decode cX8_sheets 17 = .ok (.bipush 12, 2) := by decide +kernel
theorem dX8_sheets_19 : decode cX8_sheets 19 = .ok (.if_icmp .eq 6, 3) := by decide +kernel
theorem dX8_sheets_22 : decode cX8_sheets 22 = .ok (.bipush (-2), 2) := by decide +kernel
theorem dX8_sheets_24 : decode cX8_sheets 24 = .ok (.ireturn, 1) := by decide +kernel
theorem dX8_sheets_25 : decode cX8_sheets 25 = .ok (.iconst 0, 1) := by decide +kernel
theorem dX8_sheets_26 : decode cX8_sheets 26 = .ok (.istore_n 2, 1) := by decide +kernel
theorem dX8_sheets_27 : decode cX8_sheets 27 = .ok (.iconst 0, 1) := by decide +kernel
theorem dX8_sheets_28 : decode cX8_sheets 28 = .ok (.istore_n 3, 1) := by decide +kernel
theorem dX8_sheets_29 : decode cX8_sheets 29 = .ok (.iload_n 3, 1) := by decide +kernel
theorem dX8_sheets_30 : decode cX8_sheets 30 = .ok (.aload_n 0, 1) := by decide +kernel
theorem dX8_sheets_31 : decode cX8_sheets 31 = .ok (.getfield 12, 3) := by decide +kernel
theorem dX8_sheets_34 : decode cX8_sheets 34 = .ok (.invokevirtual 83, 3) := by decide +kernel
theorem dX8_sheets_37 : decode cX8_sheets 37 = .ok (.if_icmp .ge 29, 3) := by decide +kernel
theorem dX8_sheets_40 : decode cX8_sheets 40 = .ok (.iload_n 2, 1) := by decide +kernel
theorem dX8_sheets_41 : decode cX8_sheets 41 = .ok (.aload_n 0, 1) := by decide +kernel
theorem dX8_sheets_42 : decode cX8_sheets 42 = .ok (.getfield 12, 3) := by decide +kernel
theorem dX8_sheets_45 : decode cX8_sheets 45 = .ok (.getfield 189, 3) := by decide +kernel
theorem dX8_sheets_48 : decode cX8_sheets 48 = .ok (.iload_n 3, 1) := by decide +kernel
theorem dX8_sheets_49 : decode cX8_sheets 49 = .ok (.invokevirtual 152, 3) := by decide +kernel
theorem dX8_sheets_52 : decode cX8_sheets 52 = .ok (.iload_n 1, 1) := by decide +kernel
theorem dX8_sheets_53 : decode cX8_sheets 53 = .ok (.iadd, 1) := by decide +kernel
theorem dX8_sheets_54 : decode cX8_sheets 54 = .ok (.iconst 1, 1) := by decide +kernel
theorem dX8_sheets_55 : decode cX8_sheets 55 = .ok (.isub, 1) := by decide +kernel
theorem dX8_sheets_56 : decode cX8_sheets 56 = .ok (.iload_n 1, 1) := by decide +kernel
theorem dX8_sheets_57 : decode cX8_sheets 57 = .ok (.idiv, 1) := by decide +kernel
theorem dX8_sheets_58 : decode cX8_sheets 58 = .ok (.iadd, 1) := by decide +kernel
theorem dX8_sheets_59 : decode cX8_sheets 59 = .ok (.istore_n 2, 1) := by decide +kernel
theorem dX8_sheets_60 : decode cX8_sheets 60 = .ok (.iinc 3 1, 3) := by decide +kernel
theorem dX8_sheets_63 : decode cX8_sheets 63 = .ok (.goto (-34), 3) := by decide +kernel
theorem dX8_sheets_66 : decode cX8_sheets 66 = .ok (.iload_n 2, 1) := by decide +kernel
theorem dX8_sheets_67 : decode cX8_sheets 67 = .ok (.ireturn, 1) := by decide +kernel
theorem dX8_formula_0 : decode cX8_formula 0 = .ok (.iload_n 1, 1) := by decide +kernel
theorem dX8_formula_1 : decode cX8_formula 1 = .ok (.ifCond .ge 6, 3) := by decide +kernel
theorem dX8_formula_4 : decode cX8_formula 4 = .ok (.bipush (-2), 2) := by decide +kernel
theorem dX8_formula_6 : decode cX8_formula 6 = .ok (.ireturn, 1) := by decide +kernel
theorem dX8_formula_7 : decode cX8_formula 7 = .ok (.aload_n 0, 1) := by decide +kernel
theorem dX8_formula_8 : decode cX8_formula 8 = .ok (.getfield 36, 3) := by decide +kernel
theorem dX8_formula_11 : decode cX8_formula 11 = .ok (.aload_n 0, 1) := by decide +kernel
theorem dX8_formula_12 : decode cX8_formula 12 = .ok (.getfield 12, 3) := by decide +kernel
theorem dX8_formula_15 : decode cX8_formula 15 = .ok (.invokevirtual 238, 3) := by decide +kernel
theorem dX8_formula_18 : decode cX8_formula 18 = .ok (.iload_n 1, 1) := by decide +kernel
theorem dX8_formula_19 : decode cX8_formula 19 = .ok (.aload_n 0, 1) := by decide +kernel
theorem dX8_formula_20 : decode cX8_formula 20 = .ok (.getfield 36, 3) := by decide +kernel
theorem dX8_formula_23 : decode cX8_formula 23 = .ok (.invokevirtual 241, 3) := by decide +kernel
theorem dX8_formula_26 : decode cX8_formula 26 = .ok (.if_icmp .ge 14, 3) := by decide +kernel
theorem dX8_formula_29 : decode cX8_formula 29 = .ok (.aload_n 0, 1) := by decide +kernel
theorem dX8_formula_30 : decode cX8_formula 30 = .ok (.getfield 36, 3) := by decide +kernel
theorem dX8_formula_33 : decode cX8_formula 33 = .ok (.iload_n 1, 1) := by decide +kernel
theorem dX8_formula_34 : decode cX8_formula 34 = .ok (.invokevirtual 242, 3) := by decide +kernel
theorem dX8_formula_37 : decode cX8_formula 37 = .ok (.goto 5, 3) := by decide +kernel
theorem dX8_formula_40 : decode cX8_formula 40 = .ok (.bipush (-5), 2) := by decide +kernel
theorem dX8_formula_42 : decode cX8_formula 42 = .ok (.ireturn, 1) := by decide +kernel
theorem dX8_count_0 : decode cX8_count 0 = .ok (.iload_n 1, 1) := by decide +kernel
theorem dX8_count_1 : decode cX8_count 1 = .ok (.tableswitch 207 0 12 #[67, 75, 83, 99, 107, 118, 126, 134, 153, 172, 183, 191, 199], 67) := by decide +kernel
theorem dX8_count_68 : decode cX8_count 68 = .ok (.aload_n 0, 1) := by decide +kernel
theorem dX8_count_69 : decode cX8_count 69 = .ok (.getfield 12, 3) := by decide +kernel
theorem dX8_count_72 : decode cX8_count 72 = .ok (.invokevirtual 83, 3) := by decide +kernel
theorem dX8_count_75 : decode cX8_count 75 = .ok (.ireturn, 1) := by decide +kernel
theorem dX8_count_76 : decode cX8_count 76 = .ok (.aload_n 0, 1) := by decide +kernel
theorem dX8_count_77 : decode cX8_count 77 = .ok (.getfield 12, 3) := by decide +kernel
theorem dX8_count_80 : decode cX8_count 80 = .ok (.invokevirtual 112, 3) := by decide +kernel
theorem dX8_count_83 : decode cX8_count 83 = .ok (.ireturn, 1) := by decide +kernel
theorem dX8_count_84 : decode cX8_count 84 = .ok (.aload_n 0, 1) := by decide +kernel
theorem dX8_count_85 : decode cX8_count 85 = .ok (.getfield 12, 3) := by decide +kernel
theorem dX8_count_88 : decode cX8_count 88 = .ok (.invokevirtual 112, 3) := by decide +kernel
theorem dX8_count_91 : decode cX8_count 91 = .ok (.aload_n 0, 1) := by decide +kernel
theorem dX8_count_92 : decode cX8_count 92 = .ok (.getfield 12, 3) := by decide +kernel
theorem dX8_count_95 : decode cX8_count 95 = .ok (.invokevirtual 130, 3) := by decide +kernel
theorem dX8_count_98 : decode cX8_count 98 = .ok (.isub, 1) := by decide +kernel
theorem dX8_count_99 : decode cX8_count 99 = .ok (.ireturn, 1) := by decide +kernel
theorem dX8_count_100 : decode cX8_count 100 = .ok (.aload_n 0, 1) := by decide +kernel
theorem dX8_count_101 : decode cX8_count 101 = .ok (.getfield 12, 3) := by decide +kernel
theorem dX8_count_104 : decode cX8_count 104 = .ok (.invokevirtual 76, 3) := by decide +kernel
theorem dX8_count_107 : decode cX8_count 107 = .ok (.ireturn, 1) := by decide +kernel
theorem dX8_count_108 : decode cX8_count 108 = .ok (.aload_n 0, 1) := by decide +kernel
theorem dX8_count_109 : decode cX8_count 109 = .ok (.getfield 12, 3) := by decide +kernel
theorem dX8_count_112 : decode cX8_count 112 = .ok (.getfield 51, 3) := by decide +kernel
theorem dX8_count_115 : decode cX8_count 115 = .ok (.invokevirtual 61, 3) := by decide +kernel
theorem dX8_count_118 : decode cX8_count 118 = .ok (.ireturn, 1) := by decide +kernel
theorem dX8_count_119 : decode cX8_count 119 = .ok (.aload_n 0, 1) := by decide +kernel
theorem dX8_count_120 : decode cX8_count 120 = .ok (.getfield 12, 3) := by decide +kernel
theorem dX8_count_123 : decode cX8_count 123 = .ok (.invokevirtual 245, 3) := by decide +kernel
theorem dX8_count_126 : decode cX8_count 126 = .ok (.ireturn, 1) := by decide +kernel
theorem dX8_count_127 : decode cX8_count 127 = .ok (.aload_n 0, 1) := by decide +kernel
theorem dX8_count_128 : decode cX8_count 128 = .ok (.getfield 12, 3) := by decide +kernel
theorem dX8_count_131 : decode cX8_count 131 = .ok (.invokestatic 248, 3) := by decide +kernel
theorem dX8_count_134 : decode cX8_count 134 = .ok (.ireturn, 1) := by decide +kernel
theorem dX8_count_135 : decode cX8_count 135 = .ok (.aload_n 0, 1) := by decide +kernel
theorem dX8_count_136 : decode cX8_count 136 = .ok (.getfield 36, 3) := by decide +kernel
theorem dX8_count_139 : decode cX8_count 139 = .ok (.aload_n 0, 1) := by decide +kernel
theorem dX8_count_140 : decode cX8_count 140 = .ok (.getfield 12, 3) := by decide +kernel
theorem dX8_count_143 : decode cX8_count 143 = .ok (.invokevirtual 238, 3) := by decide +kernel
theorem dX8_count_146 : decode cX8_count 146 = .ok (.aload_n 0, 1) := by decide +kernel
theorem dX8_count_147 : decode cX8_count 147 = .ok (.getfield 36, 3) := by decide +kernel
theorem dX8_count_150 : decode cX8_count 150 = .ok (.invokevirtual 241, 3) := by decide +kernel
theorem dX8_count_153 : decode cX8_count 153 = .ok (.ireturn, 1) := by decide +kernel
theorem dX8_count_154 : decode cX8_count 154 = .ok (.aload_n 0, 1) := by decide +kernel
theorem dX8_count_155 : decode cX8_count 155 = .ok (.getfield 36, 3) := by decide +kernel
theorem dX8_count_158 : decode cX8_count 158 = .ok (.aload_n 0, 1) := by decide +kernel
theorem dX8_count_159 : decode cX8_count 159 = .ok (.getfield 12, 3) := by decide +kernel
theorem dX8_count_162 : decode cX8_count 162 = .ok (.invokevirtual 238, 3) := by decide +kernel
theorem dX8_count_165 : decode cX8_count 165 = .ok (.aload_n 0, 1) := by decide +kernel
theorem dX8_count_166 : decode cX8_count 166 = .ok (.getfield 36, 3) := by decide +kernel
theorem dX8_count_169 : decode cX8_count 169 = .ok (.invokevirtual 251, 3) := by decide +kernel
theorem dX8_count_172 : decode cX8_count 172 = .ok (.ireturn, 1) := by decide +kernel
theorem dX8_count_173 : decode cX8_count 173 = .ok (.aload_n 0, 1) := by decide +kernel
theorem dX8_count_174 : decode cX8_count 174 = .ok (.getfield 12, 3) := by decide +kernel
theorem dX8_count_177 : decode cX8_count 177 = .ok (.getfield 146, 3) := by decide +kernel
theorem dX8_count_180 : decode cX8_count 180 = .ok (.invokevirtual 143, 3) := by decide +kernel
theorem dX8_count_183 : decode cX8_count 183 = .ok (.ireturn, 1) := by decide +kernel
theorem dX8_count_184 : decode cX8_count 184 = .ok (.aload_n 0, 1) := by decide +kernel
theorem dX8_count_185 : decode cX8_count 185 = .ok (.getfield 12, 3) := by decide +kernel
theorem dX8_count_188 : decode cX8_count 188 = .ok (.getfield 72, 3) := by decide +kernel
theorem dX8_count_191 : decode cX8_count 191 = .ok (.ireturn, 1) := by decide +kernel
theorem dX8_count_192 : decode cX8_count 192 = .ok (.aload_n 0, 1) := by decide +kernel
theorem dX8_count_193 : decode cX8_count 193 = .ok (.getfield 22, 3) := by decide +kernel
theorem dX8_count_196 : decode cX8_count 196 = .ok (.invokevirtual 164, 3) := by decide +kernel
theorem dX8_count_199 : decode cX8_count 199 = .ok (.ireturn, 1) := by decide +kernel
theorem dX8_count_200 : decode cX8_count 200 = .ok (.aload_n 0, 1) := by decide +kernel
theorem dX8_count_201 : decode cX8_count 201 = .ok (.getfield 29, 3) := by decide +kernel
theorem dX8_count_204 : decode cX8_count 204 = .ok (.invokevirtual 158, 3) := by decide +kernel
theorem dX8_count_207 : decode cX8_count 207 = .ok (.ireturn, 1) := by decide +kernel
theorem dX8_count_208 : decode cX8_count 208 = .ok (.bipush (-2), 2) := by decide +kernel
theorem dX8_count_210 : decode cX8_count 210 = .ok (.ireturn, 1) := by decide +kernel
theorem dX8_isQuireSize_0 : decode cX8_isQuireSize 0 = .ok (.iload_n 0, 1) := by decide +kernel
theorem dX8_isQuireSize_1 : decode cX8_isQuireSize 1 = .ok (.iconst 1, 1) := by decide +kernel
theorem dX8_isQuireSize_2 : decode cX8_isQuireSize 2 = .ok (.if_icmp .lt 13, 3) := by decide +kernel
theorem dX8_isQuireSize_5 : decode cX8_isQuireSize 5 = .ok (.iload_n 0, 1) := by decide +kernel
theorem dX8_isQuireSize_6 : decode cX8_isQuireSize 6 = .ok (.bipush 24, 2) := by decide +kernel
theorem dX8_isQuireSize_8 : decode cX8_isQuireSize 8 = .ok (.if_icmp .gt 7, 3) := by decide +kernel
theorem dX8_isQuireSize_11 : decode cX8_isQuireSize 11 = .ok (.iconst 1, 1) := by decide +kernel
theorem dX8_isQuireSize_12 : decode cX8_isQuireSize 12 = .ok (.goto 4, 3) := by decide +kernel
theorem dX8_isQuireSize_15 : decode cX8_isQuireSize 15 = .ok (.iconst 0, 1) := by decide +kernel
theorem dX8_isQuireSize_16 : decode cX8_isQuireSize 16 = .ok (.ireturn, 1) := by decide +kernel
theorem dX8_quiresOfText_0 : decode cX8_quiresOfText 0 = .ok (.iconst 0, 1) := by decide +kernel
theorem dX8_quiresOfText_1 : decode cX8_quiresOfText 1 = .ok (.istore_n 1, 1) := by decide +kernel
theorem dX8_quiresOfText_2 : decode cX8_quiresOfText 2 = .ok (.iconst 0, 1) := by decide +kernel
theorem dX8_quiresOfText_3 : decode cX8_quiresOfText 3 = .ok (.istore_n 2, 1) := by decide +kernel
theorem dX8_quiresOfText_4 : decode cX8_quiresOfText 4 = .ok (.iload_n 2, 1) := by decide +kernel
theorem dX8_quiresOfText_5 : decode cX8_quiresOfText 5 = .ok (.aload_n 0, 1) := by decide +kernel
theorem dX8_quiresOfText_6 : decode cX8_quiresOfText 6 = .ok (.getfield 29, 3) := by decide +kernel
theorem dX8_quiresOfText_9 : decode cX8_quiresOfText 9 = .ok (.invokevirtual 89, 3) := by decide +kernel
theorem dX8_quiresOfText_12 : decode cX8_quiresOfText 12 = .ok (.if_icmp .ge 56, 3) := by decide +kernel
theorem dX8_quiresOfText_15 : decode cX8_quiresOfText 15 = .ok (.aload_n 0, 1) := by decide +kernel
theorem dX8_quiresOfText_16 : decode cX8_quiresOfText 16 = .ok (.getfield 29, 3) := by decide +kernel
theorem dX8_quiresOfText_19 : decode cX8_quiresOfText 19 = .ok (.iload_n 2, 1) := by decide +kernel
theorem dX8_quiresOfText_20 : decode cX8_quiresOfText 20 = .ok (.invokevirtual 216, 3) := by decide +kernel
theorem dX8_quiresOfText_23 : decode cX8_quiresOfText 23 = .ok (.istore_n 3, 1) := by decide +kernel
theorem dX8_quiresOfText_24 : decode cX8_quiresOfText 24 = .ok (.aload_n 0, 1) := by decide +kernel
theorem dX8_quiresOfText_25 : decode cX8_quiresOfText 25 = .ok (.getfield 29, 3) := by decide +kernel
theorem dX8_quiresOfText_28 : decode cX8_quiresOfText 28 = .ok (.iload_n 2, 1) := by decide +kernel
theorem dX8_quiresOfText_29 : decode cX8_quiresOfText 29 = .ok (.invokevirtual 252, 3) := by decide +kernel
theorem dX8_quiresOfText_32 : decode cX8_quiresOfText 32 = .ok (.istore 4, 2) := by decide +kernel
theorem dX8_quiresOfText_34 : decode cX8_quiresOfText 34 = .ok (.iload_n 1, 1) := by decide +kernel
theorem dX8_quiresOfText_35 : decode cX8_quiresOfText 35 = .ok (.iload_n 3, 1) := by decide +kernel
theorem dX8_quiresOfText_36 : decode cX8_quiresOfText 36 = .ok (.iload 4, 2) := by decide +kernel
theorem dX8_quiresOfText_38 : decode cX8_quiresOfText 38 = .ok (.if_icmp .ne 7, 3) := by decide +kernel
theorem dX8_quiresOfText_41 : decode cX8_quiresOfText 41 = .ok (.iconst 1, 1) := by decide +kernel
theorem dX8_quiresOfText_42 : decode cX8_quiresOfText 42 = .ok (.goto 18, 3) := by decide +kernel
theorem dX8_quiresOfText_45 : decode cX8_quiresOfText 45 = .ok (.aload_n 0, 1) := by decide +kernel
theorem dX8_quiresOfText_46 : decode cX8_quiresOfText 46 = .ok (.getfield 12, 3) := by decide +kernel
theorem dX8_quiresOfText_49 : decode cX8_quiresOfText 49 = .ok (.getfield 51, 3) := by decide +kernel
theorem dX8_quiresOfText_52 : decode cX8_quiresOfText 52 = .ok (.iload_n 3, 1) := by decide +kernel
theorem dX8_quiresOfText_53 : decode cX8_quiresOfText 53 = .ok (.iload 4, 2) := by decide +kernel
theorem dX8_quiresOfText_55 : decode cX8_quiresOfText 55 = .ok (.invokevirtual 255, 3) := by decide +kernel
theorem dX8_quiresOfText_58 : decode cX8_quiresOfText 58 = .ok (.iconst 2, 1) := by decide +kernel
theorem dX8_quiresOfText_59 : decode cX8_quiresOfText 59 = .ok (.iadd, 1) := by decide +kernel
theorem dX8_quiresOfText_60 : decode cX8_quiresOfText 60 = .ok (.iadd, 1) := by decide +kernel
theorem dX8_quiresOfText_61 : decode cX8_quiresOfText 61 = .ok (.istore_n 1, 1) := by decide +kernel
theorem dX8_quiresOfText_62 : decode cX8_quiresOfText 62 = .ok (.iinc 2 1, 3) := by decide +kernel
theorem dX8_quiresOfText_65 : decode cX8_quiresOfText 65 = .ok (.goto (-61), 3) := by decide +kernel
theorem dX8_quiresOfText_68 : decode cX8_quiresOfText 68 = .ok (.iload_n 1, 1) := by decide +kernel
theorem dX8_quiresOfText_69 : decode cX8_quiresOfText 69 = .ok (.ireturn, 1) := by decide +kernel
theorem dX8_addEntry_0 : decode cX8_addEntry 0 = .ok (.aload_n 0, 1) := by decide +kernel
theorem dX8_addEntry_1 : decode cX8_addEntry 1 = .ok (.getfield 29, 3) := by decide +kernel
theorem dX8_addEntry_4 : decode cX8_addEntry 4 = .ok (.iload_n 1, 1) := by decide +kernel
theorem dX8_addEntry_5 : decode cX8_addEntry 5 = .ok (.invokevirtual 252, 3) := by decide +kernel
theorem dX8_addEntry_8 : decode cX8_addEntry 8 = .ok (.istore_n 2, 1) := by decide +kernel
theorem dX8_addEntry_9 : decode cX8_addEntry 9 = .ok (.aload_n 0, 1) := by decide +kernel
theorem dX8_addEntry_10 : decode cX8_addEntry 10 = .ok (.getfield 29, 3) := by decide +kernel
theorem dX8_addEntry_13 : decode cX8_addEntry 13 = .ok (.iload_n 1, 1) := by decide +kernel
theorem dX8_addEntry_14 : decode cX8_addEntry 14 = .ok (.invokevirtual 219, 3) := by decide +kernel
theorem dX8_addEntry_17 : decode cX8_addEntry 17 = .ok (.istore_n 3, 1) := by decide +kernel
theorem dX8_addEntry_18 : decode cX8_addEntry 18 = .ok (.aload_n 0, 1) := by decide +kernel
theorem dX8_addEntry_19 : decode cX8_addEntry 19 = .ok (.getfield 12, 3) := by decide +kernel
theorem dX8_addEntry_22 : decode cX8_addEntry 22 = .ok (.aload_n 0, 1) := by decide +kernel
theorem dX8_addEntry_23 : decode cX8_addEntry 23 = .ok (.getfield 12, 3) := by decide +kernel
theorem dX8_addEntry_26 : decode cX8_addEntry 26 = .ok (.invokevirtual 83, 3) := by decide +kernel
theorem dX8_addEntry_29 : decode cX8_addEntry 29 = .ok (.aload_n 0, 1) := by decide +kernel
theorem dX8_addEntry_30 : decode cX8_addEntry 30 = .ok (.getfield 29, 3) := by decide +kernel
theorem dX8_addEntry_33 : decode cX8_addEntry 33 = .ok (.iload_n 1, 1) := by decide +kernel
theorem dX8_addEntry_34 : decode cX8_addEntry 34 = .ok (.invokevirtual 216, 3) := by decide +kernel
theorem dX8_addEntry_37 : decode cX8_addEntry 37 = .ok (.iload_n 3, 1) := by decide +kernel
theorem dX8_addEntry_38 : decode cX8_addEntry 38 = .ok (.invokevirtual 105, 3) := by decide +kernel
theorem dX8_addEntry_41 : decode cX8_addEntry 41 = .ok (.aload_n 0, 1) := by decide +kernel
theorem dX8_addEntry_42 : decode cX8_addEntry 42 = .ok (.getfield 29, 3) := by decide +kernel
theorem dX8_addEntry_45 : decode cX8_addEntry 45 = .ok (.iload_n 1, 1) := by decide +kernel
theorem dX8_addEntry_46 : decode cX8_addEntry 46 = .ok (.invokevirtual 216, 3) := by decide +kernel
theorem dX8_addEntry_49 : decode cX8_addEntry 49 = .ok (.iconst 1, 1) := by decide +kernel
theorem dX8_addEntry_50 : decode cX8_addEntry 50 = .ok (.iadd, 1) := by decide +kernel
theorem dX8_addEntry_51 : decode cX8_addEntry 51 = .ok (.istore 4, 2) := by decide +kernel
theorem dX8_addEntry_53 : decode cX8_addEntry 53 = .ok (.iload 4, 2) := by decide +kernel
theorem dX8_addEntry_55 : decode cX8_addEntry 55 = .ok (.iload_n 2, 1) := by decide +kernel
theorem dX8_addEntry_56 : decode cX8_addEntry 56 = .ok (.if_icmp .gt 44, 3) := by decide +kernel
theorem dX8_addEntry_59 : decode cX8_addEntry 59 = .ok (.aload_n 0, 1) := by decide +kernel
theorem dX8_addEntry_60 : decode cX8_addEntry 60 = .ok (.getfield 12, 3) := by decide +kernel
theorem dX8_addEntry_63 : decode cX8_addEntry 63 = .ok (.getfield 51, 3) := by decide +kernel
theorem dX8_addEntry_66 : decode cX8_addEntry 66 = .ok (.iload 4, 2) := by decide +kernel
theorem dX8_addEntry_68 : decode cX8_addEntry 68 = .ok (.invokestatic 186, 3) := by decide +kernel
theorem dX8_addEntry_71 : decode cX8_addEntry 71 = .ok (.invokevirtual 55, 3) := by decide +kernel
theorem dX8_addEntry_74 : decode cX8_addEntry 74 = .ok (.ifCond .eq 20, 3) := by decide +kernel
theorem dX8_addEntry_77 : decode cX8_addEntry 77 = .ok (.aload_n 0, 1) := by decide +kernel
theorem dX8_addEntry_78 : decode cX8_addEntry 78 = .ok (.getfield 12, 3) := by decide +kernel
theorem dX8_addEntry_81 : decode cX8_addEntry 81 = .ok (.aload_n 0, 1) := by decide +kernel
theorem dX8_addEntry_82 : decode cX8_addEntry 82 = .ok (.getfield 12, 3) := by decide +kernel
theorem dX8_addEntry_85 : decode cX8_addEntry 85 = .ok (.invokevirtual 83, 3) := by decide +kernel
theorem dX8_addEntry_88 : decode cX8_addEntry 88 = .ok (.iload 4, 2) := by decide +kernel
theorem dX8_addEntry_90 : decode cX8_addEntry 90 = .ok (.iload_n 3, 1) := by decide +kernel
theorem dX8_addEntry_91 : decode cX8_addEntry 91 = .ok (.invokevirtual 105, 3) := by decide +kernel
theorem dX8_addEntry_94 : decode cX8_addEntry 94 = .ok (.iinc 4 1, 3) := by decide +kernel
theorem dX8_addEntry_97 : decode cX8_addEntry 97 = .ok (.goto (-44), 3) := by decide +kernel
theorem dX8_addEntry_100 : decode cX8_addEntry 100 = .ok (.return_, 1) := by decide +kernel
theorem dX8_findLeavesOfText_0 : decode cX8_findLeavesOfText 0 = .ok (.aload_n 0, 1) := by decide +kernel
theorem dX8_findLeavesOfText_1 : decode cX8_findLeavesOfText 1 = .ok (.getfield 45, 3) := by decide +kernel
theorem dX8_findLeavesOfText_4 : decode cX8_findLeavesOfText 4 = .ok (.invokevirtual 149, 3) := by decide +kernel
theorem dX8_findLeavesOfText_7 : decode cX8_findLeavesOfText 7 = .ok (.iconst 0, 1) := by decide +kernel
theorem dX8_findLeavesOfText_8 : decode cX8_findLeavesOfText 8 = .ok (.istore_n 1, 1) := by decide +kernel
theorem dX8_findLeavesOfText_9 : decode cX8_findLeavesOfText 9 = .ok (.iload_n 1, 1) := by decide +kernel
theorem dX8_findLeavesOfText_10 : decode cX8_findLeavesOfText 10 = .ok (.aload_n 0, 1) := by decide +kernel
theorem dX8_findLeavesOfText_11 : decode cX8_findLeavesOfText 11 = .ok (.getfield 29, 3) := by decide +kernel
theorem dX8_findLeavesOfText_14 : decode cX8_findLeavesOfText 14 = .ok (.invokevirtual 89, 3) := by decide +kernel
theorem dX8_findLeavesOfText_17 : decode cX8_findLeavesOfText 17 = .ok (.if_icmp .ge 48, 3) := by decide +kernel
theorem dX8_findLeavesOfText_20 : decode cX8_findLeavesOfText 20 = .ok (.aload_n 0, 1) := by decide +kernel
theorem dX8_findLeavesOfText_21 : decode cX8_findLeavesOfText 21 = .ok (.getfield 12, 3) := by decide +kernel
theorem dX8_findLeavesOfText_24 : decode cX8_findLeavesOfText 24 = .ok (.aload_n 0, 1) := by decide +kernel
theorem dX8_findLeavesOfText_25 : decode cX8_findLeavesOfText 25 = .ok (.getfield 29, 3) := by decide +kernel
theorem dX8_findLeavesOfText_28 : decode cX8_findLeavesOfText 28 = .ok (.iload_n 1, 1) := by decide +kernel
theorem dX8_findLeavesOfText_29 : decode cX8_findLeavesOfText 29 = .ok (.invokevirtual 216, 3) := by decide +kernel
theorem dX8_findLeavesOfText_32 : decode cX8_findLeavesOfText 32 = .ok (.aload_n 0, 1) := by decide +kernel
theorem dX8_findLeavesOfText_33 : decode cX8_findLeavesOfText 33 = .ok (.getfield 29, 3) := by decide +kernel
theorem dX8_findLeavesOfText_36 : decode cX8_findLeavesOfText 36 = .ok (.iload_n 1, 1) := by decide +kernel
theorem dX8_findLeavesOfText_37 : decode cX8_findLeavesOfText 37 = .ok (.invokevirtual 219, 3) := by decide +kernel
theorem dX8_findLeavesOfText_40 : decode cX8_findLeavesOfText 40 = .ok (.invokevirtual 222, 3) := by decide +kernel
theorem dX8_findLeavesOfText_43 : decode cX8_findLeavesOfText 43 = .ok (.istore_n 2, 1) := by decide +kernel
theorem dX8_findLeavesOfText_44 : decode cX8_findLeavesOfText 44 = .ok (.iload_n 2, 1) := by decide +kernel
theorem dX8_findLeavesOfText_45 : decode cX8_findLeavesOfText 45 = .ok (.iconst (-1), 1) := by decide +kernel
theorem dX8_findLeavesOfText_46 : decode cX8_findLeavesOfText 46 = .ok (.if_icmp .ne 5, 3) := by decide +kernel
theorem dX8_findLeavesOfText_49 : decode cX8_findLeavesOfText 49 = .ok (.iconst 0, 1) := by decide +kernel
theorem dX8_findLeavesOfText_50 : decode cX8_findLeavesOfText 50 = .ok (.ireturn, 1) := by decide +kernel
theorem dX8_findLeavesOfText_51 : decode cX8_findLeavesOfText 51 = .ok (.aload_n 0, 1) := by decide +kernel
theorem dX8_findLeavesOfText_52 : decode cX8_findLeavesOfText 52 = .ok (.getfield 45, 3) := by decide +kernel
theorem dX8_findLeavesOfText_55 : decode cX8_findLeavesOfText 55 = .ok (.iload_n 2, 1) := by decide +kernel
theorem dX8_findLeavesOfText_56 : decode cX8_findLeavesOfText 56 = .ok (.invokevirtual 258, 3) := by decide +kernel
theorem dX8_findLeavesOfText_59 : decode cX8_findLeavesOfText 59 = .ok (.iinc 1 1, 3) := by decide +kernel
theorem dX8_findLeavesOfText_62 : decode cX8_findLeavesOfText 62 = .ok (.goto (-53), 3) := by decide +kernel
theorem dX8_findLeavesOfText_65 : decode cX8_findLeavesOfText 65 = .ok (.iconst 1, 1) := by decide +kernel
theorem dX8_findLeavesOfText_66 : decode cX8_findLeavesOfText 66 = .ok (.ireturn, 1) := by decide +kernel
theorem dX8_allFoundThereOnce_0 : decode cX8_allFoundThereOnce 0 = .ok (.iconst 0, 1) := by decide +kernel
theorem dX8_allFoundThereOnce_1 : decode cX8_allFoundThereOnce 1 = .ok (.istore_n 1, 1) := by decide +kernel
theorem dX8_allFoundThereOnce_2 : decode cX8_allFoundThereOnce 2 = .ok (.iload_n 1, 1) := by decide +kernel
theorem dX8_allFoundThereOnce_3 : decode cX8_allFoundThereOnce 3 = .ok (.aload_n 0, 1) := by decide +kernel
theorem dX8_allFoundThereOnce_4 : decode cX8_allFoundThereOnce 4 = .ok (.getfield 45, 3) := by decide +kernel
theorem dX8_allFoundThereOnce_7 : decode cX8_allFoundThereOnce 7 = .ok (.invokevirtual 143, 3) := by decide +kernel
theorem dX8_allFoundThereOnce_10 : decode cX8_allFoundThereOnce 10 = .ok (.if_icmp .ge 43, 3) := by decide +kernel
theorem dX8_allFoundThereOnce_13 : decode cX8_allFoundThereOnce 13 = .ok (.aload_n 0, 1) := by decide +kernel
theorem dX8_allFoundThereOnce_14 : decode cX8_allFoundThereOnce 14 = .ok (.getfield 45, 3) := by decide +kernel
theorem dX8_allFoundThereOnce_17 : decode cX8_allFoundThereOnce 17 = .ok (.iload_n 1, 1) := by decide +kernel
theorem dX8_allFoundThereOnce_18 : decode cX8_allFoundThereOnce 18 = .ok (.invokevirtual 152, 3) := by decide +kernel
theorem dX8_allFoundThereOnce_21 : decode cX8_allFoundThereOnce 21 = .ok (.istore_n 2, 1) := by decide +kernel
theorem dX8_allFoundThereOnce_22 : decode cX8_allFoundThereOnce 22 = .ok (.aload_n 0, 1) := by decide +kernel
theorem dX8_allFoundThereOnce_23 : decode cX8_allFoundThereOnce 23 = .ok (.getfield 12, 3) := by decide +kernel
theorem dX8_allFoundThereOnce_26 : decode cX8_allFoundThereOnce 26 = .ok (.iload_n 2, 1) := by decide +kernel
theorem dX8_allFoundThereOnce_27 : decode cX8_allFoundThereOnce 27 = .ok (.invokevirtual 124, 3) := by decide +kernel
theorem dX8_allFoundThereOnce_30 : decode cX8_allFoundThereOnce 30 = .ok (.ifCond .ne 15, 3) := by decide +kernel
theorem dX8_allFoundThereOnce_33 : decode cX8_allFoundThereOnce 33 = .ok (.aload_n 0, 1) := by decide +kernel
theorem dX8_allFoundThereOnce_34 : decode cX8_allFoundThereOnce 34 = .ok (.getfield 45, 3) := by decide +kernel
theorem dX8_allFoundThereOnce_37 : decode cX8_allFoundThereOnce 37 = .ok (.iload_n 2, 1) := by decide +kernel
theorem dX8_allFoundThereOnce_38 : decode cX8_allFoundThereOnce 38 = .ok (.invokevirtual 260, 3) := by decide +kernel
theorem dX8_allFoundThereOnce_41 : decode cX8_allFoundThereOnce 41 = .ok (.iload_n 1, 1) := by decide +kernel
theorem dX8_allFoundThereOnce_42 : decode cX8_allFoundThereOnce 42 = .ok (.if_icmp .ge 5, 3) := by decide +kernel
theorem dX8_allFoundThereOnce_45 : decode cX8_allFoundThereOnce 45 = .ok (.iconst 0, 1) := by decide +kernel
theorem dX8_allFoundThereOnce_46 : decode cX8_allFoundThereOnce 46 = .ok (.ireturn, 1) := by decide +kernel
theorem dX8_allFoundThereOnce_47 : decode cX8_allFoundThereOnce 47 = .ok (.iinc 1 1, 3) := by decide +kernel
theorem dX8_allFoundThereOnce_50 : decode cX8_allFoundThereOnce 50 = .ok (.goto (-48), 3) := by decide +kernel
theorem dX8_allFoundThereOnce_53 : decode cX8_allFoundThereOnce 53 = .ok (.iconst 1, 1) := by decide +kernel
theorem dX8_allFoundThereOnce_54 : decode cX8_allFoundThereOnce 54 = .ok (.ireturn, 1) := by decide +kernel
theorem dX8_leafHangingWith_0 : decode cX8_leafHangingWith 0 = .ok (.aload_n 0, 1) := by decide +kernel
theorem dX8_leafHangingWith_1 : decode cX8_leafHangingWith 1 = .ok (.getfield 12, 3) := by decide +kernel
theorem dX8_leafHangingWith_4 : decode cX8_leafHangingWith 4 = .ok (.iload_n 1, 1) := by decide +kernel
theorem dX8_leafHangingWith_5 : decode cX8_leafHangingWith 5 = .ok (.invokevirtual 204, 3) := by decide +kernel
theorem dX8_leafHangingWith_8 : decode cX8_leafHangingWith 8 = .ok (.istore_n 2, 1) := by decide +kernel
theorem dX8_leafHangingWith_9 : decode cX8_leafHangingWith 9 = .ok (.aload_n 0, 1) := by decide +kernel
theorem dX8_leafHangingWith_10 : decode cX8_leafHangingWith 10 = .ok (.getfield 12, 3) := by decide +kernel
theorem dX8_leafHangingWith_13 : decode cX8_leafHangingWith 13 = .ok (.iload_n 1, 1) := by decide +kernel
theorem dX8_leafHangingWith_14 : decode cX8_leafHangingWith 14 = .ok (.invokevirtual 207, 3) := by decide +kernel
theorem dX8_leafHangingWith_17 : decode cX8_leafHangingWith 17 = .ok (.istore_n 3, 1) := by decide +kernel
theorem dX8_leafHangingWith_18 : decode cX8_leafHangingWith 18 = .ok (.aload_n 0, 1) := by decide +kernel
theorem dX8_leafHangingWith_19 : decode cX8_leafHangingWith 19 = .ok (.getfield 12, 3) := by decide +kernel
theorem dX8_leafHangingWith_22 : decode cX8_leafHangingWith 22 = .ok (.getfield 189, 3) := by decide +kernel
theorem dX8_leafHangingWith_25 : decode cX8_leafHangingWith 25 = .ok (.iload_n 2, 1) := by decide +kernel
theorem dX8_leafHangingWith_26 : decode cX8_leafHangingWith 26 = .ok (.invokevirtual 152, 3) := by decide +kernel
theorem dX8_leafHangingWith_29 : decode cX8_leafHangingWith 29 = .ok (.iconst 1, 1) := by decide +kernel
theorem dX8_leafHangingWith_30 : decode cX8_leafHangingWith 30 = .ok (.iadd, 1) := by decide +kernel
theorem dX8_leafHangingWith_31 : decode cX8_leafHangingWith 31 = .ok (.iload_n 3, 1) := by decide +kernel
theorem dX8_leafHangingWith_32 : decode cX8_leafHangingWith 32 = .ok (.isub, 1) := by decide +kernel
theorem dX8_leafHangingWith_33 : decode cX8_leafHangingWith 33 = .ok (.istore 4, 2) := by decide +kernel
theorem dX8_leafHangingWith_35 : decode cX8_leafHangingWith 35 = .ok (.iload 4, 2) := by decide +kernel
theorem dX8_leafHangingWith_37 : decode cX8_leafHangingWith 37 = .ok (.iload_n 3, 1) := by decide +kernel
theorem dX8_leafHangingWith_38 : decode cX8_leafHangingWith 38 = .ok (.if_icmp .ne 8, 3) := by decide +kernel
theorem dX8_leafHangingWith_41 : decode cX8_leafHangingWith 41 = .ok (.bipush (-5), 2) := by decide +kernel
theorem dX8_leafHangingWith_43 : decode cX8_leafHangingWith 43 = .ok (.goto 16, 3) := by decide +kernel
theorem dX8_leafHangingWith_46 : decode cX8_leafHangingWith 46 = .ok (.aload_n 0, 1) := by decide +kernel
theorem dX8_leafHangingWith_47 : decode cX8_leafHangingWith 47 = .ok (.getfield 12, 3) := by decide +kernel
theorem dX8_leafHangingWith_50 : decode cX8_leafHangingWith 50 = .ok (.iload_n 2, 1) := by decide +kernel
theorem dX8_leafHangingWith_51 : decode cX8_leafHangingWith 51 = .ok (.invokevirtual 192, 3) := by decide +kernel
theorem dX8_leafHangingWith_54 : decode cX8_leafHangingWith 54 = .ok (.iload 4, 2) := by decide +kernel
theorem dX8_leafHangingWith_56 : decode cX8_leafHangingWith 56 = .ok (.iadd, 1) := by decide +kernel
theorem dX8_leafHangingWith_57 : decode cX8_leafHangingWith 57 = .ok (.iconst 1, 1) := by decide +kernel
theorem dX8_leafHangingWith_58 : decode cX8_leafHangingWith 58 = .ok (.isub, 1) := by decide +kernel
theorem dX8_leafHangingWith_59 : decode cX8_leafHangingWith 59 = .ok (.ireturn, 1) := by decide +kernel
end
section
theorem dX9_init_0 : decode cX9_init 0 = .ok (.aload_n 0, 1) := by decide +kernel
theorem dX9_init_1 : decode cX9_init 1 = .ok (.invokespecial 1, 3) := by decide +kernel
theorem dX9_init_4 : decode cX9_init 4 = .ok (.aload_n 0, 1) := by decide +kernel
theorem dX9_init_5 : decode cX9_init 5 = .ok (.sipush 1056, 3) := by decide +kernel
theorem dX9_init_8 : decode cX9_init 8 = .ok (.newarray .int, 2) := by decide +kernel
theorem dX9_init_10 : decode cX9_init 10 = .ok (.putfield 7, 3) := by decide +kernel
theorem dX9_init_13 : decode cX9_init 13 = .ok (.aload_n 0, 1) := by decide +kernel
theorem dX9_init_14 : decode cX9_init 14 = .ok (.bipush 60, 2) := by decide +kernel
theorem dX9_init_16 : decode cX9_init 16 = .ok (.newarray .char, 2) := by decide +kernel
theorem dX9_init_18 : decode cX9_init 18 = .ok (.putfield 13, 3) := by decide +kernel
theorem dX9_init_21 : decode cX9_init 21 = .ok (.aload_n 0, 1) := by decide +kernel
theorem dX9_init_22 : decode cX9_init 22 = .ok (.sipush 160, 3) := by decide +kernel
theorem dX9_init_25 : decode cX9_init 25 = .ok (.newarray .int, 2) := by decide +kernel
theorem dX9_init_27 : decode cX9_init 27 = .ok (.putfield 17, 3) := by decide +kernel
theorem dX9_init_30 : decode cX9_init 30 = .ok (.aload_n 0, 1) := by decide +kernel
theorem dX9_init_31 : decode cX9_init 31 = .ok (.sipush 400, 3) := by decide +kernel
theorem dX9_init_34 : decode cX9_init 34 = .ok (.newarray .char, 2) := by decide +kernel
theorem dX9_init_36 : decode cX9_init 36 = .ok (.putfield 20, 3) := by decide +kernel
theorem dX9_init_39 : decode cX9_init 39 = .ok (.aload_n 0, 1) := by decide +kernel
theorem dX9_init_40 : decode cX9_init 40 = .ok (.getfield 7, 3) := by decide +kernel
theorem dX9_init_43 : decode cX9_init 43 = .ok (.iconst 0, 1) := by decide +kernel
theorem dX9_init_44 : decode cX9_init 44 = .ok (.ldc 23, 2) := by decide +kernel
theorem dX9_init_46 : decode cX9_init 46 = .ok (.iastore, 1) := by decide +kernel
theorem dX9_init_47 : decode cX9_init 47 = .ok (.aload_n 0, 1) := by decide +kernel
theorem dX9_init_48 : decode cX9_init 48 = .ok (.getfield 7, 3) := by decide +kernel
theorem dX9_init_51 : decode cX9_init 51 = .ok (.iconst 1, 1) := by decide +kernel
theorem dX9_init_52 : decode cX9_init 52 = .ok (.iconst 1, 1) := by decide +kernel
theorem dX9_init_53 : decode cX9_init 53 = .ok (.iastore, 1) := by decide +kernel
theorem dX9_init_54 : decode cX9_init 54 = .ok (.return_, 1) := by decide +kernel
theorem dX9_in_0 : decode cX9_in 0 = .ok (.iload_n 0, 1) := by decide +kernel
theorem dX9_in_1 : decode cX9_in 1 = .ok (.iload_n 1, 1) := by decide +kernel
theorem dX9_in_2 : decode cX9_in 2 = .ok (.if_icmp .lt 12, 3) := by decide +kernel
theorem dX9_in_5 : decode cX9_in 5 = .ok (.iload_n 0, 1) := by decide +kernel
theorem dX9_in_6 : decode cX9_in 6 = .ok (.iload_n 2, 1) := by decide +kernel
theorem dX9_in_7 : decode cX9_in 7 = .ok (.if_icmp .gt 7, 3) := by decide +kernel
theorem dX9_in_10 : decode cX9_in 10 = .ok (.iconst 1, 1) := by decide +kernel
theorem dX9_in_11 : decode cX9_in 11 = .ok (.goto 4, 3) := by decide +kernel
theorem dX9_in_14 : decode cX9_in 14 = .ok (.iconst 0, 1) := by decide +kernel
theorem dX9_in_15 : decode cX9_in 15 = .ok (.ireturn, 1) := by decide +kernel
theorem dX9_copies_0 : decode cX9_copies 0 = .ok (.iconst 0, 1) := by decide +kernel
theorem dX9_copies_1 : decode cX9_copies 1 = .ok (.istore_n 3, 1) := by decide +kernel
theorem dX9_copies_2 : decode cX9_copies 2 = .ok (.iload_n 3, 1) := by decide +kernel
theorem dX9_copies_3 : decode cX9_copies 3 = .ok (.sipush 176, 3) := by decide +kernel
theorem dX9_copies_6 : decode cX9_copies 6 = .ok (.if_icmp .ge 33, 3) := by decide +kernel
theorem dX9_copies_9 : decode cX9_copies 9 = .ok (.aload_n 0, 1) := by decide +kernel
theorem dX9_copies_10 : decode cX9_copies 10 = .ok (.getfield 7, 3) := by decide +kernel
theorem dX9_copies_13 : decode cX9_copies 13 = .ok (.sipush 176, 3) := by decide +kernel
theorem dX9_copies_16 : decode cX9_copies 16 = .ok (.iload_n 2, 1) := by decide +kernel
theorem dX9_copies_17 : decode cX9_copies 17 = .ok (.imul, 1) := by decide +kernel
theorem dX9_copies_18 : decode cX9_copies 18 = .ok (.iload_n 3, 1) := by decide +kernel
theorem dX9_copies_19 : decode cX9_copies 19 = .ok (.iadd, 1) := by decide +kernel
theorem dX9_copies_20 : decode cX9_copies 20 = .ok (.aload_n 0, 1) := by decide +kernel
theorem dX9_copies_21 : decode cX9_copies 21 = .ok (.getfield 7, 3) := by decide +kernel
theorem dX9_copies_24 : decode cX9_copies 24 = .ok (.sipush 176, 3) := by decide +kernel
theorem dX9_copies_27 : decode cX9_copies 27 = .ok (.iload_n 1, 1) := by decide +kernel
theorem dX9_copies_28 : decode cX9_copies 28 = .ok (.imul, 1) := by decide +kernel
theorem dX9_copies_29 : decode cX9_copies 29 = .ok (.iload_n 3, 1) := by decide +kernel
theorem dX9_copies_30 : decode cX9_copies 30 = .ok (.iadd, 1) := by decide +kernel
theorem dX9_copies_31 : decode cX9_copies 31 = .ok (.iaload, 1) := by decide +kernel
theorem dX9_copies_32 : decode cX9_copies 32 = .ok (.iastore, 1) := by decide +kernel
theorem dX9_copies_33 : decode cX9_copies 33 = .ok (.iinc 3 1, 3) := by decide +kernel
theorem dX9_copies_36 : decode cX9_copies 36 = .ok (.goto (-34), 3) := by decide +kernel
theorem dX9_copies_39 : decode cX9_copies 39 = .ok (.return_, 1) := by decide +kernel
theorem dX9_records_0 : decode cX9_records 0 = .ok (.aload_n 0, 1) := by decide +kernel
theorem dX9_records_1 : decode cX9_records 1 = .ok (.getfield 24, 3) := by decide +kernel
theorem dX9_records_4 : decode cX9_records 4 = .ok (.iconst 4, 1) := by decide +kernel
theorem dX9_records_5 : decode cX9_records 5 = .ok (.if_icmp .ne 34, 3) := by decide +kernel
theorem dX9_records_8 : decode cX9_records 8 = .ok (.iconst 1, 1) := by decide +kernel
theorem dX9_records_9 : decode cX9_records 9 = .ok (.istore_n 1, 1) := by decide +kernel
theorem dX9_records_10 : decode cX9_records 10 = .ok (.iload_n 1, 1) := by decide +kernel
theorem dX9_records_11 : decode cX9_records 11 = .ok (.iconst 4, 1) := by decide +kernel
theorem dX9_records_12 : decode cX9_records 12 = .ok (.if_icmp .ge 17, 3) := by decide +kernel
theorem dX9_records_15 : decode cX9_records 15 = .ok (.aload_n 0, 1) := by decide +kernel
theorem dX9_records_16 : decode cX9_records 16 = .ok (.iload_n 1, 1) := by decide +kernel
theorem dX9_records_17 : decode cX9_records 17 = .ok (.iconst 1, 1) := by decide +kernel
theorem dX9_records_18 : decode cX9_records 18 = .ok (.iadd, 1) := by decide +kernel
theorem dX9_records_19 : decode cX9_records 19 = .ok (.iload_n 1, 1) := by decide +kernel
theorem dX9_records_20 : decode cX9_records 20 = .ok (.invokevirtual 28, 3) := by decide +kernel
theorem dX9_records_23 : decode cX9_records 23 = .ok (.iinc 1 1, 3) := by decide +kernel
theorem dX9_records_26 : decode cX9_records 26 = .ok (.goto (-16), 3) := by decide +kernel
theorem dX9_records_29 : decode cX9_records 29 = .ok (.aload_n 0, 1) := by decide +kernel
theorem dX9_records_30 : decode cX9_records 30 = .ok (.dup, 1) := by decide +kernel
theorem dX9_records_31 : decode cX9_records 31 = .ok (.getfield 24, 3) := by decide +kernel
theorem dX9_records_34 : decode cX9_records 34 = .ok (.iconst 1, 1) := by decide +kernel
theorem dX9_records_35 : decode cX9_records 35 = .ok (.isub, 1) := by decide +kernel
theorem dX9_records_36 : decode cX9_records 36 = .ok (.putfield 24, 3) := by decide +kernel
theorem dX9_records_39 : decode cX9_records 39 = .ok (.aload_n 0, 1) := by decide +kernel
theorem dX9_records_40 : decode cX9_records 40 = .ok (.dup, 1) := by decide +kernel
theorem dX9_records_41 : decode cX9_records 41 = .ok (.getfield 24, 3) := by decide +kernel
theorem dX9_records_44 : decode cX9_records 44 = .ok (.iconst 1, 1) := by decide +kernel
theorem dX9_records_45 : decode cX9_records 45 = .ok (.iadd, 1) := by decide +kernel
theorem dX9_records_46 : decode cX9_records 46 = .ok (.putfield 24, 3) := by decide +kernel
theorem dX9_records_49 : decode cX9_records 49 = .ok (.aload_n 0, 1) := by decide +kernel
theorem dX9_records_50 : decode cX9_records 50 = .ok (.iconst 0, 1) := by decide +kernel
theorem dX9_records_51 : decode cX9_records 51 = .ok (.aload_n 0, 1) := by decide +kernel
theorem dX9_records_52 : decode cX9_records 52 = .ok (.getfield 24, 3) := by decide +kernel
theorem dX9_records_55 : decode cX9_records 55 = .ok (.invokevirtual 28, 3) := by decide +kernel
theorem dX9_records_58 : decode cX9_records 58 = .ok (.return_, 1) := by decide +kernel
theorem dX9_isOut_0 : decode cX9_isOut 0 = .ok (.aload_n 0, 1) := by decide +kernel
theorem dX9_isOut_1 : decode cX9_isOut 1 = .ok (.getfield 7, 3) := by decide +kernel
theorem dX9_isOut_4 : decode cX9_isOut 4 = .ok (.iconst 0, 1) := by decide +kernel
theorem dX9_isOut_5 : decode cX9_isOut 5 = .ok (.iaload, 1) := by decide +kernel
theorem dX9_isOut_6 : decode cX9_isOut 6 = .ok (.iload_n 1, 1) := by decide +kernel
theorem dX9_isOut_7 : decode cX9_isOut 7 = .ok (.ishr, 1) := by decide +kernel
theorem dX9_isOut_8 : decode cX9_isOut 8 = .ok (.iconst 1, 1) := by decide +kernel
theorem dX9_isOut_9 : decode cX9_isOut 9 = .ok (.iand, 1) := by decide +kernel
theorem dX9_isOut_10 : decode cX9_isOut 10 = .ok (.iconst 1, 1) := by decide +kernel
theorem dX9_isOut_11 : decode cX9_isOut 11 = .ok (.if_icmp .ne 7, 3) := by decide +kernel
theorem dX9_isOut_14 : decode cX9_isOut 14 = .ok (.iconst 1, 1) := by decide +kernel
theorem dX9_isOut_15 : decode cX9_isOut 15 = .ok (.goto 4, 3) := by decide +kernel
theorem dX9_isOut_18 : decode cX9_isOut 18 = .ok (.iconst 0, 1) := by decide +kernel
theorem dX9_isOut_19 : decode cX9_isOut 19 = .ok (.ireturn, 1) := by decide +kernel
theorem dX9_letters_0 : decode cX9_letters 0 = .ok (.iconst 0, 1) := by decide +kernel
theorem dX9_letters_1 : decode cX9_letters 1 = .ok (.istore_n 1, 1) := by decide +kernel
theorem dX9_letters_2 : decode cX9_letters 2 = .ok (.iconst 0, 1) := by decide +kernel
theorem dX9_letters_3 : decode cX9_letters 3 = .ok (.istore_n 2, 1) := by decide +kernel
theorem dX9_letters_4 : decode cX9_letters 4 = .ok (.iload_n 2, 1) := by decide +kernel
theorem dX9_letters_5 : decode cX9_letters 5 = .ok (.bipush 26, 2) := by decide +kernel
theorem dX9_letters_7 : decode cX9_letters 7 = .ok (.if_icmp .ge 25, 3) := by decide +kernel
theorem dX9_letters_10 : decode cX9_letters 10 = .ok (.iload_n 1, 1) := by decide +kernel
theorem dX9_letters_11 : decode cX9_letters 11 = .ok (.aload_n 0, 1) := by decide +kernel
theorem dX9_letters_12 : decode cX9_letters 12 = .ok (.iload_n 2, 1) := by decide +kernel
theorem dX9_letters_13 : decode cX9_letters 13 = .ok (.invokevirtual 32, 3) := by decide +kernel
theorem dX9_letters_16 : decode cX9_letters 16 = .ok (.ifCond .eq 7, 3) := by decide +kernel
theorem dX9_letters_19 : decode cX9_letters 19 = .ok (.iconst 0, 1) := by decide +kernel
theorem dX9_letters_20 : decode cX9_letters 20 = .ok (.goto 4, 3) := by decide +kernel
theorem dX9_letters_23 : decode cX9_letters 23 = .ok (.iconst 1, 1) := by decide +kernel
theorem dX9_letters_24 : decode cX9_letters 24 = .ok (.iadd, 1) := by decide +kernel
theorem dX9_letters_25 : decode cX9_letters 25 = .ok (.istore_n 1, 1) := by decide +kernel
theorem dX9_letters_26 : decode cX9_letters 26 = .ok (.iinc 2 1, 3) := by decide +kernel
theorem dX9_letters_29 : decode cX9_letters 29 = .ok (.goto (-25), 3) := by decide +kernel
theorem dX9_letters_32 : decode cX9_letters 32 = .ok (.iload_n 1, 1) := by decide +kernel
theorem dX9_letters_33 : decode cX9_letters 33 = .ok (.ireturn, 1) := by decide +kernel
theorem dX9_next_0 : decode cX9_next 0 = .ok (.iload_n 1, 1) := by decide +kernel
theorem dX9_next_1 : decode cX9_next 1 = .ok (.iconst 1, 1) := by decide +kernel
theorem dX9_next_2 : decode cX9_next 2 = .ok (.iadd, 1) := by decide +kernel
theorem dX9_next_3 : decode cX9_next 3 = .ok (.istore_n 2, 1) := by decide +kernel
theorem dX9_next_4 : decode cX9_next 4 = .ok (.iload_n 2, 1) := by decide +kernel
theorem dX9_next_5 : decode cX9_next 5 = .ok (.bipush 78, 2) := by decide +kernel
theorem dX9_next_7 : decode cX9_next 7 = .ok (.if_icmp .ge 20, 3) := by decide +kernel
theorem dX9_next_10 : decode cX9_next 10 = .ok (.aload_n 0, 1) := by decide +kernel
theorem dX9_next_11 : decode cX9_next 11 = .ok (.iload_n 2, 1) := by decide +kernel
theorem dX9_next_12 : decode cX9_next 12 = .ok (.bipush 26, 2) := by decide +kernel
theorem dX9_next_14 : decode cX9_next 14 = .ok (.irem, 1) := by decide +kernel
theorem dX9_next_15 : decode cX9_next 15 = .ok (.invokevirtual 32, 3) := by decide +kernel
theorem dX9_next_18 : decode cX9_next 18 = .ok (.ifCond .eq 9, 3) := by decide +kernel
theorem dX9_next_21 : decode cX9_next 21 = .ok (.iinc 2 1, 3) := by decide +kernel
theorem dX9_next_24 : decode cX9_next 24 = .ok (.goto (-20), 3) := by decide +kernel
theorem dX9_next_27 : decode cX9_next 27 = .ok (.iload_n 2, 1) := by decide +kernel
theorem dX9_next_28 : decode cX9_next 28 = .ok (.bipush 78, 2) := by decide +kernel
theorem dX9_next_30 : decode cX9_next 30 = .ok (.if_icmp .ge 7, 3) := by decide +kernel
theorem dX9_next_33 : decode cX9_next 33 = .ok (.iload_n 2, 1) := by decide +kernel
theorem dX9_next_34 : decode cX9_next 34 = .ok (.goto 4, 3) := by decide +kernel
theorem dX9_next_37 : decode cX9_next 37 = .ok (.iconst (-1), 1) := by decide +kernel
theorem dX9_next_38 : decode cX9_next 38 = .ok (.ireturn, 1) := by decide +kernel
theorem dX9_of_0 : decode cX9_of 0 = .ok (.iconst 3, 1) := by decide +kernel
theorem dX9_of_1 : decode cX9_of 1 = .ok (.iconst 4, 1) := by decide +kernel
theorem dX9_of_2 : decode cX9_of 2 = .ok (.iload_n 0, 1) := by decide +kernel
theorem dX9_of_3 : decode cX9_of 3 = .ok (.imul, 1) := by decide +kernel
theorem dX9_of_4 : decode cX9_of 4 = .ok (.iadd, 1) := by decide +kernel
theorem dX9_of_5 : decode cX9_of 5 = .ok (.iload_n 1, 1) := by decide +kernel
theorem dX9_of_6 : decode cX9_of 6 = .ok (.iadd, 1) := by decide +kernel
theorem dX9_of_7 : decode cX9_of 7 = .ok (.ireturn, 1) := by decide +kernel
theorem dX9_isStarred_0 : decode cX9_isStarred 0 = .ok (.aload_n 0, 1) := by decide +kernel
theorem dX9_isStarred_1 : decode cX9_isStarred 1 = .ok (.getfield 7, 3) := by decide +kernel
theorem dX9_isStarred_4 : decode cX9_isStarred 4 = .ok (.iload_n 1, 1) := by decide +kernel
theorem dX9_isStarred_5 : decode cX9_isStarred 5 = .ok (.iconst 1, 1) := by decide +kernel
theorem dX9_isStarred_6 : decode cX9_isStarred 6 = .ok (.invokestatic 36, 3) := by decide +kernel
theorem dX9_isStarred_9 : decode cX9_isStarred 9 = .ok (.iaload, 1) := by decide +kernel
theorem dX9_isStarred_10 : decode cX9_isStarred 10 = .ok (.ifCond .ge 7, 3) := by decide +kernel
theorem dX9_isStarred_13 : decode cX9_isStarred 13 = .ok (.iconst 1, 1) := by decide +kernel
theorem dX9_isStarred_14 : decode cX9_isStarred 14 = .ok (.goto 4, 3) := by decide +kernel
theorem dX9_isStarred_17 : decode cX9_isStarred 17 = .ok (.iconst 0, 1) := by decide +kernel
theorem dX9_isStarred_18 : decode cX9_isStarred 18 = .ok (.ireturn, 1) := by decide +kernel
theorem dX9_sign_0 : decode cX9_sign 0 = .ok (.bipush 26, 2) := by decide +kernel
theorem dX9_sign_2 : decode cX9_sign 2 = .ok (.aload_n 0, 1) := by decide +kernel
theorem dX9_sign_3 : decode cX9_sign 3 = .ok (.getfield 7, 3) := by decide +kernel
theorem dX9_sign_6 : decode cX9_sign 6 = .ok (.iload_n 1, 1) := by decide +kernel
theorem dX9_sign_7 : decode cX9_sign 7 = .ok (.iconst 0, 1) := by decide +kernel
theorem dX9_sign_8 : decode cX9_sign 8 = .ok (.invokestatic 36, 3) := by decide +kernel
theorem dX9_sign_11 : decode cX9_sign 11 = .ok (.iaload, 1) := by decide +kernel
theorem dX9_sign_12 : decode cX9_sign 12 = .ok (.iconst 1, 1) := by decide +kernel
theorem dX9_sign_13 : decode cX9_sign 13 = .ok (.isub, 1) := by decide +kernel
theorem dX9_sign_14 : decode cX9_sign 14 = .ok (.imul, 1) := by decide +kernel
theorem dX9_sign_15 : decode cX9_sign 15 = .ok (.aload_n 0, 1) := by decide +kernel
theorem dX9_sign_16 : decode cX9_sign 16 = .ok (.getfield 7, 3) := by decide +kernel
theorem dX9_sign_19 : decode cX9_sign 19 = .ok (.iload_n 1, 1) := by decide +kernel
theorem dX9_sign_20 : decode cX9_sign 20 = .ok (.iconst 1, 1) := by decide +kernel
theorem dX9_sign_21 : decode cX9_sign 21 = .ok (.invokestatic 36, 3) := by decide +kernel
theorem dX9_sign_24 : decode cX9_sign 24 = .ok (.iaload, 1) := by decide +kernel
theorem dX9_sign_25 : decode cX9_sign 25 = .ok (.iadd, 1) := by decide +kernel
theorem dX9_sign_26 : decode cX9_sign 26 = .ok (.ireturn, 1) := by decide +kernel
theorem dX9_areSame_0 : decode cX9_areSame 0 = .ok (.aload_n 0, 1) := by decide +kernel
theorem dX9_areSame_1 : decode cX9_areSame 1 = .ok (.getfield 7, 3) := by decide +kernel
theorem dX9_areSame_4 : decode cX9_areSame 4 = .ok (.iload_n 1, 1) := by decide +kernel
theorem dX9_areSame_5 : decode cX9_areSame 5 = .ok (.iconst 0, 1) := by decide +kernel
theorem dX9_areSame_6 : decode cX9_areSame 6 = .ok (.invokestatic 36, 3) := by decide +kernel
theorem dX9_areSame_9 : decode cX9_areSame 9 = .ok (.iaload, 1) := by decide +kernel
theorem dX9_areSame_10 : decode cX9_areSame 10 = .ok (.aload_n 0, 1) := by decide +kernel
theorem dX9_areSame_11 : decode cX9_areSame 11 = .ok (.getfield 7, 3) := by decide +kernel
theorem dX9_areSame_14 : decode cX9_areSame 14 = .ok (.iload_n 2, 1) := by decide +kernel
theorem dX9_areSame_15 : decode cX9_areSame 15 = .ok (.iconst 0, 1) := by decide +kernel
theorem dX9_areSame_16 : decode cX9_areSame 16 = .ok (.invokestatic 36, 3) := by decide +kernel
theorem dX9_areSame_19 : decode cX9_areSame 19 = .ok (.iaload, 1) := by decide +kernel
theorem dX9_areSame_20 : decode cX9_areSame 20 = .ok (.if_icmp .ne 30, 3) := by decide +kernel
theorem dX9_areSame_23 : decode cX9_areSame 23 = .ok (.aload_n 0, 1) := by decide +kernel
theorem dX9_areSame_24 : decode cX9_areSame 24 = .ok (.getfield 7, 3) := by decide +kernel
theorem dX9_areSame_27 : decode cX9_areSame 27 = .ok (.iload_n 1, 1) := by decide +kernel
theorem dX9_areSame_28 : decode cX9_areSame 28 = .ok (.iconst 1, 1) := by decide +kernel
theorem dX9_areSame_29 : decode cX9_areSame 29 = .ok (.invokestatic 36, 3) := by decide +kernel
theorem dX9_areSame_32 : decode cX9_areSame 32 = .ok (.iaload, 1) := by decide +kernel
theorem dX9_areSame_33 : decode cX9_areSame 33 = .ok (.aload_n 0, 1) := by decide +kernel
theorem dX9_areSame_34 : decode cX9_areSame 34 = .ok (.getfield 7, 3) := by decide +kernel
theorem dX9_areSame_37 : decode cX9_areSame 37 = .ok (.iload_n 2, 1) := by decide +kernel
theorem dX9_areSame_38 : decode cX9_areSame 38 = .ok (.iconst 1, 1) := by decide +kernel
theorem dX9_areSame_39 : decode cX9_areSame 39 = .ok (.invokestatic 36, 3) := by decide +kernel
theorem dX9_areSame_42 : decode cX9_areSame 42 = .ok (.iaload, 1) := by decide +kernel
theorem dX9_areSame_43 : decode cX9_areSame 43 = .ok (.if_icmp .ne 7, 3) := by decide +kernel
theorem dX9_areSame_46 : decode cX9_areSame 46 = .ok (.iconst 1, 1) := by decide +kernel
theorem dX9_areSame_47 : decode cX9_areSame 47 = .ok (.goto 4, 3) := by decide +kernel
theorem dX9_areSame_50 : decode cX9_areSame 50 = .ok (.iconst 0, 1) := by decide +kernel
theorem dX9_areSame_51 : decode cX9_areSame 51 = .ok (.ireturn, 1) := by decide +kernel
theorem dX9_isQuire_0 : decode cX9_isQuire 0 = .ok (.iload_n 1, 1) := by decide +kernel
theorem dX9_isQuire_1 : decode cX9_isQuire 1 = .ok (.iconst 0, 1) := by decide +kernel
theorem dX9_isQuire_2 : decode cX9_isQuire 2 = .ok (.aload_n 0, 1) := by decide +kernel
theorem dX9_isQuire_3 : decode cX9_isQuire 3 = .ok (.getfield 7, 3) := by decide +kernel
theorem dX9_isQuire_6 : decode cX9_isQuire 6 = .ok (.iconst 2, 1) := by decide +kernel
theorem dX9_isQuire_7 : decode cX9_isQuire 7 = .ok (.iaload, 1) := by decide +kernel
theorem dX9_isQuire_8 : decode cX9_isQuire 8 = .ok (.iconst 1, 1) := by decide +kernel
theorem dX9_isQuire_9 : decode cX9_isQuire 9 = .ok (.isub, 1) := by decide +kernel
theorem dX9_isQuire_10 : decode cX9_isQuire 10 = .ok (.invokestatic 40, 3) := by decide +kernel
theorem dX9_isQuire_13 : decode cX9_isQuire 13 = .ok (.ireturn, 1) := by decide +kernel
theorem dX9_leaves_0 : decode cX9_leaves 0 = .ok (.iconst 0, 1) := by decide +kernel
theorem dX9_leaves_1 : decode cX9_leaves 1 = .ok (.istore_n 1, 1) := by decide +kernel
theorem dX9_leaves_2 : decode cX9_leaves 2 = .ok (.iconst 0, 1) := by decide +kernel
theorem dX9_leaves_3 : decode cX9_leaves 3 = .ok (.istore_n 2, 1) := by decide +kernel
theorem dX9_leaves_4 : decode cX9_leaves 4 = .ok (.iload_n 2, 1) := by decide +kernel
theorem dX9_leaves_5 : decode cX9_leaves 5 = .ok (.aload_n 0, 1) := by decide +kernel
theorem dX9_leaves_6 : decode cX9_leaves 6 = .ok (.getfield 7, 3) := by decide +kernel
theorem dX9_leaves_9 : decode cX9_leaves 9 = .ok (.iconst 2, 1) := by decide +kernel
theorem dX9_leaves_10 : decode cX9_leaves 10 = .ok (.iaload, 1) := by decide +kernel
theorem dX9_leaves_11 : decode cX9_leaves 11 = .ok (.if_icmp .ge 22, 3) := by decide +kernel
theorem dX9_leaves_14 : decode cX9_leaves 14 = .ok (.iload_n 1, 1) := by decide +kernel
theorem dX9_leaves_15 : decode cX9_leaves 15 = .ok (.aload_n 0, 1) := by decide +kernel
theorem dX9_leaves_16 : decode cX9_leaves 16 = .ok (.getfield 7, 3) := by decide +kernel
theorem dX9_leaves_19 : decode cX9_leaves 19 = .ok (.iload_n 2, 1) := by decide +kernel
theorem dX9_leaves_20 : decode cX9_leaves 20 = .ok (.iconst 2, 1) := by decide +kernel
theorem dX9_leaves_21 : decode cX9_leaves 21 = .ok (.invokestatic 36, 3) := by decide +kernel
theorem dX9_leaves_24 : decode cX9_leaves 24 = .ok (.iaload, 1) := by decide +kernel
theorem dX9_leaves_25 : decode cX9_leaves 25 = .ok (.iadd, 1) := by decide +kernel
theorem dX9_leaves_26 : decode cX9_leaves 26 = .ok (.istore_n 1, 1) := by decide +kernel
theorem dX9_leaves_27 : decode cX9_leaves 27 = .ok (.iinc 2 1, 3) := by decide +kernel
theorem dX9_leaves_30 : decode cX9_leaves 30 = .ok (.goto (-26), 3) := by decide +kernel
theorem dX9_leaves_33 : decode cX9_leaves 33 = .ok (.iload_n 1, 1) := by decide +kernel
theorem dX9_leaves_34 : decode cX9_leaves 34 = .ok (.ireturn, 1) := by decide +kernel
theorem dX9_first_0 : decode cX9_first 0 = .ok (.iconst 0, 1) := by decide +kernel
theorem dX9_first_1 : decode cX9_first 1 = .ok (.istore_n 2, 1) := by decide +kernel
theorem dX9_first_2 : decode cX9_first 2 = .ok (.iconst 0, 1) := by decide +kernel
theorem dX9_first_3 : decode cX9_first 3 = .ok (.istore_n 3, 1) := by decide +kernel
theorem dX9_first_4 : decode cX9_first 4 = .ok (.iload_n 3, 1) := by decide +kernel
theorem dX9_first_5 : decode cX9_first 5 = .ok (.iload_n 1, 1) := by decide +kernel
theorem dX9_first_6 : decode cX9_first 6 = .ok (.if_icmp .ge 22, 3) := by decide +kernel
theorem dX9_first_9 : decode cX9_first 9 = .ok (.iload_n 2, 1) := by decide +kernel
theorem dX9_first_10 : decode cX9_first 10 = .ok (.aload_n 0, 1) := by decide +kernel
theorem dX9_first_11 : decode cX9_first 11 = .ok (.getfield 7, 3) := by decide +kernel
theorem dX9_first_14 : decode cX9_first 14 = .ok (.iload_n 3, 1) := by decide +kernel
theorem dX9_first_15 : decode cX9_first 15 = .ok (.iconst 2, 1) := by decide +kernel
theorem dX9_first_16 : decode cX9_first 16 = .ok (.invokestatic 36, 3) := by decide +kernel
theorem dX9_first_19 : decode cX9_first 19 = .ok (.iaload, 1) := by decide +kernel
theorem dX9_first_20 : decode cX9_first 20 = .ok (.iadd, 1) := by decide +kernel
theorem dX9_first_21 : decode cX9_first 21 = .ok (.istore_n 2, 1) := by decide +kernel
theorem dX9_first_22 : decode cX9_first 22 = .ok (.iinc 3 1, 3) := by decide +kernel
theorem dX9_first_25 : decode cX9_first 25 = .ok (.goto (-21), 3) := by decide +kernel
theorem dX9_first_28 : decode cX9_first 28 = .ok (.iload_n 2, 1) := by decide +kernel
theorem dX9_first_29 : decode cX9_first 29 = .ok (.ireturn, 1) := by decide +kernel
theorem dX9_signed_0 : decode cX9_signed 0 = .ok (.aload_n 0, 1) := by decide +kernel
theorem dX9_signed_1 : decode cX9_signed 1 = .ok (.getfield 7, 3) := by decide +kernel
theorem dX9_signed_4 : decode cX9_signed 4 = .ok (.iload_n 1, 1) := by decide +kernel
theorem dX9_signed_5 : decode cX9_signed 5 = .ok (.iconst 2, 1) := by decide +kernel
theorem dX9_signed_6 : decode cX9_signed 6 = .ok (.invokestatic 36, 3) := by decide +kernel
theorem dX9_signed_9 : decode cX9_signed 9 = .ok (.iaload, 1) := by decide +kernel
theorem dX9_signed_10 : decode cX9_signed 10 = .ok (.istore_n 2, 1) := by decide +kernel
theorem dX9_signed_11 : decode cX9_signed 11 = .ok (.iload_n 2, 1) := by decide +kernel
theorem dX9_signed_12 : decode cX9_signed 12 = .ok (.iconst 1, 1) := by decide +kernel
theorem dX9_signed_13 : decode cX9_signed 13 = .ok (.iadd, 1) := by decide +kernel
theorem dX9_signed_14 : decode cX9_signed 14 = .ok (.iconst 2, 1) := by decide +kernel
theorem dX9_signed_15 : decode cX9_signed 15 = .ok (.idiv, 1) := by decide +kernel
theorem dX9_signed_16 : decode cX9_signed 16 = .ok (.istore_n 3, 1) := by decide +kernel
theorem dX9_signed_17 : decode cX9_signed 17 = .ok (.aload_n 0, 1) := by decide +kernel
theorem dX9_signed_18 : decode cX9_signed 18 = .ok (.getfield 7, 3) := by decide +kernel
theorem dX9_signed_21 : decode cX9_signed 21 = .ok (.iconst 1, 1) := by decide +kernel
theorem dX9_signed_22 : decode cX9_signed 22 = .ok (.iaload, 1) := by decide +kernel
theorem dX9_signed_23 : decode cX9_signed 23 = .ok (.iconst 2, 1) := by decide +kernel
theorem dX9_signed_24 : decode cX9_signed 24 = .ok (.if_icmp .eq 8, 3) := by decide +kernel
theorem dX9_signed_27 : decode cX9_signed 27 = .ok (.iload_n 3, 1) := by decide +kernel
theorem dX9_signed_28 : decode cX9_signed 28 = .ok (.iload_n 2, 1) := by decide +kernel
theorem dX9_signed_29 : decode cX9_signed 29 = .ok (.if_icmp .ne 7, 3) := by decide +kernel
theorem dX9_signed_32 : decode cX9_signed 32 = .ok (.iload_n 2, 1) := by decide +kernel
theorem dX9_signed_33 : decode cX9_signed 33 = .ok (.goto 20, 3) := by decide +kernel
theorem dX9_signed_36 : decode cX9_signed 36 = .ok (.aload_n 0, 1) := by decide +kernel
theorem dX9_signed_37 : decode cX9_signed 37 = .ok (.getfield 7, 3) := by decide +kernel
theorem dX9_signed_40 : decode cX9_signed 40 = .ok (.iconst 1, 1) := by decide +kernel
theorem dX9_signed_41 : decode cX9_signed 41 = .ok (.iaload, 1) := by decide +kernel
theorem dX9_signed_42 : decode cX9_signed 42 = .ok (.iconst 1, 1) := by decide +kernel
theorem dX9_signed_43 : decode cX9_signed 43 = .ok (.if_icmp .ne 9, 3) := by decide +kernel
theorem dX9_signed_46 : decode cX9_signed 46 = .ok (.iload_n 3, 1) := by decide +kernel
theorem dX9_signed_47 : decode cX9_signed 47 = .ok (.iconst 1, 1) := by decide +kernel
theorem dX9_signed_48 : decode cX9_signed 48 = .ok (.iadd, 1) := by decide +kernel
theorem dX9_signed_49 : decode cX9_signed 49 = .ok (.goto 4, 3) := by decide +kernel
theorem dX9_signed_52 : decode cX9_signed 52 = .ok (.iload_n 3, 1) := by decide +kernel
theorem dX9_signed_53 : decode cX9_signed 53 = .ok (.ireturn, 1) := by decide +kernel
theorem dX9_signedOfAll_0 : decode cX9_signedOfAll 0 = .ok (.iconst 0, 1) := by decide +kernel
theorem dX9_signedOfAll_1 : decode cX9_signedOfAll 1 = .ok (.istore_n 1, 1) := by decide +kernel
theorem dX9_signedOfAll_2 : decode cX9_signedOfAll 2 = .ok (.iconst 0, 1) := by decide +kernel
theorem dX9_signedOfAll_3 : decode cX9_signedOfAll 3 = .ok (.istore_n 2, 1) := by decide +kernel
theorem dX9_signedOfAll_4 : decode cX9_signedOfAll 4 = .ok (.iload_n 2, 1) := by decide +kernel
theorem dX9_signedOfAll_5 : decode cX9_signedOfAll 5 = .ok (.aload_n 0, 1) := by decide +kernel
theorem dX9_signedOfAll_6 : decode cX9_signedOfAll 6 = .ok (.getfield 7, 3) := by decide +kernel
theorem dX9_signedOfAll_9 : decode cX9_signedOfAll 9 = .ok (.iconst 2, 1) := by decide +kernel
theorem dX9_signedOfAll_10 : decode cX9_signedOfAll 10 = .ok (.iaload, 1) := by decide +kernel
theorem dX9_signedOfAll_11 : decode cX9_signedOfAll 11 = .ok (.if_icmp .ge 17, 3) := by decide +kernel
theorem dX9_signedOfAll_14 : decode cX9_signedOfAll 14 = .ok (.iload_n 1, 1) := by decide +kernel
theorem dX9_signedOfAll_15 : decode cX9_signedOfAll 15 = .ok (.aload_n 0, 1) := by decide +kernel
theorem dX9_signedOfAll_16 : decode cX9_signedOfAll 16 = .ok (.iload_n 2, 1) := by decide +kernel
theorem dX9_signedOfAll_17 : decode cX9_signedOfAll 17 = .ok (.invokevirtual 44, 3) := by decide +kernel
theorem dX9_signedOfAll_20 : decode cX9_signedOfAll 20 = .ok (.iadd, 1) := by decide +kernel
theorem dX9_signedOfAll_21 : decode cX9_signedOfAll 21 = .ok (.istore_n 1, 1) := by decide +kernel
theorem dX9_signedOfAll_22 : decode cX9_signedOfAll 22 = .ok (.iinc 2 1, 3) := by decide +kernel
theorem dX9_signedOfAll_25 : decode cX9_signedOfAll 25 = .ok (.goto (-21), 3) := by decide +kernel
theorem dX9_signedOfAll_28 : decode cX9_signedOfAll 28 = .ok (.iload_n 1, 1) := by decide +kernel
theorem dX9_signedOfAll_29 : decode cX9_signedOfAll 29 = .ok (.ireturn, 1) := by decide +kernel
theorem dX9_isLeaf_0 : decode cX9_isLeaf 0 = .ok (.iload_n 1, 1) := by decide +kernel
theorem dX9_isLeaf_1 : decode cX9_isLeaf 1 = .ok (.iconst 0, 1) := by decide +kernel
theorem dX9_isLeaf_2 : decode cX9_isLeaf 2 = .ok (.aload_n 0, 1) := by decide +kernel
theorem dX9_isLeaf_3 : decode cX9_isLeaf 3 = .ok (.invokevirtual 48, 3) := by decide +kernel
theorem dX9_isLeaf_6 : decode cX9_isLeaf 6 = .ok (.iconst 1, 1) := by decide +kernel
theorem dX9_isLeaf_7 : decode cX9_isLeaf 7 = .ok (.isub, 1) := by decide +kernel
theorem dX9_isLeaf_8 : decode cX9_isLeaf 8 = .ok (.invokestatic 40, 3) := by decide +kernel
theorem dX9_isLeaf_11 : decode cX9_isLeaf 11 = .ok (.ireturn, 1) := by decide +kernel
theorem dX9_quireOf_0 : decode cX9_quireOf 0 = .ok (.iconst 0, 1) := by decide +kernel
theorem dX9_quireOf_1 : decode cX9_quireOf 1 = .ok (.istore_n 2, 1) := by decide +kernel
theorem dX9_quireOf_2 : decode cX9_quireOf 2 = .ok (.iload_n 1, 1) := by decide +kernel
theorem dX9_quireOf_3 : decode cX9_quireOf 3 = .ok (.aload_n 0, 1) := by decide +kernel
theorem dX9_quireOf_4 : decode cX9_quireOf 4 = .ok (.iload_n 2, 1) := by decide +kernel
theorem dX9_quireOf_5 : decode cX9_quireOf 5 = .ok (.invokevirtual 52, 3) := by decide +kernel
theorem dX9_quireOf_8 : decode cX9_quireOf 8 = .ok (.aload_n 0, 1) := by decide +kernel
theorem dX9_quireOf_9 : decode cX9_quireOf 9 = .ok (.getfield 7, 3) := by decide +kernel
theorem dX9_quireOf_12 : decode cX9_quireOf 12 = .ok (.iload_n 2, 1) := by decide +kernel
theorem dX9_quireOf_13 : decode cX9_quireOf 13 = .ok (.iconst 2, 1) := by decide +kernel
theorem dX9_quireOf_14 : decode cX9_quireOf 14 = .ok (.invokestatic 36, 3) := by decide +kernel
theorem dX9_quireOf_17 : decode cX9_quireOf 17 = .ok (.iaload, 1) := by decide +kernel
theorem dX9_quireOf_18 : decode cX9_quireOf 18 = .ok (.iadd, 1) := by decide +kernel
theorem dX9_quireOf_19 : decode cX9_quireOf 19 = .ok (.if_icmp .lt 9, 3) := by decide +kernel
theorem dX9_quireOf_22 : decode cX9_quireOf 22 = .ok (.iinc 2 1, 3) := by decide +kernel
theorem dX9_quireOf_25 : decode cX9_quireOf 25 = .ok (.goto (-23), 3) := by decide +kernel
theorem dX9_quireOf_28 : decode cX9_quireOf 28 = .ok (.iload_n 2, 1) := by decide +kernel
theorem dX9_quireOf_29 : decode cX9_quireOf 29 = .ok (.ireturn, 1) := by decide +kernel
theorem dX9_isLost_0 : decode cX9_isLost 0 = .ok (.aload_n 0, 1) := by decide +kernel
theorem dX9_isLost_1 : decode cX9_isLost 1 = .ok (.iload_n 1, 1) := by decide +kernel
theorem dX9_isLost_2 : decode cX9_isLost 2 = .ok (.invokevirtual 55, 3) := by decide +kernel
theorem dX9_isLost_5 : decode cX9_isLost 5 = .ok (.istore_n 2, 1) := by decide +kernel
theorem dX9_isLost_6 : decode cX9_isLost 6 = .ok (.aload_n 0, 1) := by decide +kernel
theorem dX9_isLost_7 : decode cX9_isLost 7 = .ok (.getfield 7, 3) := by decide +kernel
theorem dX9_isLost_10 : decode cX9_isLost 10 = .ok (.iload_n 2, 1) := by decide +kernel
theorem dX9_isLost_11 : decode cX9_isLost 11 = .ok (.iconst 3, 1) := by decide +kernel
theorem dX9_isLost_12 : decode cX9_isLost 12 = .ok (.invokestatic 36, 3) := by decide +kernel
theorem dX9_isLost_15 : decode cX9_isLost 15 = .ok (.iaload, 1) := by decide +kernel
theorem dX9_isLost_16 : decode cX9_isLost 16 = .ok (.iload_n 1, 1) := by decide +kernel
theorem dX9_isLost_17 : decode cX9_isLost 17 = .ok (.aload_n 0, 1) := by decide +kernel
theorem dX9_isLost_18 : decode cX9_isLost 18 = .ok (.iload_n 2, 1) := by decide +kernel
theorem dX9_isLost_19 : decode cX9_isLost 19 = .ok (.invokevirtual 52, 3) := by decide +kernel
theorem dX9_isLost_22 : decode cX9_isLost 22 = .ok (.isub, 1) := by decide +kernel
theorem dX9_isLost_23 : decode cX9_isLost 23 = .ok (.ishr, 1) := by decide +kernel
theorem dX9_isLost_24 : decode cX9_isLost 24 = .ok (.iconst 1, 1) := by decide +kernel
theorem dX9_isLost_25 : decode cX9_isLost 25 = .ok (.iand, 1) := by decide +kernel
theorem dX9_isLost_26 : decode cX9_isLost 26 = .ok (.iconst 1, 1) := by decide +kernel
theorem dX9_isLost_27 : decode cX9_isLost 27 = .ok (.if_icmp .ne 7, 3) := by decide +kernel
theorem dX9_isLost_30 : decode cX9_isLost 30 = .ok (.iconst 1, 1) := by decide +kernel
theorem dX9_isLost_31 : decode cX9_isLost 31 = .ok (.goto 4, 3) := by decide +kernel
theorem dX9_isLost_34 : decode cX9_isLost 34 = .ok (.iconst 0, 1) := by decide +kernel
theorem dX9_isLost_35 : decode cX9_isLost 35 = .ok (.ireturn, 1) := by decide +kernel
theorem dX9_there_0 : decode cX9_there 0 = .ok (.aload_n 0, 1) := by decide +kernel
theorem dX9_there_1 : decode cX9_there 1 = .ok (.getfield 7, 3) := by decide +kernel
theorem dX9_there_4 : decode cX9_there 4 = .ok (.iload_n 1, 1) := by decide +kernel
theorem dX9_there_5 : decode cX9_there 5 = .ok (.iconst 2, 1) := by decide +kernel
theorem dX9_there_6 : decode cX9_there 6 = .ok (.invokestatic 36, 3) := by decide +kernel
theorem dX9_there_9 : decode cX9_there 9 = .ok (.iaload, 1) := by decide +kernel
theorem dX9_there_10 : decode cX9_there 10 = .ok (.istore_n 2, 1) := by decide +kernel
theorem dX9_there_11 : decode cX9_there 11 = .ok (.iconst 0, 1) := by decide +kernel
theorem dX9_there_12 : decode cX9_there 12 = .ok (.istore_n 3, 1) := by decide +kernel
theorem dX9_there_13 : decode cX9_there 13 = .ok (.iload_n 3, 1) := by decide +kernel
theorem dX9_there_14 : decode cX9_there 14 = .ok (.bipush 24, 2) := by decide +kernel
theorem dX9_there_16 : decode cX9_there 16 = .ok (.if_icmp .ge 26, 3) := by decide +kernel
theorem dX9_there_19 : decode cX9_there 19 = .ok (.iload_n 2, 1) := by decide +kernel
theorem dX9_there_20 : decode cX9_there 20 = .ok (.aload_n 0, 1) := by decide +kernel
theorem dX9_there_21 : decode cX9_there 21 = .ok (.getfield 7, 3) := by decide +kernel
theorem dX9_there_24 : decode cX9_there 24 = .ok (.iload_n 1, 1) := by decide +kernel
theorem dX9_there_25 : decode cX9_there 25 = .ok (.iconst 3, 1) := by decide +kernel
theorem dX9_there_26 : decode cX9_there 26 = .ok (.invokestatic 36, 3) := by decide +kernel
theorem dX9_there_29 : decode cX9_there 29 = .ok (.iaload, 1) := by decide +kernel
theorem dX9_there_30 : decode cX9_there 30 = .ok (.iload_n 3, 1) := by decide +kernel
theorem dX9_there_31 : decode cX9_there 31 = .ok (.ishr, 1) := by decide +kernel
theorem dX9_there_32 : decode cX9_there 32 = .ok (.iconst 1, 1) := by decide +kernel
theorem dX9_there_33 : decode cX9_there 33 = .ok (.iand, 1) := by decide +kernel
theorem dX9_there_34 : decode cX9_there 34 = .ok (.isub, 1) := by decide +kernel
theorem dX9_there_35 : decode cX9_there 35 = .ok (.istore_n 2, 1) := by decide +kernel
theorem dX9_there_36 : decode cX9_there 36 = .ok (.iinc 3 1, 3) := by decide +kernel
theorem dX9_there_39 : decode cX9_there 39 = .ok (.goto (-26), 3) := by decide +kernel
theorem dX9_there_42 : decode cX9_there 42 = .ok (.iload_n 2, 1) := by decide +kernel
theorem dX9_there_43 : decode cX9_there 43 = .ok (.ireturn, 1) := by decide +kernel
theorem dX9_thereOfAll_0 : decode cX9_thereOfAll 0 = .ok (.iconst 0, 1) := by decide +kernel
theorem dX9_thereOfAll_1 : decode cX9_thereOfAll 1 = .ok (.istore_n 1, 1) := by decide +kernel
theorem dX9_thereOfAll_2 : decode cX9_thereOfAll 2 = .ok (.iconst 0, 1) := by decide +kernel
theorem dX9_thereOfAll_3 : decode cX9_thereOfAll 3 = .ok (.istore_n 2, 1) := by decide +kernel
theorem dX9_thereOfAll_4 : decode cX9_thereOfAll 4 = .ok (.iload_n 2, 1) := by decide +kernel
theorem dX9_thereOfAll_5 : decode cX9_thereOfAll 5 = .ok (.aload_n 0, 1) := by decide +kernel
theorem dX9_thereOfAll_6 : decode cX9_thereOfAll 6 = .ok (.getfield 7, 3) := by decide +kernel
theorem dX9_thereOfAll_9 : decode cX9_thereOfAll 9 = .ok (.iconst 2, 1) := by decide +kernel
theorem dX9_thereOfAll_10 : decode cX9_thereOfAll 10 = .ok (.iaload, 1) := by decide +kernel
theorem dX9_thereOfAll_11 : decode cX9_thereOfAll 11 = .ok (.if_icmp .ge 17, 3) := by decide +kernel
theorem dX9_thereOfAll_14 : decode cX9_thereOfAll 14 = .ok (.iload_n 1, 1) := by decide +kernel
theorem dX9_thereOfAll_15 : decode cX9_thereOfAll 15 = .ok (.aload_n 0, 1) := by decide +kernel
theorem dX9_thereOfAll_16 : decode cX9_thereOfAll 16 = .ok (.iload_n 2, 1) := by decide +kernel
theorem dX9_thereOfAll_17 : decode cX9_thereOfAll 17 = .ok (.invokevirtual 58, 3) := by decide +kernel
theorem dX9_thereOfAll_20 : decode cX9_thereOfAll 20 = .ok (.iadd, 1) := by decide +kernel
theorem dX9_thereOfAll_21 : decode cX9_thereOfAll 21 = .ok (.istore_n 1, 1) := by decide +kernel
theorem dX9_thereOfAll_22 : decode cX9_thereOfAll 22 = .ok (.iinc 2 1, 3) := by decide +kernel
theorem dX9_thereOfAll_25 : decode cX9_thereOfAll 25 = .ok (.goto (-21), 3) := by decide +kernel
theorem dX9_thereOfAll_28 : decode cX9_thereOfAll 28 = .ok (.iload_n 1, 1) := by decide +kernel
theorem dX9_thereOfAll_29 : decode cX9_thereOfAll 29 = .ok (.ireturn, 1) := by decide +kernel
theorem dX9_puts_0 : decode cX9_puts 0 = .ok (.aload_n 0, 1) := by decide +kernel
theorem dX9_puts_1 : decode cX9_puts 1 = .ok (.getfield 7, 3) := by decide +kernel
theorem dX9_puts_4 : decode cX9_puts 4 = .ok (.iconst 2, 1) := by decide +kernel
theorem dX9_puts_5 : decode cX9_puts 5 = .ok (.iaload, 1) := by decide +kernel
theorem dX9_puts_6 : decode cX9_puts 6 = .ok (.iconst 1, 1) := by decide +kernel
theorem dX9_puts_7 : decode cX9_puts 7 = .ok (.isub, 1) := by decide +kernel
theorem dX9_puts_8 : decode cX9_puts 8 = .ok (.istore 5, 2) := by decide +kernel
theorem dX9_puts_10 : decode cX9_puts 10 = .ok (.iload 5, 2) := by decide +kernel
theorem dX9_puts_12 : decode cX9_puts 12 = .ok (.iload_n 1, 1) := by decide +kernel
theorem dX9_puts_13 : decode cX9_puts 13 = .ok (.if_icmp .lt 50, 3) := by decide +kernel
theorem dX9_puts_16 : decode cX9_puts 16 = .ok (.iconst 0, 1) := by decide +kernel
theorem dX9_puts_17 : decode cX9_puts 17 = .ok (.istore 6, 2) := by decide +kernel
theorem dX9_puts_19 : decode cX9_puts 19 = .ok (.iload 6, 2) := by decide +kernel
theorem dX9_puts_21 : decode cX9_puts 21 = .ok (.iconst 4, 1) := by decide +kernel
theorem dX9_puts_22 : decode cX9_puts 22 = .ok (.if_icmp .ge 35, 3) := by decide +kernel
theorem dX9_puts_25 : decode cX9_puts 25 = .ok (.aload_n 0, 1) := by decide +kernel
theorem dX9_puts_26 : decode cX9_puts 26 = .ok (.getfield 7, 3) := by decide +kernel
theorem dX9_puts_29 : decode cX9_puts 29 = .ok (.iload 5, 2) := by decide +kernel
theorem dX9_puts_31 : decode cX9_puts 31 = .ok (.iconst 1, 1) := by decide +kernel
theorem dX9_puts_32 : decode cX9_puts 32 = .ok (.iadd, 1) := by decide +kernel
theorem dX9_puts_33 : decode cX9_puts 33 = .ok (.iload 6, 2) := by decide +kernel
theorem dX9_puts_35 : decode cX9_puts 35 = .ok (.invokestatic 36, 3) := by decide +kernel
theorem dX9_puts_38 : decode cX9_puts 38 = .ok (.aload_n 0, 1) := by decide +kernel
theorem dX9_puts_39 : decode cX9_puts 39 = .ok (.getfield 7, 3) := by decide +kernel
theorem dX9_puts_42 : decode cX9_puts 42 = .ok (.iload 5, 2) := by decide +kernel
theorem dX9_puts_44 : decode cX9_puts 44 = .ok (.iload 6, 2) := by decide +kernel
theorem dX9_puts_46 : decode cX9_puts 46 = .ok (.invokestatic 36, 3) := by decide +kernel
theorem dX9_puts_49 : decode cX9_puts 49 = .ok (.iaload, 1) := by decide +kernel
theorem dX9_puts_50 : decode cX9_puts 50 = .ok (.iastore, 1) := by decide +kernel
theorem dX9_puts_51 : decode cX9_puts 51 = .ok (.iinc 6 1, 3) := by decide +kernel
theorem dX9_puts_54 : decode cX9_puts 54 = .ok (.goto (-35), 3) := by decide +kernel
theorem dX9_puts_57 : decode cX9_puts 57 = .ok (.iinc 5 (-1), 3) := by decide +kernel
theorem dX9_puts_60 : decode cX9_puts 60 = .ok (.goto (-50), 3) := by decide +kernel
theorem dX9_puts_63 : decode cX9_puts 63 = .ok (.aload_n 0, 1) := by decide +kernel
theorem dX9_puts_64 : decode cX9_puts 64 = .ok (.getfield 7, 3) := by decide +kernel
theorem dX9_puts_67 : decode cX9_puts 67 = .ok (.iload_n 1, 1) := by decide +kernel
theorem dX9_puts_68 : decode cX9_puts 68 = .ok (.iconst 0, 1) := by decide +kernel
theorem dX9_puts_69 : decode cX9_puts 69 = .ok (.invokestatic 36, 3) := by decide +kernel
theorem dX9_puts_72 : decode cX9_puts 72 = .ok (.iload_n 2, 1) := by decide +kernel
theorem dX9_puts_73 : decode cX9_puts 73 = .ok (.iastore, 1) := by decide +kernel
theorem dX9_puts_74 : decode cX9_puts 74 = .ok (.aload_n 0, 1) := by decide +kernel
theorem dX9_puts_75 : decode cX9_puts 75 = .ok (.getfield 7, 3) := by decide +kernel
theorem dX9_puts_78 : decode cX9_puts 78 = .ok (.iload_n 1, 1) := by decide +kernel
theorem dX9_puts_79 : decode cX9_puts 79 = .ok (.iconst 1, 1) := by decide +kernel
theorem dX9_puts_80 : decode cX9_puts 80 = .ok (.invokestatic 36, 3) := by decide +kernel
theorem dX9_puts_83 : decode cX9_puts 83 = .ok (.iload_n 3, 1) := by decide +kernel
theorem dX9_puts_84 : decode cX9_puts 84 = .ok (.iastore, 1) := by decide +kernel
theorem dX9_puts_85 : decode cX9_puts 85 = .ok (.aload_n 0, 1) := by decide +kernel
theorem dX9_puts_86 : decode cX9_puts 86 = .ok (.getfield 7, 3) := by decide +kernel
theorem dX9_puts_89 : decode cX9_puts 89 = .ok (.iload_n 1, 1) := by decide +kernel
theorem dX9_puts_90 : decode cX9_puts 90 = .ok (.iconst 2, 1) := by decide +kernel
theorem dX9_puts_91 : decode cX9_puts 91 = .ok (.invokestatic 36, 3) := by decide +kernel
theorem dX9_puts_94 : decode cX9_puts 94 = .ok (.iload 4, 2) := by decide +kernel
theorem dX9_puts_96 : decode cX9_puts 96 = .ok (.iastore, 1) := by decide +kernel
theorem dX9_puts_97 : decode cX9_puts 97 = .ok (.aload_n 0, 1) := by decide +kernel
theorem dX9_puts_98 : decode cX9_puts 98 = .ok (.getfield 7, 3) := by decide +kernel
theorem dX9_puts_101 : decode cX9_puts 101 = .ok (.iload_n 1, 1) := by decide +kernel
theorem dX9_puts_102 : decode cX9_puts 102 = .ok (.iconst 3, 1) := by decide +kernel
theorem dX9_puts_103 : decode cX9_puts 103 = .ok (.invokestatic 36, 3) := by decide +kernel
theorem dX9_puts_106 : decode cX9_puts 106 = .ok (.iconst 0, 1) := by decide +kernel
theorem dX9_puts_107 : decode cX9_puts 107 = .ok (.iastore, 1) := by decide +kernel
theorem dX9_puts_108 : decode cX9_puts 108 = .ok (.aload_n 0, 1) := by decide +kernel
theorem dX9_puts_109 : decode cX9_puts 109 = .ok (.getfield 7, 3) := by decide +kernel
theorem dX9_puts_112 : decode cX9_puts 112 = .ok (.iconst 2, 1) := by decide +kernel
theorem dX9_puts_113 : decode cX9_puts 113 = .ok (.dup2, 1) := by decide +kernel
theorem dX9_puts_114 : decode cX9_puts 114 = .ok (.iaload, 1) := by decide +kernel
theorem dX9_puts_115 : decode cX9_puts 115 = .ok (.iconst 1, 1) := by decide +kernel
theorem dX9_puts_116 : decode cX9_puts 116 = .ok (.iadd, 1) := by decide +kernel
theorem dX9_puts_117 : decode cX9_puts 117 = .ok (.iastore, 1) := by decide +kernel
theorem dX9_puts_118 : decode cX9_puts 118 = .ok (.aload_n 0, 1) := by decide +kernel
theorem dX9_puts_119 : decode cX9_puts 119 = .ok (.getfield 7, 3) := by decide +kernel
theorem dX9_puts_122 : decode cX9_puts 122 = .ok (.sipush 163, 3) := by decide +kernel
theorem dX9_puts_125 : decode cX9_puts 125 = .ok (.iconst 0, 1) := by decide +kernel
theorem dX9_puts_126 : decode cX9_puts 126 = .ok (.iastore, 1) := by decide +kernel
theorem dX9_puts_127 : decode cX9_puts 127 = .ok (.return_, 1) := by decide +kernel
theorem dX9_leaveOut_0 : decode cX9_leaveOut 0 = .ok (.iload_n 1, 1) := by decide +kernel
theorem dX9_leaveOut_1 : decode cX9_leaveOut 1 = .ok (.bipush 65, 2) := by decide +kernel
theorem dX9_leaveOut_3 : decode cX9_leaveOut 3 = .ok (.bipush 90, 2) := by decide +kernel
theorem dX9_leaveOut_5 : decode cX9_leaveOut 5 = .ok (.invokestatic 40, 3) := by decide +kernel
theorem dX9_leaveOut_8 : decode cX9_leaveOut 8 = .ok (.ifCond .ne 5, 3) := by decide +kernel
theorem dX9_leaveOut_11 : decode cX9_leaveOut 11 = .ok (.iconst (-1), 1) := by decide +kernel
theorem dX9_leaveOut_12 : decode cX9_leaveOut 12 = .ok (.ireturn, 1) := by decide +kernel
theorem dX9_leaveOut_13 : decode cX9_leaveOut 13 = .ok (.aload_n 0, 1) := by decide +kernel
theorem dX9_leaveOut_14 : decode cX9_leaveOut 14 = .ok (.iload_n 1, 1) := by decide +kernel
theorem dX9_leaveOut_15 : decode cX9_leaveOut 15 = .ok (.bipush 65, 2) := by decide +kernel
theorem dX9_leaveOut_17 : decode cX9_leaveOut 17 = .ok (.isub, 1) := by decide +kernel
theorem dX9_leaveOut_18 : decode cX9_leaveOut 18 = .ok (.invokevirtual 32, 3) := by decide +kernel
theorem dX9_leaveOut_21 : decode cX9_leaveOut 21 = .ok (.iload_n 2, 1) := by decide +kernel
theorem dX9_leaveOut_22 : decode cX9_leaveOut 22 = .ok (.if_icmp .ne 6, 3) := by decide +kernel
theorem dX9_leaveOut_25 : decode cX9_leaveOut 25 = .ok (.bipush (-5), 2) := by decide +kernel
theorem dX9_leaveOut_27 : decode cX9_leaveOut 27 = .ok (.ireturn, 1) := by decide +kernel
theorem dX9_leaveOut_28 : decode cX9_leaveOut 28 = .ok (.iload_n 2, 1) := by decide +kernel
theorem dX9_leaveOut_29 : decode cX9_leaveOut 29 = .ok (.ifCond .eq 14, 3) := by decide +kernel
theorem dX9_leaveOut_32 : decode cX9_leaveOut 32 = .ok (.aload_n 0, 1) := by decide +kernel
theorem dX9_leaveOut_33 : decode cX9_leaveOut 33 = .ok (.invokevirtual 61, 3) := by decide +kernel
theorem dX9_leaveOut_36 : decode cX9_leaveOut 36 = .ok (.iconst 1, 1) := by decide +kernel
theorem dX9_leaveOut_37 : decode cX9_leaveOut 37 = .ok (.if_icmp .ne 6, 3) := by decide +kernel
theorem dX9_leaveOut_40 : decode cX9_leaveOut 40 = .ok (.bipush (-4), 2) := by decide +kernel
theorem dX9_leaveOut_42 : decode cX9_leaveOut 42 = .ok (.ireturn, 1) := by decide +kernel
theorem dX9_leaveOut_43 : decode cX9_leaveOut 43 = .ok (.aload_n 0, 1) := by decide +kernel
theorem dX9_leaveOut_44 : decode cX9_leaveOut 44 = .ok (.invokevirtual 64, 3) := by decide +kernel
theorem dX9_leaveOut_47 : decode cX9_leaveOut 47 = .ok (.aload_n 0, 1) := by decide +kernel
theorem dX9_leaveOut_48 : decode cX9_leaveOut 48 = .ok (.getfield 7, 3) := by decide +kernel
theorem dX9_leaveOut_51 : decode cX9_leaveOut 51 = .ok (.iconst 0, 1) := by decide +kernel
theorem dX9_leaveOut_52 : decode cX9_leaveOut 52 = .ok (.dup2, 1) := by decide +kernel
theorem dX9_leaveOut_53 : decode cX9_leaveOut 53 = .ok (.iaload, 1) := by decide +kernel
theorem dX9_leaveOut_54 : decode cX9_leaveOut 54 = .ok (.iconst 1, 1) := by decide +kernel
theorem dX9_leaveOut_55 : decode cX9_leaveOut 55 = .ok (.iload_n 1, 1) := by decide +kernel
theorem dX9_leaveOut_56 : decode cX9_leaveOut 56 = .ok (.bipush 65, 2) := by decide +kernel
theorem dX9_leaveOut_58 : decode cX9_leaveOut 58 = .ok (.isub, 1) := by decide +kernel
theorem dX9_leaveOut_59 : decode cX9_leaveOut 59 = .ok (.ishl, 1) := by decide +kernel
theorem dX9_leaveOut_60 : decode cX9_leaveOut 60 = .ok (.ixor, 1) := by decide +kernel
theorem dX9_leaveOut_61 : decode cX9_leaveOut 61 = .ok (.iastore, 1) := by decide +kernel
theorem dX9_leaveOut_62 : decode cX9_leaveOut 62 = .ok (.aload_n 0, 1) := by decide +kernel
theorem dX9_leaveOut_63 : decode cX9_leaveOut 63 = .ok (.invokevirtual 61, 3) := by decide +kernel
theorem dX9_leaveOut_66 : decode cX9_leaveOut 66 = .ok (.ireturn, 1) := by decide +kernel
theorem dX9_setSigning_0 : decode cX9_setSigning 0 = .ok (.iload_n 1, 1) := by decide +kernel
theorem dX9_setSigning_1 : decode cX9_setSigning 1 = .ok (.iconst 0, 1) := by decide +kernel
theorem dX9_setSigning_2 : decode cX9_setSigning 2 = .ok (.iconst 2, 1) := by decide +kernel
theorem dX9_setSigning_3 : decode cX9_setSigning 3 = .ok (.invokestatic 40, 3) := by decide +kernel
theorem dX9_setSigning_6 : decode cX9_setSigning 6 = .ok (.ifCond .ne 6, 3) := by decide +kernel
theorem dX9_setSigning_9 : decode cX9_setSigning 9 = .ok (.bipush (-2), 2) := by decide +kernel
theorem dX9_setSigning_11 : decode cX9_setSigning 11 = .ok (.ireturn, 1) := by decide +kernel
theorem dX9_setSigning_12 : decode cX9_setSigning 12 = .ok (.aload_n 0, 1) := by decide +kernel
theorem dX9_setSigning_13 : decode cX9_setSigning 13 = .ok (.getfield 7, 3) := by decide +kernel
theorem dX9_setSigning_16 : decode cX9_setSigning 16 = .ok (.iconst 1, 1) := by decide +kernel
theorem dX9_setSigning_17 : decode cX9_setSigning 17 = .ok (.iaload, 1) := by decide +kernel
theorem dX9_setSigning_18 : decode cX9_setSigning 18 = .ok (.iload_n 1, 1) := by decide +kernel
theorem dX9_setSigning_19 : decode cX9_setSigning 19 = .ok (.if_icmp .ne 6, 3) := by decide +kernel
theorem dX9_setSigning_22 : decode cX9_setSigning 22 = .ok (.bipush (-5), 2) := by decide +kernel
theorem dX9_setSigning_24 : decode cX9_setSigning 24 = .ok (.ireturn, 1) := by decide +kernel
theorem dX9_setSigning_25 : decode cX9_setSigning 25 = .ok (.aload_n 0, 1) := by decide +kernel
theorem dX9_setSigning_26 : decode cX9_setSigning 26 = .ok (.invokevirtual 64, 3) := by decide +kernel
theorem dX9_setSigning_29 : decode cX9_setSigning 29 = .ok (.aload_n 0, 1) := by decide +kernel
theorem dX9_setSigning_30 : decode cX9_setSigning 30 = .ok (.getfield 7, 3) := by decide +kernel
theorem dX9_setSigning_33 : decode cX9_setSigning 33 = .ok (.iconst 1, 1) := by decide +kernel
theorem dX9_setSigning_34 : decode cX9_setSigning 34 = .ok (.iload_n 1, 1) := by decide +kernel
theorem dX9_setSigning_35 : decode cX9_setSigning 35 = .ok (.iastore, 1) := by decide +kernel
theorem dX9_setSigning_36 : decode cX9_setSigning 36 = .ok (.aload_n 0, 1) := by decide +kernel
theorem dX9_setSigning_37 : decode cX9_setSigning 37 = .ok (.invokevirtual 67, 3) := by decide +kernel
theorem dX9_setSigning_40 : decode cX9_setSigning 40 = .ok (.ireturn, 1) := by decide +kernel
theorem dX9_isNext_0 : decode cX9_isNext 0 = .ok (.aload_n 0, 1) := by decide +kernel
theorem dX9_isNext_1 : decode cX9_isNext 1 = .ok (.getfield 70, 3) := by decide +kernel
theorem dX9_isNext_4 : decode cX9_isNext 4 = .ok (.ifCond .eq 35, 3) := by decide +kernel
theorem dX9_isNext_7 : decode cX9_isNext 7 = .ok (.aload_n 0, 1) := by decide +kernel
theorem dX9_isNext_8 : decode cX9_isNext 8 = .ok (.getfield 74, 3) := by decide +kernel
theorem dX9_isNext_11 : decode cX9_isNext 11 = .ok (.aload_n 0, 1) := by decide +kernel
theorem dX9_isNext_12 : decode cX9_isNext 12 = .ok (.getfield 77, 3) := by decide +kernel
theorem dX9_isNext_15 : decode cX9_isNext 15 = .ok (.if_icmp .ge 24, 3) := by decide +kernel
theorem dX9_isNext_18 : decode cX9_isNext 18 = .ok (.aload_n 0, 1) := by decide +kernel
theorem dX9_isNext_19 : decode cX9_isNext 19 = .ok (.getfield 13, 3) := by decide +kernel
theorem dX9_isNext_22 : decode cX9_isNext 22 = .ok (.aload_n 0, 1) := by decide +kernel
theorem dX9_isNext_23 : decode cX9_isNext 23 = .ok (.getfield 74, 3) := by decide +kernel
theorem dX9_isNext_26 : decode cX9_isNext 26 = .ok (.caload, 1) := by decide +kernel
theorem dX9_isNext_27 : decode cX9_isNext 27 = .ok (.iload_n 1, 1) := by decide +kernel
theorem dX9_isNext_28 : decode cX9_isNext 28 = .ok (.iload_n 2, 1) := by decide +kernel
theorem dX9_isNext_29 : decode cX9_isNext 29 = .ok (.invokestatic 40, 3) := by decide +kernel
theorem dX9_isNext_32 : decode cX9_isNext 32 = .ok (.ifCond .eq 7, 3) := by decide +kernel
theorem dX9_isNext_35 : decode cX9_isNext 35 = .ok (.iconst 1, 1) := by decide +kernel
theorem dX9_isNext_36 : decode cX9_isNext 36 = .ok (.goto 4, 3) := by decide +kernel
theorem dX9_isNext_39 : decode cX9_isNext 39 = .ok (.iconst 0, 1) := by decide +kernel
theorem dX9_isNext_40 : decode cX9_isNext 40 = .ok (.ireturn, 1) := by decide +kernel
theorem dX9_reads_0 : decode cX9_reads 0 = .ok (.aload_n 0, 1) := by decide +kernel
theorem dX9_reads_1 : decode cX9_reads 1 = .ok (.iconst 0, 1) := by decide +kernel
theorem dX9_reads_2 : decode cX9_reads 2 = .ok (.putfield 80, 3) := by decide +kernel
theorem dX9_reads_5 : decode cX9_reads 5 = .ok (.aload_n 0, 1) := by decide +kernel
theorem dX9_reads_6 : decode cX9_reads 6 = .ok (.iconst (-1), 1) := by decide +kernel
theorem dX9_reads_7 : decode cX9_reads 7 = .ok (.putfield 83, 3) := by decide +kernel
theorem dX9_reads_10 : decode cX9_reads 10 = .ok (.aload_n 0, 1) := by decide +kernel
theorem dX9_reads_11 : decode cX9_reads 11 = .ok (.bipush 42, 2) := by decide +kernel
theorem dX9_reads_13 : decode cX9_reads 13 = .ok (.bipush 42, 2) := by decide +kernel
theorem dX9_reads_15 : decode cX9_reads 15 = .ok (.invokevirtual 86, 3) := by decide +kernel
theorem dX9_reads_18 : decode cX9_reads 18 = .ok (.ifCond .eq 46, 3) := by decide +kernel
theorem dX9_reads_21 : decode cX9_reads 21 = .ok (.aload_n 0, 1) := by decide +kernel
theorem dX9_reads_22 : decode cX9_reads 22 = .ok (.getfield 80, 3) := by decide +kernel
theorem dX9_reads_25 : decode cX9_reads 25 = .ok (.iconst 5, 1) := by decide +kernel
theorem dX9_reads_26 : decode cX9_reads 26 = .ok (.if_icmp .ge 37, 3) := by decide +kernel
theorem dX9_reads_29 : decode cX9_reads 29 = .ok (.aload_n 0, 1) := by decide +kernel
theorem dX9_reads_30 : decode cX9_reads 30 = .ok (.bipush 42, 2) := by decide +kernel
theorem dX9_reads_32 : decode cX9_reads 32 = .ok (.bipush 42, 2) := by decide +kernel
theorem dX9_reads_34 : decode cX9_reads 34 = .ok (.invokevirtual 86, 3) := by decide +kernel
theorem dX9_reads_37 : decode cX9_reads 37 = .ok (.ifCond .eq 26, 3) := by decide +kernel
theorem dX9_reads_40 : decode cX9_reads 40 = .ok (.aload_n 0, 1) := by decide +kernel
theorem dX9_reads_41 : decode cX9_reads 41 = .ok (.dup, 1) := by decide +kernel
theorem dX9_reads_42 : decode cX9_reads 42 = .ok (.getfield 80, 3) := by decide +kernel
theorem dX9_reads_45 : decode cX9_reads 45 = .ok (.iconst 1, 1) := by decide +kernel
theorem dX9_reads_46 : decode cX9_reads 46 = .ok (.iadd, 1) := by decide +kernel
theorem dX9_reads_47 : decode cX9_reads 47 = .ok (.putfield 80, 3) := by decide +kernel
theorem dX9_reads_50 : decode cX9_reads 50 = .ok (.aload_n 0, 1) := by decide +kernel
theorem dX9_reads_51 : decode cX9_reads 51 = .ok (.dup, 1) := by decide +kernel
theorem dX9_reads_52 : decode cX9_reads 52 = .ok (.getfield 74, 3) := by decide +kernel
theorem dX9_reads_55 : decode cX9_reads 55 = .ok (.iconst 1, 1) := by decide +kernel
theorem dX9_reads_56 : decode cX9_reads 56 = .ok (.iadd, 1) := by decide +kernel
theorem dX9_reads_57 : decode cX9_reads 57 = .ok (.putfield 74, 3) := by decide +kernel
theorem dX9_reads_60 : decode cX9_reads 60 = .ok (.goto (-39), 3) := by decide +kernel
theorem dX9_reads_63 : decode cX9_reads 63 = .ok (.return_, 1) := by decide +kernel
theorem dX9_reads_64 : decode cX9_reads 64 = .ok (.aload_n 0, 1) := by decide +kernel
theorem dX9_reads_65 : decode cX9_reads 65 = .ok (.aload_n 0, 1) := by decide +kernel
theorem dX9_reads_66 : decode cX9_reads 66 = .ok (.bipush 65, 2) := by decide +kernel
theorem dX9_reads_68 : decode cX9_reads 68 = .ok (.bipush 90, 2) := by decide +kernel
theorem dX9_reads_70 : decode cX9_reads 70 = .ok (.invokevirtual 86, 3) := by decide +kernel
theorem dX9_reads_73 : decode cX9_reads 73 = .ok (.ifCond .eq 30, 3) := by decide +kernel
theorem dX9_reads_76 : decode cX9_reads 76 = .ok (.iload_n 1, 1) := by decide +kernel
theorem dX9_reads_77 : decode cX9_reads 77 = .ok (.ifCond .eq 22, 3) := by decide +kernel
theorem dX9_reads_80 : decode cX9_reads 80 = .ok (.aload_n 0, 1) := by decide +kernel
theorem dX9_reads_81 : decode cX9_reads 81 = .ok (.aload_n 0, 1) := by decide +kernel
theorem dX9_reads_82 : decode cX9_reads 82 = .ok (.getfield 13, 3) := by decide +kernel
theorem dX9_reads_85 : decode cX9_reads 85 = .ok (.aload_n 0, 1) := by decide +kernel
theorem dX9_reads_86 : decode cX9_reads 86 = .ok (.getfield 74, 3) := by decide +kernel
theorem dX9_reads_89 : decode cX9_reads 89 = .ok (.caload, 1) := by decide +kernel
theorem dX9_reads_90 : decode cX9_reads 90 = .ok (.bipush 65, 2) := by decide +kernel
theorem dX9_reads_92 : decode cX9_reads 92 = .ok (.isub, 1) := by decide +kernel
theorem dX9_reads_93 : decode cX9_reads 93 = .ok (.invokevirtual 32, 3) := by decide +kernel
theorem dX9_reads_96 : decode cX9_reads 96 = .ok (.ifCond .ne 7, 3) := by decide +kernel
theorem dX9_reads_99 : decode cX9_reads 99 = .ok (.iconst 1, 1) := by decide +kernel
theorem dX9_reads_100 : decode cX9_reads 100 = .ok (.goto 4, 3) := by decide +kernel
theorem dX9_reads_103 : decode cX9_reads 103 = .ok (.iconst 0, 1) := by decide +kernel
theorem dX9_reads_104 : decode cX9_reads 104 = .ok (.putfield 70, 3) := by decide +kernel
theorem dX9_reads_107 : decode cX9_reads 107 = .ok (.aload_n 0, 1) := by decide +kernel
theorem dX9_reads_108 : decode cX9_reads 108 = .ok (.getfield 70, 3) := by decide +kernel
theorem dX9_reads_111 : decode cX9_reads 111 = .ok (.ifCond .eq 86, 3) := by decide +kernel
theorem dX9_reads_114 : decode cX9_reads 114 = .ok (.aload_n 0, 1) := by decide +kernel
theorem dX9_reads_115 : decode cX9_reads 115 = .ok (.aload_n 0, 1) := by decide +kernel
theorem dX9_reads_116 : decode cX9_reads 116 = .ok (.getfield 13, 3) := by decide +kernel
theorem dX9_reads_119 : decode cX9_reads 119 = .ok (.aload_n 0, 1) := by decide +kernel
theorem dX9_reads_120 : decode cX9_reads 120 = .ok (.getfield 74, 3) := by decide +kernel
theorem dX9_reads_123 : decode cX9_reads 123 = .ok (.caload, 1) := by decide +kernel
theorem dX9_reads_124 : decode cX9_reads 124 = .ok (.bipush 65, 2) := by decide +kernel
theorem dX9_reads_126 : decode cX9_reads 126 = .ok (.isub, 1) := by decide +kernel
theorem dX9_reads_127 : decode cX9_reads 127 = .ok (.putfield 83, 3) := by decide +kernel
theorem dX9_reads_130 : decode cX9_reads 130 = .ok (.aload_n 0, 1) := by decide +kernel
theorem dX9_reads_131 : decode cX9_reads 131 = .ok (.iconst 1, 1) := by decide +kernel
theorem dX9_reads_132 : decode cX9_reads 132 = .ok (.putfield 80, 3) := by decide +kernel
theorem dX9_reads_135 : decode cX9_reads 135 = .ok (.aload_n 0, 1) := by decide +kernel
theorem dX9_reads_136 : decode cX9_reads 136 = .ok (.dup, 1) := by decide +kernel
theorem dX9_reads_137 : decode cX9_reads 137 = .ok (.getfield 74, 3) := by decide +kernel
theorem dX9_reads_140 : decode cX9_reads 140 = .ok (.iconst 1, 1) := by decide +kernel
theorem dX9_reads_141 : decode cX9_reads 141 = .ok (.iadd, 1) := by decide +kernel
theorem dX9_reads_142 : decode cX9_reads 142 = .ok (.putfield 74, 3) := by decide +kernel
theorem dX9_reads_145 : decode cX9_reads 145 = .ok (.aload_n 0, 1) := by decide +kernel
theorem dX9_reads_146 : decode cX9_reads 146 = .ok (.getfield 80, 3) := by decide +kernel
theorem dX9_reads_149 : decode cX9_reads 149 = .ok (.iconst 3, 1) := by decide +kernel
theorem dX9_reads_150 : decode cX9_reads 150 = .ok (.if_icmp .ge 47, 3) := by decide +kernel
theorem dX9_reads_153 : decode cX9_reads 153 = .ok (.aload_n 0, 1) := by decide +kernel
theorem dX9_reads_154 : decode cX9_reads 154 = .ok (.bipush 97, 2) := by decide +kernel
theorem dX9_reads_156 : decode cX9_reads 156 = .ok (.aload_n 0, 1) := by decide +kernel
theorem dX9_reads_157 : decode cX9_reads 157 = .ok (.getfield 83, 3) := by decide +kernel
theorem dX9_reads_160 : decode cX9_reads 160 = .ok (.iadd, 1) := by decide +kernel
theorem dX9_reads_161 : decode cX9_reads 161 = .ok (.bipush 97, 2) := by decide +kernel
theorem dX9_reads_163 : decode cX9_reads 163 = .ok (.aload_n 0, 1) := by decide +kernel
theorem dX9_reads_164 : decode cX9_reads 164 = .ok (.getfield 83, 3) := by decide +kernel
theorem dX9_reads_167 : decode cX9_reads 167 = .ok (.iadd, 1) := by decide +kernel
theorem dX9_reads_168 : decode cX9_reads 168 = .ok (.invokevirtual 86, 3) := by decide +kernel
theorem dX9_reads_171 : decode cX9_reads 171 = .ok (.ifCond .eq 26, 3) := by decide +kernel
theorem dX9_reads_174 : decode cX9_reads 174 = .ok (.aload_n 0, 1) := by decide +kernel
theorem dX9_reads_175 : decode cX9_reads 175 = .ok (.dup, 1) := by decide +kernel
theorem dX9_reads_176 : decode cX9_reads 176 = .ok (.getfield 80, 3) := by decide +kernel
theorem dX9_reads_179 : decode cX9_reads 179 = .ok (.iconst 1, 1) := by decide +kernel
theorem dX9_reads_180 : decode cX9_reads 180 = .ok (.iadd, 1) := by decide +kernel
theorem dX9_reads_181 : decode cX9_reads 181 = .ok (.putfield 80, 3) := by decide +kernel
theorem dX9_reads_184 : decode cX9_reads 184 = .ok (.aload_n 0, 1) := by decide +kernel
theorem dX9_reads_185 : decode cX9_reads 185 = .ok (.dup, 1) := by decide +kernel
theorem dX9_reads_186 : decode cX9_reads 186 = .ok (.getfield 74, 3) := by decide +kernel
theorem dX9_reads_189 : decode cX9_reads 189 = .ok (.iconst 1, 1) := by decide +kernel
theorem dX9_reads_190 : decode cX9_reads 190 = .ok (.iadd, 1) := by decide +kernel
theorem dX9_reads_191 : decode cX9_reads 191 = .ok (.putfield 74, 3) := by decide +kernel
theorem dX9_reads_194 : decode cX9_reads 194 = .ok (.goto (-49), 3) := by decide +kernel
theorem dX9_reads_197 : decode cX9_reads 197 = .ok (.return_, 1) := by decide +kernel
theorem dX9_number_0 : decode cX9_number 0 = .ok (.aload_n 0, 1) := by decide +kernel
theorem dX9_number_1 : decode cX9_number 1 = .ok (.bipush 49, 2) := by decide +kernel
theorem dX9_number_3 : decode cX9_number 3 = .ok (.bipush 57, 2) := by decide +kernel
theorem dX9_number_5 : decode cX9_number 5 = .ok (.invokevirtual 86, 3) := by decide +kernel
theorem dX9_number_8 : decode cX9_number 8 = .ok (.ifCond .ne 10, 3) := by decide +kernel
theorem dX9_number_11 : decode cX9_number 11 = .ok (.aload_n 0, 1) := by decide +kernel
theorem dX9_number_12 : decode cX9_number 12 = .ok (.iconst 0, 1) := by decide +kernel
theorem dX9_number_13 : decode cX9_number 13 = .ok (.putfield 70, 3) := by decide +kernel
theorem dX9_number_16 : decode cX9_number 16 = .ok (.iconst 0, 1) := by decide +kernel
theorem dX9_number_17 : decode cX9_number 17 = .ok (.ireturn, 1) := by decide +kernel
theorem dX9_number_18 : decode cX9_number 18 = .ok (.aload_n 0, 1) := by decide +kernel
theorem dX9_number_19 : decode cX9_number 19 = .ok (.getfield 13, 3) := by decide +kernel
theorem dX9_number_22 : decode cX9_number 22 = .ok (.aload_n 0, 1) := by decide +kernel
theorem dX9_number_23 : decode cX9_number 23 = .ok (.getfield 74, 3) := by decide +kernel
theorem dX9_number_26 : decode cX9_number 26 = .ok (.caload, 1) := by decide +kernel
theorem dX9_number_27 : decode cX9_number 27 = .ok (.bipush 48, 2) := by decide +kernel
theorem dX9_number_29 : decode cX9_number 29 = .ok (.isub, 1) := by decide +kernel
theorem dX9_number_30 : decode cX9_number 30 = .ok (.istore_n 1, 1) := by decide +kernel
theorem dX9_number_31 : decode cX9_number 31 = .ok (.aload_n 0, 1) := by decide +kernel
theorem dX9_number_32 : decode cX9_number 32 = .ok (.dup, 1) := by decide +kernel
theorem dX9_number_33 : decode cX9_number 33 = .ok (.getfield 74, 3) := by decide +kernel
theorem dX9_number_36 : decode cX9_number 36 = .ok (.iconst 1, 1) := by decide +kernel
theorem dX9_number_37 : decode cX9_number 37 = .ok (.iadd, 1) := by decide +kernel
theorem dX9_number_38 : decode cX9_number 38 = .ok (.putfield 74, 3) := by decide +kernel
theorem dX9_number_41 : decode cX9_number 41 = .ok (.iload_n 1, 1) := by decide +kernel
theorem dX9_number_42 : decode cX9_number 42 = .ok (.iconst 3, 1) := by decide +kernel
theorem dX9_number_43 : decode cX9_number 43 = .ok (.if_icmp .ge 52, 3) := by decide +kernel
theorem dX9_number_46 : decode cX9_number 46 = .ok (.aload_n 0, 1) := by decide +kernel
theorem dX9_number_47 : decode cX9_number 47 = .ok (.bipush 48, 2) := by decide +kernel
theorem dX9_number_49 : decode cX9_number 49 = .ok (.iload_n 1, 1) := by decide +kernel
theorem dX9_number_50 : decode cX9_number 50 = .ok (.iconst 1, 1) := by decide +kernel
theorem dX9_number_51 : decode cX9_number 51 = .ok (.if_icmp .ne 8, 3) := by decide +kernel
theorem dX9_number_54 : decode cX9_number 54 = .ok (.bipush 57, 2) := by decide +kernel
theorem dX9_number_56 : decode cX9_number 56 = .ok (.goto 5, 3) := by decide +kernel
theorem dX9_number_59 : decode cX9_number 59 = .ok (.bipush 52, 2) := by decide +kernel
theorem dX9_number_61 : decode cX9_number 61 = .ok (.invokevirtual 86, 3) := by decide +kernel
theorem dX9_number_64 : decode cX9_number 64 = .ok (.ifCond .eq 31, 3) := by decide +kernel
theorem dX9_number_67 : decode cX9_number 67 = .ok (.bipush 10, 2) := by decide +kernel
theorem dX9_number_69 : decode cX9_number 69 = .ok (.iload_n 1, 1) := by decide +kernel
theorem dX9_number_70 : decode cX9_number 70 = .ok (.imul, 1) := by decide +kernel
theorem dX9_number_71 : decode cX9_number 71 = .ok (.aload_n 0, 1) := by decide +kernel
theorem dX9_number_72 : decode cX9_number 72 = .ok (.getfield 13, 3) := by decide +kernel
theorem dX9_number_75 : decode cX9_number 75 = .ok (.aload_n 0, 1) := by decide +kernel
theorem dX9_number_76 : decode cX9_number 76 = .ok (.getfield 74, 3) := by decide +kernel
theorem dX9_number_79 : decode cX9_number 79 = .ok (.caload, 1) := by decide +kernel
theorem dX9_number_80 : decode cX9_number 80 = .ok (.iadd, 1) := by decide +kernel
theorem dX9_number_81 : decode cX9_number 81 = .ok (.bipush 48, 2) := by decide +kernel
theorem dX9_number_83 : decode cX9_number 83 = .ok (.isub, 1) := by decide +kernel
theorem dX9_number_84 : decode cX9_number 84 = .ok (.istore_n 1, 1) := by decide +kernel
theorem dX9_number_85 : decode cX9_number 85 = .ok (.aload_n 0, 1) := by decide +kernel
theorem dX9_number_86 : decode cX9_number 86 = .ok (.dup, 1) := by decide +kernel
theorem dX9_number_87 : decode cX9_number 87 = .ok (.getfield 74, 3) := by decide +kernel
theorem dX9_number_90 : decode cX9_number 90 = .ok (.iconst 1, 1) := by decide +kernel
theorem dX9_number_91 : decode cX9_number 91 = .ok (.iadd, 1) := by decide +kernel
theorem dX9_number_92 : decode cX9_number 92 = .ok (.putfield 74, 3) := by decide +kernel
theorem dX9_number_95 : decode cX9_number 95 = .ok (.iload_n 1, 1) := by decide +kernel
theorem dX9_number_96 : decode cX9_number 96 = .ok (.ireturn, 1) := by decide +kernel
theorem dX9_item_0 : decode cX9_item 0 = .ok (.aload_n 0, 1) := by decide +kernel
theorem dX9_item_1 : decode cX9_item 1 = .ok (.iload_n 1, 1) := by decide +kernel
theorem dX9_item_2 : decode cX9_item 2 = .ok (.invokevirtual 90, 3) := by decide +kernel
theorem dX9_item_5 : decode cX9_item 5 = .ok (.iconst 4, 1) := by decide +kernel
theorem dX9_item_6 : decode cX9_item 6 = .ok (.aload_n 0, 1) := by decide +kernel
theorem dX9_item_7 : decode cX9_item 7 = .ok (.getfield 94, 3) := by decide +kernel
theorem dX9_item_10 : decode cX9_item 10 = .ok (.imul, 1) := by decide +kernel
theorem dX9_item_11 : decode cX9_item 11 = .ok (.istore_n 2, 1) := by decide +kernel
theorem dX9_item_12 : decode cX9_item 12 = .ok (.aload_n 0, 1) := by decide +kernel
theorem dX9_item_13 : decode cX9_item 13 = .ok (.getfield 17, 3) := by decide +kernel
theorem dX9_item_16 : decode cX9_item 16 = .ok (.iload_n 2, 1) := by decide +kernel
theorem dX9_item_17 : decode cX9_item 17 = .ok (.aload_n 0, 1) := by decide +kernel
theorem dX9_item_18 : decode cX9_item 18 = .ok (.getfield 80, 3) := by decide +kernel
theorem dX9_item_21 : decode cX9_item 21 = .ok (.iastore, 1) := by decide +kernel
theorem dX9_item_22 : decode cX9_item 22 = .ok (.aload_n 0, 1) := by decide +kernel
theorem dX9_item_23 : decode cX9_item 23 = .ok (.getfield 17, 3) := by decide +kernel
theorem dX9_item_26 : decode cX9_item 26 = .ok (.iload_n 2, 1) := by decide +kernel
theorem dX9_item_27 : decode cX9_item 27 = .ok (.iconst 1, 1) := by decide +kernel
theorem dX9_item_28 : decode cX9_item 28 = .ok (.iadd, 1) := by decide +kernel
theorem dX9_item_29 : decode cX9_item 29 = .ok (.aload_n 0, 1) := by decide +kernel
theorem dX9_item_30 : decode cX9_item 30 = .ok (.getfield 83, 3) := by decide +kernel
theorem dX9_item_33 : decode cX9_item 33 = .ok (.iastore, 1) := by decide +kernel
theorem dX9_item_34 : decode cX9_item 34 = .ok (.aload_n 0, 1) := by decide +kernel
theorem dX9_item_35 : decode cX9_item 35 = .ok (.getfield 17, 3) := by decide +kernel
theorem dX9_item_38 : decode cX9_item 38 = .ok (.iload_n 2, 1) := by decide +kernel
theorem dX9_item_39 : decode cX9_item 39 = .ok (.iconst 2, 1) := by decide +kernel
theorem dX9_item_40 : decode cX9_item 40 = .ok (.iadd, 1) := by decide +kernel
theorem dX9_item_41 : decode cX9_item 41 = .ok (.aload_n 0, 1) := by decide +kernel
theorem dX9_item_42 : decode cX9_item 42 = .ok (.getfield 83, 3) := by decide +kernel
theorem dX9_item_45 : decode cX9_item 45 = .ok (.iastore, 1) := by decide +kernel
theorem dX9_item_46 : decode cX9_item 46 = .ok (.iload_n 1, 1) := by decide +kernel
theorem dX9_item_47 : decode cX9_item 47 = .ok (.ifCond .eq 130, 3) := by decide +kernel
theorem dX9_item_50 : decode cX9_item 50 = .ok (.aload_n 0, 1) := by decide +kernel
theorem dX9_item_51 : decode cX9_item 51 = .ok (.getfield 83, 3) := by decide +kernel
theorem dX9_item_54 : decode cX9_item 54 = .ok (.ifCond .lt 123, 3) := by decide +kernel
theorem dX9_item_57 : decode cX9_item 57 = .ok (.aload_n 0, 1) := by decide +kernel
theorem dX9_item_58 : decode cX9_item 58 = .ok (.bipush 45, 2) := by decide +kernel
theorem dX9_item_60 : decode cX9_item 60 = .ok (.bipush 45, 2) := by decide +kernel
theorem dX9_item_62 : decode cX9_item 62 = .ok (.invokevirtual 86, 3) := by decide +kernel
theorem dX9_item_65 : decode cX9_item 65 = .ok (.ifCond .eq 112, 3) := by decide +kernel
theorem dX9_item_68 : decode cX9_item 68 = .ok (.aload_n 0, 1) := by decide +kernel
theorem dX9_item_69 : decode cX9_item 69 = .ok (.dup, 1) := by decide +kernel
theorem dX9_item_70 : decode cX9_item 70 = .ok (.getfield 74, 3) := by decide +kernel
theorem dX9_item_73 : decode cX9_item 73 = .ok (.iconst 1, 1) := by decide +kernel
theorem dX9_item_74 : decode cX9_item 74 = .ok (.iadd, 1) := by decide +kernel
theorem dX9_item_75 : decode cX9_item 75 = .ok (.putfield 74, 3) := by decide +kernel
theorem dX9_item_78 : decode cX9_item 78 = .ok (.aload_n 0, 1) := by decide +kernel
theorem dX9_item_79 : decode cX9_item 79 = .ok (.iconst 1, 1) := by decide +kernel
theorem dX9_item_80 : decode cX9_item 80 = .ok (.invokevirtual 90, 3) := by decide +kernel
theorem dX9_item_83 : decode cX9_item 83 = .ok (.aload_n 0, 1) := by decide +kernel
theorem dX9_item_84 : decode cX9_item 84 = .ok (.getfield 70, 3) := by decide +kernel
theorem dX9_item_87 : decode cX9_item 87 = .ok (.ifCond .eq 28, 3) := by decide +kernel
theorem dX9_item_90 : decode cX9_item 90 = .ok (.aload_n 0, 1) := by decide +kernel
theorem dX9_item_91 : decode cX9_item 91 = .ok (.getfield 83, 3) := by decide +kernel
theorem dX9_item_94 : decode cX9_item 94 = .ok (.ifCond .ge 21, 3) := by decide +kernel
theorem dX9_item_97 : decode cX9_item 97 = .ok (.aload_n 0, 1) := by decide +kernel
theorem dX9_item_98 : decode cX9_item 98 = .ok (.dup, 1) := by decide +kernel
theorem dX9_item_99 : decode cX9_item 99 = .ok (.getfield 74, 3) := by decide +kernel
theorem dX9_item_102 : decode cX9_item 102 = .ok (.aload_n 0, 1) := by decide +kernel
theorem dX9_item_103 : decode cX9_item 103 = .ok (.getfield 80, 3) := by decide +kernel
theorem dX9_item_106 : decode cX9_item 106 = .ok (.isub, 1) := by decide +kernel
theorem dX9_item_107 : decode cX9_item 107 = .ok (.putfield 74, 3) := by decide +kernel
theorem dX9_item_110 : decode cX9_item 110 = .ok (.aload_n 0, 1) := by decide +kernel
theorem dX9_item_111 : decode cX9_item 111 = .ok (.iconst 0, 1) := by decide +kernel
theorem dX9_item_112 : decode cX9_item 112 = .ok (.putfield 70, 3) := by decide +kernel
theorem dX9_item_115 : decode cX9_item 115 = .ok (.aload_n 0, 1) := by decide +kernel
theorem dX9_item_116 : decode cX9_item 116 = .ok (.getfield 70, 3) := by decide +kernel
theorem dX9_item_119 : decode cX9_item 119 = .ok (.ifCond .eq 46, 3) := by decide +kernel
theorem dX9_item_122 : decode cX9_item 122 = .ok (.aload_n 0, 1) := by decide +kernel
theorem dX9_item_123 : decode cX9_item 123 = .ok (.getfield 80, 3) := by decide +kernel
theorem dX9_item_126 : decode cX9_item 126 = .ok (.aload_n 0, 1) := by decide +kernel
theorem dX9_item_127 : decode cX9_item 127 = .ok (.getfield 17, 3) := by decide +kernel
theorem dX9_item_130 : decode cX9_item 130 = .ok (.iload_n 2, 1) := by decide +kernel
theorem dX9_item_131 : decode cX9_item 131 = .ok (.iaload, 1) := by decide +kernel
theorem dX9_item_132 : decode cX9_item 132 = .ok (.if_icmp .ne 18, 3) := by decide +kernel
theorem dX9_item_135 : decode cX9_item 135 = .ok (.aload_n 0, 1) := by decide +kernel
theorem dX9_item_136 : decode cX9_item 136 = .ok (.getfield 83, 3) := by decide +kernel
theorem dX9_item_139 : decode cX9_item 139 = .ok (.aload_n 0, 1) := by decide +kernel
theorem dX9_item_140 : decode cX9_item 140 = .ok (.getfield 17, 3) := by decide +kernel
theorem dX9_item_143 : decode cX9_item 143 = .ok (.iload_n 2, 1) := by decide +kernel
theorem dX9_item_144 : decode cX9_item 144 = .ok (.iconst 1, 1) := by decide +kernel
theorem dX9_item_145 : decode cX9_item 145 = .ok (.iadd, 1) := by decide +kernel
theorem dX9_item_146 : decode cX9_item 146 = .ok (.iaload, 1) := by decide +kernel
theorem dX9_item_147 : decode cX9_item 147 = .ok (.if_icmp .ge 18, 3) := by decide +kernel
theorem dX9_item_150 : decode cX9_item 150 = .ok (.aload_n 0, 1) := by decide +kernel
theorem dX9_item_151 : decode cX9_item 151 = .ok (.dup, 1) := by decide +kernel
theorem dX9_item_152 : decode cX9_item 152 = .ok (.getfield 74, 3) := by decide +kernel
theorem dX9_item_155 : decode cX9_item 155 = .ok (.iconst 1, 1) := by decide +kernel
theorem dX9_item_156 : decode cX9_item 156 = .ok (.isub, 1) := by decide +kernel
theorem dX9_item_157 : decode cX9_item 157 = .ok (.putfield 74, 3) := by decide +kernel
theorem dX9_item_160 : decode cX9_item 160 = .ok (.aload_n 0, 1) := by decide +kernel
theorem dX9_item_161 : decode cX9_item 161 = .ok (.iconst 0, 1) := by decide +kernel
theorem dX9_item_162 : decode cX9_item 162 = .ok (.putfield 70, 3) := by decide +kernel
theorem dX9_item_165 : decode cX9_item 165 = .ok (.aload_n 0, 1) := by decide +kernel
theorem dX9_item_166 : decode cX9_item 166 = .ok (.getfield 17, 3) := by decide +kernel
theorem dX9_item_169 : decode cX9_item 169 = .ok (.iload_n 2, 1) := by decide +kernel
theorem dX9_item_170 : decode cX9_item 170 = .ok (.iconst 2, 1) := by decide +kernel
theorem dX9_item_171 : decode cX9_item 171 = .ok (.iadd, 1) := by decide +kernel
theorem dX9_item_172 : decode cX9_item 172 = .ok (.aload_n 0, 1) := by decide +kernel
theorem dX9_item_173 : decode cX9_item 173 = .ok (.getfield 83, 3) := by decide +kernel
theorem dX9_item_176 : decode cX9_item 176 = .ok (.iastore, 1) := by decide +kernel
theorem dX9_item_177 : decode cX9_item 177 = .ok (.aload_n 0, 1) := by decide +kernel
theorem dX9_item_178 : decode cX9_item 178 = .ok (.getfield 17, 3) := by decide +kernel
theorem dX9_item_181 : decode cX9_item 181 = .ok (.iload_n 2, 1) := by decide +kernel
theorem dX9_item_182 : decode cX9_item 182 = .ok (.iconst 3, 1) := by decide +kernel
theorem dX9_item_183 : decode cX9_item 183 = .ok (.iadd, 1) := by decide +kernel
theorem dX9_item_184 : decode cX9_item 184 = .ok (.aload_n 0, 1) := by decide +kernel
theorem dX9_item_185 : decode cX9_item 185 = .ok (.getfield 70, 3) := by decide +kernel
theorem dX9_item_188 : decode cX9_item 188 = .ok (.ifCond .eq 10, 3) := by decide +kernel
theorem dX9_item_191 : decode cX9_item 191 = .ok (.aload_n 0, 1) := by decide +kernel
theorem dX9_item_192 : decode cX9_item 192 = .ok (.invokevirtual 97, 3) := by decide +kernel
theorem dX9_item_195 : decode cX9_item 195 = .ok (.goto 4, 3) := by decide +kernel
theorem dX9_item_198 : decode cX9_item 198 = .ok (.iconst 0, 1) := by decide +kernel
theorem dX9_item_199 : decode cX9_item 199 = .ok (.iastore, 1) := by decide +kernel
theorem dX9_item_200 : decode cX9_item 200 = .ok (.aload_n 0, 1) := by decide +kernel
theorem dX9_item_201 : decode cX9_item 201 = .ok (.dup, 1) := by decide +kernel
theorem dX9_item_202 : decode cX9_item 202 = .ok (.getfield 94, 3) := by decide +kernel
theorem dX9_item_205 : decode cX9_item 205 = .ok (.iconst 1, 1) := by decide +kernel
theorem dX9_item_206 : decode cX9_item 206 = .ok (.iadd, 1) := by decide +kernel
theorem dX9_item_207 : decode cX9_item 207 = .ok (.putfield 94, 3) := by decide +kernel
theorem dX9_item_210 : decode cX9_item 210 = .ok (.return_, 1) := by decide +kernel
theorem dX9_fault_0 : decode cX9_fault 0 = .ok (.aload_n 0, 1) := by decide +kernel
theorem dX9_fault_1 : decode cX9_fault 1 = .ok (.iconst 0, 1) := by decide +kernel
theorem dX9_fault_2 : decode cX9_fault 2 = .ok (.putfield 74, 3) := by decide +kernel
theorem dX9_fault_5 : decode cX9_fault 5 = .ok (.aload_n 0, 1) := by decide +kernel
theorem dX9_fault_6 : decode cX9_fault 6 = .ok (.iconst 1, 1) := by decide +kernel
theorem dX9_fault_7 : decode cX9_fault 7 = .ok (.putfield 70, 3) := by decide +kernel
theorem dX9_fault_10 : decode cX9_fault 10 = .ok (.aload_n 0, 1) := by decide +kernel
theorem dX9_fault_11 : decode cX9_fault 11 = .ok (.iconst 0, 1) := by decide +kernel
theorem dX9_fault_12 : decode cX9_fault 12 = .ok (.putfield 94, 3) := by decide +kernel
theorem dX9_fault_15 : decode cX9_fault 15 = .ok (.iconst 1, 1) := by decide +kernel
theorem dX9_fault_16 : decode cX9_fault 16 = .ok (.istore_n 2, 1) := by decide +kernel
theorem dX9_fault_17 : decode cX9_fault 17 = .ok (.iload_n 2, 1) := by decide +kernel
theorem dX9_fault_18 : decode cX9_fault 18 = .ok (.ifCond .eq 88, 3) := by decide +kernel
theorem dX9_fault_21 : decode cX9_fault 21 = .ok (.aload_n 0, 1) := by decide +kernel
theorem dX9_fault_22 : decode cX9_fault 22 = .ok (.iload_n 1, 1) := by decide +kernel
theorem dX9_fault_23 : decode cX9_fault 23 = .ok (.invokevirtual 100, 3) := by decide +kernel
theorem dX9_fault_26 : decode cX9_fault 26 = .ok (.aload_n 0, 1) := by decide +kernel
theorem dX9_fault_27 : decode cX9_fault 27 = .ok (.getfield 70, 3) := by decide +kernel
theorem dX9_fault_30 : decode cX9_fault 30 = .ok (.ifCond .eq 18, 3) := by decide +kernel
theorem dX9_fault_33 : decode cX9_fault 33 = .ok (.aload_n 0, 1) := by decide +kernel
theorem dX9_fault_34 : decode cX9_fault 34 = .ok (.getfield 74, 3) := by decide +kernel
theorem dX9_fault_37 : decode cX9_fault 37 = .ok (.aload_n 0, 1) := by decide +kernel
theorem dX9_fault_38 : decode cX9_fault 38 = .ok (.getfield 77, 3) := by decide +kernel
theorem dX9_fault_41 : decode cX9_fault 41 = .ok (.if_icmp .ge 7, 3) := by decide +kernel
theorem dX9_fault_44 : decode cX9_fault 44 = .ok (.iconst 1, 1) := by decide +kernel
theorem dX9_fault_45 : decode cX9_fault 45 = .ok (.goto 4, 3) := by decide +kernel
theorem dX9_fault_48 : decode cX9_fault 48 = .ok (.iconst 0, 1) := by decide +kernel
theorem dX9_fault_49 : decode cX9_fault 49 = .ok (.istore_n 2, 1) := by decide +kernel
theorem dX9_fault_50 : decode cX9_fault 50 = .ok (.iload_n 2, 1) := by decide +kernel
theorem dX9_fault_51 : decode cX9_fault 51 = .ok (.ifCond .eq (-34), 3) := by decide +kernel
theorem dX9_fault_54 : decode cX9_fault 54 = .ok (.aload_n 0, 1) := by decide +kernel
theorem dX9_fault_55 : decode cX9_fault 55 = .ok (.aload_n 0, 1) := by decide +kernel
theorem dX9_fault_56 : decode cX9_fault 56 = .ok (.getfield 13, 3) := by decide +kernel
theorem dX9_fault_59 : decode cX9_fault 59 = .ok (.aload_n 0, 1) := by decide +kernel
theorem dX9_fault_60 : decode cX9_fault 60 = .ok (.getfield 74, 3) := by decide +kernel
theorem dX9_fault_63 : decode cX9_fault 63 = .ok (.caload, 1) := by decide +kernel
theorem dX9_fault_64 : decode cX9_fault 64 = .ok (.bipush 44, 2) := by decide +kernel
theorem dX9_fault_66 : decode cX9_fault 66 = .ok (.if_icmp .ne 7, 3) := by decide +kernel
theorem dX9_fault_69 : decode cX9_fault 69 = .ok (.iconst 1, 1) := by decide +kernel
theorem dX9_fault_70 : decode cX9_fault 70 = .ok (.goto 4, 3) := by decide +kernel
theorem dX9_fault_73 : decode cX9_fault 73 = .ok (.iconst 0, 1) := by decide +kernel
theorem dX9_fault_74 : decode cX9_fault 74 = .ok (.putfield 70, 3) := by decide +kernel
theorem dX9_fault_77 : decode cX9_fault 77 = .ok (.aload_n 0, 1) := by decide +kernel
theorem dX9_fault_78 : decode cX9_fault 78 = .ok (.dup, 1) := by decide +kernel
theorem dX9_fault_79 : decode cX9_fault 79 = .ok (.getfield 74, 3) := by decide +kernel
theorem dX9_fault_82 : decode cX9_fault 82 = .ok (.aload_n 0, 1) := by decide +kernel
theorem dX9_fault_83 : decode cX9_fault 83 = .ok (.getfield 70, 3) := by decide +kernel
theorem dX9_fault_86 : decode cX9_fault 86 = .ok (.ifCond .eq 7, 3) := by decide +kernel
theorem dX9_fault_89 : decode cX9_fault 89 = .ok (.iconst 1, 1) := by decide +kernel
theorem dX9_fault_90 : decode cX9_fault 90 = .ok (.goto 4, 3) := by decide +kernel
theorem dX9_fault_93 : decode cX9_fault 93 = .ok (.iconst 0, 1) := by decide +kernel
theorem dX9_fault_94 : decode cX9_fault 94 = .ok (.iadd, 1) := by decide +kernel
theorem dX9_fault_95 : decode cX9_fault 95 = .ok (.putfield 74, 3) := by decide +kernel
theorem dX9_fault_98 : decode cX9_fault 98 = .ok (.aload_n 0, 1) := by decide +kernel
theorem dX9_fault_99 : decode cX9_fault 99 = .ok (.getfield 70, 3) := by decide +kernel
theorem dX9_fault_102 : decode cX9_fault 102 = .ok (.istore_n 2, 1) := by decide +kernel
theorem dX9_fault_103 : decode cX9_fault 103 = .ok (.goto (-86), 3) := by decide +kernel
theorem dX9_fault_106 : decode cX9_fault 106 = .ok (.aload_n 0, 1) := by decide +kernel
theorem dX9_fault_107 : decode cX9_fault 107 = .ok (.getfield 70, 3) := by decide +kernel
theorem dX9_fault_110 : decode cX9_fault 110 = .ok (.ifCond .eq 7, 3) := by decide +kernel
theorem dX9_fault_113 : decode cX9_fault 113 = .ok (.iconst (-1), 1) := by decide +kernel
theorem dX9_fault_114 : decode cX9_fault 114 = .ok (.goto 7, 3) := by decide +kernel
theorem dX9_fault_117 : decode cX9_fault 117 = .ok (.aload_n 0, 1) := by decide +kernel
theorem dX9_fault_118 : decode cX9_fault 118 = .ok (.getfield 74, 3) := by decide +kernel
theorem dX9_fault_121 : decode cX9_fault 121 = .ok (.ireturn, 1) := by decide +kernel
theorem dX9_readFormula_0 : decode cX9_readFormula 0 = .ok (.aload_n 0, 1) := by decide +kernel
theorem dX9_readFormula_1 : decode cX9_readFormula 1 = .ok (.iconst 1, 1) := by decide +kernel
theorem dX9_readFormula_2 : decode cX9_readFormula 2 = .ok (.invokevirtual 103, 3) := by decide +kernel
theorem dX9_readFormula_5 : decode cX9_readFormula 5 = .ok (.istore_n 1, 1) := by decide +kernel
theorem dX9_readFormula_6 : decode cX9_readFormula 6 = .ok (.iload_n 1, 1) := by decide +kernel
theorem dX9_readFormula_7 : decode cX9_readFormula 7 = .ok (.ifCond .lt 8, 3) := by decide +kernel
theorem dX9_readFormula_10 : decode cX9_readFormula 10 = .ok (.bipush (-100), 2) := by decide +kernel
theorem dX9_readFormula_12 : decode cX9_readFormula 12 = .ok (.iload_n 1, 1) := by decide +kernel
theorem dX9_readFormula_13 : decode cX9_readFormula 13 = .ok (.isub, 1) := by decide +kernel
theorem dX9_readFormula_14 : decode cX9_readFormula 14 = .ok (.ireturn, 1) := by decide +kernel
theorem dX9_readFormula_15 : decode cX9_readFormula 15 = .ok (.iconst 0, 1) := by decide +kernel
theorem dX9_readFormula_16 : decode cX9_readFormula 16 = .ok (.istore_n 2, 1) := by decide +kernel
theorem dX9_readFormula_17 : decode cX9_readFormula 17 = .ok (.iconst 0, 1) := by decide +kernel
theorem dX9_readFormula_18 : decode cX9_readFormula 18 = .ok (.istore_n 3, 1) := by decide +kernel
theorem dX9_readFormula_19 : decode cX9_readFormula 19 = .ok (.iload_n 3, 1) := by decide +kernel
theorem dX9_readFormula_20 : decode cX9_readFormula 20 = .ok (.aload_n 0, 1) := by decide +kernel
theorem dX9_readFormula_21 : decode cX9_readFormula 21 = .ok (.getfield 94, 3) := by decide +kernel
theorem dX9_readFormula_24 : decode cX9_readFormula 24 = .ok (.if_icmp .ge 64, 3) := by decide +kernel
theorem dX9_readFormula_27 : decode cX9_readFormula 27 = .ok (.aload_n 0, 1) := by decide +kernel
theorem dX9_readFormula_28 : decode cX9_readFormula 28 = .ok (.getfield 17, 3) := by decide +kernel
theorem dX9_readFormula_31 : decode cX9_readFormula 31 = .ok (.iconst 4, 1) := by decide +kernel
theorem dX9_readFormula_32 : decode cX9_readFormula 32 = .ok (.iload_n 3, 1) := by decide +kernel
theorem dX9_readFormula_33 : decode cX9_readFormula 33 = .ok (.imul, 1) := by decide +kernel
theorem dX9_readFormula_34 : decode cX9_readFormula 34 = .ok (.iconst 1, 1) := by decide +kernel
theorem dX9_readFormula_35 : decode cX9_readFormula 35 = .ok (.iadd, 1) := by decide +kernel
theorem dX9_readFormula_36 : decode cX9_readFormula 36 = .ok (.iaload, 1) := by decide +kernel
theorem dX9_readFormula_37 : decode cX9_readFormula 37 = .ok (.istore 4, 2) := by decide +kernel
theorem dX9_readFormula_39 : decode cX9_readFormula 39 = .ok (.iload 4, 2) := by decide +kernel
theorem dX9_readFormula_41 : decode cX9_readFormula 41 = .ok (.aload_n 0, 1) := by decide +kernel
theorem dX9_readFormula_42 : decode cX9_readFormula 42 = .ok (.getfield 17, 3) := by decide +kernel
theorem dX9_readFormula_45 : decode cX9_readFormula 45 = .ok (.iconst 4, 1) := by decide +kernel
theorem dX9_readFormula_46 : decode cX9_readFormula 46 = .ok (.iload_n 3, 1) := by decide +kernel
theorem dX9_readFormula_47 : decode cX9_readFormula 47 = .ok (.imul, 1) := by decide +kernel
theorem dX9_readFormula_48 : decode cX9_readFormula 48 = .ok (.iconst 2, 1) := by decide +kernel
theorem dX9_readFormula_49 : decode cX9_readFormula 49 = .ok (.iadd, 1) := by decide +kernel
theorem dX9_readFormula_50 : decode cX9_readFormula 50 = .ok (.iaload, 1) := by decide +kernel
theorem dX9_readFormula_51 : decode cX9_readFormula 51 = .ok (.if_icmp .gt 31, 3) := by decide +kernel
theorem dX9_readFormula_54 : decode cX9_readFormula 54 = .ok (.iload_n 2, 1) := by decide +kernel
theorem dX9_readFormula_55 : decode cX9_readFormula 55 = .ok (.iload 4, 2) := by decide +kernel
theorem dX9_readFormula_57 : decode cX9_readFormula 57 = .ok (.ifCond .lt 12, 3) := by decide +kernel
theorem dX9_readFormula_60 : decode cX9_readFormula 60 = .ok (.aload_n 0, 1) := by decide +kernel
theorem dX9_readFormula_61 : decode cX9_readFormula 61 = .ok (.iload 4, 2) := by decide +kernel
theorem dX9_readFormula_63 : decode cX9_readFormula 63 = .ok (.invokevirtual 32, 3) := by decide +kernel
theorem dX9_readFormula_66 : decode cX9_readFormula 66 = .ok (.ifCond .ne 7, 3) := by decide +kernel
theorem dX9_readFormula_69 : decode cX9_readFormula 69 = .ok (.iconst 1, 1) := by decide +kernel
theorem dX9_readFormula_70 : decode cX9_readFormula 70 = .ok (.goto 4, 3) := by decide +kernel
theorem dX9_readFormula_73 : decode cX9_readFormula 73 = .ok (.iconst 0, 1) := by decide +kernel
theorem dX9_readFormula_74 : decode cX9_readFormula 74 = .ok (.iadd, 1) := by decide +kernel
theorem dX9_readFormula_75 : decode cX9_readFormula 75 = .ok (.istore_n 2, 1) := by decide +kernel
theorem dX9_readFormula_76 : decode cX9_readFormula 76 = .ok (.iinc 4 1, 3) := by decide +kernel
theorem dX9_readFormula_79 : decode cX9_readFormula 79 = .ok (.goto (-40), 3) := by decide +kernel
theorem dX9_readFormula_82 : decode cX9_readFormula 82 = .ok (.iinc 3 1, 3) := by decide +kernel
theorem dX9_readFormula_85 : decode cX9_readFormula 85 = .ok (.goto (-66), 3) := by decide +kernel
theorem dX9_readFormula_88 : decode cX9_readFormula 88 = .ok (.iload_n 2, 1) := by decide +kernel
theorem dX9_readFormula_89 : decode cX9_readFormula 89 = .ok (.bipush 40, 2) := by decide +kernel
theorem dX9_readFormula_91 : decode cX9_readFormula 91 = .ok (.aload_n 0, 1) := by decide +kernel
theorem dX9_readFormula_92 : decode cX9_readFormula 92 = .ok (.getfield 7, 3) := by decide +kernel
theorem dX9_readFormula_95 : decode cX9_readFormula 95 = .ok (.iconst 2, 1) := by decide +kernel
theorem dX9_readFormula_96 : decode cX9_readFormula 96 = .ok (.iaload, 1) := by decide +kernel
theorem dX9_readFormula_97 : decode cX9_readFormula 97 = .ok (.isub, 1) := by decide +kernel
theorem dX9_readFormula_98 : decode cX9_readFormula 98 = .ok (.if_icmp .le 6, 3) := by decide +kernel
theorem dX9_readFormula_101 : decode cX9_readFormula 101 = .ok (.bipush (-3), 2) := by decide +kernel
theorem dX9_readFormula_103 : decode cX9_readFormula 103 = .ok (.ireturn, 1) := by decide +kernel
theorem dX9_readFormula_104 : decode cX9_readFormula 104 = .ok (.aload_n 0, 1) := by decide +kernel
theorem dX9_readFormula_105 : decode cX9_readFormula 105 = .ok (.invokevirtual 64, 3) := by decide +kernel
theorem dX9_readFormula_108 : decode cX9_readFormula 108 = .ok (.iconst 0, 1) := by decide +kernel
theorem dX9_readFormula_109 : decode cX9_readFormula 109 = .ok (.istore_n 3, 1) := by decide +kernel
theorem dX9_readFormula_110 : decode cX9_readFormula 110 = .ok (.iload_n 3, 1) := by decide +kernel
theorem dX9_readFormula_111 : decode cX9_readFormula 111 = .ok (.aload_n 0, 1) := by decide +kernel
theorem dX9_readFormula_112 : decode cX9_readFormula 112 = .ok (.getfield 94, 3) := by decide +kernel
theorem dX9_readFormula_115 : decode cX9_readFormula 115 = .ok (.if_icmp .ge 86, 3) := by decide +kernel
theorem dX9_readFormula_118 : decode cX9_readFormula 118 = .ok (.aload_n 0, 1) := by decide +kernel
theorem dX9_readFormula_119 : decode cX9_readFormula 119 = .ok (.getfield 17, 3) := by decide +kernel
theorem dX9_readFormula_122 : decode cX9_readFormula 122 = .ok (.iconst 4, 1) := by decide +kernel
theorem dX9_readFormula_123 : decode cX9_readFormula 123 = .ok (.iload_n 3, 1) := by decide +kernel
theorem dX9_readFormula_124 : decode cX9_readFormula 124 = .ok (.imul, 1) := by decide +kernel
theorem dX9_readFormula_125 : decode cX9_readFormula 125 = .ok (.iconst 1, 1) := by decide +kernel
theorem dX9_readFormula_126 : decode cX9_readFormula 126 = .ok (.iadd, 1) := by decide +kernel
theorem dX9_readFormula_127 : decode cX9_readFormula 127 = .ok (.iaload, 1) := by decide +kernel
theorem dX9_readFormula_128 : decode cX9_readFormula 128 = .ok (.istore 4, 2) := by decide +kernel
theorem dX9_readFormula_130 : decode cX9_readFormula 130 = .ok (.iload 4, 2) := by decide +kernel
theorem dX9_readFormula_132 : decode cX9_readFormula 132 = .ok (.aload_n 0, 1) := by decide +kernel
theorem dX9_readFormula_133 : decode cX9_readFormula 133 = .ok (.getfield 17, 3) := by decide +kernel
theorem dX9_readFormula_136 : decode cX9_readFormula 136 = .ok (.iconst 4, 1) := by decide +kernel
theorem dX9_readFormula_137 : decode cX9_readFormula 137 = .ok (.iload_n 3, 1) := by decide +kernel
theorem dX9_readFormula_138 : decode cX9_readFormula 138 = .ok (.imul, 1) := by decide +kernel
theorem dX9_readFormula_139 : decode cX9_readFormula 139 = .ok (.iconst 2, 1) := by decide +kernel
theorem dX9_readFormula_140 : decode cX9_readFormula 140 = .ok (.iadd, 1) := by decide +kernel
theorem dX9_readFormula_141 : decode cX9_readFormula 141 = .ok (.iaload, 1) := by decide +kernel
theorem dX9_readFormula_142 : decode cX9_readFormula 142 = .ok (.if_icmp .gt 53, 3) := by decide +kernel
theorem dX9_readFormula_145 : decode cX9_readFormula 145 = .ok (.iload 4, 2) := by decide +kernel
theorem dX9_readFormula_147 : decode cX9_readFormula 147 = .ok (.ifCond .lt 12, 3) := by decide +kernel
theorem dX9_readFormula_150 : decode cX9_readFormula 150 = .ok (.aload_n 0, 1) := by decide +kernel
theorem dX9_readFormula_151 : decode cX9_readFormula 151 = .ok (.iload 4, 2) := by decide +kernel
theorem dX9_readFormula_153 : decode cX9_readFormula 153 = .ok (.invokevirtual 32, 3) := by decide +kernel
theorem dX9_readFormula_156 : decode cX9_readFormula 156 = .ok (.ifCond .ne 33, 3) := by decide +kernel
theorem dX9_readFormula_159 : decode cX9_readFormula 159 = .ok (.aload_n 0, 1) := by decide +kernel
theorem dX9_readFormula_160 : decode cX9_readFormula 160 = .ok (.aload_n 0, 1) := by decide +kernel
theorem dX9_readFormula_161 : decode cX9_readFormula 161 = .ok (.getfield 7, 3) := by decide +kernel
theorem dX9_readFormula_164 : decode cX9_readFormula 164 = .ok (.iconst 2, 1) := by decide +kernel
theorem dX9_readFormula_165 : decode cX9_readFormula 165 = .ok (.iaload, 1) := by decide +kernel
theorem dX9_readFormula_166 : decode cX9_readFormula 166 = .ok (.aload_n 0, 1) := by decide +kernel
theorem dX9_readFormula_167 : decode cX9_readFormula 167 = .ok (.getfield 17, 3) := by decide +kernel
theorem dX9_readFormula_170 : decode cX9_readFormula 170 = .ok (.iconst 4, 1) := by decide +kernel
theorem dX9_readFormula_171 : decode cX9_readFormula 171 = .ok (.iload_n 3, 1) := by decide +kernel
theorem dX9_readFormula_172 : decode cX9_readFormula 172 = .ok (.imul, 1) := by decide +kernel
theorem dX9_readFormula_173 : decode cX9_readFormula 173 = .ok (.iaload, 1) := by decide +kernel
theorem dX9_readFormula_174 : decode cX9_readFormula 174 = .ok (.iload 4, 2) := by decide +kernel
theorem dX9_readFormula_176 : decode cX9_readFormula 176 = .ok (.aload_n 0, 1) := by decide +kernel
theorem dX9_readFormula_177 : decode cX9_readFormula 177 = .ok (.getfield 17, 3) := by decide +kernel
theorem dX9_readFormula_180 : decode cX9_readFormula 180 = .ok (.iconst 4, 1) := by decide +kernel
theorem dX9_readFormula_181 : decode cX9_readFormula 181 = .ok (.iload_n 3, 1) := by decide +kernel
theorem dX9_readFormula_182 : decode cX9_readFormula 182 = .ok (.imul, 1) := by decide +kernel
theorem dX9_readFormula_183 : decode cX9_readFormula 183 = .ok (.iconst 3, 1) := by decide +kernel
theorem dX9_readFormula_184 : decode cX9_readFormula 184 = .ok (.iadd, 1) := by decide +kernel
theorem dX9_readFormula_185 : decode cX9_readFormula 185 = .ok (.iaload, 1) := by decide +kernel
theorem dX9_readFormula_186 : decode cX9_readFormula 186 = .ok (.invokevirtual 107, 3) := by decide +kernel
theorem dX9_readFormula_189 : decode cX9_readFormula 189 = .ok (.iinc 4 1, 3) := by decide +kernel
theorem dX9_readFormula_192 : decode cX9_readFormula 192 = .ok (.goto (-62), 3) := by decide +kernel
theorem dX9_readFormula_195 : decode cX9_readFormula 195 = .ok (.iinc 3 1, 3) := by decide +kernel
theorem dX9_readFormula_198 : decode cX9_readFormula 198 = .ok (.goto (-88), 3) := by decide +kernel
theorem dX9_readFormula_201 : decode cX9_readFormula 201 = .ok (.aload_n 0, 1) := by decide +kernel
theorem dX9_readFormula_202 : decode cX9_readFormula 202 = .ok (.getfield 7, 3) := by decide +kernel
theorem dX9_readFormula_205 : decode cX9_readFormula 205 = .ok (.iconst 2, 1) := by decide +kernel
theorem dX9_readFormula_206 : decode cX9_readFormula 206 = .ok (.iaload, 1) := by decide +kernel
theorem dX9_readFormula_207 : decode cX9_readFormula 207 = .ok (.ireturn, 1) := by decide +kernel
theorem dX9_signNext_0 : decode cX9_signNext 0 = .ok (.iload_n 1, 1) := by decide +kernel
theorem dX9_signNext_1 : decode cX9_signNext 1 = .ok (.iconst 1, 1) := by decide +kernel
theorem dX9_signNext_2 : decode cX9_signNext 2 = .ok (.bipush 24, 2) := by decide +kernel
theorem dX9_signNext_4 : decode cX9_signNext 4 = .ok (.invokestatic 40, 3) := by decide +kernel
theorem dX9_signNext_7 : decode cX9_signNext 7 = .ok (.ifCond .ne 6, 3) := by decide +kernel
theorem dX9_signNext_10 : decode cX9_signNext 10 = .ok (.bipush (-2), 2) := by decide +kernel
theorem dX9_signNext_12 : decode cX9_signNext 12 = .ok (.ireturn, 1) := by decide +kernel
theorem dX9_signNext_13 : decode cX9_signNext 13 = .ok (.aload_n 0, 1) := by decide +kernel
theorem dX9_signNext_14 : decode cX9_signNext 14 = .ok (.getfield 7, 3) := by decide +kernel
theorem dX9_signNext_17 : decode cX9_signNext 17 = .ok (.iconst 2, 1) := by decide +kernel
theorem dX9_signNext_18 : decode cX9_signNext 18 = .ok (.iaload, 1) := by decide +kernel
theorem dX9_signNext_19 : decode cX9_signNext 19 = .ok (.bipush 40, 2) := by decide +kernel
theorem dX9_signNext_21 : decode cX9_signNext 21 = .ok (.if_icmp .ne 6, 3) := by decide +kernel
theorem dX9_signNext_24 : decode cX9_signNext 24 = .ok (.bipush (-3), 2) := by decide +kernel
theorem dX9_signNext_26 : decode cX9_signNext 26 = .ok (.ireturn, 1) := by decide +kernel
theorem dX9_signNext_27 : decode cX9_signNext 27 = .ok (.iconst (-1), 1) := by decide +kernel
theorem dX9_signNext_28 : decode cX9_signNext 28 = .ok (.istore_n 2, 1) := by decide +kernel
theorem dX9_signNext_29 : decode cX9_signNext 29 = .ok (.iconst 0, 1) := by decide +kernel
theorem dX9_signNext_30 : decode cX9_signNext 30 = .ok (.istore_n 3, 1) := by decide +kernel
theorem dX9_signNext_31 : decode cX9_signNext 31 = .ok (.iload_n 3, 1) := by decide +kernel
theorem dX9_signNext_32 : decode cX9_signNext 32 = .ok (.aload_n 0, 1) := by decide +kernel
theorem dX9_signNext_33 : decode cX9_signNext 33 = .ok (.getfield 7, 3) := by decide +kernel
theorem dX9_signNext_36 : decode cX9_signNext 36 = .ok (.iconst 2, 1) := by decide +kernel
theorem dX9_signNext_37 : decode cX9_signNext 37 = .ok (.iaload, 1) := by decide +kernel
theorem dX9_signNext_38 : decode cX9_signNext 38 = .ok (.if_icmp .ge 27, 3) := by decide +kernel
theorem dX9_signNext_41 : decode cX9_signNext 41 = .ok (.aload_n 0, 1) := by decide +kernel
theorem dX9_signNext_42 : decode cX9_signNext 42 = .ok (.iload_n 3, 1) := by decide +kernel
theorem dX9_signNext_43 : decode cX9_signNext 43 = .ok (.invokevirtual 111, 3) := by decide +kernel
theorem dX9_signNext_46 : decode cX9_signNext 46 = .ok (.ifCond .eq 7, 3) := by decide +kernel
theorem dX9_signNext_49 : decode cX9_signNext 49 = .ok (.iload_n 2, 1) := by decide +kernel
theorem dX9_signNext_50 : decode cX9_signNext 50 = .ok (.goto 8, 3) := by decide +kernel
theorem dX9_signNext_53 : decode cX9_signNext 53 = .ok (.aload_n 0, 1) := by decide +kernel
theorem dX9_signNext_54 : decode cX9_signNext 54 = .ok (.iload_n 3, 1) := by decide +kernel
theorem dX9_signNext_55 : decode cX9_signNext 55 = .ok (.invokevirtual 114, 3) := by decide +kernel
theorem dX9_signNext_58 : decode cX9_signNext 58 = .ok (.istore_n 2, 1) := by decide +kernel
theorem dX9_signNext_59 : decode cX9_signNext 59 = .ok (.iinc 3 1, 3) := by decide +kernel
theorem dX9_signNext_62 : decode cX9_signNext 62 = .ok (.goto (-31), 3) := by decide +kernel
theorem dX9_signNext_65 : decode cX9_signNext 65 = .ok (.aload_n 0, 1) := by decide +kernel
theorem dX9_signNext_66 : decode cX9_signNext 66 = .ok (.iload_n 2, 1) := by decide +kernel
theorem dX9_signNext_67 : decode cX9_signNext 67 = .ok (.invokevirtual 117, 3) := by decide +kernel
theorem dX9_signNext_70 : decode cX9_signNext 70 = .ok (.istore_n 3, 1) := by decide +kernel
theorem dX9_signNext_71 : decode cX9_signNext 71 = .ok (.iload_n 3, 1) := by decide +kernel
theorem dX9_signNext_72 : decode cX9_signNext 72 = .ok (.ifCond .ge 6, 3) := by decide +kernel
theorem dX9_signNext_75 : decode cX9_signNext 75 = .ok (.bipush (-4), 2) := by decide +kernel
theorem dX9_signNext_77 : decode cX9_signNext 77 = .ok (.ireturn, 1) := by decide +kernel
theorem dX9_signNext_78 : decode cX9_signNext 78 = .ok (.aload_n 0, 1) := by decide +kernel
theorem dX9_signNext_79 : decode cX9_signNext 79 = .ok (.invokevirtual 64, 3) := by decide +kernel
theorem dX9_signNext_82 : decode cX9_signNext 82 = .ok (.aload_n 0, 1) := by decide +kernel
theorem dX9_signNext_83 : decode cX9_signNext 83 = .ok (.aload_n 0, 1) := by decide +kernel
theorem dX9_signNext_84 : decode cX9_signNext 84 = .ok (.getfield 7, 3) := by decide +kernel
theorem dX9_signNext_87 : decode cX9_signNext 87 = .ok (.iconst 2, 1) := by decide +kernel
theorem dX9_signNext_88 : decode cX9_signNext 88 = .ok (.iaload, 1) := by decide +kernel
theorem dX9_signNext_89 : decode cX9_signNext 89 = .ok (.iload_n 3, 1) := by decide +kernel
theorem dX9_signNext_90 : decode cX9_signNext 90 = .ok (.bipush 26, 2) := by decide +kernel
theorem dX9_signNext_92 : decode cX9_signNext 92 = .ok (.idiv, 1) := by decide +kernel
theorem dX9_signNext_93 : decode cX9_signNext 93 = .ok (.iconst 1, 1) := by decide +kernel
theorem dX9_signNext_94 : decode cX9_signNext 94 = .ok (.iadd, 1) := by decide +kernel
theorem dX9_signNext_95 : decode cX9_signNext 95 = .ok (.iload_n 3, 1) := by decide +kernel
theorem dX9_signNext_96 : decode cX9_signNext 96 = .ok (.bipush 26, 2) := by decide +kernel
theorem dX9_signNext_98 : decode cX9_signNext 98 = .ok (.irem, 1) := by decide +kernel
theorem dX9_signNext_99 : decode cX9_signNext 99 = .ok (.iload_n 1, 1) := by decide +kernel
theorem dX9_signNext_100 : decode cX9_signNext 100 = .ok (.invokevirtual 107, 3) := by decide +kernel
theorem dX9_signNext_103 : decode cX9_signNext 103 = .ok (.aload_n 0, 1) := by decide +kernel
theorem dX9_signNext_104 : decode cX9_signNext 104 = .ok (.getfield 7, 3) := by decide +kernel
theorem dX9_signNext_107 : decode cX9_signNext 107 = .ok (.iconst 2, 1) := by decide +kernel
theorem dX9_signNext_108 : decode cX9_signNext 108 = .ok (.iaload, 1) := by decide +kernel
theorem dX9_signNext_109 : decode cX9_signNext 109 = .ok (.iconst 1, 1) := by decide +kernel
theorem dX9_signNext_110 : decode cX9_signNext 110 = .ok (.isub, 1) := by decide +kernel
theorem dX9_signNext_111 : decode cX9_signNext 111 = .ok (.ireturn, 1) := by decide +kernel
theorem dX9_insert_0 : decode cX9_insert 0 = .ok (.iload_n 1, 1) := by decide +kernel
theorem dX9_insert_1 : decode cX9_insert 1 = .ok (.iconst 0, 1) := by decide +kernel
theorem dX9_insert_2 : decode cX9_insert 2 = .ok (.aload_n 0, 1) := by decide +kernel
theorem dX9_insert_3 : decode cX9_insert 3 = .ok (.getfield 7, 3) := by decide +kernel
theorem dX9_insert_6 : decode cX9_insert 6 = .ok (.iconst 2, 1) := by decide +kernel
theorem dX9_insert_7 : decode cX9_insert 7 = .ok (.iaload, 1) := by decide +kernel
theorem dX9_insert_8 : decode cX9_insert 8 = .ok (.invokestatic 40, 3) := by decide +kernel
theorem dX9_insert_11 : decode cX9_insert 11 = .ok (.ifCond .ne 5, 3) := by decide +kernel
theorem dX9_insert_14 : decode cX9_insert 14 = .ok (.iconst (-1), 1) := by decide +kernel
theorem dX9_insert_15 : decode cX9_insert 15 = .ok (.ireturn, 1) := by decide +kernel
theorem dX9_insert_16 : decode cX9_insert 16 = .ok (.iload_n 2, 1) := by decide +kernel
theorem dX9_insert_17 : decode cX9_insert 17 = .ok (.iconst 1, 1) := by decide +kernel
theorem dX9_insert_18 : decode cX9_insert 18 = .ok (.iconst 5, 1) := by decide +kernel
theorem dX9_insert_19 : decode cX9_insert 19 = .ok (.invokestatic 40, 3) := by decide +kernel
theorem dX9_insert_22 : decode cX9_insert 22 = .ok (.ifCond .eq 13, 3) := by decide +kernel
theorem dX9_insert_25 : decode cX9_insert 25 = .ok (.iload_n 3, 1) := by decide +kernel
theorem dX9_insert_26 : decode cX9_insert 26 = .ok (.iconst 1, 1) := by decide +kernel
theorem dX9_insert_27 : decode cX9_insert 27 = .ok (.bipush 24, 2) := by decide +kernel
theorem dX9_insert_29 : decode cX9_insert 29 = .ok (.invokestatic 40, 3) := by decide +kernel
theorem dX9_insert_32 : decode cX9_insert 32 = .ok (.ifCond .ne 6, 3) := by decide +kernel
theorem dX9_insert_35 : decode cX9_insert 35 = .ok (.bipush (-2), 2) := by decide +kernel
theorem dX9_insert_37 : decode cX9_insert 37 = .ok (.ireturn, 1) := by decide +kernel
theorem dX9_insert_38 : decode cX9_insert 38 = .ok (.aload_n 0, 1) := by decide +kernel
theorem dX9_insert_39 : decode cX9_insert 39 = .ok (.getfield 7, 3) := by decide +kernel
theorem dX9_insert_42 : decode cX9_insert 42 = .ok (.iconst 2, 1) := by decide +kernel
theorem dX9_insert_43 : decode cX9_insert 43 = .ok (.iaload, 1) := by decide +kernel
theorem dX9_insert_44 : decode cX9_insert 44 = .ok (.bipush 40, 2) := by decide +kernel
theorem dX9_insert_46 : decode cX9_insert 46 = .ok (.if_icmp .ne 6, 3) := by decide +kernel
theorem dX9_insert_49 : decode cX9_insert 49 = .ok (.bipush (-3), 2) := by decide +kernel
theorem dX9_insert_51 : decode cX9_insert 51 = .ok (.ireturn, 1) := by decide +kernel
theorem dX9_insert_52 : decode cX9_insert 52 = .ok (.aload_n 0, 1) := by decide +kernel
theorem dX9_insert_53 : decode cX9_insert 53 = .ok (.invokevirtual 64, 3) := by decide +kernel
theorem dX9_insert_56 : decode cX9_insert 56 = .ok (.aload_n 0, 1) := by decide +kernel
theorem dX9_insert_57 : decode cX9_insert 57 = .ok (.iload_n 1, 1) := by decide +kernel
theorem dX9_insert_58 : decode cX9_insert 58 = .ok (.iload_n 2, 1) := by decide +kernel
theorem dX9_insert_59 : decode cX9_insert 59 = .ok (.iconst (-1), 1) := by decide +kernel
theorem dX9_insert_60 : decode cX9_insert 60 = .ok (.iload_n 3, 1) := by decide +kernel
theorem dX9_insert_61 : decode cX9_insert 61 = .ok (.invokevirtual 107, 3) := by decide +kernel
theorem dX9_insert_64 : decode cX9_insert 64 = .ok (.aload_n 0, 1) := by decide +kernel
theorem dX9_insert_65 : decode cX9_insert 65 = .ok (.invokevirtual 48, 3) := by decide +kernel
theorem dX9_insert_68 : decode cX9_insert 68 = .ok (.ireturn, 1) := by decide +kernel
theorem dX9_remove_0 : decode cX9_remove 0 = .ok (.aload_n 0, 1) := by decide +kernel
theorem dX9_remove_1 : decode cX9_remove 1 = .ok (.iload_n 1, 1) := by decide +kernel
theorem dX9_remove_2 : decode cX9_remove 2 = .ok (.invokevirtual 120, 3) := by decide +kernel
theorem dX9_remove_5 : decode cX9_remove 5 = .ok (.ifCond .ne 5, 3) := by decide +kernel
theorem dX9_remove_8 : decode cX9_remove 8 = .ok (.iconst (-1), 1) := by decide +kernel
theorem dX9_remove_9 : decode cX9_remove 9 = .ok (.ireturn, 1) := by decide +kernel
theorem dX9_remove_10 : decode cX9_remove 10 = .ok (.aload_n 0, 1) := by decide +kernel
theorem dX9_remove_11 : decode cX9_remove 11 = .ok (.invokevirtual 64, 3) := by decide +kernel
theorem dX9_remove_14 : decode cX9_remove 14 = .ok (.iload_n 1, 1) := by decide +kernel
theorem dX9_remove_15 : decode cX9_remove 15 = .ok (.istore_n 2, 1) := by decide +kernel
theorem dX9_remove_16 : decode cX9_remove 16 = .ok (.iload_n 2, 1) := by decide +kernel
theorem dX9_remove_17 : decode cX9_remove 17 = .ok (.iconst 1, 1) := by decide +kernel
theorem dX9_remove_18 : decode cX9_remove 18 = .ok (.iadd, 1) := by decide +kernel
theorem dX9_remove_19 : decode cX9_remove 19 = .ok (.aload_n 0, 1) := by decide +kernel
theorem dX9_remove_20 : decode cX9_remove 20 = .ok (.getfield 7, 3) := by decide +kernel
theorem dX9_remove_23 : decode cX9_remove 23 = .ok (.iconst 2, 1) := by decide +kernel
theorem dX9_remove_24 : decode cX9_remove 24 = .ok (.iaload, 1) := by decide +kernel
theorem dX9_remove_25 : decode cX9_remove 25 = .ok (.if_icmp .ge 44, 3) := by decide +kernel
theorem dX9_remove_28 : decode cX9_remove 28 = .ok (.iconst 0, 1) := by decide +kernel
theorem dX9_remove_29 : decode cX9_remove 29 = .ok (.istore_n 3, 1) := by decide +kernel
theorem dX9_remove_30 : decode cX9_remove 30 = .ok (.iload_n 3, 1) := by decide +kernel
theorem dX9_remove_31 : decode cX9_remove 31 = .ok (.iconst 4, 1) := by decide +kernel
theorem dX9_remove_32 : decode cX9_remove 32 = .ok (.if_icmp .ge 31, 3) := by decide +kernel
theorem dX9_remove_35 : decode cX9_remove 35 = .ok (.aload_n 0, 1) := by decide +kernel
theorem dX9_remove_36 : decode cX9_remove 36 = .ok (.getfield 7, 3) := by decide +kernel
theorem dX9_remove_39 : decode cX9_remove 39 = .ok (.iload_n 2, 1) := by decide +kernel
theorem dX9_remove_40 : decode cX9_remove 40 = .ok (.iload_n 3, 1) := by decide +kernel
theorem dX9_remove_41 : decode cX9_remove 41 = .ok (.invokestatic 36, 3) := by decide +kernel
theorem dX9_remove_44 : decode cX9_remove 44 = .ok (.aload_n 0, 1) := by decide +kernel
theorem dX9_remove_45 : decode cX9_remove 45 = .ok (.getfield 7, 3) := by decide +kernel
theorem dX9_remove_48 : decode cX9_remove 48 = .ok (.iload_n 2, 1) := by decide +kernel
theorem dX9_remove_49 : decode cX9_remove 49 = .ok (.iconst 1, 1) := by decide +kernel
theorem dX9_remove_50 : decode cX9_remove 50 = .ok (.iadd, 1) := by decide +kernel
theorem dX9_remove_51 : decode cX9_remove 51 = .ok (.iload_n 3, 1) := by decide +kernel
theorem dX9_remove_52 : decode cX9_remove 52 = .ok (.invokestatic 36, 3) := by decide +kernel
theorem dX9_remove_55 : decode cX9_remove 55 = .ok (.iaload, 1) := by decide +kernel
theorem dX9_remove_56 : decode cX9_remove 56 = .ok (.iastore, 1) := by decide +kernel
theorem dX9_remove_57 : decode cX9_remove 57 = .ok (.iinc 3 1, 3) := by decide +kernel
theorem dX9_remove_60 : decode cX9_remove 60 = .ok (.goto (-30), 3) := by decide +kernel
theorem dX9_remove_63 : decode cX9_remove 63 = .ok (.iinc 2 1, 3) := by decide +kernel
theorem dX9_remove_66 : decode cX9_remove 66 = .ok (.goto (-50), 3) := by decide +kernel
theorem dX9_remove_69 : decode cX9_remove 69 = .ok (.aload_n 0, 1) := by decide +kernel
theorem dX9_remove_70 : decode cX9_remove 70 = .ok (.getfield 7, 3) := by decide +kernel
theorem dX9_remove_73 : decode cX9_remove 73 = .ok (.iconst 2, 1) := by decide +kernel
theorem dX9_remove_74 : decode cX9_remove 74 = .ok (.dup2, 1) := by decide +kernel
theorem dX9_remove_75 : decode cX9_remove 75 = .ok (.iaload, 1) := by decide +kernel
theorem dX9_remove_76 : decode cX9_remove 76 = .ok (.iconst 1, 1) := by decide +kernel
theorem dX9_remove_77 : decode cX9_remove 77 = .ok (.isub, 1) := by decide +kernel
theorem dX9_remove_78 : decode cX9_remove 78 = .ok (.iastore, 1) := by decide +kernel
theorem dX9_remove_79 : decode cX9_remove 79 = .ok (.aload_n 0, 1) := by decide +kernel
theorem dX9_remove_80 : decode cX9_remove 80 = .ok (.getfield 7, 3) := by decide +kernel
theorem dX9_remove_83 : decode cX9_remove 83 = .ok (.sipush 163, 3) := by decide +kernel
theorem dX9_remove_86 : decode cX9_remove 86 = .ok (.iconst 0, 1) := by decide +kernel
theorem dX9_remove_87 : decode cX9_remove 87 = .ok (.iastore, 1) := by decide +kernel
theorem dX9_remove_88 : decode cX9_remove 88 = .ok (.aload_n 0, 1) := by decide +kernel
theorem dX9_remove_89 : decode cX9_remove 89 = .ok (.invokevirtual 48, 3) := by decide +kernel
theorem dX9_remove_92 : decode cX9_remove 92 = .ok (.ireturn, 1) := by decide +kernel
theorem dX9_lose_0 : decode cX9_lose 0 = .ok (.aload_n 0, 1) := by decide +kernel
theorem dX9_lose_1 : decode cX9_lose 1 = .ok (.iload_n 1, 1) := by decide +kernel
theorem dX9_lose_2 : decode cX9_lose 2 = .ok (.invokevirtual 123, 3) := by decide +kernel
theorem dX9_lose_5 : decode cX9_lose 5 = .ok (.ifCond .ne 5, 3) := by decide +kernel
theorem dX9_lose_8 : decode cX9_lose 8 = .ok (.iconst (-1), 1) := by decide +kernel
theorem dX9_lose_9 : decode cX9_lose 9 = .ok (.ireturn, 1) := by decide +kernel
theorem dX9_lose_10 : decode cX9_lose 10 = .ok (.aload_n 0, 1) := by decide +kernel
theorem dX9_lose_11 : decode cX9_lose 11 = .ok (.iload_n 1, 1) := by decide +kernel
theorem dX9_lose_12 : decode cX9_lose 12 = .ok (.invokevirtual 126, 3) := by decide +kernel
theorem dX9_lose_15 : decode cX9_lose 15 = .ok (.iload_n 2, 1) := by decide +kernel
theorem dX9_lose_16 : decode cX9_lose 16 = .ok (.if_icmp .ne 6, 3) := by decide +kernel
theorem dX9_lose_19 : decode cX9_lose 19 = .ok (.bipush (-5), 2) := by decide +kernel
theorem dX9_lose_21 : decode cX9_lose 21 = .ok (.ireturn, 1) := by decide +kernel
theorem dX9_lose_22 : decode cX9_lose 22 = .ok (.aload_n 0, 1) := by decide +kernel
theorem dX9_lose_23 : decode cX9_lose 23 = .ok (.invokevirtual 64, 3) := by decide +kernel
theorem dX9_lose_26 : decode cX9_lose 26 = .ok (.aload_n 0, 1) := by decide +kernel
theorem dX9_lose_27 : decode cX9_lose 27 = .ok (.iload_n 1, 1) := by decide +kernel
theorem dX9_lose_28 : decode cX9_lose 28 = .ok (.invokevirtual 55, 3) := by decide +kernel
theorem dX9_lose_31 : decode cX9_lose 31 = .ok (.istore_n 3, 1) := by decide +kernel
theorem dX9_lose_32 : decode cX9_lose 32 = .ok (.aload_n 0, 1) := by decide +kernel
theorem dX9_lose_33 : decode cX9_lose 33 = .ok (.getfield 7, 3) := by decide +kernel
theorem dX9_lose_36 : decode cX9_lose 36 = .ok (.iload_n 3, 1) := by decide +kernel
theorem dX9_lose_37 : decode cX9_lose 37 = .ok (.iconst 3, 1) := by decide +kernel
theorem dX9_lose_38 : decode cX9_lose 38 = .ok (.invokestatic 36, 3) := by decide +kernel
theorem dX9_lose_41 : decode cX9_lose 41 = .ok (.dup2, 1) := by decide +kernel
theorem dX9_lose_42 : decode cX9_lose 42 = .ok (.iaload, 1) := by decide +kernel
theorem dX9_lose_43 : decode cX9_lose 43 = .ok (.iconst 1, 1) := by decide +kernel
theorem dX9_lose_44 : decode cX9_lose 44 = .ok (.iload_n 1, 1) := by decide +kernel
theorem dX9_lose_45 : decode cX9_lose 45 = .ok (.aload_n 0, 1) := by decide +kernel
theorem dX9_lose_46 : decode cX9_lose 46 = .ok (.iload_n 3, 1) := by decide +kernel
theorem dX9_lose_47 : decode cX9_lose 47 = .ok (.invokevirtual 52, 3) := by decide +kernel
theorem dX9_lose_50 : decode cX9_lose 50 = .ok (.isub, 1) := by decide +kernel
theorem dX9_lose_51 : decode cX9_lose 51 = .ok (.ishl, 1) := by decide +kernel
theorem dX9_lose_52 : decode cX9_lose 52 = .ok (.ixor, 1) := by decide +kernel
theorem dX9_lose_53 : decode cX9_lose 53 = .ok (.iastore, 1) := by decide +kernel
theorem dX9_lose_54 : decode cX9_lose 54 = .ok (.aload_n 0, 1) := by decide +kernel
theorem dX9_lose_55 : decode cX9_lose 55 = .ok (.getfield 7, 3) := by decide +kernel
theorem dX9_lose_58 : decode cX9_lose 58 = .ok (.sipush 163, 3) := by decide +kernel
theorem dX9_lose_61 : decode cX9_lose 61 = .ok (.iconst 0, 1) := by decide +kernel
theorem dX9_lose_62 : decode cX9_lose 62 = .ok (.iastore, 1) := by decide +kernel
theorem dX9_lose_63 : decode cX9_lose 63 = .ok (.aload_n 0, 1) := by decide +kernel
theorem dX9_lose_64 : decode cX9_lose 64 = .ok (.invokevirtual 129, 3) := by decide +kernel
theorem dX9_lose_67 : decode cX9_lose 67 = .ok (.ireturn, 1) := by decide +kernel
theorem dX9_found_0 : decode cX9_found 0 = .ok (.iconst 0, 1) := by decide +kernel
theorem dX9_found_1 : decode cX9_found 1 = .ok (.istore_n 2, 1) := by decide +kernel
theorem dX9_found_2 : decode cX9_found 2 = .ok (.iload_n 2, 1) := by decide +kernel
theorem dX9_found_3 : decode cX9_found 3 = .ok (.aload_n 0, 1) := by decide +kernel
theorem dX9_found_4 : decode cX9_found 4 = .ok (.getfield 7, 3) := by decide +kernel
theorem dX9_found_7 : decode cX9_found 7 = .ok (.iconst 2, 1) := by decide +kernel
theorem dX9_found_8 : decode cX9_found 8 = .ok (.iaload, 1) := by decide +kernel
theorem dX9_found_9 : decode cX9_found 9 = .ok (.if_icmp .ge 105, 3) := by decide +kernel
theorem dX9_found_12 : decode cX9_found 12 = .ok (.aload_n 0, 1) := by decide +kernel
theorem dX9_found_13 : decode cX9_found 13 = .ok (.getfield 7, 3) := by decide +kernel
theorem dX9_found_16 : decode cX9_found 16 = .ok (.iload_n 2, 1) := by decide +kernel
theorem dX9_found_17 : decode cX9_found 17 = .ok (.iconst 0, 1) := by decide +kernel
theorem dX9_found_18 : decode cX9_found 18 = .ok (.invokestatic 36, 3) := by decide +kernel
theorem dX9_found_21 : decode cX9_found 21 = .ok (.iaload, 1) := by decide +kernel
theorem dX9_found_22 : decode cX9_found 22 = .ok (.aload_n 0, 1) := by decide +kernel
theorem dX9_found_23 : decode cX9_found 23 = .ok (.getfield 17, 3) := by decide +kernel
theorem dX9_found_26 : decode cX9_found 26 = .ok (.iconst 4, 1) := by decide +kernel
theorem dX9_found_27 : decode cX9_found 27 = .ok (.iload_n 1, 1) := by decide +kernel
theorem dX9_found_28 : decode cX9_found 28 = .ok (.imul, 1) := by decide +kernel
theorem dX9_found_29 : decode cX9_found 29 = .ok (.iaload, 1) := by decide +kernel
theorem dX9_found_30 : decode cX9_found 30 = .ok (.if_icmp .ne 30, 3) := by decide +kernel
theorem dX9_found_33 : decode cX9_found 33 = .ok (.aload_n 0, 1) := by decide +kernel
theorem dX9_found_34 : decode cX9_found 34 = .ok (.getfield 7, 3) := by decide +kernel
theorem dX9_found_37 : decode cX9_found 37 = .ok (.iload_n 2, 1) := by decide +kernel
theorem dX9_found_38 : decode cX9_found 38 = .ok (.iconst 1, 1) := by decide +kernel
theorem dX9_found_39 : decode cX9_found 39 = .ok (.invokestatic 36, 3) := by decide +kernel
theorem dX9_found_42 : decode cX9_found 42 = .ok (.iaload, 1) := by decide +kernel
theorem dX9_found_43 : decode cX9_found 43 = .ok (.aload_n 0, 1) := by decide +kernel
theorem dX9_found_44 : decode cX9_found 44 = .ok (.getfield 17, 3) := by decide +kernel
theorem dX9_found_47 : decode cX9_found 47 = .ok (.iconst 4, 1) := by decide +kernel
theorem dX9_found_48 : decode cX9_found 48 = .ok (.iload_n 1, 1) := by decide +kernel
theorem dX9_found_49 : decode cX9_found 49 = .ok (.imul, 1) := by decide +kernel
theorem dX9_found_50 : decode cX9_found 50 = .ok (.iconst 1, 1) := by decide +kernel
theorem dX9_found_51 : decode cX9_found 51 = .ok (.iadd, 1) := by decide +kernel
theorem dX9_found_52 : decode cX9_found 52 = .ok (.iaload, 1) := by decide +kernel
theorem dX9_found_53 : decode cX9_found 53 = .ok (.if_icmp .ne 7, 3) := by decide +kernel
theorem dX9_found_56 : decode cX9_found 56 = .ok (.iconst 1, 1) := by decide +kernel
theorem dX9_found_57 : decode cX9_found 57 = .ok (.goto 4, 3) := by decide +kernel
theorem dX9_found_60 : decode cX9_found 60 = .ok (.iconst 0, 1) := by decide +kernel
theorem dX9_found_61 : decode cX9_found 61 = .ok (.istore_n 3, 1) := by decide +kernel
theorem dX9_found_62 : decode cX9_found 62 = .ok (.iload_n 3, 1) := by decide +kernel
theorem dX9_found_63 : decode cX9_found 63 = .ok (.ifCond .eq 45, 3) := by decide +kernel
theorem dX9_found_66 : decode cX9_found 66 = .ok (.aload_n 0, 1) := by decide +kernel
theorem dX9_found_67 : decode cX9_found 67 = .ok (.getfield 17, 3) := by decide +kernel
theorem dX9_found_70 : decode cX9_found 70 = .ok (.iconst 4, 1) := by decide +kernel
theorem dX9_found_71 : decode cX9_found 71 = .ok (.iload_n 1, 1) := by decide +kernel
theorem dX9_found_72 : decode cX9_found 72 = .ok (.imul, 1) := by decide +kernel
theorem dX9_found_73 : decode cX9_found 73 = .ok (.iconst 3, 1) := by decide +kernel
theorem dX9_found_74 : decode cX9_found 74 = .ok (.iadd, 1) := by decide +kernel
theorem dX9_found_75 : decode cX9_found 75 = .ok (.iaload, 1) := by decide +kernel
theorem dX9_found_76 : decode cX9_found 76 = .ok (.aload_n 0, 1) := by decide +kernel
theorem dX9_found_77 : decode cX9_found 77 = .ok (.getfield 7, 3) := by decide +kernel
theorem dX9_found_80 : decode cX9_found 80 = .ok (.iload_n 2, 1) := by decide +kernel
theorem dX9_found_81 : decode cX9_found 81 = .ok (.iconst 2, 1) := by decide +kernel
theorem dX9_found_82 : decode cX9_found 82 = .ok (.invokestatic 36, 3) := by decide +kernel
theorem dX9_found_85 : decode cX9_found 85 = .ok (.iaload, 1) := by decide +kernel
theorem dX9_found_86 : decode cX9_found 86 = .ok (.if_icmp .gt 22, 3) := by decide +kernel
theorem dX9_found_89 : decode cX9_found 89 = .ok (.aload_n 0, 1) := by decide +kernel
theorem dX9_found_90 : decode cX9_found 90 = .ok (.iload_n 2, 1) := by decide +kernel
theorem dX9_found_91 : decode cX9_found 91 = .ok (.invokevirtual 52, 3) := by decide +kernel
theorem dX9_found_94 : decode cX9_found 94 = .ok (.aload_n 0, 1) := by decide +kernel
theorem dX9_found_95 : decode cX9_found 95 = .ok (.getfield 17, 3) := by decide +kernel
theorem dX9_found_98 : decode cX9_found 98 = .ok (.iconst 4, 1) := by decide +kernel
theorem dX9_found_99 : decode cX9_found 99 = .ok (.iload_n 1, 1) := by decide +kernel
theorem dX9_found_100 : decode cX9_found 100 = .ok (.imul, 1) := by decide +kernel
theorem dX9_found_101 : decode cX9_found 101 = .ok (.iconst 3, 1) := by decide +kernel
theorem dX9_found_102 : decode cX9_found 102 = .ok (.iadd, 1) := by decide +kernel
theorem dX9_found_103 : decode cX9_found 103 = .ok (.iaload, 1) := by decide +kernel
theorem dX9_found_104 : decode cX9_found 104 = .ok (.iadd, 1) := by decide +kernel
theorem dX9_found_105 : decode cX9_found 105 = .ok (.iconst 1, 1) := by decide +kernel
theorem dX9_found_106 : decode cX9_found 106 = .ok (.isub, 1) := by decide +kernel
theorem dX9_found_107 : decode cX9_found 107 = .ok (.ireturn, 1) := by decide +kernel
theorem dX9_found_108 : decode cX9_found 108 = .ok (.iinc 2 1, 3) := by decide +kernel
theorem dX9_found_111 : decode cX9_found 111 = .ok (.goto (-109), 3) := by decide +kernel
theorem dX9_found_114 : decode cX9_found 114 = .ok (.iconst (-1), 1) := by decide +kernel
theorem dX9_found_115 : decode cX9_found 115 = .ok (.ireturn, 1) := by decide +kernel
theorem dX9_readPile_0 : decode cX9_readPile 0 = .ok (.aload_n 0, 1) := by decide +kernel
theorem dX9_readPile_1 : decode cX9_readPile 1 = .ok (.iconst 0, 1) := by decide +kernel
theorem dX9_readPile_2 : decode cX9_readPile 2 = .ok (.invokevirtual 103, 3) := by decide +kernel
theorem dX9_readPile_5 : decode cX9_readPile 5 = .ok (.istore_n 1, 1) := by decide +kernel
theorem dX9_readPile_6 : decode cX9_readPile 6 = .ok (.iload_n 1, 1) := by decide +kernel
theorem dX9_readPile_7 : decode cX9_readPile 7 = .ok (.ifCond .lt 8, 3) := by decide +kernel
theorem dX9_readPile_10 : decode cX9_readPile 10 = .ok (.bipush (-100), 2) := by decide +kernel
theorem dX9_readPile_12 : decode cX9_readPile 12 = .ok (.iload_n 1, 1) := by decide +kernel
theorem dX9_readPile_13 : decode cX9_readPile 13 = .ok (.isub, 1) := by decide +kernel
theorem dX9_readPile_14 : decode cX9_readPile 14 = .ok (.ireturn, 1) := by decide +kernel
theorem dX9_readPile_15 : decode cX9_readPile 15 = .ok (.iconst 0, 1) := by decide +kernel
theorem dX9_readPile_16 : decode cX9_readPile 16 = .ok (.istore_n 2, 1) := by decide +kernel
theorem dX9_readPile_17 : decode cX9_readPile 17 = .ok (.iload_n 2, 1) := by decide +kernel
theorem dX9_readPile_18 : decode cX9_readPile 18 = .ok (.aload_n 0, 1) := by decide +kernel
theorem dX9_readPile_19 : decode cX9_readPile 19 = .ok (.getfield 94, 3) := by decide +kernel
theorem dX9_readPile_22 : decode cX9_readPile 22 = .ok (.if_icmp .ge 19, 3) := by decide +kernel
theorem dX9_readPile_25 : decode cX9_readPile 25 = .ok (.aload_n 0, 1) := by decide +kernel
theorem dX9_readPile_26 : decode cX9_readPile 26 = .ok (.iload_n 2, 1) := by decide +kernel
theorem dX9_readPile_27 : decode cX9_readPile 27 = .ok (.invokevirtual 132, 3) := by decide +kernel
theorem dX9_readPile_30 : decode cX9_readPile 30 = .ok (.ifCond .ge 5, 3) := by decide +kernel
theorem dX9_readPile_33 : decode cX9_readPile 33 = .ok (.iconst (-1), 1) := by decide +kernel
theorem dX9_readPile_34 : decode cX9_readPile 34 = .ok (.ireturn, 1) := by decide +kernel
theorem dX9_readPile_35 : decode cX9_readPile 35 = .ok (.iinc 2 1, 3) := by decide +kernel
theorem dX9_readPile_38 : decode cX9_readPile 38 = .ok (.goto (-21), 3) := by decide +kernel
theorem dX9_readPile_41 : decode cX9_readPile 41 = .ok (.iconst 0, 1) := by decide +kernel
theorem dX9_readPile_42 : decode cX9_readPile 42 = .ok (.istore_n 2, 1) := by decide +kernel
theorem dX9_readPile_43 : decode cX9_readPile 43 = .ok (.iload_n 2, 1) := by decide +kernel
theorem dX9_readPile_44 : decode cX9_readPile 44 = .ok (.aload_n 0, 1) := by decide +kernel
theorem dX9_readPile_45 : decode cX9_readPile 45 = .ok (.getfield 94, 3) := by decide +kernel
theorem dX9_readPile_48 : decode cX9_readPile 48 = .ok (.if_icmp .ge 69, 3) := by decide +kernel
theorem dX9_readPile_51 : decode cX9_readPile 51 = .ok (.iconst 0, 1) := by decide +kernel
theorem dX9_readPile_52 : decode cX9_readPile 52 = .ok (.istore_n 3, 1) := by decide +kernel
theorem dX9_readPile_53 : decode cX9_readPile 53 = .ok (.iconst 0, 1) := by decide +kernel
theorem dX9_readPile_54 : decode cX9_readPile 54 = .ok (.istore 4, 2) := by decide +kernel
theorem dX9_readPile_56 : decode cX9_readPile 56 = .ok (.iload 4, 2) := by decide +kernel
theorem dX9_readPile_58 : decode cX9_readPile 58 = .ok (.iload_n 2, 1) := by decide +kernel
theorem dX9_readPile_59 : decode cX9_readPile 59 = .ok (.if_icmp .ge 33, 3) := by decide +kernel
theorem dX9_readPile_62 : decode cX9_readPile 62 = .ok (.iload_n 3, 1) := by decide +kernel
theorem dX9_readPile_63 : decode cX9_readPile 63 = .ok (.ifCond .ne 17, 3) := by decide +kernel
theorem dX9_readPile_66 : decode cX9_readPile 66 = .ok (.aload_n 0, 1) := by decide +kernel
theorem dX9_readPile_67 : decode cX9_readPile 67 = .ok (.iload 4, 2) := by decide +kernel
theorem dX9_readPile_69 : decode cX9_readPile 69 = .ok (.invokevirtual 132, 3) := by decide +kernel
theorem dX9_readPile_72 : decode cX9_readPile 72 = .ok (.aload_n 0, 1) := by decide +kernel
theorem dX9_readPile_73 : decode cX9_readPile 73 = .ok (.iload_n 2, 1) := by decide +kernel
theorem dX9_readPile_74 : decode cX9_readPile 74 = .ok (.invokevirtual 132, 3) := by decide +kernel
theorem dX9_readPile_77 : decode cX9_readPile 77 = .ok (.if_icmp .ne 7, 3) := by decide +kernel
theorem dX9_readPile_80 : decode cX9_readPile 80 = .ok (.iconst 1, 1) := by decide +kernel
theorem dX9_readPile_81 : decode cX9_readPile 81 = .ok (.goto 4, 3) := by decide +kernel
theorem dX9_readPile_84 : decode cX9_readPile 84 = .ok (.iconst 0, 1) := by decide +kernel
theorem dX9_readPile_85 : decode cX9_readPile 85 = .ok (.istore_n 3, 1) := by decide +kernel
theorem dX9_readPile_86 : decode cX9_readPile 86 = .ok (.iinc 4 1, 3) := by decide +kernel
theorem dX9_readPile_89 : decode cX9_readPile 89 = .ok (.goto (-33), 3) := by decide +kernel
theorem dX9_readPile_92 : decode cX9_readPile 92 = .ok (.iload_n 3, 1) := by decide +kernel
theorem dX9_readPile_93 : decode cX9_readPile 93 = .ok (.ifCond .ne 15, 3) := by decide +kernel
theorem dX9_readPile_96 : decode cX9_readPile 96 = .ok (.aload_n 0, 1) := by decide +kernel
theorem dX9_readPile_97 : decode cX9_readPile 97 = .ok (.aload_n 0, 1) := by decide +kernel
theorem dX9_readPile_98 : decode cX9_readPile 98 = .ok (.iload_n 2, 1) := by decide +kernel
theorem dX9_readPile_99 : decode cX9_readPile 99 = .ok (.invokevirtual 132, 3) := by decide +kernel
theorem dX9_readPile_102 : decode cX9_readPile 102 = .ok (.invokevirtual 126, 3) := by decide +kernel
theorem dX9_readPile_105 : decode cX9_readPile 105 = .ok (.ifCond .eq 6, 3) := by decide +kernel
theorem dX9_readPile_108 : decode cX9_readPile 108 = .ok (.bipush (-4), 2) := by decide +kernel
theorem dX9_readPile_110 : decode cX9_readPile 110 = .ok (.ireturn, 1) := by decide +kernel
theorem dX9_readPile_111 : decode cX9_readPile 111 = .ok (.iinc 2 1, 3) := by decide +kernel
theorem dX9_readPile_114 : decode cX9_readPile 114 = .ok (.goto (-71), 3) := by decide +kernel
theorem dX9_readPile_117 : decode cX9_readPile 117 = .ok (.aload_n 0, 1) := by decide +kernel
theorem dX9_readPile_118 : decode cX9_readPile 118 = .ok (.getfield 94, 3) := by decide +kernel
theorem dX9_readPile_121 : decode cX9_readPile 121 = .ok (.bipush 12, 2) := by decide +kernel
theorem dX9_readPile_123 : decode cX9_readPile 123 = .ok (.if_icmp .le 6, 3) := by decide +kernel
theorem dX9_readPile_126 : decode cX9_readPile 126 = .ok (.bipush (-3), 2) := by decide +kernel
theorem dX9_readPile_128 : decode cX9_readPile 128 = .ok (.ireturn, 1) := by decide +kernel
theorem dX9_readPile_129 : decode cX9_readPile 129 = .ok (.aload_n 0, 1) := by decide +kernel
theorem dX9_readPile_130 : decode cX9_readPile 130 = .ok (.invokevirtual 64, 3) := by decide +kernel
theorem dX9_readPile_133 : decode cX9_readPile 133 = .ok (.iconst 0, 1) := by decide +kernel
theorem dX9_readPile_134 : decode cX9_readPile 134 = .ok (.istore_n 2, 1) := by decide +kernel
theorem dX9_readPile_135 : decode cX9_readPile 135 = .ok (.iload_n 2, 1) := by decide +kernel
theorem dX9_readPile_136 : decode cX9_readPile 136 = .ok (.aload_n 0, 1) := by decide +kernel
theorem dX9_readPile_137 : decode cX9_readPile 137 = .ok (.getfield 94, 3) := by decide +kernel
theorem dX9_readPile_140 : decode cX9_readPile 140 = .ok (.if_icmp .ge 24, 3) := by decide +kernel
theorem dX9_readPile_143 : decode cX9_readPile 143 = .ok (.aload_n 0, 1) := by decide +kernel
theorem dX9_readPile_144 : decode cX9_readPile 144 = .ok (.getfield 7, 3) := by decide +kernel
theorem dX9_readPile_147 : decode cX9_readPile 147 = .ok (.sipush 164, 3) := by decide +kernel
theorem dX9_readPile_150 : decode cX9_readPile 150 = .ok (.iload_n 2, 1) := by decide +kernel
theorem dX9_readPile_151 : decode cX9_readPile 151 = .ok (.iadd, 1) := by decide +kernel
theorem dX9_readPile_152 : decode cX9_readPile 152 = .ok (.aload_n 0, 1) := by decide +kernel
theorem dX9_readPile_153 : decode cX9_readPile 153 = .ok (.iload_n 2, 1) := by decide +kernel
theorem dX9_readPile_154 : decode cX9_readPile 154 = .ok (.invokevirtual 132, 3) := by decide +kernel
theorem dX9_readPile_157 : decode cX9_readPile 157 = .ok (.iastore, 1) := by decide +kernel
theorem dX9_readPile_158 : decode cX9_readPile 158 = .ok (.iinc 2 1, 3) := by decide +kernel
theorem dX9_readPile_161 : decode cX9_readPile 161 = .ok (.goto (-26), 3) := by decide +kernel
theorem dX9_readPile_164 : decode cX9_readPile 164 = .ok (.aload_n 0, 1) := by decide +kernel
theorem dX9_readPile_165 : decode cX9_readPile 165 = .ok (.getfield 7, 3) := by decide +kernel
theorem dX9_readPile_168 : decode cX9_readPile 168 = .ok (.sipush 163, 3) := by decide +kernel
theorem dX9_readPile_171 : decode cX9_readPile 171 = .ok (.aload_n 0, 1) := by decide +kernel
theorem dX9_readPile_172 : decode cX9_readPile 172 = .ok (.getfield 94, 3) := by decide +kernel
theorem dX9_readPile_175 : decode cX9_readPile 175 = .ok (.iastore, 1) := by decide +kernel
theorem dX9_readPile_176 : decode cX9_readPile 176 = .ok (.aload_n 0, 1) := by decide +kernel
theorem dX9_readPile_177 : decode cX9_readPile 177 = .ok (.getfield 94, 3) := by decide +kernel
theorem dX9_readPile_180 : decode cX9_readPile 180 = .ok (.ireturn, 1) := by decide +kernel
theorem dX9_type_0 : decode cX9_type 0 = .ok (.aload_n 0, 1) := by decide +kernel
theorem dX9_type_1 : decode cX9_type 1 = .ok (.getfield 77, 3) := by decide +kernel
theorem dX9_type_4 : decode cX9_type 4 = .ok (.bipush 60, 2) := by decide +kernel
theorem dX9_type_6 : decode cX9_type 6 = .ok (.if_icmp .ne 6, 3) := by decide +kernel
theorem dX9_type_9 : decode cX9_type 9 = .ok (.bipush (-3), 2) := by decide +kernel
theorem dX9_type_11 : decode cX9_type 11 = .ok (.ireturn, 1) := by decide +kernel
theorem dX9_type_12 : decode cX9_type 12 = .ok (.aload_n 0, 1) := by decide +kernel
theorem dX9_type_13 : decode cX9_type 13 = .ok (.getfield 13, 3) := by decide +kernel
theorem dX9_type_16 : decode cX9_type 16 = .ok (.aload_n 0, 1) := by decide +kernel
theorem dX9_type_17 : decode cX9_type 17 = .ok (.getfield 77, 3) := by decide +kernel
theorem dX9_type_20 : decode cX9_type 20 = .ok (.iload_n 1, 1) := by decide +kernel
theorem dX9_type_21 : decode cX9_type 21 = .ok (.castore, 1) := by decide +kernel
theorem dX9_type_22 : decode cX9_type 22 = .ok (.aload_n 0, 1) := by decide +kernel
theorem dX9_type_23 : decode cX9_type 23 = .ok (.dup, 1) := by decide +kernel
theorem dX9_type_24 : decode cX9_type 24 = .ok (.getfield 77, 3) := by decide +kernel
theorem dX9_type_27 : decode cX9_type 27 = .ok (.iconst 1, 1) := by decide +kernel
theorem dX9_type_28 : decode cX9_type 28 = .ok (.iadd, 1) := by decide +kernel
theorem dX9_type_29 : decode cX9_type 29 = .ok (.putfield 77, 3) := by decide +kernel
theorem dX9_type_32 : decode cX9_type 32 = .ok (.aload_n 0, 1) := by decide +kernel
theorem dX9_type_33 : decode cX9_type 33 = .ok (.getfield 77, 3) := by decide +kernel
theorem dX9_type_36 : decode cX9_type 36 = .ok (.ireturn, 1) := by decide +kernel
theorem dX9_clearText_0 : decode cX9_clearText 0 = .ok (.aload_n 0, 1) := by decide +kernel
theorem dX9_clearText_1 : decode cX9_clearText 1 = .ok (.getfield 77, 3) := by decide +kernel
theorem dX9_clearText_4 : decode cX9_clearText 4 = .ok (.istore_n 1, 1) := by decide +kernel
theorem dX9_clearText_5 : decode cX9_clearText 5 = .ok (.aload_n 0, 1) := by decide +kernel
theorem dX9_clearText_6 : decode cX9_clearText 6 = .ok (.iconst 0, 1) := by decide +kernel
theorem dX9_clearText_7 : decode cX9_clearText 7 = .ok (.putfield 77, 3) := by decide +kernel
theorem dX9_clearText_10 : decode cX9_clearText 10 = .ok (.iload_n 1, 1) := by decide +kernel
theorem dX9_clearText_11 : decode cX9_clearText 11 = .ok (.ireturn, 1) := by decide +kernel
theorem dX9_undo_0 : decode cX9_undo 0 = .ok (.aload_n 0, 1) := by decide +kernel
theorem dX9_undo_1 : decode cX9_undo 1 = .ok (.getfield 24, 3) := by decide +kernel
theorem dX9_undo_4 : decode cX9_undo 4 = .ok (.ifCond .ne 6, 3) := by decide +kernel
theorem dX9_undo_7 : decode cX9_undo 7 = .ok (.bipush (-5), 2) := by decide +kernel
theorem dX9_undo_9 : decode cX9_undo 9 = .ok (.ireturn, 1) := by decide +kernel
theorem dX9_undo_10 : decode cX9_undo 10 = .ok (.aload_n 0, 1) := by decide +kernel
theorem dX9_undo_11 : decode cX9_undo 11 = .ok (.aload_n 0, 1) := by decide +kernel
theorem dX9_undo_12 : decode cX9_undo 12 = .ok (.getfield 24, 3) := by decide +kernel
theorem dX9_undo_15 : decode cX9_undo 15 = .ok (.iconst 0, 1) := by decide +kernel
theorem dX9_undo_16 : decode cX9_undo 16 = .ok (.invokevirtual 28, 3) := by decide +kernel
theorem dX9_undo_19 : decode cX9_undo 19 = .ok (.aload_n 0, 1) := by decide +kernel
theorem dX9_undo_20 : decode cX9_undo 20 = .ok (.dup, 1) := by decide +kernel
theorem dX9_undo_21 : decode cX9_undo 21 = .ok (.getfield 24, 3) := by decide +kernel
theorem dX9_undo_24 : decode cX9_undo 24 = .ok (.iconst 1, 1) := by decide +kernel
theorem dX9_undo_25 : decode cX9_undo 25 = .ok (.isub, 1) := by decide +kernel
theorem dX9_undo_26 : decode cX9_undo 26 = .ok (.putfield 24, 3) := by decide +kernel
theorem dX9_undo_29 : decode cX9_undo 29 = .ok (.aload_n 0, 1) := by decide +kernel
theorem dX9_undo_30 : decode cX9_undo 30 = .ok (.getfield 24, 3) := by decide +kernel
theorem dX9_undo_33 : decode cX9_undo 33 = .ok (.ireturn, 1) := by decide +kernel
theorem dX9_keep_0 : decode cX9_keep 0 = .ok (.aload_n 0, 1) := by decide +kernel
theorem dX9_keep_1 : decode cX9_keep 1 = .ok (.iconst 0, 1) := by decide +kernel
theorem dX9_keep_2 : decode cX9_keep 2 = .ok (.iconst 5, 1) := by decide +kernel
theorem dX9_keep_3 : decode cX9_keep 3 = .ok (.invokevirtual 28, 3) := by decide +kernel
theorem dX9_keep_6 : decode cX9_keep 6 = .ok (.aload_n 0, 1) := by decide +kernel
theorem dX9_keep_7 : decode cX9_keep 7 = .ok (.iconst 1, 1) := by decide +kernel
theorem dX9_keep_8 : decode cX9_keep 8 = .ok (.putfield 135, 3) := by decide +kernel
theorem dX9_keep_11 : decode cX9_keep 11 = .ok (.aload_n 0, 1) := by decide +kernel
theorem dX9_keep_12 : decode cX9_keep 12 = .ok (.getfield 7, 3) := by decide +kernel
theorem dX9_keep_15 : decode cX9_keep 15 = .ok (.iconst 2, 1) := by decide +kernel
theorem dX9_keep_16 : decode cX9_keep 16 = .ok (.iaload, 1) := by decide +kernel
theorem dX9_keep_17 : decode cX9_keep 17 = .ok (.ireturn, 1) := by decide +kernel
theorem dX9_restore_0 : decode cX9_restore 0 = .ok (.aload_n 0, 1) := by decide +kernel
theorem dX9_restore_1 : decode cX9_restore 1 = .ok (.getfield 135, 3) := by decide +kernel
theorem dX9_restore_4 : decode cX9_restore 4 = .ok (.ifCond .ne 6, 3) := by decide +kernel
theorem dX9_restore_7 : decode cX9_restore 7 = .ok (.bipush (-5), 2) := by decide +kernel
theorem dX9_restore_9 : decode cX9_restore 9 = .ok (.ireturn, 1) := by decide +kernel
theorem dX9_restore_10 : decode cX9_restore 10 = .ok (.aload_n 0, 1) := by decide +kernel
theorem dX9_restore_11 : decode cX9_restore 11 = .ok (.invokevirtual 64, 3) := by decide +kernel
theorem dX9_restore_14 : decode cX9_restore 14 = .ok (.aload_n 0, 1) := by decide +kernel
theorem dX9_restore_15 : decode cX9_restore 15 = .ok (.iconst 5, 1) := by decide +kernel
theorem dX9_restore_16 : decode cX9_restore 16 = .ok (.iconst 0, 1) := by decide +kernel
theorem dX9_restore_17 : decode cX9_restore 17 = .ok (.invokevirtual 28, 3) := by decide +kernel
theorem dX9_restore_20 : decode cX9_restore 20 = .ok (.aload_n 0, 1) := by decide +kernel
theorem dX9_restore_21 : decode cX9_restore 21 = .ok (.getfield 7, 3) := by decide +kernel
theorem dX9_restore_24 : decode cX9_restore 24 = .ok (.iconst 2, 1) := by decide +kernel
theorem dX9_restore_25 : decode cX9_restore 25 = .ok (.iaload, 1) := by decide +kernel
theorem dX9_restore_26 : decode cX9_restore 26 = .ok (.ireturn, 1) := by decide +kernel
theorem dX9_sameAhead_0 : decode cX9_sameAhead 0 = .ok (.iconst 0, 1) := by decide +kernel
theorem dX9_sameAhead_1 : decode cX9_sameAhead 1 = .ok (.istore_n 2, 1) := by decide +kernel
theorem dX9_sameAhead_2 : decode cX9_sameAhead 2 = .ok (.iconst 0, 1) := by decide +kernel
theorem dX9_sameAhead_3 : decode cX9_sameAhead 3 = .ok (.istore_n 3, 1) := by decide +kernel
theorem dX9_sameAhead_4 : decode cX9_sameAhead 4 = .ok (.iload_n 3, 1) := by decide +kernel
theorem dX9_sameAhead_5 : decode cX9_sameAhead 5 = .ok (.iload_n 1, 1) := by decide +kernel
theorem dX9_sameAhead_6 : decode cX9_sameAhead 6 = .ok (.if_icmp .ge 26, 3) := by decide +kernel
theorem dX9_sameAhead_9 : decode cX9_sameAhead 9 = .ok (.iload_n 2, 1) := by decide +kernel
theorem dX9_sameAhead_10 : decode cX9_sameAhead 10 = .ok (.aload_n 0, 1) := by decide +kernel
theorem dX9_sameAhead_11 : decode cX9_sameAhead 11 = .ok (.iload_n 3, 1) := by decide +kernel
theorem dX9_sameAhead_12 : decode cX9_sameAhead 12 = .ok (.iload_n 1, 1) := by decide +kernel
theorem dX9_sameAhead_13 : decode cX9_sameAhead 13 = .ok (.invokevirtual 138, 3) := by decide +kernel
theorem dX9_sameAhead_16 : decode cX9_sameAhead 16 = .ok (.ifCond .eq 7, 3) := by decide +kernel
theorem dX9_sameAhead_19 : decode cX9_sameAhead 19 = .ok (.iconst 1, 1) := by decide +kernel
theorem dX9_sameAhead_20 : decode cX9_sameAhead 20 = .ok (.goto 4, 3) := by decide +kernel
theorem dX9_sameAhead_23 : decode cX9_sameAhead 23 = .ok (.iconst 0, 1) := by decide +kernel
theorem dX9_sameAhead_24 : decode cX9_sameAhead 24 = .ok (.iadd, 1) := by decide +kernel
theorem dX9_sameAhead_25 : decode cX9_sameAhead 25 = .ok (.istore_n 2, 1) := by decide +kernel
theorem dX9_sameAhead_26 : decode cX9_sameAhead 26 = .ok (.iinc 3 1, 3) := by decide +kernel
theorem dX9_sameAhead_29 : decode cX9_sameAhead 29 = .ok (.goto (-25), 3) := by decide +kernel
theorem dX9_sameAhead_32 : decode cX9_sameAhead 32 = .ok (.iload_n 2, 1) := by decide +kernel
theorem dX9_sameAhead_33 : decode cX9_sameAhead 33 = .ok (.ireturn, 1) := by decide +kernel
theorem dX9_quire_0 : decode cX9_quire 0 = .ok (.aload_n 0, 1) := by decide +kernel
theorem dX9_quire_1 : decode cX9_quire 1 = .ok (.iload_n 1, 1) := by decide +kernel
theorem dX9_quire_2 : decode cX9_quire 2 = .ok (.invokevirtual 120, 3) := by decide +kernel
theorem dX9_quire_5 : decode cX9_quire 5 = .ok (.ifCond .ne 5, 3) := by decide +kernel
theorem dX9_quire_8 : decode cX9_quire 8 = .ok (.iconst (-1), 1) := by decide +kernel
theorem dX9_quire_9 : decode cX9_quire 9 = .ok (.ireturn, 1) := by decide +kernel
theorem dX9_quire_10 : decode cX9_quire 10 = .ok (.iload_n 2, 1) := by decide +kernel
theorem dX9_quire_11 : decode cX9_quire 11 = .ok (.tableswitch 114 0 6 #[41, 52, 79, 90, 96, 102, 108], 41) := by decide +kernel
theorem dX9_quire_52 : decode cX9_quire 52 = .ok (.aload_n 0, 1) := by decide +kernel
theorem dX9_quire_53 : decode cX9_quire 53 = .ok (.getfield 7, 3) := by decide +kernel
theorem dX9_quire_56 : decode cX9_quire 56 = .ok (.iload_n 1, 1) := by decide +kernel
theorem dX9_quire_57 : decode cX9_quire 57 = .ok (.iconst 0, 1) := by decide +kernel
theorem dX9_quire_58 : decode cX9_quire 58 = .ok (.invokestatic 36, 3) := by decide +kernel
theorem dX9_quire_61 : decode cX9_quire 61 = .ok (.iaload, 1) := by decide +kernel
theorem dX9_quire_62 : decode cX9_quire 62 = .ok (.ireturn, 1) := by decide +kernel
theorem dX9_quire_63 : decode cX9_quire 63 = .ok (.aload_n 0, 1) := by decide +kernel
theorem dX9_quire_64 : decode cX9_quire 64 = .ok (.iload_n 1, 1) := by decide +kernel
theorem dX9_quire_65 : decode cX9_quire 65 = .ok (.invokevirtual 111, 3) := by decide +kernel
theorem dX9_quire_68 : decode cX9_quire 68 = .ok (.ifCond .eq 8, 3) := by decide +kernel
theorem dX9_quire_71 : decode cX9_quire 71 = .ok (.bipush (-5), 2) := by decide +kernel
theorem dX9_quire_73 : decode cX9_quire 73 = .ok (.goto 16, 3) := by decide +kernel
theorem dX9_quire_76 : decode cX9_quire 76 = .ok (.bipush 65, 2) := by decide +kernel
theorem dX9_quire_78 : decode cX9_quire 78 = .ok (.aload_n 0, 1) := by decide +kernel
theorem dX9_quire_79 : decode cX9_quire 79 = .ok (.getfield 7, 3) := by decide +kernel
theorem dX9_quire_82 : decode cX9_quire 82 = .ok (.iload_n 1, 1) := by decide +kernel
theorem dX9_quire_83 : decode cX9_quire 83 = .ok (.iconst 1, 1) := by decide +kernel
theorem dX9_quire_84 : decode cX9_quire 84 = .ok (.invokestatic 36, 3) := by decide +kernel
theorem dX9_quire_87 : decode cX9_quire 87 = .ok (.iaload, 1) := by decide +kernel
theorem dX9_quire_88 : decode cX9_quire 88 = .ok (.iadd, 1) := by decide +kernel
theorem dX9_quire_89 : decode cX9_quire 89 = .ok (.ireturn, 1) := by decide +kernel
theorem dX9_quire_90 : decode cX9_quire 90 = .ok (.aload_n 0, 1) := by decide +kernel
theorem dX9_quire_91 : decode cX9_quire 91 = .ok (.getfield 7, 3) := by decide +kernel
theorem dX9_quire_94 : decode cX9_quire 94 = .ok (.iload_n 1, 1) := by decide +kernel
theorem dX9_quire_95 : decode cX9_quire 95 = .ok (.iconst 2, 1) := by decide +kernel
theorem dX9_quire_96 : decode cX9_quire 96 = .ok (.invokestatic 36, 3) := by decide +kernel
theorem dX9_quire_99 : decode cX9_quire 99 = .ok (.iaload, 1) := by decide +kernel
theorem dX9_quire_100 : decode cX9_quire 100 = .ok (.ireturn, 1) := by decide +kernel
theorem dX9_quire_101 : decode cX9_quire 101 = .ok (.aload_n 0, 1) := by decide +kernel
theorem dX9_quire_102 : decode cX9_quire 102 = .ok (.iload_n 1, 1) := by decide +kernel
theorem dX9_quire_103 : decode cX9_quire 103 = .ok (.invokevirtual 52, 3) := by decide +kernel
theorem dX9_quire_106 : decode cX9_quire 106 = .ok (.ireturn, 1) := by decide +kernel
theorem dX9_quire_107 : decode cX9_quire 107 = .ok (.aload_n 0, 1) := by decide +kernel
theorem dX9_quire_108 : decode cX9_quire 108 = .ok (.iload_n 1, 1) := by decide +kernel
theorem dX9_quire_109 : decode cX9_quire 109 = .ok (.invokevirtual 44, 3) := by decide +kernel
theorem dX9_quire_112 : decode cX9_quire 112 = .ok (.ireturn, 1) := by decide +kernel
theorem dX9_quire_113 : decode cX9_quire 113 = .ok (.aload_n 0, 1) := by decide +kernel
theorem dX9_quire_114 : decode cX9_quire 114 = .ok (.iload_n 1, 1) := by decide +kernel
theorem dX9_quire_115 : decode cX9_quire 115 = .ok (.invokevirtual 58, 3) := by decide +kernel
theorem dX9_quire_118 : decode cX9_quire 118 = .ok (.ireturn, 1) := by decide +kernel
theorem dX9_quire_119 : decode cX9_quire 119 = .ok (.aload_n 0, 1) := by decide +kernel
theorem dX9_quire_120 : decode cX9_quire 120 = .ok (.iload_n 1, 1) := by decide +kernel
theorem dX9_quire_121 : decode cX9_quire 121 = .ok (.invokevirtual 141, 3) := by decide +kernel
theorem dX9_quire_124 : decode cX9_quire 124 = .ok (.ireturn, 1) := by decide +kernel
theorem dX9_quire_125 : decode cX9_quire 125 = .ok (.bipush (-2), 2) := by decide +kernel
theorem dX9_quire_127 : decode cX9_quire 127 = .ok (.ireturn, 1) := by decide +kernel
theorem dX9_thereAhead_0 : decode cX9_thereAhead 0 = .ok (.iconst 0, 1) := by decide +kernel
theorem dX9_thereAhead_1 : decode cX9_thereAhead 1 = .ok (.istore_n 2, 1) := by decide +kernel
theorem dX9_thereAhead_2 : decode cX9_thereAhead 2 = .ok (.iconst 0, 1) := by decide +kernel
theorem dX9_thereAhead_3 : decode cX9_thereAhead 3 = .ok (.istore_n 3, 1) := by decide +kernel
theorem dX9_thereAhead_4 : decode cX9_thereAhead 4 = .ok (.iload_n 3, 1) := by decide +kernel
theorem dX9_thereAhead_5 : decode cX9_thereAhead 5 = .ok (.iload_n 1, 1) := by decide +kernel
theorem dX9_thereAhead_6 : decode cX9_thereAhead 6 = .ok (.if_icmp .ge 25, 3) := by decide +kernel
theorem dX9_thereAhead_9 : decode cX9_thereAhead 9 = .ok (.iload_n 2, 1) := by decide +kernel
theorem dX9_thereAhead_10 : decode cX9_thereAhead 10 = .ok (.aload_n 0, 1) := by decide +kernel
theorem dX9_thereAhead_11 : decode cX9_thereAhead 11 = .ok (.iload_n 3, 1) := by decide +kernel
theorem dX9_thereAhead_12 : decode cX9_thereAhead 12 = .ok (.invokevirtual 126, 3) := by decide +kernel
theorem dX9_thereAhead_15 : decode cX9_thereAhead 15 = .ok (.ifCond .eq 7, 3) := by decide +kernel
theorem dX9_thereAhead_18 : decode cX9_thereAhead 18 = .ok (.iconst 0, 1) := by decide +kernel
theorem dX9_thereAhead_19 : decode cX9_thereAhead 19 = .ok (.goto 4, 3) := by decide +kernel
theorem dX9_thereAhead_22 : decode cX9_thereAhead 22 = .ok (.iconst 1, 1) := by decide +kernel
theorem dX9_thereAhead_23 : decode cX9_thereAhead 23 = .ok (.iadd, 1) := by decide +kernel
theorem dX9_thereAhead_24 : decode cX9_thereAhead 24 = .ok (.istore_n 2, 1) := by decide +kernel
theorem dX9_thereAhead_25 : decode cX9_thereAhead 25 = .ok (.iinc 3 1, 3) := by decide +kernel
theorem dX9_thereAhead_28 : decode cX9_thereAhead 28 = .ok (.goto (-24), 3) := by decide +kernel
theorem dX9_thereAhead_31 : decode cX9_thereAhead 31 = .ok (.iload_n 2, 1) := by decide +kernel
theorem dX9_thereAhead_32 : decode cX9_thereAhead 32 = .ok (.ireturn, 1) := by decide +kernel
theorem dX9_leaf_0 : decode cX9_leaf 0 = .ok (.aload_n 0, 1) := by decide +kernel
theorem dX9_leaf_1 : decode cX9_leaf 1 = .ok (.iload_n 1, 1) := by decide +kernel
theorem dX9_leaf_2 : decode cX9_leaf 2 = .ok (.invokevirtual 123, 3) := by decide +kernel
theorem dX9_leaf_5 : decode cX9_leaf 5 = .ok (.ifCond .ne 5, 3) := by decide +kernel
theorem dX9_leaf_8 : decode cX9_leaf 8 = .ok (.iconst (-1), 1) := by decide +kernel
theorem dX9_leaf_9 : decode cX9_leaf 9 = .ok (.ireturn, 1) := by decide +kernel
theorem dX9_leaf_10 : decode cX9_leaf 10 = .ok (.aload_n 0, 1) := by decide +kernel
theorem dX9_leaf_11 : decode cX9_leaf 11 = .ok (.iload_n 1, 1) := by decide +kernel
theorem dX9_leaf_12 : decode cX9_leaf 12 = .ok (.invokevirtual 55, 3) := by decide +kernel
theorem dX9_leaf_15 : decode cX9_leaf 15 = .ok (.istore_n 3, 1) := by decide +kernel
theorem dX9_leaf_16 : decode cX9_leaf 16 = .ok (.iload_n 1, 1) := by decide +kernel
theorem dX9_leaf_17 : decode cX9_leaf 17 = .ok (.aload_n 0, 1) := by decide +kernel
theorem dX9_leaf_18 : decode cX9_leaf 18 = .ok (.iload_n 3, 1) := by decide +kernel
theorem dX9_leaf_19 : decode cX9_leaf 19 = .ok (.invokevirtual 52, 3) := by decide +kernel
theorem dX9_leaf_22 : decode cX9_leaf 22 = .ok (.isub, 1) := by decide +kernel
theorem dX9_leaf_23 : decode cX9_leaf 23 = .ok (.iconst 1, 1) := by decide +kernel
theorem dX9_leaf_24 : decode cX9_leaf 24 = .ok (.iadd, 1) := by decide +kernel
theorem dX9_leaf_25 : decode cX9_leaf 25 = .ok (.istore 4, 2) := by decide +kernel
theorem dX9_leaf_27 : decode cX9_leaf 27 = .ok (.aload_n 0, 1) := by decide +kernel
theorem dX9_leaf_28 : decode cX9_leaf 28 = .ok (.getfield 7, 3) := by decide +kernel
theorem dX9_leaf_31 : decode cX9_leaf 31 = .ok (.iload_n 3, 1) := by decide +kernel
theorem dX9_leaf_32 : decode cX9_leaf 32 = .ok (.iconst 2, 1) := by decide +kernel
theorem dX9_leaf_33 : decode cX9_leaf 33 = .ok (.invokestatic 36, 3) := by decide +kernel
theorem dX9_leaf_36 : decode cX9_leaf 36 = .ok (.iaload, 1) := by decide +kernel
theorem dX9_leaf_37 : decode cX9_leaf 37 = .ok (.iconst 1, 1) := by decide +kernel
theorem dX9_leaf_38 : decode cX9_leaf 38 = .ok (.iadd, 1) := by decide +kernel
theorem dX9_leaf_39 : decode cX9_leaf 39 = .ok (.iload 4, 2) := by decide +kernel
theorem dX9_leaf_41 : decode cX9_leaf 41 = .ok (.isub, 1) := by decide +kernel
theorem dX9_leaf_42 : decode cX9_leaf 42 = .ok (.istore 5, 2) := by decide +kernel
theorem dX9_leaf_44 : decode cX9_leaf 44 = .ok (.iload_n 2, 1) := by decide +kernel
theorem dX9_leaf_45 : decode cX9_leaf 45 = .ok (.tableswitch 103 0 5 #[39, 41, 44, 60, 83, 97], 39) := by decide +kernel
theorem dX9_leaf_84 : decode cX9_leaf 84 = .ok (.iload_n 3, 1) := by decide +kernel
theorem dX9_leaf_85 : decode cX9_leaf 85 = .ok (.ireturn, 1) := by decide +kernel
theorem dX9_leaf_86 : decode cX9_leaf 86 = .ok (.iload 4, 2) := by decide +kernel
theorem dX9_leaf_88 : decode cX9_leaf 88 = .ok (.ireturn, 1) := by decide +kernel
theorem dX9_leaf_89 : decode cX9_leaf 89 = .ok (.iload 4, 2) := by decide +kernel
theorem dX9_leaf_91 : decode cX9_leaf 91 = .ok (.aload_n 0, 1) := by decide +kernel
theorem dX9_leaf_92 : decode cX9_leaf 92 = .ok (.iload_n 3, 1) := by decide +kernel
theorem dX9_leaf_93 : decode cX9_leaf 93 = .ok (.invokevirtual 44, 3) := by decide +kernel
theorem dX9_leaf_96 : decode cX9_leaf 96 = .ok (.if_icmp .gt 7, 3) := by decide +kernel
theorem dX9_leaf_99 : decode cX9_leaf 99 = .ok (.iconst 1, 1) := by decide +kernel
theorem dX9_leaf_100 : decode cX9_leaf 100 = .ok (.goto 4, 3) := by decide +kernel
theorem dX9_leaf_103 : decode cX9_leaf 103 = .ok (.iconst 0, 1) := by decide +kernel
theorem dX9_leaf_104 : decode cX9_leaf 104 = .ok (.ireturn, 1) := by decide +kernel
theorem dX9_leaf_105 : decode cX9_leaf 105 = .ok (.iload 5, 2) := by decide +kernel
theorem dX9_leaf_107 : decode cX9_leaf 107 = .ok (.iload 4, 2) := by decide +kernel
theorem dX9_leaf_109 : decode cX9_leaf 109 = .ok (.if_icmp .ne 8, 3) := by decide +kernel
theorem dX9_leaf_112 : decode cX9_leaf 112 = .ok (.bipush (-5), 2) := by decide +kernel
theorem dX9_leaf_114 : decode cX9_leaf 114 = .ok (.goto 13, 3) := by decide +kernel
theorem dX9_leaf_117 : decode cX9_leaf 117 = .ok (.aload_n 0, 1) := by decide +kernel
theorem dX9_leaf_118 : decode cX9_leaf 118 = .ok (.iload_n 3, 1) := by decide +kernel
theorem dX9_leaf_119 : decode cX9_leaf 119 = .ok (.invokevirtual 52, 3) := by decide +kernel
theorem dX9_leaf_122 : decode cX9_leaf 122 = .ok (.iload 5, 2) := by decide +kernel
theorem dX9_leaf_124 : decode cX9_leaf 124 = .ok (.iadd, 1) := by decide +kernel
theorem dX9_leaf_125 : decode cX9_leaf 125 = .ok (.iconst 1, 1) := by decide +kernel
theorem dX9_leaf_126 : decode cX9_leaf 126 = .ok (.isub, 1) := by decide +kernel
theorem dX9_leaf_127 : decode cX9_leaf 127 = .ok (.ireturn, 1) := by decide +kernel
theorem dX9_leaf_128 : decode cX9_leaf 128 = .ok (.aload_n 0, 1) := by decide +kernel
theorem dX9_leaf_129 : decode cX9_leaf 129 = .ok (.iload_n 1, 1) := by decide +kernel
theorem dX9_leaf_130 : decode cX9_leaf 130 = .ok (.invokevirtual 126, 3) := by decide +kernel
theorem dX9_leaf_133 : decode cX9_leaf 133 = .ok (.ifCond .eq 7, 3) := by decide +kernel
theorem dX9_leaf_136 : decode cX9_leaf 136 = .ok (.iconst 1, 1) := by decide +kernel
theorem dX9_leaf_137 : decode cX9_leaf 137 = .ok (.goto 4, 3) := by decide +kernel
theorem dX9_leaf_140 : decode cX9_leaf 140 = .ok (.iconst 0, 1) := by decide +kernel
theorem dX9_leaf_141 : decode cX9_leaf 141 = .ok (.ireturn, 1) := by decide +kernel
theorem dX9_leaf_142 : decode cX9_leaf 142 = .ok (.aload_n 0, 1) := by decide +kernel
theorem dX9_leaf_143 : decode cX9_leaf 143 = .ok (.iload_n 1, 1) := by decide +kernel
theorem dX9_leaf_144 : decode cX9_leaf 144 = .ok (.invokevirtual 144, 3) := by decide +kernel
theorem dX9_leaf_147 : decode cX9_leaf 147 = .ok (.ireturn, 1) := by decide +kernel
theorem dX9_leaf_148 : decode cX9_leaf 148 = .ok (.bipush (-2), 2) := by decide +kernel
theorem dX9_leaf_150 : decode cX9_leaf 150 = .ok (.ireturn, 1) := by decide +kernel
theorem dX9_find_0 : decode cX9_find 0 = .ok (.aload_n 0, 1) := by decide +kernel
theorem dX9_find_1 : decode cX9_find 1 = .ok (.iconst 0, 1) := by decide +kernel
theorem dX9_find_2 : decode cX9_find 2 = .ok (.invokevirtual 103, 3) := by decide +kernel
theorem dX9_find_5 : decode cX9_find 5 = .ok (.istore_n 1, 1) := by decide +kernel
theorem dX9_find_6 : decode cX9_find 6 = .ok (.iload_n 1, 1) := by decide +kernel
theorem dX9_find_7 : decode cX9_find 7 = .ok (.ifCond .lt 8, 3) := by decide +kernel
theorem dX9_find_10 : decode cX9_find 10 = .ok (.bipush (-100), 2) := by decide +kernel
theorem dX9_find_12 : decode cX9_find 12 = .ok (.iload_n 1, 1) := by decide +kernel
theorem dX9_find_13 : decode cX9_find 13 = .ok (.isub, 1) := by decide +kernel
theorem dX9_find_14 : decode cX9_find 14 = .ok (.ireturn, 1) := by decide +kernel
theorem dX9_find_15 : decode cX9_find 15 = .ok (.aload_n 0, 1) := by decide +kernel
theorem dX9_find_16 : decode cX9_find 16 = .ok (.getfield 94, 3) := by decide +kernel
theorem dX9_find_19 : decode cX9_find 19 = .ok (.iconst 1, 1) := by decide +kernel
theorem dX9_find_20 : decode cX9_find 20 = .ok (.if_icmp .le 6, 3) := by decide +kernel
theorem dX9_find_23 : decode cX9_find 23 = .ok (.bipush (-2), 2) := by decide +kernel
theorem dX9_find_25 : decode cX9_find 25 = .ok (.ireturn, 1) := by decide +kernel
theorem dX9_find_26 : decode cX9_find 26 = .ok (.aload_n 0, 1) := by decide +kernel
theorem dX9_find_27 : decode cX9_find 27 = .ok (.iconst 0, 1) := by decide +kernel
theorem dX9_find_28 : decode cX9_find 28 = .ok (.invokevirtual 132, 3) := by decide +kernel
theorem dX9_find_31 : decode cX9_find 31 = .ok (.istore_n 2, 1) := by decide +kernel
theorem dX9_find_32 : decode cX9_find 32 = .ok (.iload_n 2, 1) := by decide +kernel
theorem dX9_find_33 : decode cX9_find 33 = .ok (.ifCond .ge 8, 3) := by decide +kernel
theorem dX9_find_36 : decode cX9_find 36 = .ok (.bipush (-5), 2) := by decide +kernel
theorem dX9_find_38 : decode cX9_find 38 = .ok (.goto 4, 3) := by decide +kernel
theorem dX9_find_41 : decode cX9_find 41 = .ok (.iload_n 2, 1) := by decide +kernel
theorem dX9_find_42 : decode cX9_find 42 = .ok (.ireturn, 1) := by decide +kernel
theorem dX9_before_0 : decode cX9_before 0 = .ok (.iconst (-1), 1) := by decide +kernel
theorem dX9_before_1 : decode cX9_before 1 = .ok (.istore_n 2, 1) := by decide +kernel
theorem dX9_before_2 : decode cX9_before 2 = .ok (.iconst 0, 1) := by decide +kernel
theorem dX9_before_3 : decode cX9_before 3 = .ok (.istore_n 3, 1) := by decide +kernel
theorem dX9_before_4 : decode cX9_before 4 = .ok (.iload_n 3, 1) := by decide +kernel
theorem dX9_before_5 : decode cX9_before 5 = .ok (.iload_n 1, 1) := by decide +kernel
theorem dX9_before_6 : decode cX9_before 6 = .ok (.if_icmp .ge 23, 3) := by decide +kernel
theorem dX9_before_9 : decode cX9_before 9 = .ok (.aload_n 0, 1) := by decide +kernel
theorem dX9_before_10 : decode cX9_before 10 = .ok (.iload_n 3, 1) := by decide +kernel
theorem dX9_before_11 : decode cX9_before 11 = .ok (.invokevirtual 111, 3) := by decide +kernel
theorem dX9_before_14 : decode cX9_before 14 = .ok (.ifCond .eq 7, 3) := by decide +kernel
theorem dX9_before_17 : decode cX9_before 17 = .ok (.iload_n 2, 1) := by decide +kernel
theorem dX9_before_18 : decode cX9_before 18 = .ok (.goto 4, 3) := by decide +kernel
theorem dX9_before_21 : decode cX9_before 21 = .ok (.iload_n 3, 1) := by decide +kernel
theorem dX9_before_22 : decode cX9_before 22 = .ok (.istore_n 2, 1) := by decide +kernel
theorem dX9_before_23 : decode cX9_before 23 = .ok (.iinc 3 1, 3) := by decide +kernel
theorem dX9_before_26 : decode cX9_before 26 = .ok (.goto (-22), 3) := by decide +kernel
theorem dX9_before_29 : decode cX9_before 29 = .ok (.iload_n 2, 1) := by decide +kernel
theorem dX9_before_30 : decode cX9_before 30 = .ok (.ireturn, 1) := by decide +kernel
theorem dX9_isLapse_0 : decode cX9_isLapse 0 = .ok (.aload_n 0, 1) := by decide +kernel
theorem dX9_isLapse_1 : decode cX9_isLapse 1 = .ok (.iload_n 1, 1) := by decide +kernel
theorem dX9_isLapse_2 : decode cX9_isLapse 2 = .ok (.invokevirtual 111, 3) := by decide +kernel
theorem dX9_isLapse_5 : decode cX9_isLapse 5 = .ok (.ifCond .eq 7, 3) := by decide +kernel
theorem dX9_isLapse_8 : decode cX9_isLapse 8 = .ok (.iconst (-1), 1) := by decide +kernel
theorem dX9_isLapse_9 : decode cX9_isLapse 9 = .ok (.goto 8, 3) := by decide +kernel
theorem dX9_isLapse_12 : decode cX9_isLapse 12 = .ok (.aload_n 0, 1) := by decide +kernel
theorem dX9_isLapse_13 : decode cX9_isLapse 13 = .ok (.iload_n 1, 1) := by decide +kernel
theorem dX9_isLapse_14 : decode cX9_isLapse 14 = .ok (.invokevirtual 147, 3) := by decide +kernel
theorem dX9_isLapse_17 : decode cX9_isLapse 17 = .ok (.istore_n 2, 1) := by decide +kernel
theorem dX9_isLapse_18 : decode cX9_isLapse 18 = .ok (.iload_n 2, 1) := by decide +kernel
theorem dX9_isLapse_19 : decode cX9_isLapse 19 = .ok (.ifCond .lt 24, 3) := by decide +kernel
theorem dX9_isLapse_22 : decode cX9_isLapse 22 = .ok (.aload_n 0, 1) := by decide +kernel
theorem dX9_isLapse_23 : decode cX9_isLapse 23 = .ok (.iload_n 1, 1) := by decide +kernel
theorem dX9_isLapse_24 : decode cX9_isLapse 24 = .ok (.invokevirtual 114, 3) := by decide +kernel
theorem dX9_isLapse_27 : decode cX9_isLapse 27 = .ok (.aload_n 0, 1) := by decide +kernel
theorem dX9_isLapse_28 : decode cX9_isLapse 28 = .ok (.aload_n 0, 1) := by decide +kernel
theorem dX9_isLapse_29 : decode cX9_isLapse 29 = .ok (.iload_n 2, 1) := by decide +kernel
theorem dX9_isLapse_30 : decode cX9_isLapse 30 = .ok (.invokevirtual 114, 3) := by decide +kernel
theorem dX9_isLapse_33 : decode cX9_isLapse 33 = .ok (.invokevirtual 117, 3) := by decide +kernel
theorem dX9_isLapse_36 : decode cX9_isLapse 36 = .ok (.if_icmp .eq 7, 3) := by decide +kernel
theorem dX9_isLapse_39 : decode cX9_isLapse 39 = .ok (.iconst 1, 1) := by decide +kernel
theorem dX9_isLapse_40 : decode cX9_isLapse 40 = .ok (.goto 4, 3) := by decide +kernel
theorem dX9_isLapse_43 : decode cX9_isLapse 43 = .ok (.iconst 0, 1) := by decide +kernel
theorem dX9_isLapse_44 : decode cX9_isLapse 44 = .ok (.ireturn, 1) := by decide +kernel
theorem dX9_between_0 : decode cX9_between 0 = .ok (.iconst 0, 1) := by decide +kernel
theorem dX9_between_1 : decode cX9_between 1 = .ok (.istore_n 3, 1) := by decide +kernel
theorem dX9_between_2 : decode cX9_between 2 = .ok (.iload_n 1, 1) := by decide +kernel
theorem dX9_between_3 : decode cX9_between 3 = .ok (.iconst 1, 1) := by decide +kernel
theorem dX9_between_4 : decode cX9_between 4 = .ok (.iadd, 1) := by decide +kernel
theorem dX9_between_5 : decode cX9_between 5 = .ok (.istore 4, 2) := by decide +kernel
theorem dX9_between_7 : decode cX9_between 7 = .ok (.iload 4, 2) := by decide +kernel
theorem dX9_between_9 : decode cX9_between 9 = .ok (.iload_n 2, 1) := by decide +kernel
theorem dX9_between_10 : decode cX9_between 10 = .ok (.if_icmp .ge 29, 3) := by decide +kernel
theorem dX9_between_13 : decode cX9_between 13 = .ok (.iload_n 3, 1) := by decide +kernel
theorem dX9_between_14 : decode cX9_between 14 = .ok (.aload_n 0, 1) := by decide +kernel
theorem dX9_between_15 : decode cX9_between 15 = .ok (.iload 4, 2) := by decide +kernel
theorem dX9_between_17 : decode cX9_between 17 = .ok (.bipush 26, 2) := by decide +kernel
theorem dX9_between_19 : decode cX9_between 19 = .ok (.irem, 1) := by decide +kernel
theorem dX9_between_20 : decode cX9_between 20 = .ok (.invokevirtual 32, 3) := by decide +kernel
theorem dX9_between_23 : decode cX9_between 23 = .ok (.ifCond .eq 7, 3) := by decide +kernel
theorem dX9_between_26 : decode cX9_between 26 = .ok (.iconst 0, 1) := by decide +kernel
theorem dX9_between_27 : decode cX9_between 27 = .ok (.goto 4, 3) := by decide +kernel
theorem dX9_between_30 : decode cX9_between 30 = .ok (.iconst 1, 1) := by decide +kernel
theorem dX9_between_31 : decode cX9_between 31 = .ok (.iadd, 1) := by decide +kernel
theorem dX9_between_32 : decode cX9_between 32 = .ok (.istore_n 3, 1) := by decide +kernel
theorem dX9_between_33 : decode cX9_between 33 = .ok (.iinc 4 1, 3) := by decide +kernel
theorem dX9_between_36 : decode cX9_between 36 = .ok (.goto (-29), 3) := by decide +kernel
theorem dX9_between_39 : decode cX9_between 39 = .ok (.iload_n 3, 1) := by decide +kernel
theorem dX9_between_40 : decode cX9_between 40 = .ok (.ireturn, 1) := by decide +kernel
theorem dX9_lapse_0 : decode cX9_lapse 0 = .ok (.iload_n 1, 1) := by decide +kernel
theorem dX9_lapse_1 : decode cX9_lapse 1 = .ok (.ifCond .lt 12, 3) := by decide +kernel
theorem dX9_lapse_4 : decode cX9_lapse 4 = .ok (.iload_n 2, 1) := by decide +kernel
theorem dX9_lapse_5 : decode cX9_lapse 5 = .ok (.iconst 0, 1) := by decide +kernel
theorem dX9_lapse_6 : decode cX9_lapse 6 = .ok (.iconst 2, 1) := by decide +kernel
theorem dX9_lapse_7 : decode cX9_lapse 7 = .ok (.invokestatic 40, 3) := by decide +kernel
theorem dX9_lapse_10 : decode cX9_lapse 10 = .ok (.ifCond .ne 6, 3) := by decide +kernel
theorem dX9_lapse_13 : decode cX9_lapse 13 = .ok (.bipush (-2), 2) := by decide +kernel
theorem dX9_lapse_15 : decode cX9_lapse 15 = .ok (.ireturn, 1) := by decide +kernel
theorem dX9_lapse_16 : decode cX9_lapse 16 = .ok (.iload_n 1, 1) := by decide +kernel
theorem dX9_lapse_17 : decode cX9_lapse 17 = .ok (.istore_n 3, 1) := by decide +kernel
theorem dX9_lapse_18 : decode cX9_lapse 18 = .ok (.iconst 0, 1) := by decide +kernel
theorem dX9_lapse_19 : decode cX9_lapse 19 = .ok (.istore 4, 2) := by decide +kernel
theorem dX9_lapse_21 : decode cX9_lapse 21 = .ok (.iload 4, 2) := by decide +kernel
theorem dX9_lapse_23 : decode cX9_lapse 23 = .ok (.aload_n 0, 1) := by decide +kernel
theorem dX9_lapse_24 : decode cX9_lapse 24 = .ok (.getfield 7, 3) := by decide +kernel
theorem dX9_lapse_27 : decode cX9_lapse 27 = .ok (.iconst 2, 1) := by decide +kernel
theorem dX9_lapse_28 : decode cX9_lapse 28 = .ok (.iaload, 1) := by decide +kernel
theorem dX9_lapse_29 : decode cX9_lapse 29 = .ok (.if_icmp .ge 98, 3) := by decide +kernel
theorem dX9_lapse_32 : decode cX9_lapse 32 = .ok (.aload_n 0, 1) := by decide +kernel
theorem dX9_lapse_33 : decode cX9_lapse 33 = .ok (.iload 4, 2) := by decide +kernel
theorem dX9_lapse_35 : decode cX9_lapse 35 = .ok (.invokevirtual 150, 3) := by decide +kernel
theorem dX9_lapse_38 : decode cX9_lapse 38 = .ok (.ifCond .eq 83, 3) := by decide +kernel
theorem dX9_lapse_41 : decode cX9_lapse 41 = .ok (.iload_n 3, 1) := by decide +kernel
theorem dX9_lapse_42 : decode cX9_lapse 42 = .ok (.ifCond .ne 76, 3) := by decide +kernel
theorem dX9_lapse_45 : decode cX9_lapse 45 = .ok (.aload_n 0, 1) := by decide +kernel
theorem dX9_lapse_46 : decode cX9_lapse 46 = .ok (.aload_n 0, 1) := by decide +kernel
theorem dX9_lapse_47 : decode cX9_lapse 47 = .ok (.iload 4, 2) := by decide +kernel
theorem dX9_lapse_49 : decode cX9_lapse 49 = .ok (.invokevirtual 147, 3) := by decide +kernel
theorem dX9_lapse_52 : decode cX9_lapse 52 = .ok (.invokevirtual 114, 3) := by decide +kernel
theorem dX9_lapse_55 : decode cX9_lapse 55 = .ok (.istore 5, 2) := by decide +kernel
theorem dX9_lapse_57 : decode cX9_lapse 57 = .ok (.aload_n 0, 1) := by decide +kernel
theorem dX9_lapse_58 : decode cX9_lapse 58 = .ok (.iload 4, 2) := by decide +kernel
theorem dX9_lapse_60 : decode cX9_lapse 60 = .ok (.invokevirtual 114, 3) := by decide +kernel
theorem dX9_lapse_63 : decode cX9_lapse 63 = .ok (.istore 6, 2) := by decide +kernel
theorem dX9_lapse_65 : decode cX9_lapse 65 = .ok (.iload 5, 2) := by decide +kernel
theorem dX9_lapse_67 : decode cX9_lapse 67 = .ok (.iload 6, 2) := by decide +kernel
theorem dX9_lapse_69 : decode cX9_lapse 69 = .ok (.if_icmp .ne 7, 3) := by decide +kernel
theorem dX9_lapse_72 : decode cX9_lapse 72 = .ok (.iconst 0, 1) := by decide +kernel
theorem dX9_lapse_73 : decode cX9_lapse 73 = .ok (.goto 15, 3) := by decide +kernel
theorem dX9_lapse_76 : decode cX9_lapse 76 = .ok (.iload 6, 2) := by decide +kernel
theorem dX9_lapse_78 : decode cX9_lapse 78 = .ok (.iload 5, 2) := by decide +kernel
theorem dX9_lapse_80 : decode cX9_lapse 80 = .ok (.if_icmp .ge 7, 3) := by decide +kernel
theorem dX9_lapse_83 : decode cX9_lapse 83 = .ok (.iconst 1, 1) := by decide +kernel
theorem dX9_lapse_84 : decode cX9_lapse 84 = .ok (.goto 4, 3) := by decide +kernel
theorem dX9_lapse_87 : decode cX9_lapse 87 = .ok (.iconst 2, 1) := by decide +kernel
theorem dX9_lapse_88 : decode cX9_lapse 88 = .ok (.istore 7, 2) := by decide +kernel
theorem dX9_lapse_90 : decode cX9_lapse 90 = .ok (.iload_n 2, 1) := by decide +kernel
theorem dX9_lapse_91 : decode cX9_lapse 91 = .ok (.ifCond .ne 8, 3) := by decide +kernel
theorem dX9_lapse_94 : decode cX9_lapse 94 = .ok (.iload 4, 2) := by decide +kernel
theorem dX9_lapse_96 : decode cX9_lapse 96 = .ok (.goto 21, 3) := by decide +kernel
theorem dX9_lapse_99 : decode cX9_lapse 99 = .ok (.iload_n 2, 1) := by decide +kernel
theorem dX9_lapse_100 : decode cX9_lapse 100 = .ok (.iconst 1, 1) := by decide +kernel
theorem dX9_lapse_101 : decode cX9_lapse 101 = .ok (.if_icmp .ne 8, 3) := by decide +kernel
theorem dX9_lapse_104 : decode cX9_lapse 104 = .ok (.iload 7, 2) := by decide +kernel
theorem dX9_lapse_106 : decode cX9_lapse 106 = .ok (.goto 11, 3) := by decide +kernel
theorem dX9_lapse_109 : decode cX9_lapse 109 = .ok (.aload_n 0, 1) := by decide +kernel
theorem dX9_lapse_110 : decode cX9_lapse 110 = .ok (.iload 5, 2) := by decide +kernel
theorem dX9_lapse_112 : decode cX9_lapse 112 = .ok (.iload 6, 2) := by decide +kernel
theorem dX9_lapse_114 : decode cX9_lapse 114 = .ok (.invokevirtual 153, 3) := by decide +kernel
theorem dX9_lapse_117 : decode cX9_lapse 117 = .ok (.ireturn, 1) := by decide +kernel
theorem dX9_lapse_118 : decode cX9_lapse 118 = .ok (.iinc 3 (-1), 3) := by decide +kernel
theorem dX9_lapse_121 : decode cX9_lapse 121 = .ok (.iinc 4 1, 3) := by decide +kernel
theorem dX9_lapse_124 : decode cX9_lapse 124 = .ok (.goto (-103), 3) := by decide +kernel
theorem dX9_lapse_127 : decode cX9_lapse 127 = .ok (.bipush (-5), 2) := by decide +kernel
theorem dX9_lapse_129 : decode cX9_lapse 129 = .ok (.ireturn, 1) := by decide +kernel
theorem dX9_isPiled_0 : decode cX9_isPiled 0 = .ok (.iconst 0, 1) := by decide +kernel
theorem dX9_isPiled_1 : decode cX9_isPiled 1 = .ok (.istore_n 2, 1) := by decide +kernel
theorem dX9_isPiled_2 : decode cX9_isPiled 2 = .ok (.iconst 0, 1) := by decide +kernel
theorem dX9_isPiled_3 : decode cX9_isPiled 3 = .ok (.istore_n 3, 1) := by decide +kernel
theorem dX9_isPiled_4 : decode cX9_isPiled 4 = .ok (.iload_n 3, 1) := by decide +kernel
theorem dX9_isPiled_5 : decode cX9_isPiled 5 = .ok (.aload_n 0, 1) := by decide +kernel
theorem dX9_isPiled_6 : decode cX9_isPiled 6 = .ok (.getfield 7, 3) := by decide +kernel
theorem dX9_isPiled_9 : decode cX9_isPiled 9 = .ok (.sipush 163, 3) := by decide +kernel
theorem dX9_isPiled_12 : decode cX9_isPiled 12 = .ok (.iaload, 1) := by decide +kernel
theorem dX9_isPiled_13 : decode cX9_isPiled 13 = .ok (.if_icmp .ge 33, 3) := by decide +kernel
theorem dX9_isPiled_16 : decode cX9_isPiled 16 = .ok (.iload_n 2, 1) := by decide +kernel
theorem dX9_isPiled_17 : decode cX9_isPiled 17 = .ok (.ifCond .ne 17, 3) := by decide +kernel
theorem dX9_isPiled_20 : decode cX9_isPiled 20 = .ok (.aload_n 0, 1) := by decide +kernel
theorem dX9_isPiled_21 : decode cX9_isPiled 21 = .ok (.getfield 7, 3) := by decide +kernel
theorem dX9_isPiled_24 : decode cX9_isPiled 24 = .ok (.sipush 164, 3) := by decide +kernel
theorem dX9_isPiled_27 : decode cX9_isPiled 27 = .ok (.iload_n 3, 1) := by decide +kernel
theorem dX9_isPiled_28 : decode cX9_isPiled 28 = .ok (.iadd, 1) := by decide +kernel
theorem dX9_isPiled_29 : decode cX9_isPiled 29 = .ok (.iaload, 1) := by decide +kernel
theorem dX9_isPiled_30 : decode cX9_isPiled 30 = .ok (.iload_n 1, 1) := by decide +kernel
theorem dX9_isPiled_31 : decode cX9_isPiled 31 = .ok (.if_icmp .ne 7, 3) := by decide +kernel
theorem dX9_isPiled_34 : decode cX9_isPiled 34 = .ok (.iconst 1, 1) := by decide +kernel
theorem dX9_isPiled_35 : decode cX9_isPiled 35 = .ok (.goto 4, 3) := by decide +kernel
theorem dX9_isPiled_38 : decode cX9_isPiled 38 = .ok (.iconst 0, 1) := by decide +kernel
theorem dX9_isPiled_39 : decode cX9_isPiled 39 = .ok (.istore_n 2, 1) := by decide +kernel
theorem dX9_isPiled_40 : decode cX9_isPiled 40 = .ok (.iinc 3 1, 3) := by decide +kernel
theorem dX9_isPiled_43 : decode cX9_isPiled 43 = .ok (.goto (-39), 3) := by decide +kernel
theorem dX9_isPiled_46 : decode cX9_isPiled 46 = .ok (.iload_n 2, 1) := by decide +kernel
theorem dX9_isPiled_47 : decode cX9_isPiled 47 = .ok (.ireturn, 1) := by decide +kernel
theorem dX9_piled_0 : decode cX9_piled 0 = .ok (.iload_n 1, 1) := by decide +kernel
theorem dX9_piled_1 : decode cX9_piled 1 = .ok (.ifCond .lt 12, 3) := by decide +kernel
theorem dX9_piled_4 : decode cX9_piled 4 = .ok (.iload_n 2, 1) := by decide +kernel
theorem dX9_piled_5 : decode cX9_piled 5 = .ok (.iconst 0, 1) := by decide +kernel
theorem dX9_piled_6 : decode cX9_piled 6 = .ok (.iconst 1, 1) := by decide +kernel
theorem dX9_piled_7 : decode cX9_piled 7 = .ok (.invokestatic 40, 3) := by decide +kernel
theorem dX9_piled_10 : decode cX9_piled 10 = .ok (.ifCond .ne 6, 3) := by decide +kernel
theorem dX9_piled_13 : decode cX9_piled 13 = .ok (.bipush (-2), 2) := by decide +kernel
theorem dX9_piled_15 : decode cX9_piled 15 = .ok (.ireturn, 1) := by decide +kernel
theorem dX9_piled_16 : decode cX9_piled 16 = .ok (.iload_n 1, 1) := by decide +kernel
theorem dX9_piled_17 : decode cX9_piled 17 = .ok (.aload_n 0, 1) := by decide +kernel
theorem dX9_piled_18 : decode cX9_piled 18 = .ok (.getfield 7, 3) := by decide +kernel
theorem dX9_piled_21 : decode cX9_piled 21 = .ok (.sipush 163, 3) := by decide +kernel
theorem dX9_piled_24 : decode cX9_piled 24 = .ok (.iaload, 1) := by decide +kernel
theorem dX9_piled_25 : decode cX9_piled 25 = .ok (.if_icmp .lt 6, 3) := by decide +kernel
theorem dX9_piled_28 : decode cX9_piled 28 = .ok (.bipush (-5), 2) := by decide +kernel
theorem dX9_piled_30 : decode cX9_piled 30 = .ok (.ireturn, 1) := by decide +kernel
theorem dX9_piled_31 : decode cX9_piled 31 = .ok (.iload_n 1, 1) := by decide +kernel
theorem dX9_piled_32 : decode cX9_piled 32 = .ok (.istore_n 3, 1) := by decide +kernel
theorem dX9_piled_33 : decode cX9_piled 33 = .ok (.iconst 0, 1) := by decide +kernel
theorem dX9_piled_34 : decode cX9_piled 34 = .ok (.istore 4, 2) := by decide +kernel
theorem dX9_piled_36 : decode cX9_piled 36 = .ok (.iload_n 3, 1) := by decide +kernel
theorem dX9_piled_37 : decode cX9_piled 37 = .ok (.ifCond .gt 12, 3) := by decide +kernel
theorem dX9_piled_40 : decode cX9_piled 40 = .ok (.aload_n 0, 1) := by decide +kernel
theorem dX9_piled_41 : decode cX9_piled 41 = .ok (.iload 4, 2) := by decide +kernel
theorem dX9_piled_43 : decode cX9_piled 43 = .ok (.invokevirtual 156, 3) := by decide +kernel
theorem dX9_piled_46 : decode cX9_piled 46 = .ok (.ifCond .ne 26, 3) := by decide +kernel
theorem dX9_piled_49 : decode cX9_piled 49 = .ok (.iload_n 3, 1) := by decide +kernel
theorem dX9_piled_50 : decode cX9_piled 50 = .ok (.aload_n 0, 1) := by decide +kernel
theorem dX9_piled_51 : decode cX9_piled 51 = .ok (.iload 4, 2) := by decide +kernel
theorem dX9_piled_53 : decode cX9_piled 53 = .ok (.invokevirtual 156, 3) := by decide +kernel
theorem dX9_piled_56 : decode cX9_piled 56 = .ok (.ifCond .eq 7, 3) := by decide +kernel
theorem dX9_piled_59 : decode cX9_piled 59 = .ok (.iconst 1, 1) := by decide +kernel
theorem dX9_piled_60 : decode cX9_piled 60 = .ok (.goto 4, 3) := by decide +kernel
theorem dX9_piled_63 : decode cX9_piled 63 = .ok (.iconst 0, 1) := by decide +kernel
theorem dX9_piled_64 : decode cX9_piled 64 = .ok (.isub, 1) := by decide +kernel
theorem dX9_piled_65 : decode cX9_piled 65 = .ok (.istore_n 3, 1) := by decide +kernel
theorem dX9_piled_66 : decode cX9_piled 66 = .ok (.iinc 4 1, 3) := by decide +kernel
theorem dX9_piled_69 : decode cX9_piled 69 = .ok (.goto (-33), 3) := by decide +kernel
theorem dX9_piled_72 : decode cX9_piled 72 = .ok (.iload_n 2, 1) := by decide +kernel
theorem dX9_piled_73 : decode cX9_piled 73 = .ok (.ifCond .ne 6, 3) := by decide +kernel
theorem dX9_piled_76 : decode cX9_piled 76 = .ok (.iload 4, 2) := by decide +kernel
theorem dX9_piled_78 : decode cX9_piled 78 = .ok (.ireturn, 1) := by decide +kernel
theorem dX9_piled_79 : decode cX9_piled 79 = .ok (.iload_n 1, 1) := by decide +kernel
theorem dX9_piled_80 : decode cX9_piled 80 = .ok (.aload_n 0, 1) := by decide +kernel
theorem dX9_piled_81 : decode cX9_piled 81 = .ok (.getfield 7, 3) := by decide +kernel
theorem dX9_piled_84 : decode cX9_piled 84 = .ok (.sipush 163, 3) := by decide +kernel
theorem dX9_piled_87 : decode cX9_piled 87 = .ok (.iaload, 1) := by decide +kernel
theorem dX9_piled_88 : decode cX9_piled 88 = .ok (.iconst 1, 1) := by decide +kernel
theorem dX9_piled_89 : decode cX9_piled 89 = .ok (.isub, 1) := by decide +kernel
theorem dX9_piled_90 : decode cX9_piled 90 = .ok (.if_icmp .ne 6, 3) := by decide +kernel
theorem dX9_piled_93 : decode cX9_piled 93 = .ok (.bipush (-5), 2) := by decide +kernel
theorem dX9_piled_95 : decode cX9_piled 95 = .ok (.ireturn, 1) := by decide +kernel
theorem dX9_piled_96 : decode cX9_piled 96 = .ok (.iconst 0, 1) := by decide +kernel
theorem dX9_piled_97 : decode cX9_piled 97 = .ok (.istore 5, 2) := by decide +kernel
theorem dX9_piled_99 : decode cX9_piled 99 = .ok (.iload 4, 2) := by decide +kernel
theorem dX9_piled_101 : decode cX9_piled 101 = .ok (.iconst 1, 1) := by decide +kernel
theorem dX9_piled_102 : decode cX9_piled 102 = .ok (.iadd, 1) := by decide +kernel
theorem dX9_piled_103 : decode cX9_piled 103 = .ok (.istore 6, 2) := by decide +kernel
theorem dX9_piled_105 : decode cX9_piled 105 = .ok (.aload_n 0, 1) := by decide +kernel
theorem dX9_piled_106 : decode cX9_piled 106 = .ok (.iload 6, 2) := by decide +kernel
theorem dX9_piled_108 : decode cX9_piled 108 = .ok (.invokevirtual 156, 3) := by decide +kernel
theorem dX9_piled_111 : decode cX9_piled 111 = .ok (.ifCond .ne 28, 3) := by decide +kernel
theorem dX9_piled_114 : decode cX9_piled 114 = .ok (.iload 5, 2) := by decide +kernel
theorem dX9_piled_116 : decode cX9_piled 116 = .ok (.aload_n 0, 1) := by decide +kernel
theorem dX9_piled_117 : decode cX9_piled 117 = .ok (.iload 6, 2) := by decide +kernel
theorem dX9_piled_119 : decode cX9_piled 119 = .ok (.invokevirtual 126, 3) := by decide +kernel
theorem dX9_piled_122 : decode cX9_piled 122 = .ok (.ifCond .eq 7, 3) := by decide +kernel
theorem dX9_piled_125 : decode cX9_piled 125 = .ok (.iconst 0, 1) := by decide +kernel
theorem dX9_piled_126 : decode cX9_piled 126 = .ok (.goto 4, 3) := by decide +kernel
theorem dX9_piled_129 : decode cX9_piled 129 = .ok (.iconst 1, 1) := by decide +kernel
theorem dX9_piled_130 : decode cX9_piled 130 = .ok (.iadd, 1) := by decide +kernel
theorem dX9_piled_131 : decode cX9_piled 131 = .ok (.istore 5, 2) := by decide +kernel
theorem dX9_piled_133 : decode cX9_piled 133 = .ok (.iinc 6 1, 3) := by decide +kernel
theorem dX9_piled_136 : decode cX9_piled 136 = .ok (.goto (-31), 3) := by decide +kernel
theorem dX9_piled_139 : decode cX9_piled 139 = .ok (.iload 5, 2) := by decide +kernel
theorem dX9_piled_141 : decode cX9_piled 141 = .ok (.ireturn, 1) := by decide +kernel
theorem dX9_sheets_0 : decode cX9_sheets 0 = .ok (.iload_n 1, 1) := by decide +kernel
theorem dX9_sheets_1 : decode cX9_sheets 1 = .ok (.iconst 2, 1) := by decide +kernel
theorem dX9_sheets_2 : decode cX9_sheets 2 = .ok (.if_icmp .eq 23, 3) := by decide +kernel
theorem dX9_sheets_5 : decode cX9_sheets 5 = .ok (.iload_n 1, 1) := by decide +kernel
theorem dX9_sheets_6 : decode cX9_sheets 6 = .ok (.iconst 4, 1) := by decide +kernel
theorem dX9_sheets_7 : decode cX9_sheets 7 = .ok (.if_icmp .eq 18, 3) := by decide +kernel
theorem dX9_sheets_10 : decode cX9_sheets 10 = .ok (.iload_n 1, 1) := by decide +kernel
theorem dX9_sheets_11 : decode cX9_sheets 11 = .ok (.bipush 8, 2) := by decide +kernel
theorem dX9_sheets_13 : decode cX9_sheets 13 = .ok (.if_icmp .eq 12, 3) := by decide +kernel
theorem dX9_sheets_16 : decode cX9_sheets 16 = .ok (.iload_n 1, 1) := by decide +kernel
theorem dX9_sheets_17 : decode cX9_sheets 17 = .ok (.bipush 12, 2) := by decide +kernel
theorem dX9_sheets_19 : decode cX9_sheets 19 = .ok (.if_icmp .eq 6, 3) := by decide +kernel
theorem dX9_sheets_22 : decode cX9_sheets 22 = .ok (.bipush (-2), 2) := by decide +kernel
theorem dX9_sheets_24 : decode cX9_sheets 24 = .ok (.ireturn, 1) := by decide +kernel
theorem dX9_sheets_25 : decode cX9_sheets 25 = .ok (.iconst 0, 1) := by decide +kernel
theorem dX9_sheets_26 : decode cX9_sheets 26 = .ok (.istore_n 2, 1) := by decide +kernel
theorem dX9_sheets_27 : decode cX9_sheets 27 = .ok (.iconst 0, 1) := by decide +kernel
theorem dX9_sheets_28 : decode cX9_sheets 28 = .ok (.istore_n 3, 1) := by decide +kernel
theorem dX9_sheets_29 : decode cX9_sheets 29 = .ok (.iload_n 3, 1) := by decide +kernel
theorem dX9_sheets_30 : decode cX9_sheets 30 = .ok (.aload_n 0, 1) := by decide +kernel
theorem dX9_sheets_31 : decode cX9_sheets 31 = .ok (.getfield 7, 3) := by decide +kernel
theorem dX9_sheets_34 : decode cX9_sheets 34 = .ok (.iconst 2, 1) := by decide +kernel
theorem dX9_sheets_35 : decode cX9_sheets 35 = .ok (.iaload, 1) := by decide +kernel
theorem dX9_sheets_36 : decode cX9_sheets 36 = .ok (.if_icmp .ge 28, 3) := by decide +kernel
theorem dX9_sheets_39 : decode cX9_sheets 39 = .ok (.iload_n 2, 1) := by decide +kernel
theorem dX9_sheets_40 : decode cX9_sheets 40 = .ok (.aload_n 0, 1) := by decide +kernel
theorem dX9_sheets_41 : decode cX9_sheets 41 = .ok (.getfield 7, 3) := by decide +kernel
theorem dX9_sheets_44 : decode cX9_sheets 44 = .ok (.iload_n 3, 1) := by decide +kernel
theorem dX9_sheets_45 : decode cX9_sheets 45 = .ok (.iconst 2, 1) := by decide +kernel
theorem dX9_sheets_46 : decode cX9_sheets 46 = .ok (.invokestatic 36, 3) := by decide +kernel
theorem dX9_sheets_49 : decode cX9_sheets 49 = .ok (.iaload, 1) := by decide +kernel
theorem dX9_sheets_50 : decode cX9_sheets 50 = .ok (.iload_n 1, 1) := by decide +kernel
theorem dX9_sheets_51 : decode cX9_sheets 51 = .ok (.iadd, 1) := by decide +kernel
theorem dX9_sheets_52 : decode cX9_sheets 52 = .ok (.iconst 1, 1) := by decide +kernel
theorem dX9_sheets_53 : decode cX9_sheets 53 = .ok (.isub, 1) := by decide +kernel
theorem dX9_sheets_54 : decode cX9_sheets 54 = .ok (.iload_n 1, 1) := by decide +kernel
theorem dX9_sheets_55 : decode cX9_sheets 55 = .ok (.idiv, 1) := by decide +kernel
theorem dX9_sheets_56 : decode cX9_sheets 56 = .ok (.iadd, 1) := by decide +kernel
theorem dX9_sheets_57 : decode cX9_sheets 57 = .ok (.istore_n 2, 1) := by decide +kernel
theorem dX9_sheets_58 : decode cX9_sheets 58 = .ok (.iinc 3 1, 3) := by decide +kernel
theorem dX9_sheets_61 : decode cX9_sheets 61 = .ok (.goto (-32), 3) := by decide +kernel
theorem dX9_sheets_64 : decode cX9_sheets 64 = .ok (.iload_n 2, 1) := by decide +kernel
theorem dX9_sheets_65 : decode cX9_sheets 65 = .ok (.ireturn, 1) := by decide +kernel
theorem dX9_writes_0 : decode cX9_writes 0 = .ok (.aload_n 0, 1) := by decide +kernel
theorem dX9_writes_1 : decode cX9_writes 1 = .ok (.getfield 20, 3) := by decide +kernel
theorem dX9_writes_4 : decode cX9_writes 4 = .ok (.aload_n 0, 1) := by decide +kernel
theorem dX9_writes_5 : decode cX9_writes 5 = .ok (.getfield 159, 3) := by decide +kernel
theorem dX9_writes_8 : decode cX9_writes 8 = .ok (.iload_n 1, 1) := by decide +kernel
theorem dX9_writes_9 : decode cX9_writes 9 = .ok (.i2c, 1) := by decide +kernel
theorem dX9_writes_10 : decode cX9_writes 10 = .ok (.castore, 1) := by decide +kernel
theorem dX9_writes_11 : decode cX9_writes 11 = .ok (.aload_n 0, 1) := by decide +kernel
theorem dX9_writes_12 : decode cX9_writes 12 = .ok (.dup, 1) := by decide +kernel
theorem dX9_writes_13 : decode cX9_writes 13 = .ok (.getfield 159, 3) := by decide +kernel
theorem dX9_writes_16 : decode cX9_writes 16 = .ok (.iconst 1, 1) := by decide +kernel
theorem dX9_writes_17 : decode cX9_writes 17 = .ok (.iadd, 1) := by decide +kernel
theorem dX9_writes_18 : decode cX9_writes 18 = .ok (.putfield 159, 3) := by decide +kernel
theorem dX9_writes_21 : decode cX9_writes 21 = .ok (.return_, 1) := by decide +kernel
theorem dX9_writesSign_0 : decode cX9_writesSign 0 = .ok (.iconst 0, 1) := by decide +kernel
theorem dX9_writesSign_1 : decode cX9_writesSign 1 = .ok (.istore_n 2, 1) := by decide +kernel
theorem dX9_writesSign_2 : decode cX9_writesSign 2 = .ok (.iload_n 2, 1) := by decide +kernel
theorem dX9_writesSign_3 : decode cX9_writesSign 3 = .ok (.aload_n 0, 1) := by decide +kernel
theorem dX9_writesSign_4 : decode cX9_writesSign 4 = .ok (.getfield 7, 3) := by decide +kernel
theorem dX9_writesSign_7 : decode cX9_writesSign 7 = .ok (.iload_n 1, 1) := by decide +kernel
theorem dX9_writesSign_8 : decode cX9_writesSign 8 = .ok (.iconst 0, 1) := by decide +kernel
theorem dX9_writesSign_9 : decode cX9_writesSign 9 = .ok (.invokestatic 36, 3) := by decide +kernel
theorem dX9_writesSign_12 : decode cX9_writesSign 12 = .ok (.iaload, 1) := by decide +kernel
theorem dX9_writesSign_13 : decode cX9_writesSign 13 = .ok (.if_icmp .ge 59, 3) := by decide +kernel
theorem dX9_writesSign_16 : decode cX9_writesSign 16 = .ok (.aload_n 0, 1) := by decide +kernel
theorem dX9_writesSign_17 : decode cX9_writesSign 17 = .ok (.aload_n 0, 1) := by decide +kernel
theorem dX9_writesSign_18 : decode cX9_writesSign 18 = .ok (.iload_n 1, 1) := by decide +kernel
theorem dX9_writesSign_19 : decode cX9_writesSign 19 = .ok (.invokevirtual 111, 3) := by decide +kernel
theorem dX9_writesSign_22 : decode cX9_writesSign 22 = .ok (.ifCond .eq 8, 3) := by decide +kernel
theorem dX9_writesSign_25 : decode cX9_writesSign 25 = .ok (.bipush 42, 2) := by decide +kernel
theorem dX9_writesSign_27 : decode cX9_writesSign 27 = .ok (.goto 36, 3) := by decide +kernel
theorem dX9_writesSign_30 : decode cX9_writesSign 30 = .ok (.iload_n 2, 1) := by decide +kernel
theorem dX9_writesSign_31 : decode cX9_writesSign 31 = .ok (.ifCond .ne 19, 3) := by decide +kernel
theorem dX9_writesSign_34 : decode cX9_writesSign 34 = .ok (.bipush 65, 2) := by decide +kernel
theorem dX9_writesSign_36 : decode cX9_writesSign 36 = .ok (.aload_n 0, 1) := by decide +kernel
theorem dX9_writesSign_37 : decode cX9_writesSign 37 = .ok (.getfield 7, 3) := by decide +kernel
theorem dX9_writesSign_40 : decode cX9_writesSign 40 = .ok (.iload_n 1, 1) := by decide +kernel
theorem dX9_writesSign_41 : decode cX9_writesSign 41 = .ok (.iconst 1, 1) := by decide +kernel
theorem dX9_writesSign_42 : decode cX9_writesSign 42 = .ok (.invokestatic 36, 3) := by decide +kernel
theorem dX9_writesSign_45 : decode cX9_writesSign 45 = .ok (.iaload, 1) := by decide +kernel
theorem dX9_writesSign_46 : decode cX9_writesSign 46 = .ok (.iadd, 1) := by decide +kernel
theorem dX9_writesSign_47 : decode cX9_writesSign 47 = .ok (.goto 16, 3) := by decide +kernel
theorem dX9_writesSign_50 : decode cX9_writesSign 50 = .ok (.bipush 97, 2) := by decide +kernel
theorem dX9_writesSign_52 : decode cX9_writesSign 52 = .ok (.aload_n 0, 1) := by decide +kernel
theorem dX9_writesSign_53 : decode cX9_writesSign 53 = .ok (.getfield 7, 3) := by decide +kernel
theorem dX9_writesSign_56 : decode cX9_writesSign 56 = .ok (.iload_n 1, 1) := by decide +kernel
theorem dX9_writesSign_57 : decode cX9_writesSign 57 = .ok (.iconst 1, 1) := by decide +kernel
theorem dX9_writesSign_58 : decode cX9_writesSign 58 = .ok (.invokestatic 36, 3) := by decide +kernel
theorem dX9_writesSign_61 : decode cX9_writesSign 61 = .ok (.iaload, 1) := by decide +kernel
theorem dX9_writesSign_62 : decode cX9_writesSign 62 = .ok (.iadd, 1) := by decide +kernel
theorem dX9_writesSign_63 : decode cX9_writesSign 63 = .ok (.invokevirtual 162, 3) := by decide +kernel
theorem dX9_writesSign_66 : decode cX9_writesSign 66 = .ok (.iinc 2 1, 3) := by decide +kernel
theorem dX9_writesSign_69 : decode cX9_writesSign 69 = .ok (.goto (-67), 3) := by decide +kernel
theorem dX9_writesSign_72 : decode cX9_writesSign 72 = .ok (.return_, 1) := by decide +kernel
theorem dX9_goesOn_0 : decode cX9_goesOn 0 = .ok (.aload_n 0, 1) := by decide +kernel
theorem dX9_goesOn_1 : decode cX9_goesOn 1 = .ok (.iload_n 1, 1) := by decide +kernel
theorem dX9_goesOn_2 : decode cX9_goesOn 2 = .ok (.invokevirtual 111, 3) := by decide +kernel
theorem dX9_goesOn_5 : decode cX9_goesOn 5 = .ok (.ifCond .ne 67, 3) := by decide +kernel
theorem dX9_goesOn_8 : decode cX9_goesOn 8 = .ok (.aload_n 0, 1) := by decide +kernel
theorem dX9_goesOn_9 : decode cX9_goesOn 9 = .ok (.iload_n 1, 1) := by decide +kernel
theorem dX9_goesOn_10 : decode cX9_goesOn 10 = .ok (.iconst 1, 1) := by decide +kernel
theorem dX9_goesOn_11 : decode cX9_goesOn 11 = .ok (.isub, 1) := by decide +kernel
theorem dX9_goesOn_12 : decode cX9_goesOn 12 = .ok (.invokevirtual 111, 3) := by decide +kernel
theorem dX9_goesOn_15 : decode cX9_goesOn 15 = .ok (.ifCond .ne 57, 3) := by decide +kernel
theorem dX9_goesOn_18 : decode cX9_goesOn 18 = .ok (.aload_n 0, 1) := by decide +kernel
theorem dX9_goesOn_19 : decode cX9_goesOn 19 = .ok (.getfield 7, 3) := by decide +kernel
theorem dX9_goesOn_22 : decode cX9_goesOn 22 = .ok (.iload_n 1, 1) := by decide +kernel
theorem dX9_goesOn_23 : decode cX9_goesOn 23 = .ok (.iconst 0, 1) := by decide +kernel
theorem dX9_goesOn_24 : decode cX9_goesOn 24 = .ok (.invokestatic 36, 3) := by decide +kernel
theorem dX9_goesOn_27 : decode cX9_goesOn 27 = .ok (.iaload, 1) := by decide +kernel
theorem dX9_goesOn_28 : decode cX9_goesOn 28 = .ok (.aload_n 0, 1) := by decide +kernel
theorem dX9_goesOn_29 : decode cX9_goesOn 29 = .ok (.getfield 7, 3) := by decide +kernel
theorem dX9_goesOn_32 : decode cX9_goesOn 32 = .ok (.iload_n 1, 1) := by decide +kernel
theorem dX9_goesOn_33 : decode cX9_goesOn 33 = .ok (.iconst 1, 1) := by decide +kernel
theorem dX9_goesOn_34 : decode cX9_goesOn 34 = .ok (.isub, 1) := by decide +kernel
theorem dX9_goesOn_35 : decode cX9_goesOn 35 = .ok (.iconst 0, 1) := by decide +kernel
theorem dX9_goesOn_36 : decode cX9_goesOn 36 = .ok (.invokestatic 36, 3) := by decide +kernel
theorem dX9_goesOn_39 : decode cX9_goesOn 39 = .ok (.iaload, 1) := by decide +kernel
theorem dX9_goesOn_40 : decode cX9_goesOn 40 = .ok (.if_icmp .ne 32, 3) := by decide +kernel
theorem dX9_goesOn_43 : decode cX9_goesOn 43 = .ok (.aload_n 0, 1) := by decide +kernel
theorem dX9_goesOn_44 : decode cX9_goesOn 44 = .ok (.getfield 7, 3) := by decide +kernel
theorem dX9_goesOn_47 : decode cX9_goesOn 47 = .ok (.iload_n 1, 1) := by decide +kernel
theorem dX9_goesOn_48 : decode cX9_goesOn 48 = .ok (.iconst 2, 1) := by decide +kernel
theorem dX9_goesOn_49 : decode cX9_goesOn 49 = .ok (.invokestatic 36, 3) := by decide +kernel
theorem dX9_goesOn_52 : decode cX9_goesOn 52 = .ok (.iaload, 1) := by decide +kernel
theorem dX9_goesOn_53 : decode cX9_goesOn 53 = .ok (.aload_n 0, 1) := by decide +kernel
theorem dX9_goesOn_54 : decode cX9_goesOn 54 = .ok (.getfield 7, 3) := by decide +kernel
theorem dX9_goesOn_57 : decode cX9_goesOn 57 = .ok (.iload_n 1, 1) := by decide +kernel
theorem dX9_goesOn_58 : decode cX9_goesOn 58 = .ok (.iconst 1, 1) := by decide +kernel
theorem dX9_goesOn_59 : decode cX9_goesOn 59 = .ok (.isub, 1) := by decide +kernel
theorem dX9_goesOn_60 : decode cX9_goesOn 60 = .ok (.iconst 2, 1) := by decide +kernel
theorem dX9_goesOn_61 : decode cX9_goesOn 61 = .ok (.invokestatic 36, 3) := by decide +kernel
theorem dX9_goesOn_64 : decode cX9_goesOn 64 = .ok (.iaload, 1) := by decide +kernel
theorem dX9_goesOn_65 : decode cX9_goesOn 65 = .ok (.if_icmp .ne 7, 3) := by decide +kernel
theorem dX9_goesOn_68 : decode cX9_goesOn 68 = .ok (.iconst 1, 1) := by decide +kernel
theorem dX9_goesOn_69 : decode cX9_goesOn 69 = .ok (.goto 4, 3) := by decide +kernel
theorem dX9_goesOn_72 : decode cX9_goesOn 72 = .ok (.iconst 0, 1) := by decide +kernel
theorem dX9_goesOn_73 : decode cX9_goesOn 73 = .ok (.istore_n 2, 1) := by decide +kernel
theorem dX9_goesOn_74 : decode cX9_goesOn 74 = .ok (.iload_n 2, 1) := by decide +kernel
theorem dX9_goesOn_75 : decode cX9_goesOn 75 = .ok (.ifCond .eq 26, 3) := by decide +kernel
theorem dX9_goesOn_78 : decode cX9_goesOn 78 = .ok (.aload_n 0, 1) := by decide +kernel
theorem dX9_goesOn_79 : decode cX9_goesOn 79 = .ok (.iload_n 1, 1) := by decide +kernel
theorem dX9_goesOn_80 : decode cX9_goesOn 80 = .ok (.invokevirtual 114, 3) := by decide +kernel
theorem dX9_goesOn_83 : decode cX9_goesOn 83 = .ok (.aload_n 0, 1) := by decide +kernel
theorem dX9_goesOn_84 : decode cX9_goesOn 84 = .ok (.aload_n 0, 1) := by decide +kernel
theorem dX9_goesOn_85 : decode cX9_goesOn 85 = .ok (.iload_n 1, 1) := by decide +kernel
theorem dX9_goesOn_86 : decode cX9_goesOn 86 = .ok (.iconst 1, 1) := by decide +kernel
theorem dX9_goesOn_87 : decode cX9_goesOn 87 = .ok (.isub, 1) := by decide +kernel
theorem dX9_goesOn_88 : decode cX9_goesOn 88 = .ok (.invokevirtual 114, 3) := by decide +kernel
theorem dX9_goesOn_91 : decode cX9_goesOn 91 = .ok (.invokevirtual 117, 3) := by decide +kernel
theorem dX9_goesOn_94 : decode cX9_goesOn 94 = .ok (.if_icmp .ne 7, 3) := by decide +kernel
theorem dX9_goesOn_97 : decode cX9_goesOn 97 = .ok (.iconst 1, 1) := by decide +kernel
theorem dX9_goesOn_98 : decode cX9_goesOn 98 = .ok (.goto 4, 3) := by decide +kernel
theorem dX9_goesOn_101 : decode cX9_goesOn 101 = .ok (.iconst 0, 1) := by decide +kernel
theorem dX9_goesOn_102 : decode cX9_goesOn 102 = .ok (.ireturn, 1) := by decide +kernel
theorem dX9_lays_0 : decode cX9_lays 0 = .ok (.aload_n 0, 1) := by decide +kernel
theorem dX9_lays_1 : decode cX9_lays 1 = .ok (.iconst 0, 1) := by decide +kernel
theorem dX9_lays_2 : decode cX9_lays 2 = .ok (.putfield 159, 3) := by decide +kernel
theorem dX9_lays_5 : decode cX9_lays 5 = .ok (.aload_n 0, 1) := by decide +kernel
theorem dX9_lays_6 : decode cX9_lays 6 = .ok (.iconst 0, 1) := by decide +kernel
theorem dX9_lays_7 : decode cX9_lays 7 = .ok (.putfield 166, 3) := by decide +kernel
theorem dX9_lays_10 : decode cX9_lays 10 = .ok (.iconst 0, 1) := by decide +kernel
theorem dX9_lays_11 : decode cX9_lays 11 = .ok (.istore_n 1, 1) := by decide +kernel
theorem dX9_lays_12 : decode cX9_lays 12 = .ok (.iload_n 1, 1) := by decide +kernel
theorem dX9_lays_13 : decode cX9_lays 13 = .ok (.aload_n 0, 1) := by decide +kernel
theorem dX9_lays_14 : decode cX9_lays 14 = .ok (.getfield 7, 3) := by decide +kernel
theorem dX9_lays_17 : decode cX9_lays 17 = .ok (.iconst 2, 1) := by decide +kernel
theorem dX9_lays_18 : decode cX9_lays 18 = .ok (.iaload, 1) := by decide +kernel
theorem dX9_lays_19 : decode cX9_lays 19 = .ok (.if_icmp .ge 120, 3) := by decide +kernel
theorem dX9_lays_22 : decode cX9_lays 22 = .ok (.iload_n 1, 1) := by decide +kernel
theorem dX9_lays_23 : decode cX9_lays 23 = .ok (.istore_n 2, 1) := by decide +kernel
theorem dX9_lays_24 : decode cX9_lays 24 = .ok (.iload_n 2, 1) := by decide +kernel
theorem dX9_lays_25 : decode cX9_lays 25 = .ok (.iconst 1, 1) := by decide +kernel
theorem dX9_lays_26 : decode cX9_lays 26 = .ok (.iadd, 1) := by decide +kernel
theorem dX9_lays_27 : decode cX9_lays 27 = .ok (.aload_n 0, 1) := by decide +kernel
theorem dX9_lays_28 : decode cX9_lays 28 = .ok (.getfield 7, 3) := by decide +kernel
theorem dX9_lays_31 : decode cX9_lays 31 = .ok (.iconst 2, 1) := by decide +kernel
theorem dX9_lays_32 : decode cX9_lays 32 = .ok (.iaload, 1) := by decide +kernel
theorem dX9_lays_33 : decode cX9_lays 33 = .ok (.if_icmp .ge 19, 3) := by decide +kernel
theorem dX9_lays_36 : decode cX9_lays 36 = .ok (.aload_n 0, 1) := by decide +kernel
theorem dX9_lays_37 : decode cX9_lays 37 = .ok (.iload_n 2, 1) := by decide +kernel
theorem dX9_lays_38 : decode cX9_lays 38 = .ok (.iconst 1, 1) := by decide +kernel
theorem dX9_lays_39 : decode cX9_lays 39 = .ok (.iadd, 1) := by decide +kernel
theorem dX9_lays_40 : decode cX9_lays 40 = .ok (.invokevirtual 169, 3) := by decide +kernel
theorem dX9_lays_43 : decode cX9_lays 43 = .ok (.ifCond .eq 9, 3) := by decide +kernel
theorem dX9_lays_46 : decode cX9_lays 46 = .ok (.iinc 2 1, 3) := by decide +kernel
theorem dX9_lays_49 : decode cX9_lays 49 = .ok (.goto (-25), 3) := by decide +kernel
theorem dX9_lays_52 : decode cX9_lays 52 = .ok (.iload_n 1, 1) := by decide +kernel
theorem dX9_lays_53 : decode cX9_lays 53 = .ok (.ifCond .le 9, 3) := by decide +kernel
theorem dX9_lays_56 : decode cX9_lays 56 = .ok (.aload_n 0, 1) := by decide +kernel
theorem dX9_lays_57 : decode cX9_lays 57 = .ok (.bipush 44, 2) := by decide +kernel
theorem dX9_lays_59 : decode cX9_lays 59 = .ok (.invokevirtual 162, 3) := by decide +kernel
theorem dX9_lays_62 : decode cX9_lays 62 = .ok (.aload_n 0, 1) := by decide +kernel
theorem dX9_lays_63 : decode cX9_lays 63 = .ok (.iload_n 1, 1) := by decide +kernel
theorem dX9_lays_64 : decode cX9_lays 64 = .ok (.invokevirtual 172, 3) := by decide +kernel
theorem dX9_lays_67 : decode cX9_lays 67 = .ok (.iload_n 2, 1) := by decide +kernel
theorem dX9_lays_68 : decode cX9_lays 68 = .ok (.iload_n 1, 1) := by decide +kernel
theorem dX9_lays_69 : decode cX9_lays 69 = .ok (.if_icmp .le 14, 3) := by decide +kernel
theorem dX9_lays_72 : decode cX9_lays 72 = .ok (.aload_n 0, 1) := by decide +kernel
theorem dX9_lays_73 : decode cX9_lays 73 = .ok (.bipush 45, 2) := by decide +kernel
theorem dX9_lays_75 : decode cX9_lays 75 = .ok (.invokevirtual 162, 3) := by decide +kernel
theorem dX9_lays_78 : decode cX9_lays 78 = .ok (.aload_n 0, 1) := by decide +kernel
theorem dX9_lays_79 : decode cX9_lays 79 = .ok (.iload_n 2, 1) := by decide +kernel
theorem dX9_lays_80 : decode cX9_lays 80 = .ok (.invokevirtual 172, 3) := by decide +kernel
theorem dX9_lays_83 : decode cX9_lays 83 = .ok (.aload_n 0, 1) := by decide +kernel
theorem dX9_lays_84 : decode cX9_lays 84 = .ok (.getfield 7, 3) := by decide +kernel
theorem dX9_lays_87 : decode cX9_lays 87 = .ok (.iload_n 1, 1) := by decide +kernel
theorem dX9_lays_88 : decode cX9_lays 88 = .ok (.iconst 2, 1) := by decide +kernel
theorem dX9_lays_89 : decode cX9_lays 89 = .ok (.invokestatic 36, 3) := by decide +kernel
theorem dX9_lays_92 : decode cX9_lays 92 = .ok (.iaload, 1) := by decide +kernel
theorem dX9_lays_93 : decode cX9_lays 93 = .ok (.istore_n 3, 1) := by decide +kernel
theorem dX9_lays_94 : decode cX9_lays 94 = .ok (.iload_n 3, 1) := by decide +kernel
theorem dX9_lays_95 : decode cX9_lays 95 = .ok (.bipush 9, 2) := by decide +kernel
theorem dX9_lays_97 : decode cX9_lays 97 = .ok (.if_icmp .le 14, 3) := by decide +kernel
theorem dX9_lays_100 : decode cX9_lays 100 = .ok (.aload_n 0, 1) := by decide +kernel
theorem dX9_lays_101 : decode cX9_lays 101 = .ok (.bipush 48, 2) := by decide +kernel
theorem dX9_lays_103 : decode cX9_lays 103 = .ok (.iload_n 3, 1) := by decide +kernel
theorem dX9_lays_104 : decode cX9_lays 104 = .ok (.bipush 10, 2) := by decide +kernel
theorem dX9_lays_106 : decode cX9_lays 106 = .ok (.idiv, 1) := by decide +kernel
theorem dX9_lays_107 : decode cX9_lays 107 = .ok (.iadd, 1) := by decide +kernel
theorem dX9_lays_108 : decode cX9_lays 108 = .ok (.invokevirtual 162, 3) := by decide +kernel
theorem dX9_lays_111 : decode cX9_lays 111 = .ok (.aload_n 0, 1) := by decide +kernel
theorem dX9_lays_112 : decode cX9_lays 112 = .ok (.bipush 48, 2) := by decide +kernel
theorem dX9_lays_114 : decode cX9_lays 114 = .ok (.iload_n 3, 1) := by decide +kernel
theorem dX9_lays_115 : decode cX9_lays 115 = .ok (.bipush 10, 2) := by decide +kernel
theorem dX9_lays_117 : decode cX9_lays 117 = .ok (.irem, 1) := by decide +kernel
theorem dX9_lays_118 : decode cX9_lays 118 = .ok (.iadd, 1) := by decide +kernel
theorem dX9_lays_119 : decode cX9_lays 119 = .ok (.invokevirtual 162, 3) := by decide +kernel
theorem dX9_lays_122 : decode cX9_lays 122 = .ok (.aload_n 0, 1) := by decide +kernel
theorem dX9_lays_123 : decode cX9_lays 123 = .ok (.dup, 1) := by decide +kernel
theorem dX9_lays_124 : decode cX9_lays 124 = .ok (.getfield 166, 3) := by decide +kernel
theorem dX9_lays_127 : decode cX9_lays 127 = .ok (.iconst 1, 1) := by decide +kernel
theorem dX9_lays_128 : decode cX9_lays 128 = .ok (.iadd, 1) := by decide +kernel
theorem dX9_lays_129 : decode cX9_lays 129 = .ok (.putfield 166, 3) := by decide +kernel
theorem dX9_lays_132 : decode cX9_lays 132 = .ok (.iload_n 2, 1) := by decide +kernel
theorem dX9_lays_133 : decode cX9_lays 133 = .ok (.iconst 1, 1) := by decide +kernel
theorem dX9_lays_134 : decode cX9_lays 134 = .ok (.iadd, 1) := by decide +kernel
theorem dX9_lays_135 : decode cX9_lays 135 = .ok (.istore_n 1, 1) := by decide +kernel
theorem dX9_lays_136 : decode cX9_lays 136 = .ok (.goto (-124), 3) := by decide +kernel
theorem dX9_lays_139 : decode cX9_lays 139 = .ok (.return_, 1) := by decide +kernel
theorem dX9_formula_0 : decode cX9_formula 0 = .ok (.iload_n 1, 1) := by decide +kernel
theorem dX9_formula_1 : decode cX9_formula 1 = .ok (.ifCond .ge 6, 3) := by decide +kernel
theorem dX9_formula_4 : decode cX9_formula 4 = .ok (.bipush (-2), 2) := by decide +kernel
theorem dX9_formula_6 : decode cX9_formula 6 = .ok (.ireturn, 1) := by decide +kernel
theorem dX9_formula_7 : decode cX9_formula 7 = .ok (.aload_n 0, 1) := by decide +kernel
theorem dX9_formula_8 : decode cX9_formula 8 = .ok (.invokevirtual 175, 3) := by decide +kernel
theorem dX9_formula_11 : decode cX9_formula 11 = .ok (.iload_n 1, 1) := by decide +kernel
theorem dX9_formula_12 : decode cX9_formula 12 = .ok (.aload_n 0, 1) := by decide +kernel
theorem dX9_formula_13 : decode cX9_formula 13 = .ok (.getfield 159, 3) := by decide +kernel
theorem dX9_formula_16 : decode cX9_formula 16 = .ok (.if_icmp .ge 12, 3) := by decide +kernel
theorem dX9_formula_19 : decode cX9_formula 19 = .ok (.aload_n 0, 1) := by decide +kernel
theorem dX9_formula_20 : decode cX9_formula 20 = .ok (.getfield 20, 3) := by decide +kernel
theorem dX9_formula_23 : decode cX9_formula 23 = .ok (.iload_n 1, 1) := by decide +kernel
theorem dX9_formula_24 : decode cX9_formula 24 = .ok (.caload, 1) := by decide +kernel
theorem dX9_formula_25 : decode cX9_formula 25 = .ok (.goto 5, 3) := by decide +kernel
theorem dX9_formula_28 : decode cX9_formula 28 = .ok (.bipush (-5), 2) := by decide +kernel
theorem dX9_formula_30 : decode cX9_formula 30 = .ok (.ireturn, 1) := by decide +kernel
theorem dX9_starred_0 : decode cX9_starred 0 = .ok (.iconst 0, 1) := by decide +kernel
theorem dX9_starred_1 : decode cX9_starred 1 = .ok (.istore_n 1, 1) := by decide +kernel
theorem dX9_starred_2 : decode cX9_starred 2 = .ok (.iconst 0, 1) := by decide +kernel
theorem dX9_starred_3 : decode cX9_starred 3 = .ok (.istore_n 2, 1) := by decide +kernel
theorem dX9_starred_4 : decode cX9_starred 4 = .ok (.iload_n 2, 1) := by decide +kernel
theorem dX9_starred_5 : decode cX9_starred 5 = .ok (.aload_n 0, 1) := by decide +kernel
theorem dX9_starred_6 : decode cX9_starred 6 = .ok (.getfield 7, 3) := by decide +kernel
theorem dX9_starred_9 : decode cX9_starred 9 = .ok (.iconst 2, 1) := by decide +kernel
theorem dX9_starred_10 : decode cX9_starred 10 = .ok (.iaload, 1) := by decide +kernel
theorem dX9_starred_11 : decode cX9_starred 11 = .ok (.if_icmp .ge 25, 3) := by decide +kernel
theorem dX9_starred_14 : decode cX9_starred 14 = .ok (.iload_n 1, 1) := by decide +kernel
theorem dX9_starred_15 : decode cX9_starred 15 = .ok (.aload_n 0, 1) := by decide +kernel
theorem dX9_starred_16 : decode cX9_starred 16 = .ok (.iload_n 2, 1) := by decide +kernel
theorem dX9_starred_17 : decode cX9_starred 17 = .ok (.invokevirtual 111, 3) := by decide +kernel
theorem dX9_starred_20 : decode cX9_starred 20 = .ok (.ifCond .eq 7, 3) := by decide +kernel
theorem dX9_starred_23 : decode cX9_starred 23 = .ok (.iconst 1, 1) := by decide +kernel
theorem dX9_starred_24 : decode cX9_starred 24 = .ok (.goto 4, 3) := by decide +kernel
theorem dX9_starred_27 : decode cX9_starred 27 = .ok (.iconst 0, 1) := by decide +kernel
theorem dX9_starred_28 : decode cX9_starred 28 = .ok (.iadd, 1) := by decide +kernel
theorem dX9_starred_29 : decode cX9_starred 29 = .ok (.istore_n 1, 1) := by decide +kernel
theorem dX9_starred_30 : decode cX9_starred 30 = .ok (.iinc 2 1, 3) := by decide +kernel
theorem dX9_starred_33 : decode cX9_starred 33 = .ok (.goto (-29), 3) := by decide +kernel
theorem dX9_starred_36 : decode cX9_starred 36 = .ok (.iload_n 1, 1) := by decide +kernel
theorem dX9_starred_37 : decode cX9_starred 37 = .ok (.ireturn, 1) := by decide +kernel
theorem dX9_lapses_0 : decode cX9_lapses 0 = .ok (.iconst 0, 1) := by decide +kernel
theorem dX9_lapses_1 : decode cX9_lapses 1 = .ok (.istore_n 1, 1) := by decide +kernel
theorem dX9_lapses_2 : decode cX9_lapses 2 = .ok (.iconst 0, 1) := by decide +kernel
theorem dX9_lapses_3 : decode cX9_lapses 3 = .ok (.istore_n 2, 1) := by decide +kernel
theorem dX9_lapses_4 : decode cX9_lapses 4 = .ok (.iload_n 2, 1) := by decide +kernel
theorem dX9_lapses_5 : decode cX9_lapses 5 = .ok (.aload_n 0, 1) := by decide +kernel
theorem dX9_lapses_6 : decode cX9_lapses 6 = .ok (.getfield 7, 3) := by decide +kernel
theorem dX9_lapses_9 : decode cX9_lapses 9 = .ok (.iconst 2, 1) := by decide +kernel
theorem dX9_lapses_10 : decode cX9_lapses 10 = .ok (.iaload, 1) := by decide +kernel
theorem dX9_lapses_11 : decode cX9_lapses 11 = .ok (.if_icmp .ge 25, 3) := by decide +kernel
theorem dX9_lapses_14 : decode cX9_lapses 14 = .ok (.iload_n 1, 1) := by decide +kernel
theorem dX9_lapses_15 : decode cX9_lapses 15 = .ok (.aload_n 0, 1) := by decide +kernel
theorem dX9_lapses_16 : decode cX9_lapses 16 = .ok (.iload_n 2, 1) := by decide +kernel
theorem dX9_lapses_17 : decode cX9_lapses 17 = .ok (.invokevirtual 150, 3) := by decide +kernel
theorem dX9_lapses_20 : decode cX9_lapses 20 = .ok (.ifCond .eq 7, 3) := by decide +kernel
theorem dX9_lapses_23 : decode cX9_lapses 23 = .ok (.iconst 1, 1) := by decide +kernel
theorem dX9_lapses_24 : decode cX9_lapses 24 = .ok (.goto 4, 3) := by decide +kernel
theorem dX9_lapses_27 : decode cX9_lapses 27 = .ok (.iconst 0, 1) := by decide +kernel
theorem dX9_lapses_28 : decode cX9_lapses 28 = .ok (.iadd, 1) := by decide +kernel
theorem dX9_lapses_29 : decode cX9_lapses 29 = .ok (.istore_n 1, 1) := by decide +kernel
theorem dX9_lapses_30 : decode cX9_lapses 30 = .ok (.iinc 2 1, 3) := by decide +kernel
theorem dX9_lapses_33 : decode cX9_lapses 33 = .ok (.goto (-29), 3) := by decide +kernel
theorem dX9_lapses_36 : decode cX9_lapses 36 = .ok (.iload_n 1, 1) := by decide +kernel
theorem dX9_lapses_37 : decode cX9_lapses 37 = .ok (.ireturn, 1) := by decide +kernel
theorem dX9_count_0 : decode cX9_count 0 = .ok (.aload_n 0, 1) := by decide +kernel
theorem dX9_count_1 : decode cX9_count 1 = .ok (.invokevirtual 175, 3) := by decide +kernel
theorem dX9_count_4 : decode cX9_count 4 = .ok (.iload_n 1, 1) := by decide +kernel
theorem dX9_count_5 : decode cX9_count 5 = .ok (.tableswitch 145 0 12 #[67, 74, 79, 89, 94, 99, 104, 109, 114, 119, 128, 135, 140], 67) := by decide +kernel
theorem dX9_count_72 : decode cX9_count 72 = .ok (.aload_n 0, 1) := by decide +kernel
theorem dX9_count_73 : decode cX9_count 73 = .ok (.getfield 7, 3) := by decide +kernel
theorem dX9_count_76 : decode cX9_count 76 = .ok (.iconst 2, 1) := by decide +kernel
theorem dX9_count_77 : decode cX9_count 77 = .ok (.iaload, 1) := by decide +kernel
theorem dX9_count_78 : decode cX9_count 78 = .ok (.ireturn, 1) := by decide +kernel
theorem dX9_count_79 : decode cX9_count 79 = .ok (.aload_n 0, 1) := by decide +kernel
theorem dX9_count_80 : decode cX9_count 80 = .ok (.invokevirtual 48, 3) := by decide +kernel
theorem dX9_count_83 : decode cX9_count 83 = .ok (.ireturn, 1) := by decide +kernel
theorem dX9_count_84 : decode cX9_count 84 = .ok (.aload_n 0, 1) := by decide +kernel
theorem dX9_count_85 : decode cX9_count 85 = .ok (.invokevirtual 48, 3) := by decide +kernel
theorem dX9_count_88 : decode cX9_count 88 = .ok (.aload_n 0, 1) := by decide +kernel
theorem dX9_count_89 : decode cX9_count 89 = .ok (.invokevirtual 129, 3) := by decide +kernel
theorem dX9_count_92 : decode cX9_count 92 = .ok (.isub, 1) := by decide +kernel
theorem dX9_count_93 : decode cX9_count 93 = .ok (.ireturn, 1) := by decide +kernel
theorem dX9_count_94 : decode cX9_count 94 = .ok (.aload_n 0, 1) := by decide +kernel
theorem dX9_count_95 : decode cX9_count 95 = .ok (.invokevirtual 67, 3) := by decide +kernel
theorem dX9_count_98 : decode cX9_count 98 = .ok (.ireturn, 1) := by decide +kernel
theorem dX9_count_99 : decode cX9_count 99 = .ok (.aload_n 0, 1) := by decide +kernel
theorem dX9_count_100 : decode cX9_count 100 = .ok (.invokevirtual 61, 3) := by decide +kernel
theorem dX9_count_103 : decode cX9_count 103 = .ok (.ireturn, 1) := by decide +kernel
theorem dX9_count_104 : decode cX9_count 104 = .ok (.aload_n 0, 1) := by decide +kernel
theorem dX9_count_105 : decode cX9_count 105 = .ok (.invokevirtual 178, 3) := by decide +kernel
theorem dX9_count_108 : decode cX9_count 108 = .ok (.ireturn, 1) := by decide +kernel
theorem dX9_count_109 : decode cX9_count 109 = .ok (.aload_n 0, 1) := by decide +kernel
theorem dX9_count_110 : decode cX9_count 110 = .ok (.invokevirtual 181, 3) := by decide +kernel
theorem dX9_count_113 : decode cX9_count 113 = .ok (.ireturn, 1) := by decide +kernel
theorem dX9_count_114 : decode cX9_count 114 = .ok (.aload_n 0, 1) := by decide +kernel
theorem dX9_count_115 : decode cX9_count 115 = .ok (.getfield 159, 3) := by decide +kernel
theorem dX9_count_118 : decode cX9_count 118 = .ok (.ireturn, 1) := by decide +kernel
theorem dX9_count_119 : decode cX9_count 119 = .ok (.aload_n 0, 1) := by decide +kernel
theorem dX9_count_120 : decode cX9_count 120 = .ok (.getfield 166, 3) := by decide +kernel
theorem dX9_count_123 : decode cX9_count 123 = .ok (.ireturn, 1) := by decide +kernel
theorem dX9_count_124 : decode cX9_count 124 = .ok (.aload_n 0, 1) := by decide +kernel
theorem dX9_count_125 : decode cX9_count 125 = .ok (.getfield 7, 3) := by decide +kernel
theorem dX9_count_128 : decode cX9_count 128 = .ok (.sipush 163, 3) := by decide +kernel
theorem dX9_count_131 : decode cX9_count 131 = .ok (.iaload, 1) := by decide +kernel
theorem dX9_count_132 : decode cX9_count 132 = .ok (.ireturn, 1) := by decide +kernel
theorem dX9_count_133 : decode cX9_count 133 = .ok (.aload_n 0, 1) := by decide +kernel
theorem dX9_count_134 : decode cX9_count 134 = .ok (.getfield 7, 3) := by decide +kernel
theorem dX9_count_137 : decode cX9_count 137 = .ok (.iconst 1, 1) := by decide +kernel
theorem dX9_count_138 : decode cX9_count 138 = .ok (.iaload, 1) := by decide +kernel
theorem dX9_count_139 : decode cX9_count 139 = .ok (.ireturn, 1) := by decide +kernel
theorem dX9_count_140 : decode cX9_count 140 = .ok (.aload_n 0, 1) := by decide +kernel
theorem dX9_count_141 : decode cX9_count 141 = .ok (.getfield 24, 3) := by decide +kernel
theorem dX9_count_144 : decode cX9_count 144 = .ok (.ireturn, 1) := by decide +kernel
theorem dX9_count_145 : decode cX9_count 145 = .ok (.aload_n 0, 1) := by decide +kernel
theorem dX9_count_146 : decode cX9_count 146 = .ok (.getfield 77, 3) := by decide +kernel
theorem dX9_count_149 : decode cX9_count 149 = .ok (.ireturn, 1) := by decide +kernel
theorem dX9_count_150 : decode cX9_count 150 = .ok (.bipush (-2), 2) := by decide +kernel
theorem dX9_count_152 : decode cX9_count 152 = .ok (.ireturn, 1) := by decide +kernel
theorem dJ6_bitCount_0f7a4_0 : decode cJ6_bitCount_0f7a4 0 = .ok (.iload_n 0, 1) := by decide +kernel
theorem dJ6_bitCount_0f7a4_1 : decode cJ6_bitCount_0f7a4 1 = .ok (.iload_n 0, 1) := by decide +kernel
theorem dJ6_bitCount_0f7a4_2 : decode cJ6_bitCount_0f7a4 2 = .ok (.iconst 1, 1) := by decide +kernel
theorem dJ6_bitCount_0f7a4_3 : decode cJ6_bitCount_0f7a4 3 = .ok (.iushr, 1) := by decide +kernel
theorem dJ6_bitCount_0f7a4_4 : decode cJ6_bitCount_0f7a4 4 = .ok (.ldc_w 265, 3) := by decide +kernel
theorem dJ6_bitCount_0f7a4_7 : decode cJ6_bitCount_0f7a4 7 = .ok (.iand, 1) := by decide +kernel
theorem dJ6_bitCount_0f7a4_8 : decode cJ6_bitCount_0f7a4 8 = .ok (.isub, 1) := by decide +kernel
theorem dJ6_bitCount_0f7a4_9 : decode cJ6_bitCount_0f7a4 9 = .ok (.istore_n 0, 1) := by decide +kernel
theorem dJ6_bitCount_0f7a4_10 : decode cJ6_bitCount_0f7a4 10 = .ok (.iload_n 0, 1) := by decide +kernel
theorem dJ6_bitCount_0f7a4_11 : decode cJ6_bitCount_0f7a4 11 = .ok (.ldc_w 266, 3) := by decide +kernel
theorem dJ6_bitCount_0f7a4_14 : decode cJ6_bitCount_0f7a4 14 = .ok (.iand, 1) := by decide +kernel
theorem dJ6_bitCount_0f7a4_15 : decode cJ6_bitCount_0f7a4 15 = .ok (.iload_n 0, 1) := by decide +kernel
theorem dJ6_bitCount_0f7a4_16 : decode cJ6_bitCount_0f7a4 16 = .ok (.iconst 2, 1) := by decide +kernel
theorem dJ6_bitCount_0f7a4_17 : decode cJ6_bitCount_0f7a4 17 = .ok (.iushr, 1) := by decide +kernel
theorem dJ6_bitCount_0f7a4_18 : decode cJ6_bitCount_0f7a4 18 = .ok (.ldc_w 266, 3) := by decide +kernel
theorem dJ6_bitCount_0f7a4_21 : decode cJ6_bitCount_0f7a4 21 = .ok (.iand, 1) := by decide +kernel
theorem dJ6_bitCount_0f7a4_22 : decode cJ6_bitCount_0f7a4 22 = .ok (.iadd, 1) := by decide +kernel
theorem dJ6_bitCount_0f7a4_23 : decode cJ6_bitCount_0f7a4 23 = .ok (.istore_n 0, 1) := by decide +kernel
theorem dJ6_bitCount_0f7a4_24 : decode cJ6_bitCount_0f7a4 24 = .ok (.iload_n 0, 1) := by decide +kernel
theorem dJ6_bitCount_0f7a4_25 : decode cJ6_bitCount_0f7a4 25 = .ok (.iload_n 0, 1) := by decide +kernel
theorem dJ6_bitCount_0f7a4_26 : decode cJ6_bitCount_0f7a4 26 = .ok (.iconst 4, 1) := by decide +kernel
theorem dJ6_bitCount_0f7a4_27 : decode cJ6_bitCount_0f7a4 27 = .ok (.iushr, 1) := by decide +kernel
theorem dJ6_bitCount_0f7a4_28 : decode cJ6_bitCount_0f7a4 28 = .ok (.iadd, 1) := by decide +kernel
theorem dJ6_bitCount_0f7a4_29 : decode cJ6_bitCount_0f7a4 29 = .ok (.ldc_w 267, 3) := by decide +kernel
theorem dJ6_bitCount_0f7a4_32 : decode cJ6_bitCount_0f7a4 32 = .ok (.iand, 1) := by decide +kernel
theorem dJ6_bitCount_0f7a4_33 : decode cJ6_bitCount_0f7a4 33 = .ok (.istore_n 0, 1) := by decide +kernel
theorem dJ6_bitCount_0f7a4_34 : decode cJ6_bitCount_0f7a4 34 = .ok (.iload_n 0, 1) := by decide +kernel
theorem dJ6_bitCount_0f7a4_35 : decode cJ6_bitCount_0f7a4 35 = .ok (.iload_n 0, 1) := by decide +kernel
theorem dJ6_bitCount_0f7a4_36 : decode cJ6_bitCount_0f7a4 36 = .ok (.bipush 8, 2) := by decide +kernel
theorem dJ6_bitCount_0f7a4_38 : decode cJ6_bitCount_0f7a4 38 = .ok (.iushr, 1) := by decide +kernel
theorem dJ6_bitCount_0f7a4_39 : decode cJ6_bitCount_0f7a4 39 = .ok (.iadd, 1) := by decide +kernel
theorem dJ6_bitCount_0f7a4_40 : decode cJ6_bitCount_0f7a4 40 = .ok (.istore_n 0, 1) := by decide +kernel
theorem dJ6_bitCount_0f7a4_41 : decode cJ6_bitCount_0f7a4 41 = .ok (.iload_n 0, 1) := by decide +kernel
theorem dJ6_bitCount_0f7a4_42 : decode cJ6_bitCount_0f7a4 42 = .ok (.iload_n 0, 1) := by decide +kernel
theorem dJ6_bitCount_0f7a4_43 : decode cJ6_bitCount_0f7a4 43 = .ok (.bipush 16, 2) := by decide +kernel
theorem dJ6_bitCount_0f7a4_45 : decode cJ6_bitCount_0f7a4 45 = .ok (.iushr, 1) := by decide +kernel
theorem dJ6_bitCount_0f7a4_46 : decode cJ6_bitCount_0f7a4 46 = .ok (.iadd, 1) := by decide +kernel
theorem dJ6_bitCount_0f7a4_47 : decode cJ6_bitCount_0f7a4 47 = .ok (.istore_n 0, 1) := by decide +kernel
theorem dJ6_bitCount_0f7a4_48 : decode cJ6_bitCount_0f7a4 48 = .ok (.iload_n 0, 1) := by decide +kernel
theorem dJ6_bitCount_0f7a4_49 : decode cJ6_bitCount_0f7a4 49 = .ok (.bipush 63, 2) := by decide +kernel
theorem dJ6_bitCount_0f7a4_51 : decode cJ6_bitCount_0f7a4 51 = .ok (.iand, 1) := by decide +kernel
theorem dJ6_bitCount_0f7a4_52 : decode cJ6_bitCount_0f7a4 52 = .ok (.ireturn, 1) := by decide +kernel
theorem dJ9_max_7cf53_0 : decode cJ9_max_7cf53 0 = .ok (.iload_n 0, 1) := by decide +kernel
theorem dJ9_max_7cf53_1 : decode cJ9_max_7cf53 1 = .ok (.iload_n 1, 1) := by decide +kernel
theorem dJ9_max_7cf53_2 : decode cJ9_max_7cf53 2 = .ok (.if_icmp .lt 7, 3) := by decide +kernel
theorem dJ9_max_7cf53_5 : decode cJ9_max_7cf53 5 = .ok (.iload_n 0, 1) := by decide +kernel
theorem dJ9_max_7cf53_6 : decode cJ9_max_7cf53 6 = .ok (.goto 4, 3) := by decide +kernel
theorem dJ9_max_7cf53_9 : decode cJ9_max_7cf53 9 = .ok (.iload_n 1, 1) := by decide +kernel
theorem dJ9_max_7cf53_10 : decode cJ9_max_7cf53 10 = .ok (.ireturn, 1) := by decide +kernel
theorem dJ9_min_7cf53_0 : decode cJ9_min_7cf53 0 = .ok (.iload_n 0, 1) := by decide +kernel
theorem dJ9_min_7cf53_1 : decode cJ9_min_7cf53 1 = .ok (.iload_n 1, 1) := by decide +kernel
theorem dJ9_min_7cf53_2 : decode cJ9_min_7cf53 2 = .ok (.if_icmp .gt 7, 3) := by decide +kernel
theorem dJ9_min_7cf53_5 : decode cJ9_min_7cf53 5 = .ok (.iload_n 0, 1) := by decide +kernel
theorem dJ9_min_7cf53_6 : decode cJ9_min_7cf53 6 = .ok (.goto 4, 3) := by decide +kernel
theorem dJ9_min_7cf53_9 : decode cJ9_min_7cf53 9 = .ok (.iload_n 1, 1) := by decide +kernel
theorem dJ9_min_7cf53_10 : decode cJ9_min_7cf53 10 = .ok (.ireturn, 1) := by decide +kernel
end
section
theorem dL_law_0 : decode cL_law 0 = .ok (.new 7, 3) := by decide +kernel
theorem dL_law_3 : decode cL_law 3 = .ok (.dup, 1) := by decide +kernel
theorem dL_law_4 : decode cL_law 4 = .ok (.invokespecial 9, 3) := by decide +kernel
theorem dL_law_7 : decode cL_law 7 = .ok (.astore_n 1, 1) := by decide +kernel
theorem dL_law_8 : decode cL_law 8 = .ok (.new 10, 3) := by decide +kernel
theorem dL_law_11 : decode cL_law 11 = .ok (.dup, 1) := by decide +kernel
theorem dL_law_12 : decode cL_law 12 = .ok (.invokespecial 12, 3) := by decide +kernel
theorem dL_law_15 : decode cL_law 15 = .ok (.astore_n 2, 1) := by decide +kernel
theorem dL_law_16 : decode cL_law 16 = .ok (.iconst 0, 1) := by decide +kernel
theorem dL_law_17 : decode cL_law 17 = .ok (.istore_n 3, 1) := by decide +kernel
theorem dL_law_18 : decode cL_law 18 = .ok (.iload_n 3, 1) := by decide +kernel
theorem dL_law_19 : decode cL_law 19 = .ok (.aload_n 0, 1) := by decide +kernel
theorem dL_law_20 : decode cL_law 20 = .ok (.arraylength, 1) := by decide +kernel
theorem dL_law_21 : decode cL_law 21 = .ok (.iconst 4, 1) := by decide +kernel
theorem dL_law_22 : decode cL_law 22 = .ok (.isub, 1) := by decide +kernel
theorem dL_law_23 : decode cL_law 23 = .ok (.if_icmp .gt 644, 3) := by decide +kernel
theorem dL_law_26 : decode cL_law 26 = .ok (.aload_n 0, 1) := by decide +kernel
theorem dL_law_27 : decode cL_law 27 = .ok (.iload_n 3, 1) := by decide +kernel
theorem dL_law_28 : decode cL_law 28 = .ok (.iaload, 1) := by decide +kernel
theorem dL_law_29 : decode cL_law 29 = .ok (.bipush 31, 2) := by decide +kernel
theorem dL_law_31 : decode cL_law 31 = .ok (.iand, 1) := by decide +kernel
theorem dL_law_32 : decode cL_law 32 = .ok (.tableswitch 629 0 20 #[100, 151, 174, 187, 210, 253, 276, 325, 338, 363, 376, 389, 402, 415, 448, 481, 494, 527, 560, 583, 606], 100) := by decide +kernel
theorem dL_law_132 : decode cL_law 132 = .ok (.aload_n 1, 1) := by decide +kernel
theorem dL_law_133 : decode cL_law 133 = .ok (.aload_n 0, 1) := by decide +kernel
theorem dL_law_134 : decode cL_law 134 = .ok (.iload_n 3, 1) := by decide +kernel
theorem dL_law_135 : decode cL_law 135 = .ok (.iconst 1, 1) := by decide +kernel
theorem dL_law_136 : decode cL_law 136 = .ok (.iadd, 1) := by decide +kernel
theorem dL_law_137 : decode cL_law 137 = .ok (.iaload, 1) := by decide +kernel
theorem dL_law_138 : decode cL_law 138 = .ok (.i2c, 1) := by decide +kernel
theorem dL_law_139 : decode cL_law 139 = .ok (.aload_n 0, 1) := by decide +kernel
theorem dL_law_140 : decode cL_law 140 = .ok (.iload_n 3, 1) := by decide +kernel
theorem dL_law_141 : decode cL_law 141 = .ok (.iconst 2, 1) := by decide +kernel
theorem dL_law_142 : decode cL_law 142 = .ok (.iadd, 1) := by decide +kernel
theorem dL_law_143 : decode cL_law 143 = .ok (.iaload, 1) := by decide +kernel
theorem dL_law_144 : decode cL_law 144 = .ok (.ifCond .eq 7, 3) := by decide +kernel
theorem dL_law_147 : decode cL_law 147 = .ok (.iconst 1, 1) := by decide +kernel
theorem dL_law_148 : decode cL_law 148 = .ok (.goto 4, 3) := by decide +kernel
theorem dL_law_151 : decode cL_law 151 = .ok (.iconst 0, 1) := by decide +kernel
theorem dL_law_152 : decode cL_law 152 = .ok (.invokevirtual 13, 3) := by decide +kernel
theorem dL_law_155 : decode cL_law 155 = .ok (.aload_n 2, 1) := by decide +kernel
theorem dL_law_156 : decode cL_law 156 = .ok (.aload_n 0, 1) := by decide +kernel
theorem dL_law_157 : decode cL_law 157 = .ok (.iload_n 3, 1) := by decide +kernel
theorem dL_law_158 : decode cL_law 158 = .ok (.iconst 1, 1) := by decide +kernel
theorem dL_law_159 : decode cL_law 159 = .ok (.iadd, 1) := by decide +kernel
theorem dL_law_160 : decode cL_law 160 = .ok (.iaload, 1) := by decide +kernel
theorem dL_law_161 : decode cL_law 161 = .ok (.i2c, 1) := by decide +kernel
theorem dL_law_162 : decode cL_law 162 = .ok (.aload_n 0, 1) := by decide +kernel
theorem dL_law_163 : decode cL_law 163 = .ok (.iload_n 3, 1) := by decide +kernel
theorem dL_law_164 : decode cL_law 164 = .ok (.iconst 2, 1) := by decide +kernel
theorem dL_law_165 : decode cL_law 165 = .ok (.iadd, 1) := by decide +kernel
theorem dL_law_166 : decode cL_law 166 = .ok (.iaload, 1) := by decide +kernel
theorem dL_law_167 : decode cL_law 167 = .ok (.ifCond .eq 7, 3) := by decide +kernel
theorem dL_law_170 : decode cL_law 170 = .ok (.iconst 1, 1) := by decide +kernel
theorem dL_law_171 : decode cL_law 171 = .ok (.goto 4, 3) := by decide +kernel
theorem dL_law_174 : decode cL_law 174 = .ok (.iconst 0, 1) := by decide +kernel
theorem dL_law_175 : decode cL_law 175 = .ok (.invokevirtual 17, 3) := by decide +kernel
theorem dL_law_178 : decode cL_law 178 = .ok (.if_icmp .eq 483, 3) := by decide +kernel
theorem dL_law_181 : decode cL_law 181 = .ok (.iconst 0, 1) := by decide +kernel
theorem dL_law_182 : decode cL_law 182 = .ok (.ireturn, 1) := by decide +kernel
theorem dL_law_183 : decode cL_law 183 = .ok (.aload_n 1, 1) := by decide +kernel
theorem dL_law_184 : decode cL_law 184 = .ok (.aload_n 0, 1) := by decide +kernel
theorem dL_law_185 : decode cL_law 185 = .ok (.iload_n 3, 1) := by decide +kernel
theorem dL_law_186 : decode cL_law 186 = .ok (.iconst 1, 1) := by decide +kernel
theorem dL_law_187 : decode cL_law 187 = .ok (.iadd, 1) := by decide +kernel
theorem dL_law_188 : decode cL_law 188 = .ok (.iaload, 1) := by decide +kernel
theorem dL_law_189 : decode cL_law 189 = .ok (.invokevirtual 18, 3) := by decide +kernel
theorem dL_law_192 : decode cL_law 192 = .ok (.aload_n 2, 1) := by decide +kernel
theorem dL_law_193 : decode cL_law 193 = .ok (.aload_n 0, 1) := by decide +kernel
theorem dL_law_194 : decode cL_law 194 = .ok (.iload_n 3, 1) := by decide +kernel
theorem dL_law_195 : decode cL_law 195 = .ok (.iconst 1, 1) := by decide +kernel
theorem dL_law_196 : decode cL_law 196 = .ok (.iadd, 1) := by decide +kernel
theorem dL_law_197 : decode cL_law 197 = .ok (.iaload, 1) := by decide +kernel
theorem dL_law_198 : decode cL_law 198 = .ok (.invokevirtual 22, 3) := by decide +kernel
theorem dL_law_201 : decode cL_law 201 = .ok (.if_icmp .eq 460, 3) := by decide +kernel
theorem dL_law_204 : decode cL_law 204 = .ok (.iconst 0, 1) := by decide +kernel
theorem dL_law_205 : decode cL_law 205 = .ok (.ireturn, 1) := by decide +kernel
theorem dL_law_206 : decode cL_law 206 = .ok (.aload_n 1, 1) := by decide +kernel
theorem dL_law_207 : decode cL_law 207 = .ok (.invokevirtual 23, 3) := by decide +kernel
theorem dL_law_210 : decode cL_law 210 = .ok (.aload_n 2, 1) := by decide +kernel
theorem dL_law_211 : decode cL_law 211 = .ok (.invokevirtual 27, 3) := by decide +kernel
theorem dL_law_214 : decode cL_law 214 = .ok (.if_icmp .eq 447, 3) := by decide +kernel
theorem dL_law_217 : decode cL_law 217 = .ok (.iconst 0, 1) := by decide +kernel
theorem dL_law_218 : decode cL_law 218 = .ok (.ireturn, 1) := by decide +kernel
theorem dL_law_219 : decode cL_law 219 = .ok (.aload_n 1, 1) := by decide +kernel
theorem dL_law_220 : decode cL_law 220 = .ok (.aload_n 0, 1) := by decide +kernel
theorem dL_law_221 : decode cL_law 221 = .ok (.iload_n 3, 1) := by decide +kernel
theorem dL_law_222 : decode cL_law 222 = .ok (.iconst 1, 1) := by decide +kernel
theorem dL_law_223 : decode cL_law 223 = .ok (.iadd, 1) := by decide +kernel
theorem dL_law_224 : decode cL_law 224 = .ok (.iaload, 1) := by decide +kernel
theorem dL_law_225 : decode cL_law 225 = .ok (.invokevirtual 28, 3) := by decide +kernel
theorem dL_law_228 : decode cL_law 228 = .ok (.aload_n 2, 1) := by decide +kernel
theorem dL_law_229 : decode cL_law 229 = .ok (.aload_n 0, 1) := by decide +kernel
theorem dL_law_230 : decode cL_law 230 = .ok (.iload_n 3, 1) := by decide +kernel
theorem dL_law_231 : decode cL_law 231 = .ok (.iconst 1, 1) := by decide +kernel
theorem dL_law_232 : decode cL_law 232 = .ok (.iadd, 1) := by decide +kernel
theorem dL_law_233 : decode cL_law 233 = .ok (.iaload, 1) := by decide +kernel
theorem dL_law_234 : decode cL_law 234 = .ok (.invokevirtual 31, 3) := by decide +kernel
theorem dL_law_237 : decode cL_law 237 = .ok (.if_icmp .eq 424, 3) := by decide +kernel
theorem dL_law_240 : decode cL_law 240 = .ok (.iconst 0, 1) := by decide +kernel
theorem dL_law_241 : decode cL_law 241 = .ok (.ireturn, 1) := by decide +kernel
theorem dL_law_242 : decode cL_law 242 = .ok (.aload_n 1, 1) := by decide +kernel
theorem dL_law_243 : decode cL_law 243 = .ok (.aload_n 0, 1) := by decide +kernel
theorem dL_law_244 : decode cL_law 244 = .ok (.iload_n 3, 1) := by decide +kernel
theorem dL_law_245 : decode cL_law 245 = .ok (.iconst 1, 1) := by decide +kernel
theorem dL_law_246 : decode cL_law 246 = .ok (.iadd, 1) := by decide +kernel
theorem dL_law_247 : decode cL_law 247 = .ok (.iaload, 1) := by decide +kernel
theorem dL_law_248 : decode cL_law 248 = .ok (.aload_n 0, 1) := by decide +kernel
theorem dL_law_249 : decode cL_law 249 = .ok (.iload_n 3, 1) := by decide +kernel
theorem dL_law_250 : decode cL_law 250 = .ok (.iconst 2, 1) := by decide +kernel
theorem dL_law_251 : decode cL_law 251 = .ok (.iadd, 1) := by decide +kernel
theorem dL_law_252 : decode cL_law 252 = .ok (.iaload, 1) := by decide +kernel
theorem dL_law_253 : decode cL_law 253 = .ok (.aload_n 0, 1) := by decide +kernel
theorem dL_law_254 : decode cL_law 254 = .ok (.iload_n 3, 1) := by decide +kernel
theorem dL_law_255 : decode cL_law 255 = .ok (.iconst 3, 1) := by decide +kernel
theorem dL_law_256 : decode cL_law 256 = .ok (.iadd, 1) := by decide +kernel
theorem dL_law_257 : decode cL_law 257 = .ok (.iaload, 1) := by decide +kernel
theorem dL_law_258 : decode cL_law 258 = .ok (.invokevirtual 32, 3) := by decide +kernel
theorem dL_law_261 : decode cL_law 261 = .ok (.aload_n 2, 1) := by decide +kernel
theorem dL_law_262 : decode cL_law 262 = .ok (.aload_n 0, 1) := by decide +kernel
theorem dL_law_263 : decode cL_law 263 = .ok (.iload_n 3, 1) := by decide +kernel
theorem dL_law_264 : decode cL_law 264 = .ok (.iconst 1, 1) := by decide +kernel
theorem dL_law_265 : decode cL_law 265 = .ok (.iadd, 1) := by decide +kernel
theorem dL_law_266 : decode cL_law 266 = .ok (.iaload, 1) := by decide +kernel
theorem dL_law_267 : decode cL_law 267 = .ok (.aload_n 0, 1) := by decide +kernel
theorem dL_law_268 : decode cL_law 268 = .ok (.iload_n 3, 1) := by decide +kernel
theorem dL_law_269 : decode cL_law 269 = .ok (.iconst 2, 1) := by decide +kernel
theorem dL_law_270 : decode cL_law 270 = .ok (.iadd, 1) := by decide +kernel
theorem dL_law_271 : decode cL_law 271 = .ok (.iaload, 1) := by decide +kernel
theorem dL_law_272 : decode cL_law 272 = .ok (.aload_n 0, 1) := by decide +kernel
theorem dL_law_273 : decode cL_law 273 = .ok (.iload_n 3, 1) := by decide +kernel
theorem dL_law_274 : decode cL_law 274 = .ok (.iconst 3, 1) := by decide +kernel
theorem dL_law_275 : decode cL_law 275 = .ok (.iadd, 1) := by decide +kernel
theorem dL_law_276 : decode cL_law 276 = .ok (.iaload, 1) := by decide +kernel
theorem dL_law_277 : decode cL_law 277 = .ok (.invokevirtual 36, 3) := by decide +kernel
theorem dL_law_280 : decode cL_law 280 = .ok (.if_icmp .eq 381, 3) := by decide +kernel
theorem dL_law_283 : decode cL_law 283 = .ok (.iconst 0, 1) := by decide +kernel
theorem dL_law_284 : decode cL_law 284 = .ok (.ireturn, 1) := by decide +kernel
theorem dL_law_285 : decode cL_law 285 = .ok (.aload_n 1, 1) := by decide +kernel
theorem dL_law_286 : decode cL_law 286 = .ok (.aload_n 0, 1) := by decide +kernel
theorem dL_law_287 : decode cL_law 287 = .ok (.iload_n 3, 1) := by decide +kernel
theorem dL_law_288 : decode cL_law 288 = .ok (.iconst 1, 1) := by decide +kernel
theorem dL_law_289 : decode cL_law 289 = .ok (.iadd, 1) := by decide +kernel
theorem dL_law_290 : decode cL_law 290 = .ok (.iaload, 1) := by decide +kernel
theorem dL_law_291 : decode cL_law 291 = .ok (.invokevirtual 37, 3) := by decide +kernel
theorem dL_law_294 : decode cL_law 294 = .ok (.aload_n 2, 1) := by decide +kernel
theorem dL_law_295 : decode cL_law 295 = .ok (.aload_n 0, 1) := by decide +kernel
theorem dL_law_296 : decode cL_law 296 = .ok (.iload_n 3, 1) := by decide +kernel
theorem dL_law_297 : decode cL_law 297 = .ok (.iconst 1, 1) := by decide +kernel
theorem dL_law_298 : decode cL_law 298 = .ok (.iadd, 1) := by decide +kernel
theorem dL_law_299 : decode cL_law 299 = .ok (.iaload, 1) := by decide +kernel
theorem dL_law_300 : decode cL_law 300 = .ok (.invokevirtual 40, 3) := by decide +kernel
theorem dL_law_303 : decode cL_law 303 = .ok (.if_icmp .eq 358, 3) := by decide +kernel
theorem dL_law_306 : decode cL_law 306 = .ok (.iconst 0, 1) := by decide +kernel
theorem dL_law_307 : decode cL_law 307 = .ok (.ireturn, 1) := by decide +kernel
theorem dL_law_308 : decode cL_law 308 = .ok (.aload_n 1, 1) := by decide +kernel
theorem dL_law_309 : decode cL_law 309 = .ok (.aload_n 0, 1) := by decide +kernel
theorem dL_law_310 : decode cL_law 310 = .ok (.iload_n 3, 1) := by decide +kernel
theorem dL_law_311 : decode cL_law 311 = .ok (.iconst 1, 1) := by decide +kernel
theorem dL_law_312 : decode cL_law 312 = .ok (.iadd, 1) := by decide +kernel
theorem dL_law_313 : decode cL_law 313 = .ok (.iaload, 1) := by decide +kernel
theorem dL_law_314 : decode cL_law 314 = .ok (.aload_n 0, 1) := by decide +kernel
theorem dL_law_315 : decode cL_law 315 = .ok (.iload_n 3, 1) := by decide +kernel
theorem dL_law_316 : decode cL_law 316 = .ok (.iconst 2, 1) := by decide +kernel
theorem dL_law_317 : decode cL_law 317 = .ok (.iadd, 1) := by decide +kernel
theorem dL_law_318 : decode cL_law 318 = .ok (.iaload, 1) := by decide +kernel
theorem dL_law_319 : decode cL_law 319 = .ok (.ifCond .eq 7, 3) := by decide +kernel
theorem dL_law_322 : decode cL_law 322 = .ok (.iconst 1, 1) := by decide +kernel
theorem dL_law_323 : decode cL_law 323 = .ok (.goto 4, 3) := by decide +kernel
theorem dL_law_326 : decode cL_law 326 = .ok (.iconst 0, 1) := by decide +kernel
theorem dL_law_327 : decode cL_law 327 = .ok (.invokevirtual 41, 3) := by decide +kernel
theorem dL_law_330 : decode cL_law 330 = .ok (.aload_n 2, 1) := by decide +kernel
theorem dL_law_331 : decode cL_law 331 = .ok (.aload_n 0, 1) := by decide +kernel
theorem dL_law_332 : decode cL_law 332 = .ok (.iload_n 3, 1) := by decide +kernel
theorem dL_law_333 : decode cL_law 333 = .ok (.iconst 1, 1) := by decide +kernel
theorem dL_law_334 : decode cL_law 334 = .ok (.iadd, 1) := by decide +kernel
theorem dL_law_335 : decode cL_law 335 = .ok (.iaload, 1) := by decide +kernel
theorem dL_law_336 : decode cL_law 336 = .ok (.aload_n 0, 1) := by decide +kernel
theorem dL_law_337 : decode cL_law 337 = .ok (.iload_n 3, 1) := by decide +kernel
theorem dL_law_338 : decode cL_law 338 = .ok (.iconst 2, 1) := by decide +kernel
theorem dL_law_339 : decode cL_law 339 = .ok (.iadd, 1) := by decide +kernel
theorem dL_law_340 : decode cL_law 340 = .ok (.iaload, 1) := by decide +kernel
theorem dL_law_341 : decode cL_law 341 = .ok (.ifCond .eq 7, 3) := by decide +kernel
theorem dL_law_344 : decode cL_law 344 = .ok (.iconst 1, 1) := by decide +kernel
theorem dL_law_345 : decode cL_law 345 = .ok (.goto 4, 3) := by decide +kernel
theorem dL_law_348 : decode cL_law 348 = .ok (.iconst 0, 1) := by decide +kernel
theorem dL_law_349 : decode cL_law 349 = .ok (.invokevirtual 45, 3) := by decide +kernel
theorem dL_law_352 : decode cL_law 352 = .ok (.if_icmp .eq 309, 3) := by decide +kernel
theorem dL_law_355 : decode cL_law 355 = .ok (.iconst 0, 1) := by decide +kernel
theorem dL_law_356 : decode cL_law 356 = .ok (.ireturn, 1) := by decide +kernel
theorem dL_law_357 : decode cL_law 357 = .ok (.aload_n 1, 1) := by decide +kernel
theorem dL_law_358 : decode cL_law 358 = .ok (.invokevirtual 46, 3) := by decide +kernel
theorem dL_law_361 : decode cL_law 361 = .ok (.aload_n 2, 1) := by decide +kernel
theorem dL_law_362 : decode cL_law 362 = .ok (.invokevirtual 49, 3) := by decide +kernel
theorem dL_law_365 : decode cL_law 365 = .ok (.if_icmp .eq 296, 3) := by decide +kernel
theorem dL_law_368 : decode cL_law 368 = .ok (.iconst 0, 1) := by decide +kernel
theorem dL_law_369 : decode cL_law 369 = .ok (.ireturn, 1) := by decide +kernel
theorem dL_law_370 : decode cL_law 370 = .ok (.aload_n 1, 1) := by decide +kernel
theorem dL_law_371 : decode cL_law 371 = .ok (.aload_n 0, 1) := by decide +kernel
theorem dL_law_372 : decode cL_law 372 = .ok (.iload_n 3, 1) := by decide +kernel
theorem dL_law_373 : decode cL_law 373 = .ok (.iconst 1, 1) := by decide +kernel
theorem dL_law_374 : decode cL_law 374 = .ok (.iadd, 1) := by decide +kernel
theorem dL_law_375 : decode cL_law 375 = .ok (.iaload, 1) := by decide +kernel
theorem dL_law_376 : decode cL_law 376 = .ok (.i2c, 1) := by decide +kernel
theorem dL_law_377 : decode cL_law 377 = .ok (.invokevirtual 50, 3) := by decide +kernel
theorem dL_law_380 : decode cL_law 380 = .ok (.aload_n 2, 1) := by decide +kernel
theorem dL_law_381 : decode cL_law 381 = .ok (.aload_n 0, 1) := by decide +kernel
theorem dL_law_382 : decode cL_law 382 = .ok (.iload_n 3, 1) := by decide +kernel
theorem dL_law_383 : decode cL_law 383 = .ok (.iconst 1, 1) := by decide +kernel
theorem dL_law_384 : decode cL_law 384 = .ok (.iadd, 1) := by decide +kernel
theorem dL_law_385 : decode cL_law 385 = .ok (.iaload, 1) := by decide +kernel
theorem dL_law_386 : decode cL_law 386 = .ok (.i2c, 1) := by decide +kernel
theorem dL_law_387 : decode cL_law 387 = .ok (.invokevirtual 54, 3) := by decide +kernel
theorem dL_law_390 : decode cL_law 390 = .ok (.if_icmp .eq 271, 3) := by decide +kernel
theorem dL_law_393 : decode cL_law 393 = .ok (.iconst 0, 1) := by decide +kernel
theorem dL_law_394 : decode cL_law 394 = .ok (.ireturn, 1) := by decide +kernel
theorem dL_law_395 : decode cL_law 395 = .ok (.aload_n 1, 1) := by decide +kernel
theorem dL_law_396 : decode cL_law 396 = .ok (.invokevirtual 55, 3) := by decide +kernel
theorem dL_law_399 : decode cL_law 399 = .ok (.aload_n 2, 1) := by decide +kernel
theorem dL_law_400 : decode cL_law 400 = .ok (.invokevirtual 58, 3) := by decide +kernel
theorem dL_law_403 : decode cL_law 403 = .ok (.if_icmp .eq 258, 3) := by decide +kernel
theorem dL_law_406 : decode cL_law 406 = .ok (.iconst 0, 1) := by decide +kernel
theorem dL_law_407 : decode cL_law 407 = .ok (.ireturn, 1) := by decide +kernel
theorem dL_law_408 : decode cL_law 408 = .ok (.aload_n 1, 1) := by decide +kernel
theorem dL_law_409 : decode cL_law 409 = .ok (.invokevirtual 59, 3) := by decide +kernel
theorem dL_law_412 : decode cL_law 412 = .ok (.aload_n 2, 1) := by decide +kernel
theorem dL_law_413 : decode cL_law 413 = .ok (.invokevirtual 62, 3) := by decide +kernel
theorem dL_law_416 : decode cL_law 416 = .ok (.if_icmp .eq 245, 3) := by decide +kernel
theorem dL_law_419 : decode cL_law 419 = .ok (.iconst 0, 1) := by decide +kernel
theorem dL_law_420 : decode cL_law 420 = .ok (.ireturn, 1) := by decide +kernel
theorem dL_law_421 : decode cL_law 421 = .ok (.aload_n 1, 1) := by decide +kernel
theorem dL_law_422 : decode cL_law 422 = .ok (.invokevirtual 63, 3) := by decide +kernel
theorem dL_law_425 : decode cL_law 425 = .ok (.aload_n 2, 1) := by decide +kernel
theorem dL_law_426 : decode cL_law 426 = .ok (.invokevirtual 66, 3) := by decide +kernel
theorem dL_law_429 : decode cL_law 429 = .ok (.if_icmp .eq 232, 3) := by decide +kernel
theorem dL_law_432 : decode cL_law 432 = .ok (.iconst 0, 1) := by decide +kernel
theorem dL_law_433 : decode cL_law 433 = .ok (.ireturn, 1) := by decide +kernel
theorem dL_law_434 : decode cL_law 434 = .ok (.aload_n 1, 1) := by decide +kernel
theorem dL_law_435 : decode cL_law 435 = .ok (.invokevirtual 67, 3) := by decide +kernel
theorem dL_law_438 : decode cL_law 438 = .ok (.aload_n 2, 1) := by decide +kernel
theorem dL_law_439 : decode cL_law 439 = .ok (.invokevirtual 70, 3) := by decide +kernel
theorem dL_law_442 : decode cL_law 442 = .ok (.if_icmp .eq 219, 3) := by decide +kernel
theorem dL_law_445 : decode cL_law 445 = .ok (.iconst 0, 1) := by decide +kernel
theorem dL_law_446 : decode cL_law 446 = .ok (.ireturn, 1) := by decide +kernel
theorem dL_law_447 : decode cL_law 447 = .ok (.aload_n 1, 1) := by decide +kernel
theorem dL_law_448 : decode cL_law 448 = .ok (.aload_n 0, 1) := by decide +kernel
theorem dL_law_449 : decode cL_law 449 = .ok (.iload_n 3, 1) := by decide +kernel
theorem dL_law_450 : decode cL_law 450 = .ok (.iconst 1, 1) := by decide +kernel
theorem dL_law_451 : decode cL_law 451 = .ok (.iadd, 1) := by decide +kernel
theorem dL_law_452 : decode cL_law 452 = .ok (.iaload, 1) := by decide +kernel
theorem dL_law_453 : decode cL_law 453 = .ok (.aload_n 0, 1) := by decide +kernel
theorem dL_law_454 : decode cL_law 454 = .ok (.iload_n 3, 1) := by decide +kernel
theorem dL_law_455 : decode cL_law 455 = .ok (.iconst 2, 1) := by decide +kernel
theorem dL_law_456 : decode cL_law 456 = .ok (.iadd, 1) := by decide +kernel
theorem dL_law_457 : decode cL_law 457 = .ok (.iaload, 1) := by decide +kernel
theorem dL_law_458 : decode cL_law 458 = .ok (.invokevirtual 71, 3) := by decide +kernel
theorem dL_law_461 : decode cL_law 461 = .ok (.aload_n 2, 1) := by decide +kernel
theorem dL_law_462 : decode cL_law 462 = .ok (.aload_n 0, 1) := by decide +kernel
theorem dL_law_463 : decode cL_law 463 = .ok (.iload_n 3, 1) := by decide +kernel
theorem dL_law_464 : decode cL_law 464 = .ok (.iconst 1, 1) := by decide +kernel
theorem dL_law_465 : decode cL_law 465 = .ok (.iadd, 1) := by decide +kernel
theorem dL_law_466 : decode cL_law 466 = .ok (.iaload, 1) := by decide +kernel
theorem dL_law_467 : decode cL_law 467 = .ok (.aload_n 0, 1) := by decide +kernel
theorem dL_law_468 : decode cL_law 468 = .ok (.iload_n 3, 1) := by decide +kernel
theorem dL_law_469 : decode cL_law 469 = .ok (.iconst 2, 1) := by decide +kernel
theorem dL_law_470 : decode cL_law 470 = .ok (.iadd, 1) := by decide +kernel
theorem dL_law_471 : decode cL_law 471 = .ok (.iaload, 1) := by decide +kernel
theorem dL_law_472 : decode cL_law 472 = .ok (.invokevirtual 75, 3) := by decide +kernel
theorem dL_law_475 : decode cL_law 475 = .ok (.if_icmp .eq 186, 3) := by decide +kernel
theorem dL_law_478 : decode cL_law 478 = .ok (.iconst 0, 1) := by decide +kernel
theorem dL_law_479 : decode cL_law 479 = .ok (.ireturn, 1) := by decide +kernel
theorem dL_law_480 : decode cL_law 480 = .ok (.aload_n 1, 1) := by decide +kernel
theorem dL_law_481 : decode cL_law 481 = .ok (.aload_n 0, 1) := by decide +kernel
theorem dL_law_482 : decode cL_law 482 = .ok (.iload_n 3, 1) := by decide +kernel
theorem dL_law_483 : decode cL_law 483 = .ok (.iconst 1, 1) := by decide +kernel
theorem dL_law_484 : decode cL_law 484 = .ok (.iadd, 1) := by decide +kernel
theorem dL_law_485 : decode cL_law 485 = .ok (.iaload, 1) := by decide +kernel
theorem dL_law_486 : decode cL_law 486 = .ok (.aload_n 0, 1) := by decide +kernel
theorem dL_law_487 : decode cL_law 487 = .ok (.iload_n 3, 1) := by decide +kernel
theorem dL_law_488 : decode cL_law 488 = .ok (.iconst 2, 1) := by decide +kernel
theorem dL_law_489 : decode cL_law 489 = .ok (.iadd, 1) := by decide +kernel
theorem dL_law_490 : decode cL_law 490 = .ok (.iaload, 1) := by decide +kernel
theorem dL_law_491 : decode cL_law 491 = .ok (.invokevirtual 76, 3) := by decide +kernel
theorem dL_law_494 : decode cL_law 494 = .ok (.aload_n 2, 1) := by decide +kernel
theorem dL_law_495 : decode cL_law 495 = .ok (.aload_n 0, 1) := by decide +kernel
theorem dL_law_496 : decode cL_law 496 = .ok (.iload_n 3, 1) := by decide +kernel
theorem dL_law_497 : decode cL_law 497 = .ok (.iconst 1, 1) := by decide +kernel
theorem dL_law_498 : decode cL_law 498 = .ok (.iadd, 1) := by decide +kernel
theorem dL_law_499 : decode cL_law 499 = .ok (.iaload, 1) := by decide +kernel
theorem dL_law_500 : decode cL_law 500 = .ok (.aload_n 0, 1) := by decide +kernel
theorem dL_law_501 : decode cL_law 501 = .ok (.iload_n 3, 1) := by decide +kernel
theorem dL_law_502 : decode cL_law 502 = .ok (.iconst 2, 1) := by decide +kernel
theorem dL_law_503 : decode cL_law 503 = .ok (.iadd, 1) := by decide +kernel
theorem dL_law_504 : decode cL_law 504 = .ok (.iaload, 1) := by decide +kernel
theorem dL_law_505 : decode cL_law 505 = .ok (.invokevirtual 79, 3) := by decide +kernel
theorem dL_law_508 : decode cL_law 508 = .ok (.if_icmp .eq 153, 3) := by decide +kernel
theorem dL_law_511 : decode cL_law 511 = .ok (.iconst 0, 1) := by decide +kernel
theorem dL_law_512 : decode cL_law 512 = .ok (.ireturn, 1) := by decide +kernel
theorem dL_law_513 : decode cL_law 513 = .ok (.aload_n 1, 1) := by decide +kernel
theorem dL_law_514 : decode cL_law 514 = .ok (.invokevirtual 80, 3) := by decide +kernel
theorem dL_law_517 : decode cL_law 517 = .ok (.aload_n 2, 1) := by decide +kernel
theorem dL_law_518 : decode cL_law 518 = .ok (.invokevirtual 83, 3) := by decide +kernel
theorem dL_law_521 : decode cL_law 521 = .ok (.if_icmp .eq 140, 3) := by decide +kernel
theorem dL_law_524 : decode cL_law 524 = .ok (.iconst 0, 1) := by decide +kernel
theorem dL_law_525 : decode cL_law 525 = .ok (.ireturn, 1) := by decide +kernel
theorem dL_law_526 : decode cL_law 526 = .ok (.aload_n 1, 1) := by decide +kernel
theorem dL_law_527 : decode cL_law 527 = .ok (.aload_n 0, 1) := by decide +kernel
theorem dL_law_528 : decode cL_law 528 = .ok (.iload_n 3, 1) := by decide +kernel
theorem dL_law_529 : decode cL_law 529 = .ok (.iconst 1, 1) := by decide +kernel
theorem dL_law_530 : decode cL_law 530 = .ok (.iadd, 1) := by decide +kernel
theorem dL_law_531 : decode cL_law 531 = .ok (.iaload, 1) := by decide +kernel
theorem dL_law_532 : decode cL_law 532 = .ok (.aload_n 0, 1) := by decide +kernel
theorem dL_law_533 : decode cL_law 533 = .ok (.iload_n 3, 1) := by decide +kernel
theorem dL_law_534 : decode cL_law 534 = .ok (.iconst 2, 1) := by decide +kernel
theorem dL_law_535 : decode cL_law 535 = .ok (.iadd, 1) := by decide +kernel
theorem dL_law_536 : decode cL_law 536 = .ok (.iaload, 1) := by decide +kernel
theorem dL_law_537 : decode cL_law 537 = .ok (.invokevirtual 84, 3) := by decide +kernel
theorem dL_law_540 : decode cL_law 540 = .ok (.aload_n 2, 1) := by decide +kernel
theorem dL_law_541 : decode cL_law 541 = .ok (.aload_n 0, 1) := by decide +kernel
theorem dL_law_542 : decode cL_law 542 = .ok (.iload_n 3, 1) := by decide +kernel
theorem dL_law_543 : decode cL_law 543 = .ok (.iconst 1, 1) := by decide +kernel
theorem dL_law_544 : decode cL_law 544 = .ok (.iadd, 1) := by decide +kernel
theorem dL_law_545 : decode cL_law 545 = .ok (.iaload, 1) := by decide +kernel
theorem dL_law_546 : decode cL_law 546 = .ok (.aload_n 0, 1) := by decide +kernel
theorem dL_law_547 : decode cL_law 547 = .ok (.iload_n 3, 1) := by decide +kernel
theorem dL_law_548 : decode cL_law 548 = .ok (.iconst 2, 1) := by decide +kernel
theorem dL_law_549 : decode cL_law 549 = .ok (.iadd, 1) := by decide +kernel
theorem dL_law_550 : decode cL_law 550 = .ok (.iaload, 1) := by decide +kernel
theorem dL_law_551 : decode cL_law 551 = .ok (.invokevirtual 87, 3) := by decide +kernel
theorem dL_law_554 : decode cL_law 554 = .ok (.if_icmp .eq 107, 3) := by decide +kernel
theorem dL_law_557 : decode cL_law 557 = .ok (.iconst 0, 1) := by decide +kernel
theorem dL_law_558 : decode cL_law 558 = .ok (.ireturn, 1) := by decide +kernel
theorem dL_law_559 : decode cL_law 559 = .ok (.aload_n 1, 1) := by decide +kernel
theorem dL_law_560 : decode cL_law 560 = .ok (.aload_n 0, 1) := by decide +kernel
theorem dL_law_561 : decode cL_law 561 = .ok (.iload_n 3, 1) := by decide +kernel
theorem dL_law_562 : decode cL_law 562 = .ok (.iconst 1, 1) := by decide +kernel
theorem dL_law_563 : decode cL_law 563 = .ok (.iadd, 1) := by decide +kernel
theorem dL_law_564 : decode cL_law 564 = .ok (.iaload, 1) := by decide +kernel
theorem dL_law_565 : decode cL_law 565 = .ok (.aload_n 0, 1) := by decide +kernel
theorem dL_law_566 : decode cL_law 566 = .ok (.iload_n 3, 1) := by decide +kernel
theorem dL_law_567 : decode cL_law 567 = .ok (.iconst 2, 1) := by decide +kernel
theorem dL_law_568 : decode cL_law 568 = .ok (.iadd, 1) := by decide +kernel
theorem dL_law_569 : decode cL_law 569 = .ok (.iaload, 1) := by decide +kernel
theorem dL_law_570 : decode cL_law 570 = .ok (.invokevirtual 88, 3) := by decide +kernel
theorem dL_law_573 : decode cL_law 573 = .ok (.aload_n 2, 1) := by decide +kernel
theorem dL_law_574 : decode cL_law 574 = .ok (.aload_n 0, 1) := by decide +kernel
theorem dL_law_575 : decode cL_law 575 = .ok (.iload_n 3, 1) := by decide +kernel
theorem dL_law_576 : decode cL_law 576 = .ok (.iconst 1, 1) := by decide +kernel
theorem dL_law_577 : decode cL_law 577 = .ok (.iadd, 1) := by decide +kernel
theorem dL_law_578 : decode cL_law 578 = .ok (.iaload, 1) := by decide +kernel
theorem dL_law_579 : decode cL_law 579 = .ok (.aload_n 0, 1) := by decide +kernel
theorem dL_law_580 : decode cL_law 580 = .ok (.iload_n 3, 1) := by decide +kernel
theorem dL_law_581 : decode cL_law 581 = .ok (.iconst 2, 1) := by decide +kernel
theorem dL_law_582 : decode cL_law 582 = .ok (.iadd, 1) := by decide +kernel
theorem dL_law_583 : decode cL_law 583 = .ok (.iaload, 1) := by decide +kernel
theorem dL_law_584 : decode cL_law 584 = .ok (.invokevirtual 91, 3) := by decide +kernel
theorem dL_law_587 : decode cL_law 587 = .ok (.if_icmp .eq 74, 3) := by decide +kernel
theorem dL_law_590 : decode cL_law 590 = .ok (.iconst 0, 1) := by decide +kernel
theorem dL_law_591 : decode cL_law 591 = .ok (.ireturn, 1) := by decide +kernel
theorem dL_law_592 : decode cL_law 592 = .ok (.aload_n 1, 1) := by decide +kernel
theorem dL_law_593 : decode cL_law 593 = .ok (.aload_n 0, 1) := by decide +kernel
theorem dL_law_594 : decode cL_law 594 = .ok (.iload_n 3, 1) := by decide +kernel
theorem dL_law_595 : decode cL_law 595 = .ok (.iconst 1, 1) := by decide +kernel
theorem dL_law_596 : decode cL_law 596 = .ok (.iadd, 1) := by decide +kernel
theorem dL_law_597 : decode cL_law 597 = .ok (.iaload, 1) := by decide +kernel
theorem dL_law_598 : decode cL_law 598 = .ok (.invokevirtual 92, 3) := by decide +kernel
theorem dL_law_601 : decode cL_law 601 = .ok (.aload_n 2, 1) := by decide +kernel
theorem dL_law_602 : decode cL_law 602 = .ok (.aload_n 0, 1) := by decide +kernel
theorem dL_law_603 : decode cL_law 603 = .ok (.iload_n 3, 1) := by decide +kernel
theorem dL_law_604 : decode cL_law 604 = .ok (.iconst 1, 1) := by decide +kernel
theorem dL_law_605 : decode cL_law 605 = .ok (.iadd, 1) := by decide +kernel
theorem dL_law_606 : decode cL_law 606 = .ok (.iaload, 1) := by decide +kernel
theorem dL_law_607 : decode cL_law 607 = .ok (.invokevirtual 95, 3) := by decide +kernel
theorem dL_law_610 : decode cL_law 610 = .ok (.if_icmp .eq 51, 3) := by decide +kernel
theorem dL_law_613 : decode cL_law 613 = .ok (.iconst 0, 1) := by decide +kernel
theorem dL_law_614 : decode cL_law 614 = .ok (.ireturn, 1) := by decide +kernel
theorem dL_law_615 : decode cL_law 615 = .ok (.aload_n 1, 1) := by decide +kernel
theorem dL_law_616 : decode cL_law 616 = .ok (.aload_n 0, 1) := by decide +kernel
theorem dL_law_617 : decode cL_law 617 = .ok (.iload_n 3, 1) := by decide +kernel
theorem dL_law_618 : decode cL_law 618 = .ok (.iconst 1, 1) := by decide +kernel
theorem dL_law_619 : decode cL_law 619 = .ok (.iadd, 1) := by decide +kernel
theorem dL_law_620 : decode cL_law 620 = .ok (.iaload, 1) := by decide +kernel
theorem dL_law_621 : decode cL_law 621 = .ok (.invokevirtual 96, 3) := by decide +kernel
theorem dL_law_624 : decode cL_law 624 = .ok (.aload_n 2, 1) := by decide +kernel
theorem dL_law_625 : decode cL_law 625 = .ok (.aload_n 0, 1) := by decide +kernel
theorem dL_law_626 : decode cL_law 626 = .ok (.iload_n 3, 1) := by decide +kernel
theorem dL_law_627 : decode cL_law 627 = .ok (.iconst 1, 1) := by decide +kernel
theorem dL_law_628 : decode cL_law 628 = .ok (.iadd, 1) := by decide +kernel
theorem dL_law_629 : decode cL_law 629 = .ok (.iaload, 1) := by decide +kernel
theorem dL_law_630 : decode cL_law 630 = .ok (.invokevirtual 99, 3) := by decide +kernel
theorem dL_law_633 : decode cL_law 633 = .ok (.if_icmp .eq 28, 3) := by decide +kernel
theorem dL_law_636 : decode cL_law 636 = .ok (.iconst 0, 1) := by decide +kernel
theorem dL_law_637 : decode cL_law 637 = .ok (.ireturn, 1) := by decide +kernel
theorem dL_law_638 : decode cL_law 638 = .ok (.aload_n 1, 1) := by decide +kernel
theorem dL_law_639 : decode cL_law 639 = .ok (.aload_n 0, 1) := by decide +kernel
theorem dL_law_640 : decode cL_law 640 = .ok (.iload_n 3, 1) := by decide +kernel
theorem dL_law_641 : decode cL_law 641 = .ok (.iconst 1, 1) := by decide +kernel
theorem dL_law_642 : decode cL_law 642 = .ok (.iadd, 1) := by decide +kernel
theorem dL_law_643 : decode cL_law 643 = .ok (.iaload, 1) := by decide +kernel
theorem dL_law_644 : decode cL_law 644 = .ok (.invokevirtual 100, 3) := by decide +kernel
theorem dL_law_647 : decode cL_law 647 = .ok (.aload_n 2, 1) := by decide +kernel
theorem dL_law_648 : decode cL_law 648 = .ok (.aload_n 0, 1) := by decide +kernel
theorem dL_law_649 : decode cL_law 649 = .ok (.iload_n 3, 1) := by decide +kernel
theorem dL_law_650 : decode cL_law 650 = .ok (.iconst 1, 1) := by decide +kernel
theorem dL_law_651 : decode cL_law 651 = .ok (.iadd, 1) := by decide +kernel
theorem dL_law_652 : decode cL_law 652 = .ok (.iaload, 1) := by decide +kernel
theorem dL_law_653 : decode cL_law 653 = .ok (.invokevirtual 103, 3) := by decide +kernel
theorem dL_law_656 : decode cL_law 656 = .ok (.if_icmp .eq 5, 3) := by decide +kernel
theorem dL_law_659 : decode cL_law 659 = .ok (.iconst 0, 1) := by decide +kernel
theorem dL_law_660 : decode cL_law 660 = .ok (.ireturn, 1) := by decide +kernel
theorem dL_law_661 : decode cL_law 661 = .ok (.iinc 3 4, 3) := by decide +kernel
theorem dL_law_664 : decode cL_law 664 = .ok (.goto (-646), 3) := by decide +kernel
theorem dL_law_667 : decode cL_law 667 = .ok (.iconst 1, 1) := by decide +kernel
theorem dL_law_668 : decode cL_law 668 = .ok (.ireturn, 1) := by decide +kernel
end
section
/-! base: contexts, entries of methods, calls, over the kit's rows. Every contract takes the same words: its own code, then gw. -/
abbrev RowT : Type := Nat × (Nat → Int32) × Int32
abbrev BookT : Type := Int32 × Int32 × RowT × RowT × RowT × RowT
abbrev HistT : Type := (Nat → BookT) × Int32
def cI (x : Int32) : Int32 := (x.toUInt32 % 65536).toInt32
def WS (y : MethodName) (b : ByteArray) (n : Nat) (r : Option FieldType) : List Cond := .code y b n r :: gw
abbrev ty3 (kI kC kB : ClassId) : List (ClassId × FieldType) := [(kI, .int), (kC, .char), (kB, .object "QuireSigns$Book")]
def kn (D : va_G) (kI kC kB : ClassId) (U : State) : Prop := va_K D vwCl (ty3 kI kC kB) U ∧ nst U
theorem kn.warm {D : va_G} {kI kC kB : ClassId} {s U : State} (hW : s.WarmedH U.vm) (h : kn D kI kC kB s) : kn D kI kC kB U := ⟨va_K.moved hW.alike h.1, nst_warm hW h.2⟩
theorem kn.same {D : va_G} {kI kC kB : ClassId} {u U : State} (e : u.vm = U.vm) (h : kn D kI kC kB u) : kn D kI kC kB U := ⟨va_K.moved (by rw [e]; exact Vm.Alike.refl _) h.1, nst_same e h.2⟩
/-- what a method's start says of the machine -/
abbrev CtxT (p : Program) (s : State) (m : MethodId) (args : Array Value) (meth : Method) (c : Code) (b : ByteArray) (n : Nat) (r : Option FieldType) (own : String) (D : va_G) (kI kC kB : ClassId) : Prop :=
  p.tables.exec = Jvm.exec ∧ c.code = b ∧ meth.sig.returnType = r ∧ c.maxLocals = n ∧ s.vm.findClass own = some m.cls ∧ (∀ w ∈ gw, w.before args s = true) ∧ meth.locks = false ∧ kn D kI kC kB s
def PR (D : va_G) (kI kC kB : ClassId) (w : va_W) (U : State) : Prop := va_P D vwCl w U.heap ∧ kn D kI kC kB U
def PM (D : va_G) (kI kC kB : ClassId) (w : va_W) (sz : Nat) (U : State) : Prop := U.heap.size = sz ∧ va_P D vwCl w U.heap ∧ kn D kI kC kB U ∧ va_D (fun _ => True) w
def BB {S : Type} (D : va_G) (A : Nat → Prop) (wf : S → va_W) (u : S) (t : State) : Prop := va_P D vwCl (wf u) t.heap ∧ va_D A (wf u)
theorem PR_blind {D : va_G} {kI kC kB : ClassId} {w : va_W} {av : List Value} : FrameBlind (va_Pc av (PR D kI kC kB w)) := fun a U g mk q => ⟨q.1, q.2.1, kn.same (u := U) (U := U.calling g mk a) rfl q.2.2⟩
theorem PM_blind {D : va_G} {kI kC kB : ClassId} {w : va_W} {sz : Nat} {av : List Value} : FrameBlind (va_Pc av (PM D kI kC kB w sz)) := fun a U g mk q => ⟨q.1, q.2.1, q.2.2.1, kn.same (u := U) (U := U.calling g mk a) rfl q.2.2.2.1, q.2.2.2.2⟩
/-- a read-only contract, of an int -/
abbrev CR (l : Launch) (D : va_G) (kI kC kB : ClassId) (y : MethodName) (b : ByteArray) (n : Nat) (r : Option FieldType) (rm : Room) (av : List Value) (w : va_W) (Post : Int32 → Prop) : Prop :=
  Met l y (WS y b n r) rm (va_Pc av (PR D kI kC kB w)) (vp_Si Post) 0 0 (fun _ => False)
/-- a contract that changes its world, of an int -/
abbrev CMi {S : Type} (l : Launch) (D : va_G) (kI kC kB : ClassId) (y : MethodName) (b : ByteArray) (n : Nat) (r : Option FieldType) (rm : Room) (av : List Value) (w : va_W) (sz : Nat) (Post : Int32 → S → Prop) (wf : S → va_W) : Prop :=
  Met l y (WS y b n r) rm (va_Pc av (PM D kI kC kB w sz)) (va_Qi Post (BB D (va_A w sz) wf) (va_A w sz)) 0 0 (va_A w sz)
/-- a contract that changes its world, of nothing -/
abbrev CMv {S : Type} (l : Launch) (D : va_G) (kI kC kB : ClassId) (y : MethodName) (b : ByteArray) (n : Nat) (r : Option FieldType) (rm : Room) (av : List Value) (w : va_W) (sz : Nat) (Post : S → Prop) (wf : S → va_W) : Prop :=
  Met l y (WS y b n r) rm (va_Pc av (PM D kI kC kB w sz)) (va_Qv Post (BB D (va_A w sz) wf) (va_A w sz)) 0 0 (va_A w sz)
theorem entR {l : Launch} {D : va_G} {kI kC kB : ClassId} {y : MethodName} {b : ByteArray} {n : Nat} {r : Option FieldType} {rm : Room} {av : List Value} {w : va_W} {Post : Int32 → Prop} (hy : plainName y.cls = true) (hn : (lg_sl av).length ≤ n)
    (body : ∀ (p : Program) (e : Env) (s : State) (m : MethodId) (args : Array Value) (below : List Frame) (meth : Method) (c : Code) (ls : Array Slot), CtxT p s m args meth c b n r y.cls D kI kC kB → va_P D vwCl w s.heap → lv_has ls n (lv_args 0 av) →
      W p l e rm s m args below meth c s.heap [] 0 0 (MQ below (vp_Si Post) args s 0 0 (fun _ => False)) (F0 m 0 ls [])) : CR l D kI kC kB y b n r rm av w Post := by
  refine Met.ofW (cc := b) (maxL := n) (ret := r) hy rfl ?_
  intro p e s m args below meth c s₁ B hml hv
  obtain ⟨rfl, hP, hK⟩ := hv
  have hts := atoms_spec (ws := WS y b n r) B.pre
  have hl := lv_entry av (n := n) hn
  rw [lg_entry_eq]
  generalize (lg_sl av ++ List.replicate (n - (lg_sl av).length) Slot.unset).toArray = ls at hl ⊢
  exact body p e s m _ below meth c ls ⟨B.exec, B.bytes, B.returns, hml, findClass_of_methodNamed B.named, fun w h => hts w (List.mem_cons_of_mem _ h), B.notSynchronized, hK⟩ hP hl
theorem entMi {S : Type} {l : Launch} {D : va_G} {kI kC kB : ClassId} {y : MethodName} {b : ByteArray} {n : Nat} {r : Option FieldType} {rm : Room} {av : List Value} {w : va_W} {sz : Nat} {Post : Int32 → S → Prop} {wf : S → va_W} (hy : plainName y.cls = true) (hn : (lg_sl av).length ≤ n)
    (body : ∀ (p : Program) (e : Env) (s : State) (m : MethodId) (args : Array Value) (below : List Frame) (meth : Method) (c : Code) (ls : Array Slot) (A : Nat → Prop), CtxT p s m args meth c b n r y.cls D kI kC kB → (∀ q, s.heap.size ≤ q → A q) → va_P D vwCl w s.heap → va_D A w → va_S A s.heap s.heap [] → lv_has ls n (lv_args 0 av) →
      W p l e rm s m args below meth c s.heap [] 0 0 (MQ below (va_Qi Post (BB D A wf) A) args s 0 0 A) (F0 m 0 ls [])) : CMi l D kI kC kB y b n r rm av w sz Post wf := by
  refine Met.ofW (cc := b) (maxL := n) (ret := r) hy rfl ?_
  intro p e s m args below meth c s₁ B hml hv
  obtain ⟨rfl, hsz, hP, hK, hD0⟩ := hv
  subst hsz
  have hD := hD0.self (sz := s.heap.size)
  have hA : ∀ q : Nat, s.heap.size ≤ q → va_A w s.heap.size q := fun q h => Or.inr h
  generalize va_A w s.heap.size = A at hD hA ⊢
  have hts := atoms_spec (ws := WS y b n r) B.pre
  have hl := lv_entry av (n := n) hn
  rw [lg_entry_eq]
  generalize (lg_sl av ++ List.replicate (n - (lg_sl av).length) Slot.unset).toArray = ls at hl ⊢
  exact body p e s m _ below meth c ls A ⟨B.exec, B.bytes, B.returns, hml, findClass_of_methodNamed B.named, fun w h => hts w (List.mem_cons_of_mem _ h), B.notSynchronized, hK⟩ hA hP hD va_S.rf hl
theorem entMv {S : Type} {l : Launch} {D : va_G} {kI kC kB : ClassId} {y : MethodName} {b : ByteArray} {n : Nat} {r : Option FieldType} {rm : Room} {av : List Value} {w : va_W} {sz : Nat} {Post : S → Prop} {wf : S → va_W} (hy : plainName y.cls = true) (hn : (lg_sl av).length ≤ n)
    (body : ∀ (p : Program) (e : Env) (s : State) (m : MethodId) (args : Array Value) (below : List Frame) (meth : Method) (c : Code) (ls : Array Slot) (A : Nat → Prop), CtxT p s m args meth c b n r y.cls D kI kC kB → (∀ q, s.heap.size ≤ q → A q) → va_P D vwCl w s.heap → va_D A w → va_S A s.heap s.heap [] → lv_has ls n (lv_args 0 av) →
      W p l e rm s m args below meth c s.heap [] 0 0 (MQ below (va_Qv Post (BB D A wf) A) args s 0 0 A) (F0 m 0 ls [])) : CMv l D kI kC kB y b n r rm av w sz Post wf := by
  refine Met.ofW (cc := b) (maxL := n) (ret := r) hy rfl ?_
  intro p e s m args below meth c s₁ B hml hv
  obtain ⟨rfl, hsz, hP, hK, hD0⟩ := hv
  subst hsz
  have hD := hD0.self (sz := s.heap.size)
  have hA : ∀ q : Nat, s.heap.size ≤ q → va_A w s.heap.size q := fun q h => Or.inr h
  generalize va_A w s.heap.size = A at hD hA ⊢
  have hts := atoms_spec (ws := WS y b n r) B.pre
  have hl := lv_entry av (n := n) hn
  rw [lg_entry_eq]
  generalize (lg_sl av ++ List.replicate (n - (lg_sl av).length) Slot.unset).toArray = ls at hl ⊢
  exact body p e s m _ below meth c ls A ⟨B.exec, B.bytes, B.returns, hml, findClass_of_methodNamed B.named, fun w h => hts w (List.mem_cons_of_mem _ h), B.notSynchronized, hK⟩ hA hP hD va_S.rf hl
/-- what a callee's name says -/
def CE (y : MethodName) (b : ByteArray) (n : Nat) (r : Option FieldType) (k : Nat) : Prop :=
  Cond.code y b n r ∈ gw ∧ Cond.initialized y.cls ∈ gw ∧ (y.cls ≠ "java/lang/invoke/MethodHandle" ∧ y.cls ≠ "java/lang/invoke/VarHandle") ∧ ∀ sig, parseMethodDescriptor y.desc = some sig → k = sig.parameters.length
theorem ce_par {d : String} {k : Nat} (h : (parseMethodDescriptor d).map (fun d => d.parameters.length) = some k) : ∀ sig, parseMethodDescriptor d = some sig → k = sig.parameters.length := by
  intro sig hs
  rw [hs] at h
  exact (Option.some.inj h).symm
def CV (y : MethodName) : Prop := Cond.instanceMethod y ∈ gw ∧ Cond.selects y.cls y y ∈ gw
section run
variable {p : Program} {l : Launch} {e : Env} {R : Room} {s : State} {m : MethodId} {args : Array Value} {below : List Frame} {meth : Method} {c : Code} {H : Heap} {locs : List Loc} {cells slots : Nat} {Q : State → Prop} {D : va_G} {kI kC kB : ClassId}
variable {y : MethodName} {bytes cc : ByteArray} {maxL nL mc ms k index pc : Nat} {r0 ret : Option FieldType} {rm : Room} {PC : State → Prop} {Qc : Array Value → State → Outcome → State → Prop} {free : Addr → Prop} {own : String} {b : Addr} {As rest st0 : List Value} {ls : Array Slot}
theorem callB_gw (C : CtxT p s m args meth c cc nL r0 own D kI kC kB) (hrm : rm.cells = mc ∧ rm.slots = ms) (ce : CE y bytes maxL ret k) (hl : Cond.methodLink own index y ∈ gw) (hR : rm.frames + 1 ≤ R.frames ∧ 8 + (maxL + 11) + rm.locals ≤ R.locals) : CallB R s args own index y bytes maxL ret (WS y bytes maxL ret) rm mc ms k := by
  obtain ⟨hx, hb, hr, hml, hown, hts, hlocks, hK⟩ := C
  obtain ⟨e1, e2, e3, e4⟩ := ce
  have hG : ∀ w ∈ WS y bytes maxL ret, w ∈ gw ∧ ((w.onTables && w.keeps) = true ∨ ∃ ty, w = .arrayClass ty) := fun w h => (List.mem_cons.mp h).elim (fun q => by rw [q]; exact gw_good _ e1) (gw_good w)
  exact ⟨hrm.1, hrm.2, hR.1, hR.2, pay_in hts hG, List.mem_cons_self, hts _ e1, hts _ e2, e3, e4, hts _ hl⟩
theorem runV (C : CtxT p s m args meth c cc nL r0 own D kI kC kB) (hM : Met l y (WS y bytes maxL ret) rm (va_Pc (.ref b :: As) PC) Qc mc ms free) (hrm : rm.cells = mc ∧ rm.slots = ms) (ce : CE y bytes maxL ret As.length) (cv : CV y) (hl : Cond.methodLink own index y ∈ gw) (hR : rm.frames + 1 ≤ R.frames ∧ 8 + (maxL + 11) + rm.locals ≤ R.locals)
    (hbl : FrameBlind (va_Pc (.ref b :: As) PC)) (hrecv : ∃ cell : Cell, H[b]? = some cell ∧ cell.vm.isStatics = false ∧ s.vm.findClass y.cls = some cell.cls) (hPc : ∀ U : State, U.heap = H → s.WarmedH U.vm → PC U) (hls : ls.size = nL) (hst : st0 = As.reverse ++ Value.ref b :: rest) (hroom : (rest.map fun v => v.category).sum ≤ 8) (hdg : decode cc pc = .ok (.invokevirtual index, 3)) (hf : cells + mc ≤ R.cells ∧ slots + ms ≤ R.slots) :
    va_Run p l e R s m args below meth c H locs cells slots mc ms (F0 m pc ls st0) rest (Qc (Value.ref b :: As).toArray) free := by
  have hts := C.2.2.2.2.2.1
  exact va_runV (C := y.cls) ⟨C.1, C.2.1, C.2.2.2.1, C.2.2.2.2.1, hts⟩ hM ⟨callB_gw C hrm ce hl hR, hts _ cv.1, hts _ cv.2⟩ ⟨hbl, hrecv, fun U h1 h2 => ⟨rfl, hPc U h1 h2⟩⟩ rfl rfl hls hst (lv_room hroom) hdg hf
theorem runS (C : CtxT p s m args meth c cc nL r0 own D kI kC kB) (hM : Met l y (WS y bytes maxL ret) rm (va_Pc As PC) Qc mc ms free) (hrm : rm.cells = mc ∧ rm.slots = ms) (ce : CE y bytes maxL ret As.length) (cv : Cond.static y ∈ gw) (hl : Cond.methodLink own index y ∈ gw) (hR : rm.frames + 1 ≤ R.frames ∧ 8 + (maxL + 11) + rm.locals ≤ R.locals)
    (hbl : FrameBlind (va_Pc As PC)) (hPc : ∀ U : State, U.heap = H → s.WarmedH U.vm → PC U) (hls : ls.size = nL) (hst : st0 = As.reverse ++ rest) (hroom : (rest.map fun v => v.category).sum ≤ 8) (hdg : decode cc pc = .ok (.invokestatic index, 3)) (hf : cells + mc ≤ R.cells ∧ slots + ms ≤ R.slots) :
    va_Run p l e R s m args below meth c H locs cells slots mc ms (F0 m pc ls st0) rest (Qc As.toArray) free := by
  have hts := C.2.2.2.2.2.1
  exact va_runS ⟨C.1, C.2.1, C.2.2.2.1, C.2.2.2.2.1, hts⟩ hM ⟨callB_gw C hrm ce hl hR, hts _ cv⟩ ⟨hbl, fun U h1 h2 => ⟨rfl, hPc U h1 h2⟩⟩ rfl rfl hls hst (lv_room hroom) hdg hf
/-- a read-only call of a method of an object -/
theorem kRV {ws wc : va_W} {Post : Int32 → Prop} {q0 ci : Nat} {q : vw_C} {fs : List Value} (C : CtxT p s m args meth c cc nL r0 own D kI kC kB) (hM : CR l D kI kC kB y bytes maxL ret rm (.ref b :: As) wc Post) (hrm : rm.cells = 0 ∧ rm.slots = 0) (ce : CE y bytes maxL ret As.length) (cv : CV y) (hl : Cond.methodLink own index y ∈ gw) (hR : rm.frames + 1 ≤ R.frames ∧ 8 + (maxL + 11) + rm.locals ≤ R.locals)
    (hP : va_P D vwCl ws H) (is : List Nat) (hs : is.filterMap (fun i => ws[i]?) = wc) (he : ws[q0]? = some (b, .inr (ci, fs))) (hc : vwCl[ci]? = some q) (hq : q.1 = y.cls) (hls : ls.size = nL) (hst : st0 = As.reverse ++ Value.ref b :: rest) (hroom : (rest.map fun v => v.category).sum ≤ 8) (hf : cells ≤ R.cells ∧ slots ≤ R.slots) (hdg : decode cc pc = .ok (.invokevirtual index, 3))
    (kk : ∀ r : Int32, Post r → W p l e R s m args below meth c H locs cells slots Q (F0 m (pc + 3) ls (.int r :: rest))) : W p l e R s m args below meth c H locs cells slots Q (F0 m pc ls st0) := by
  have hK := C.2.2.2.2.2.2.2
  exact vp_callSi (runV C hM hrm ce cv hl hR PR_blind (by rw [← hq]; exact va_recv hK.1 hP hc he) (fun U h1 h2 => ⟨by rw [h1]; exact hP.sub is hs, hK.warm h2⟩) hls hst hroom hdg hf).run kk
/-- a read-only call of a static method -/
theorem kRS {ws wc : va_W} {Post : Int32 → Prop} (C : CtxT p s m args meth c cc nL r0 own D kI kC kB) (hM : CR l D kI kC kB y bytes maxL ret rm As wc Post) (hrm : rm.cells = 0 ∧ rm.slots = 0) (ce : CE y bytes maxL ret As.length) (cv : Cond.static y ∈ gw) (hl : Cond.methodLink own index y ∈ gw) (hR : rm.frames + 1 ≤ R.frames ∧ 8 + (maxL + 11) + rm.locals ≤ R.locals)
    (hP : va_P D vwCl ws H) (is : List Nat) (hs : is.filterMap (fun i => ws[i]?) = wc) (hls : ls.size = nL) (hst : st0 = As.reverse ++ rest) (hroom : (rest.map fun v => v.category).sum ≤ 8) (hf : cells ≤ R.cells ∧ slots ≤ R.slots) (hdg : decode cc pc = .ok (.invokestatic index, 3))
    (kk : ∀ r : Int32, Post r → W p l e R s m args below meth c H locs cells slots Q (F0 m (pc + 3) ls (.int r :: rest))) : W p l e R s m args below meth c H locs cells slots Q (F0 m pc ls st0) := by
  have hK := C.2.2.2.2.2.2.2
  exact vp_callSi (runS C hM hrm ce cv hl hR PR_blind (fun U h1 h2 => ⟨by rw [h1]; exact hP.sub is hs, hK.warm h2⟩) hls hst hroom hdg hf).run kk
end run
/-- places of a world taken by what a call gave back -/
def va_rep (ws : va_W) : List Nat → va_W → va_W
  | i :: is, x :: w1 => va_rep (ws.set i x) is w1
  | _, _ => ws
theorem va_rep_at : ∀ (is : List Nat) (w1 ws : va_W) (j : Nat) (q : Nat × va_E), is.length = w1.length → (va_rep ws is w1)[j]? = some q → (j ∉ is ∧ ws[j]? = some q) ∨ ∃ k : Nat, is[k]? = some j ∧ w1[k]? = some q := by
  intro is
  induction is with
  | nil =>
    intro w1 ws j q hn h
    exact Or.inl ⟨List.not_mem_nil, by cases w1 <;> exact h⟩
  | cons i is ih =>
    intro w1 ws j q hn h
    cases w1 with
    | nil => cases hn
    | cons x w1 =>
      rcases ih w1 (ws.set i x) j q (Nat.succ.inj hn) h with ⟨h1, h2⟩ | ⟨k, h1, h2⟩
      · by_cases hij : j = i
        · subst hij
          right
          refine ⟨0, rfl, ?_⟩
          rw [List.getElem?_set_self'] at h2
          cases hw : ws[j]? with
          | none => rw [hw] at h2; cases h2
          | some z => rw [hw] at h2; exact h2
        · left
          refine ⟨fun hm => ?_, ?_⟩
          · rcases List.mem_cons.mp hm with z | z
            · exact hij z
            · exact h1 z
          · rw [List.getElem?_set_ne (Ne.symm hij)] at h2
            exact h2
      · exact Or.inr ⟨k + 1, h1, h2⟩
theorem va_back {A0 : Nat → Prop} {D : va_G} {ws wc w1 : va_W} {H H1 : Heap} (hP : va_P D vwCl ws H) (hD : va_D A0 ws) (is : List Nat) (hC : is.map (fun i => ws[i]?) = wc.map some) (hn : is.length = w1.length)
    (hk : ∀ q : Nat, q < H.size → ¬ va_A wc H.size q → H1[q]? = H[q]?) (hF : ∀ q, va_A wc H.size q → A0 q) (hP1 : va_P D vwCl w1 H1) (hD1 : va_D (va_A wc H.size) w1) : va_P D vwCl (va_rep ws is w1) H1 ∧ va_D A0 (va_rep ws is w1) := by
  have apart : ∀ (j : Nat) (q : Nat × va_E), j ∉ is → ws[j]? = some q → q.1 < H.size ∧ ¬ va_A wc H.size q.1 := by
    intro j q hj hq
    have hl := (hP j q hq).lt
    refine ⟨hl, fun h => ?_⟩
    rcases h with ⟨k2, x, h⟩ | h
    · have h1 : (is.map (fun i => ws[i]?))[k2]? = some (some (q.1, x)) := by rw [hC, List.getElem?_map, h]; rfl
      rw [List.getElem?_map] at h1
      cases hi : is[k2]? with
      | none => rw [hi] at h1; cases h1
      | some i =>
        rw [hi] at h1
        have hij := hD.1 j i q (q.1, x) hq (Option.some.inj h1) rfl
        subst hij
        exact hj (List.mem_of_getElem? hi)
    · omega
  refine ⟨fun j q hq => ?_, fun i j x z hx hz hxz => ?_, fun j q hq => ?_⟩
  · rcases va_rep_at is w1 ws j q hn hq with ⟨h1, h2⟩ | ⟨k, h1, h2⟩
    · obtain ⟨g1, g2⟩ := apart j q h1 h2
      exact (hP j q h2).kept (hk q.1 g1 g2)
    · exact hP1 k q h2
  · rcases va_rep_at is w1 ws i x hn hx with ⟨h1, h2⟩ | ⟨k, h1, h2⟩
    · rcases va_rep_at is w1 ws j z hn hz with ⟨g1, g2⟩ | ⟨k2, g1, g2⟩
      · exact hD.1 i j x z h2 g2 hxz
      · exact absurd (by rw [hxz]; exact hD1.2 k2 z g2) (apart i x h1 h2).2
    · rcases va_rep_at is w1 ws j z hn hz with ⟨g1, g2⟩ | ⟨k2, g1, g2⟩
      · exact absurd (by rw [← hxz]; exact hD1.2 k x h2) (apart j z g1 g2).2
      · have hkk := hD1.1 k k2 x z h2 g2 hxz
        subst hkk
        exact Option.some.inj (h1.symm.trans g1)
  · rcases va_rep_at is w1 ws j q hn hq with ⟨h1, h2⟩ | ⟨k, h1, h2⟩
    · exact hD.2 j q h2
    · exact hF _ (hD1.2 k q h2)
section back
variable {p : Program} {l : Launch} {e : Env} {R : Room} {s : State} {m : MethodId} {args : Array Value} {below : List Frame} {meth : Method} {c : Code} {H H0 : Heap} {locs : List Loc} {cells slots : Nat} {Q : State → Prop} {D : va_G} {kI kC kB : ClassId} {A0 : Nat → Prop}
variable {y : MethodName} {bytes cc : ByteArray} {maxL nL k index pc : Nat} {r0 ret : Option FieldType} {rm : Room} {own : String} {b : Addr} {As rest st0 : List Value} {ls : Array Slot}
theorem k_cut {ws wc : va_W} {is : List Nat} (hC : is.map (fun i => ws[i]?) = wc.map some) : is.filterMap (fun i => ws[i]?) = wc := by
  have h : is.filterMap (fun i => ws[i]?) = (is.map (fun i => ws[i]?)).filterMap id := by rw [List.filterMap_map]; rfl
  rw [h, hC, List.filterMap_map]
  exact List.filterMap_some
theorem k_ndD {A : Nat → Prop} {ws wc : va_W} (hD : va_D A ws) (is : List Nat) (hC : is.map (fun i => ws[i]?) = wc.map some) (hn : va_nd is = true) : va_D (fun _ => True) wc := (hD.sub is hn hC).weaken (fun _ _ _ _ => trivial)
/-- a call of a method of an object that changes its world and answers an int -/
theorem kMVi {S : Type} {ws wc : va_W} {Post : Int32 → S → Prop} {wf : S → va_W} {q0 ci : Nat} {q : vw_C} {fs : List Value} (C : CtxT p s m args meth c cc nL r0 own D kI kC kB) (hM : CMi l D kI kC kB y bytes maxL ret rm (.ref b :: As) wc H.size Post wf) (hrm : rm.cells = 0 ∧ rm.slots = 0) (ce : CE y bytes maxL ret As.length) (cv : CV y) (hl : Cond.methodLink own index y ∈ gw) (hR : rm.frames + 1 ≤ R.frames ∧ 8 + (maxL + 11) + rm.locals ≤ R.locals)
    (hP : va_P D vwCl ws H) (hD : va_D A0 ws) (hS : va_S A0 H0 H locs) (hA : ∀ q, H0.size ≤ q → A0 q) (is : List Nat) (hC : is.map (fun i => ws[i]?) = wc.map some) (hnd : va_nd is = true) (hn : ∀ u, is.length = (wf u).length) (he : ws[q0]? = some (b, .inr (ci, fs))) (hc : vwCl[ci]? = some q) (hq : q.1 = y.cls) (hls : ls.size = nL) (hst : st0 = As.reverse ++ Value.ref b :: rest) (hroom : (rest.map fun v => v.category).sum ≤ 8) (hf : cells ≤ R.cells ∧ slots ≤ R.slots) (hdg : decode cc pc = .ok (.invokevirtual index, 3))
    (kk : ∀ (r : Int32) (u : S) (H1 : Heap) (locs1 : List Loc), Post r u → va_P D vwCl (va_rep ws is (wf u)) H1 → va_D A0 (va_rep ws is (wf u)) → va_S A0 H0 H1 locs1 → W p l e R s m args below meth c H1 locs1 cells slots Q (F0 m (pc + 3) ls (.int r :: rest))) : W p l e R s m args below meth c H locs cells slots Q (F0 m pc ls st0) := by
  have hK := C.2.2.2.2.2.2.2
  have hF := va_free hD hS hA is hC
  refine va_calli (runV C hM hrm ce cv hl hR PM_blind (by rw [← hq]; exact va_recv hK.1 hP hc he) (fun U h1 h2 => ⟨by rw [h1], by rw [h1]; exact hP.sub is (k_cut hC), hK.warm h2, k_ndD hD is hC hnd⟩) hls hst hroom hdg hf) hS (fun q _ h => hF q h) hF (fun r u t H1 locs1 ht hvm hw hB hz hk1 hS1 => ?_)
  obtain ⟨hP1, hD1⟩ := hB
  rw [ht] at hP1
  obtain ⟨hP2, hD2⟩ := va_back hP hD is hC (hn u) hk1 hF hP1 hD1
  exact kk r u H1 locs1 hw hP2 hD2 hS1
/-- the same, of nothing -/
theorem kMVv {S : Type} {ws wc : va_W} {Post : S → Prop} {wf : S → va_W} {q0 ci : Nat} {q : vw_C} {fs : List Value} (C : CtxT p s m args meth c cc nL r0 own D kI kC kB) (hM : CMv l D kI kC kB y bytes maxL ret rm (.ref b :: As) wc H.size Post wf) (hrm : rm.cells = 0 ∧ rm.slots = 0) (ce : CE y bytes maxL ret As.length) (cv : CV y) (hl : Cond.methodLink own index y ∈ gw) (hR : rm.frames + 1 ≤ R.frames ∧ 8 + (maxL + 11) + rm.locals ≤ R.locals)
    (hP : va_P D vwCl ws H) (hD : va_D A0 ws) (hS : va_S A0 H0 H locs) (hA : ∀ q, H0.size ≤ q → A0 q) (is : List Nat) (hC : is.map (fun i => ws[i]?) = wc.map some) (hnd : va_nd is = true) (hn : ∀ u, is.length = (wf u).length) (he : ws[q0]? = some (b, .inr (ci, fs))) (hc : vwCl[ci]? = some q) (hq : q.1 = y.cls) (hls : ls.size = nL) (hst : st0 = As.reverse ++ Value.ref b :: rest) (hroom : (rest.map fun v => v.category).sum ≤ 8) (hf : cells ≤ R.cells ∧ slots ≤ R.slots) (hdg : decode cc pc = .ok (.invokevirtual index, 3))
    (kk : ∀ (u : S) (H1 : Heap) (locs1 : List Loc), Post u → va_P D vwCl (va_rep ws is (wf u)) H1 → va_D A0 (va_rep ws is (wf u)) → va_S A0 H0 H1 locs1 → W p l e R s m args below meth c H1 locs1 cells slots Q (F0 m (pc + 3) ls rest)) : W p l e R s m args below meth c H locs cells slots Q (F0 m pc ls st0) := by
  have hK := C.2.2.2.2.2.2.2
  have hF := va_free hD hS hA is hC
  refine va_callv (runV C hM hrm ce cv hl hR PM_blind (by rw [← hq]; exact va_recv hK.1 hP hc he) (fun U h1 h2 => ⟨by rw [h1], by rw [h1]; exact hP.sub is (k_cut hC), hK.warm h2, k_ndD hD is hC hnd⟩) hls hst hroom hdg hf) hS (fun q _ h => hF q h) hF (fun u t H1 locs1 ht hvm hw hB hz hk1 hS1 => ?_)
  obtain ⟨hP1, hD1⟩ := hB
  rw [ht] at hP1
  obtain ⟨hP2, hD2⟩ := va_back hP hD is hC (hn u) hk1 hF hP1 hD1
  exact kk u H1 locs1 hw hP2 hD2 hS1
/-- the ends -/
theorem retR {Post : Int32 → Prop} (C : CtxT p s m args meth c cc nL (some .int) own D kI kC kB) {v : Int32} (hw : Post v) (hdg : decode cc pc = .ok (.ireturn, 1)) : W p l e R s m args below meth c s.heap [] 0 0 (MQ below (vp_Si Post) args s 0 0 (fun _ => False)) (F0 m pc ls [.int v]) :=
  W.iret C.1 C.2.1 C.2.2.1 (fun t ht _ => ⟨v, rfl, hw, ht⟩) (fun _ h => absurd h List.not_mem_nil) hdg C.2.2.2.2.2.2.1
theorem bool_nar {v : Int32} (h : v = 0 ∨ v = 1) : narrow .boolean (.int v) = .int v ∧ fits .boolean (.int v) = true := by
  rcases h with rfl | rfl <;> exact ⟨rfl, rfl⟩
theorem retRz {Post : Int32 → Prop} (C : CtxT p s m args meth c cc nL (some .boolean) own D kI kC kB) {v : Int32} (hz : v = 0 ∨ v = 1) (hw : Post v) (hdg : decode cc pc = .ok (.ireturn, 1)) : W p l e R s m args below meth c s.heap [] 0 0 (MQ below (vp_Si Post) args s 0 0 (fun _ => False)) (F0 m pc ls [.int v]) :=
  W.zret C.1 C.2.1 C.2.2.1 (bool_nar hz).1 (fun t ht _ => ⟨v, rfl, hw, ht⟩) (fun _ h => absurd h List.not_mem_nil) hdg C.2.2.2.2.2.2.1
theorem retMi {S : Type} {Post : Int32 → S → Prop} {wf : S → va_W} {A : Nat → Prop} (C : CtxT p s m args meth c cc nL (some .int) own D kI kC kB) {v : Int32} (u : S) (hw : Post v u) (hP : va_P D vwCl (wf u) H) (hD : va_D A (wf u)) (hS : va_S A s.heap H locs) (hdg : decode cc pc = .ok (.ireturn, 1)) : W p l e R s m args below meth c H locs 0 0 (MQ below (va_Qi Post (BB D A wf) A) args s 0 0 A) (F0 m pc ls [.int v]) :=
  W.iret C.1 C.2.1 C.2.2.1 (fun t ht _ => ⟨⟨v, u, rfl, hw, by rw [ht]; exact hP, hD⟩, hS.F ht⟩) hS.2.2 hdg C.2.2.2.2.2.2.1
theorem retMz {S : Type} {Post : Int32 → S → Prop} {wf : S → va_W} {A : Nat → Prop} (C : CtxT p s m args meth c cc nL (some .boolean) own D kI kC kB) {v : Int32} (u : S) (hz : v = 0 ∨ v = 1) (hw : Post v u) (hP : va_P D vwCl (wf u) H) (hD : va_D A (wf u)) (hS : va_S A s.heap H locs) (hdg : decode cc pc = .ok (.ireturn, 1)) : W p l e R s m args below meth c H locs 0 0 (MQ below (va_Qi Post (BB D A wf) A) args s 0 0 A) (F0 m pc ls [.int v]) :=
  W.zret C.1 C.2.1 C.2.2.1 (bool_nar hz).1 (fun t ht _ => ⟨⟨v, u, rfl, hw, by rw [ht]; exact hP, hD⟩, hS.F ht⟩) hS.2.2 hdg C.2.2.2.2.2.2.1
theorem retMv {S : Type} {Post : S → Prop} {wf : S → va_W} {A : Nat → Prop} (C : CtxT p s m args meth c cc nL none own D kI kC kB) (u : S) (hw : Post u) (hP : va_P D vwCl (wf u) H) (hD : va_D A (wf u)) (hS : va_S A s.heap H locs) (hdg : decode cc pc = .ok (.return_, 1)) : W p l e R s m args below meth c H locs 0 0 (MQ below (va_Qv Post (BB D A wf) A) args s 0 0 A) (F0 m pc ls []) :=
  W.vret C.1 C.2.1 C.2.2.1 (fun t ht _ => ⟨⟨u, rfl, hw, by rw [ht]; exact hP, hD⟩, hS.F ht⟩) hS.2.2 hdg C.2.2.2.2.2.2.1
end back
/-! the worlds -/
abbrev AdT : Type := Nat → Nat
def cwRow (kI : ClassId) (a : AdT) (r : RowT) : va_W := [(a 0, .inr (3, [.ref (a 1), .int r.2.2])), (a 1, .inl (kI, r.1, .inl r.2.1))]
def cwAlph (a : AdT) (v : Int32) : va_W := [(a 0, .inr (0, [.int v]))]
def cwBook (kI : ClassId) (a : AdT) (al sg : Int32) (r1 r2 r3 r4 : RowT) : va_W := [(a 0, .inr (1, [.ref (a 1), .int sg, .ref (a 2), .ref (a 4), .ref (a 6), .ref (a 8)])), (a 1, .inr (0, [.int al])), (a 2, .inr (3, [.ref (a 3), .int r1.2.2])), (a 3, .inl (kI, r1.1, .inl r1.2.1)), (a 4, .inr (3, [.ref (a 5), .int r2.2.2])), (a 5, .inl (kI, r2.1, .inl r2.2.1)), (a 6, .inr (3, [.ref (a 7), .int r3.2.2])), (a 7, .inl (kI, r3.1, .inl r3.2.1)), (a 8, .inr (3, [.ref (a 9), .int r4.2.2])), (a 9, .inl (kI, r4.1, .inl r4.2.1))]
abbrev cwBookV (kI : ClassId) (a : AdT) (b : BookT) : va_W := cwBook kI a b.1 b.2.1 b.2.2.1 b.2.2.2.1 b.2.2.2.2.1 b.2.2.2.2.2
/-- a text without its own alphabet of all letters (that one is at a 9) -/
def cwText (kI : ClassId) (a : AdT) (r1 r2 r3 r4 : RowT) (at_ : Int32) : va_W := [(a 0, .inr (4, [.ref (a 1), .ref (a 3), .ref (a 5), .ref (a 7), .ref (a 9), .int at_])), (a 1, .inr (3, [.ref (a 2), .int r1.2.2])), (a 2, .inl (kI, r1.1, .inl r1.2.1)), (a 3, .inr (3, [.ref (a 4), .int r2.2.2])), (a 4, .inl (kI, r2.1, .inl r2.2.1)), (a 5, .inr (3, [.ref (a 6), .int r3.2.2])), (a 6, .inl (kI, r3.1, .inl r3.2.1)), (a 7, .inr (3, [.ref (a 8), .int r4.2.2])), (a 8, .inl (kI, r4.1, .inl r4.2.1))]
def cwWriter (kI : ClassId) (a : AdT) (r1 : RowT) (en : Int32) : va_W := [(a 0, .inr (5, [.ref (a 1), .int en])), (a 1, .inr (3, [.ref (a 2), .int r1.2.2])), (a 2, .inl (kI, r1.1, .inl r1.2.1))]
def cwHist (kI kB : ClassId) (a : AdT) (h : Nat → AdT) (v : HistT) : va_W := [(a 0, .inr (2, [.ref (a 1), .int v.2])), (a 1, .inl (kB, 4, .inr (.inr (.inr (.inr (fun k => some (h k 0)))))))] ++ cwBookV kI (h 0) (v.1 0) ++ cwBookV kI (h 1) (v.1 1) ++ cwBookV kI (h 2) (v.1 2) ++ cwBookV kI (h 3) (v.1 3)
def cwModel (kI kC : ClassId) (a : AdT) (s text told formula : Nat → Int32) (states isKept typed at_ isRight times letter items length entries : Int32) : va_W := [(a 0, .inr (7, [.ref (a 1), .int states, .int isKept, .ref (a 2), .int typed, .int at_, .int isRight, .int times, .int letter, .ref (a 3), .int items, .ref (a 4), .int length, .int entries])), (a 1, .inl (kI, 1056, .inl s)), (a 2, .inl (kC, 60, .inl text)), (a 3, .inl (kI, 160, .inl told)), (a 4, .inl (kC, 400, .inl formula))]
def cwQS (kI kB : ClassId) (a : AdT) (h : Nat → AdT) (taken : Int32) (bal bsg : Int32) (b1 b2 b3 b4 : RowT) (sal ssg : Int32) (s1 s2 s3 s4 : RowT) (hist : HistT) (t1 t2 t3 t4 : RowT) (tat tall : Int32) (w1 : RowT) (we : Int32) (fo : RowT) : va_W :=
  [(a 0, .inr (6, [.ref (a 1), .ref (a 11), .int taken, .ref (a 21), .ref (a 23), .ref (a 33), .ref (a 36)]))] ++ cwBook kI (fun i => a (i + 1)) bal bsg b1 b2 b3 b4 ++ cwBook kI (fun i => a (i + 11)) sal ssg s1 s2 s3 s4 ++ cwHist kI kB (fun i => a (i + 21)) h hist ++ cwText kI (fun i => a (i + 23)) t1 t2 t3 t4 tat ++ cwAlph (fun i => a (i + 32)) tall ++ cwWriter kI (fun i => a (i + 33)) w1 we ++ cwRow kI (fun i => a (i + 36)) fo
end
section
/-! wp: what each method needs, printed out of its bytecode (gen.py) -/
def wp_X0_has (z_out : Int32) (p1 : Int32) (Post : Int32 → Prop) : Prop := (p1 < 0 → Post 0) ∧ (¬ p1 < 0 → ((26 ≤ p1 → Post 0) ∧ (¬ 26 ≤ p1 → ((((z_out >>> (p1 &&& 31)) &&& 1) = 0 → Post 1) ∧ (¬ ((z_out >>> (p1 &&& 31)) &&& 1) = 0 → Post 0)))))
def wp_J6_bitCount_0f7a4 (p1 : Int32) (Post : Int32 → Prop) : Prop := ∀ y1 : Int32, y1 = p1 - (((p1.toUInt32 >>> (Int32.toUInt32 1 &&& Int32.toUInt32 31)).toInt32) &&& 1431655765) → (∀ y2 : Int32, y2 = (y1 &&& 858993459) + (((y1.toUInt32 >>> (Int32.toUInt32 2 &&& Int32.toUInt32 31)).toInt32) &&& 858993459) → (∀ y3 : Int32, y3 = (y2 + ((y2.toUInt32 >>> (Int32.toUInt32 4 &&& Int32.toUInt32 31)).toInt32)) &&& 252645135 → (∀ y4 : Int32, y4 = y3 + ((y3.toUInt32 >>> (Int32.toUInt32 8 &&& Int32.toUInt32 31)).toInt32) → (∀ y5 : Int32, y5 = y4 + ((y4.toUInt32 >>> (Int32.toUInt32 16 &&& Int32.toUInt32 31)).toInt32) → Post (y5 &&& 63)))))
def wp_X0_letters (z_out : Int32) (Post : Int32 → Prop) : Prop := wp_J6_bitCount_0f7a4 z_out (fun r1 => Post (26 - r1))
def wp_X0_turn (z_out : Int32) (p1 : Int32) (Post : Int32 → Prop) : Prop := Post (z_out ^^^ (1 <<< (p1 &&& 31)))
def wp_X4_length (z_ : RowT) (Post : Int32 → Prop) : Prop := Post z_.2.2
def wp_X4_at (z_ : RowT) (p1 : Int32) (Post : Int32 → Prop) : Prop := (p1 < 0 → Post (-1)) ∧ (¬ p1 < 0 → ((z_.2.2 ≤ p1 → Post (-1)) ∧ (¬ z_.2.2 ≤ p1 → (((nI z_.1) ≤ p1 → Post (-1)) ∧ (¬ (nI z_.1) ≤ p1 → (vp_in p1 z_.1 ∧ Post (z_.2.1 p1.toNatClampNeg)))))))
def wp_X4_empty (z_ : RowT) (Post : RowT → Prop) : Prop := Post (z_.1, z_.2.1, 0)
def wp_X5_ofStars (p1 : Int32) (Post : Int32 → Prop) : Prop := Post ((78 + p1) - 1)
def wp_X5_ofLetters (p1 : Int32) (p2 : Int32) (Post : Int32 → Prop) : Prop := Post (((p2 - 1) * 26) + p1)
def wp_X5_isStarred (p1 : Int32) (Post : Int32 → Prop) : Prop := (p1 < 78 → Post 0) ∧ (¬ p1 < 78 → Post 1)
def wp_X5_times (p1 : Int32) (Post : Int32 → Prop) : Prop := wp_X5_isStarred p1 (fun r1 => ((r1 = 0 → Post ((p1 / 26) + 1)) ∧ (¬ r1 = 0 → Post ((p1 - 78) + 1))))
def wp_X4_set (z_ : RowT) (p1 : Int32) (p2 : Int32) (Post : RowT → Prop) : Prop := (p1 < 0 → Post z_) ∧ (¬ p1 < 0 → ((z_.2.2 ≤ p1 → Post z_) ∧ (¬ z_.2.2 ≤ p1 → (((nI z_.1) ≤ p1 → Post z_) ∧ (¬ (nI z_.1) ≤ p1 → (vp_in p1 z_.1 ∧ Post (z_.1, (upd z_.2.1 p1.toNatClampNeg p2), z_.2.2)))))))
def wl_X4_addAt_42 (p1 : Int32) (p2 : Int32) (Post : RowT → Prop) : Nat → RowT → Int32 → Prop
  | 0, _, _ => False
  | n + 1, z_, v3 => (v3 ≤ p1 → wp_X4_set z_ p1 p2 (fun u1 => Post u1)) ∧ (¬ v3 ≤ p1 → wp_X4_at z_ (v3 - 1) (fun r2 => wp_X4_set z_ v3 r2 (fun u3 => wl_X4_addAt_42 p1 p2 Post n u3 (v3 + (-1)))))
def wp_X4_addAt (z_ : RowT) (p1 : Int32) (p2 : Int32) (Post : RowT → Prop) : Prop := (p1 < 0 → Post z_) ∧ (¬ p1 < 0 → ((z_.2.2 < p1 → Post z_) ∧ (¬ z_.2.2 < p1 → ((z_.2.2 < (nI z_.1) → (∀ y4 : Int32, y4 = (z_.2.2 + 1) - 1 → (∃ k, wl_X4_addAt_42 p1 p2 Post k (z_.1, z_.2.1, (z_.2.2 + 1)) y4))) ∧ (¬ z_.2.2 < (nI z_.1) → Post z_)))))
def wp_X4_add (z_ : RowT) (p1 : Int32) (Post : RowT → Prop) : Prop := wp_X4_addAt z_ z_.2.2 p1 (fun u1 => Post u1)
def wp_X5_letter (p1 : Int32) (Post : Int32 → Prop) : Prop := Post (p1 - p1 / 26 * 26)
def wl_X0_signsBetween_7 (z_out : Int32) (p2 : Int32) (Post : Int32 → Prop) : Nat → Int32 → Int32 → Prop
  | 0, _, _ => False
  | n + 1, v3, v4 => (p2 ≤ v4 → Post v3) ∧ (¬ p2 ≤ v4 → ((78 ≤ v4 → Post v3) ∧ (¬ 78 ≤ v4 → wp_X5_letter v4 (fun r1 => wp_X0_has z_out r1 (fun r2 => ((r2 = 0 → wl_X0_signsBetween_7 z_out p2 Post n v3 (v4 + 1)) ∧ (¬ r2 = 0 → wl_X0_signsBetween_7 z_out p2 Post n (v3 + 1) (v4 + 1))))))))
def wp_X0_signsBetween (z_out : Int32) (p1 : Int32) (p2 : Int32) (Post : Int32 → Prop) : Prop := ∀ y3 : Int32, y3 = p1 + 1 → (∃ k, wl_X0_signsBetween_7 z_out p2 Post k 0 y3)
def wl_X0_nextSign_4 (z_out : Int32) (Post : Int32 → Prop) : Nat → Int32 → Prop
  | 0, _ => False
  | n + 1, v2 => (78 ≤ v2 → Post (-1)) ∧ (¬ 78 ≤ v2 → wp_X5_letter v2 (fun r1 => wp_X0_has z_out r1 (fun r2 => ((r2 = 0 → wl_X0_nextSign_4 z_out Post n (v2 + 1)) ∧ (¬ r2 = 0 → Post v2)))))
def wp_X0_nextSign (z_out : Int32) (p1 : Int32) (Post : Int32 → Prop) : Prop := ∀ y3 : Int32, y3 = p1 + 1 → (∃ k, wl_X0_nextSign_4 z_out Post k y3)
def wl_X4_drop_15 (Post : RowT → Prop) : Nat → RowT → Int32 → Prop
  | 0, _, _ => False
  | n + 1, z_, v2 => ((z_.2.2 - 1) ≤ v2 → Post (z_.1, z_.2.1, (z_.2.2 - 1))) ∧ (¬ (z_.2.2 - 1) ≤ v2 → wp_X4_at z_ (v2 + 1) (fun r1 => wp_X4_set z_ v2 r1 (fun u2 => wl_X4_drop_15 Post n u2 (v2 + 1))))
def wp_X4_drop (z_ : RowT) (p1 : Int32) (Post : RowT → Prop) : Prop := (p1 < 0 → Post z_) ∧ (¬ p1 < 0 → ((p1 < z_.2.2 → (∃ k, wl_X4_drop_15 Post k z_ p1)) ∧ (¬ p1 < z_.2.2 → Post z_)))
def wl_X4_firstIndexOf_2 (z_ : RowT) (p1 : Int32) (Post : Int32 → Prop) : Nat → Int32 → Prop
  | 0, _ => False
  | n + 1, v2 => (z_.2.2 ≤ v2 → Post z_.2.2) ∧ (¬ z_.2.2 ≤ v2 → wp_X4_at z_ v2 (fun r1 => ((r1 = p1 → Post v2) ∧ (¬ r1 = p1 → wl_X4_firstIndexOf_2 z_ p1 Post n (v2 + 1)))))
def wp_X4_firstIndexOf (z_ : RowT) (p1 : Int32) (Post : Int32 → Prop) : Prop := ∃ k, wl_X4_firstIndexOf_2 z_ p1 Post k 0
def wp_X0_become (z_out : Int32) (o1_out : Int32) (Post : Int32 → Prop) : Prop := Post o1_out
def wl_X4_become_18 (o1_ : RowT) (Post : RowT → Prop) : Nat → RowT → Int32 → Prop
  | 0, _, _ => False
  | n + 1, z_, v2 => (z_.2.2 ≤ v2 → Post z_) ∧ (¬ z_.2.2 ≤ v2 → wp_X4_at o1_ v2 (fun r1 => wp_X4_set z_ v2 r1 (fun u2 => wl_X4_become_18 o1_ Post n u2 (v2 + 1))))
def wp_X4_become (z_ : RowT) (o1_ : RowT) (Post : RowT → Prop) : Prop := ∃ k, wl_X4_become_18 o1_ Post k (z_.1, z_.2.1, (if (nI z_.1) < o1_.2.2 then (nI z_.1) else o1_.2.2)) 0
def wp_X1_quires (z_signs : RowT) (Post : Int32 → Prop) : Prop := wp_X4_length z_signs (fun r1 => Post r1)
def wp_X1_signedIn (z_signing : Int32) (z_sizes : RowT) (p1 : Int32) (Post : Int32 → Prop) : Prop := wp_X4_at z_sizes p1 (fun r1 => (∀ y2 : Int32, y2 = (r1 + 1) / 2 → ((z_signing = 0 → Post y2) ∧ (¬ z_signing = 0 → ((z_signing = 1 → Post (if r1 < (y2 + 1) then r1 else (y2 + 1))) ∧ (¬ z_signing = 1 → Post r1))))))
def wl_X1_signedLeaves_4 (z_signing : Int32) (z_signs : RowT) (z_sizes : RowT) (Post : Int32 → Prop) : Nat → Int32 → Int32 → Prop
  | 0, _, _ => False
  | n + 1, v1, v2 => wp_X1_quires z_signs (fun r1 => ((r1 ≤ v2 → Post v1) ∧ (¬ r1 ≤ v2 → wp_X1_signedIn z_signing z_sizes v2 (fun r2 => (∀ y3 : Int32, y3 = v1 + r2 → wl_X1_signedLeaves_4 z_signing z_signs z_sizes Post n y3 (v2 + 1))))))
def wp_X1_signedLeaves (z_signing : Int32) (z_signs : RowT) (z_sizes : RowT) (Post : Int32 → Prop) : Prop := ∃ k, wl_X1_signedLeaves_4 z_signing z_signs z_sizes Post k 0 0
def wp_X1_addQuire (z_signs : RowT) (z_sizes : RowT) (z_lost : RowT) (z_pile : RowT) (p1 : Int32) (p2 : Int32) (p3 : Int32) (Post : RowT → RowT → RowT → RowT → Prop) : Prop := wp_X4_addAt z_signs p1 p2 (fun u1 => wp_X4_addAt z_sizes p1 p3 (fun u2 => wp_X4_addAt z_lost p1 0 (fun u3 => wp_X4_empty z_pile (fun u4 => Post u1 u2 u3 u4))))
def wl_X1_lastLettersAhead_4 (z_signs : RowT) (Post : Int32 → Prop) : Nat → Int32 → Prop
  | 0, _ => False
  | n + 1, v2 => (v2 < 0 → Post (-1)) ∧ (¬ v2 < 0 → wp_X4_at z_signs v2 (fun r1 => wp_X5_isStarred r1 (fun r2 => ((r2 = 0 → wp_X4_at z_signs v2 (fun r3 => Post r3)) ∧ (¬ r2 = 0 → wl_X1_lastLettersAhead_4 z_signs Post n (v2 + (-1)))))))
def wp_X1_lastLettersAhead (z_signs : RowT) (p1 : Int32) (Post : Int32 → Prop) : Prop := ∀ y4 : Int32, y4 = p1 - 1 → (∃ k, wl_X1_lastLettersAhead_4 z_signs Post k y4)
def wl_X1_firstLeaf_4 (z_sizes : RowT) (p1 : Int32) (Post : Int32 → Prop) : Nat → Int32 → Int32 → Prop
  | 0, _, _ => False
  | n + 1, v2, v3 => (p1 ≤ v3 → Post v2) ∧ (¬ p1 ≤ v3 → wp_X4_at z_sizes v3 (fun r1 => (∀ y2 : Int32, y2 = v2 + r1 → wl_X1_firstLeaf_4 z_sizes p1 Post n y2 (v3 + 1))))
def wp_X1_firstLeaf (z_sizes : RowT) (p1 : Int32) (Post : Int32 → Prop) : Prop := ∃ k, wl_X1_firstLeaf_4 z_sizes p1 Post k 0 0
def wp_X1_leaves (z_signs : RowT) (z_sizes : RowT) (Post : Int32 → Prop) : Prop := wp_X1_quires z_signs (fun r1 => wp_X1_firstLeaf z_sizes r1 (fun r2 => Post r2))
def wp_X1_hasQuire (z_signs : RowT) (p1 : Int32) (Post : Int32 → Prop) : Prop := (p1 < 0 → Post 0) ∧ (¬ p1 < 0 → wp_X1_quires z_signs (fun r1 => ((r1 ≤ p1 → Post 0) ∧ (¬ r1 ≤ p1 → Post 1))))
def wp_X1_dropQuire (z_signs : RowT) (z_sizes : RowT) (z_lost : RowT) (z_pile : RowT) (p1 : Int32) (Post : RowT → RowT → RowT → RowT → Prop) : Prop := wp_X4_drop z_signs p1 (fun u1 => wp_X4_drop z_sizes p1 (fun u2 => wp_X4_drop z_lost p1 (fun u3 => wp_X4_empty z_pile (fun u4 => Post u1 u2 u3 u4))))
def wp_X1_hasLeaf (z_signs : RowT) (z_sizes : RowT) (p1 : Int32) (Post : Int32 → Prop) : Prop := (p1 < 0 → Post 0) ∧ (¬ p1 < 0 → wp_X1_leaves z_signs z_sizes (fun r1 => ((r1 ≤ p1 → Post 0) ∧ (¬ r1 ≤ p1 → Post 1))))
def wl_X1_quireOf_11 (z_signs : RowT) (z_sizes : RowT) (p1 : Int32) (Post : Int32 → Prop) : Nat → Int32 → Int32 → Prop
  | 0, _, _ => False
  | n + 1, v2, v3 => wp_X1_quires z_signs (fun r1 => (((r1 - 1) ≤ v2 → Post v2) ∧ (¬ (r1 - 1) ≤ v2 → ((p1 < v3 → Post v2) ∧ (¬ p1 < v3 → wp_X4_at z_sizes (v2 + 1) (fun r2 => (∀ y3 : Int32, y3 = v3 + r2 → wl_X1_quireOf_11 z_signs z_sizes p1 Post n (v2 + 1) y3)))))))
def wp_X1_quireOf (z_signs : RowT) (z_sizes : RowT) (p1 : Int32) (Post : Int32 → Prop) : Prop := wp_X4_at z_sizes 0 (fun r4 => (∃ k, wl_X1_quireOf_11 z_signs z_sizes p1 Post k 0 r4))
def wp_X1_numberOf (z_signs : RowT) (z_sizes : RowT) (p1 : Int32) (Post : Int32 → Prop) : Prop := wp_X1_quireOf z_signs z_sizes p1 (fun r1 => wp_X1_firstLeaf z_sizes r1 (fun r2 => Post ((p1 - r2) + 1)))
def wp_X1_isLost (z_signs : RowT) (z_sizes : RowT) (z_lost : RowT) (p1 : Int32) (Post : Int32 → Prop) : Prop := wp_X1_quireOf z_signs z_sizes p1 (fun r1 => wp_X4_at z_lost r1 (fun r2 => wp_X1_numberOf z_signs z_sizes p1 (fun r3 => ((((r2 >>> ((r3 - 1) &&& 31)) &&& 1) = 1 → Post 1) ∧ (¬ ((r2 >>> ((r3 - 1) &&& 31)) &&& 1) = 1 → Post 0)))))
def wp_X1_turnLost (z_signs : RowT) (z_sizes : RowT) (z_lost : RowT) (z_pile : RowT) (p1 : Int32) (Post : RowT → RowT → Prop) : Prop := wp_X1_quireOf z_signs z_sizes p1 (fun r1 => wp_X4_at z_lost r1 (fun r2 => wp_X1_numberOf z_signs z_sizes p1 (fun r3 => wp_X4_set z_lost r1 (r2 ^^^ (1 <<< ((r3 - 1) &&& 31))) (fun u4 => wp_X4_empty z_pile (fun u5 => Post u4 u5)))))
def wl_X1_thereAhead_7 (z_signs : RowT) (z_sizes : RowT) (z_lost : RowT) (p1 : Int32) (Post : Int32 → Prop) : Nat → Int32 → Int32 → Int32 → Prop
  | 0, _, _, _ => False
  | n + 1, v2, v3, v4 => wp_X1_quires z_signs (fun r1 => ((r1 ≤ v4 → Post v2) ∧ (¬ r1 ≤ v4 → wp_X4_at z_sizes v4 (fun r2 => (∀ y3 : Int32, y3 = (if (if (p1 - v3) < 0 then 0 else (p1 - v3)) < r2 then (if (p1 - v3) < 0 then 0 else (p1 - v3)) else r2) → wp_X4_at z_lost v4 (fun r4 => wp_J6_bitCount_0f7a4 (r4 &&& ((1 <<< (y3 &&& 31)) - 1)) (fun r5 => (∀ y6 : Int32, y6 = v2 + (y3 - r5) → (∀ y7 : Int32, y7 = v3 + r2 → wl_X1_thereAhead_7 z_signs z_sizes z_lost p1 Post n y6 y7 (v4 + 1))))))))))
def wp_X1_thereAhead (z_signs : RowT) (z_sizes : RowT) (z_lost : RowT) (p1 : Int32) (Post : Int32 → Prop) : Prop := ∃ k, wl_X1_thereAhead_7 z_signs z_sizes z_lost p1 Post k 0 0 0
def wp_X1_leavesThere (z_signs : RowT) (z_sizes : RowT) (z_lost : RowT) (Post : Int32 → Prop) : Prop := wp_X1_leaves z_signs z_sizes (fun r1 => wp_X1_thereAhead z_signs z_sizes z_lost r1 (fun r2 => Post r2))
def wl_X1_leafSigned_2 (z_signs : RowT) (z_sizes : RowT) (p1 : Int32) (p2 : Int32) (Post : Int32 → Prop) : Nat → Int32 → Prop
  | 0, _ => False
  | n + 1, v3 => wp_X1_quires z_signs (fun r1 => ((r1 ≤ v3 → Post (-1)) ∧ (¬ r1 ≤ v3 → wp_X4_at z_signs v3 (fun r2 => ((r2 = p1 → wp_X4_at z_sizes v3 (fun r3 => ((r3 < p2 → wl_X1_leafSigned_2 z_signs z_sizes p1 p2 Post n (v3 + 1)) ∧ (¬ r3 < p2 → wp_X1_firstLeaf z_sizes v3 (fun r4 => Post ((r4 + p2) - 1)))))) ∧ (¬ r2 = p1 → wl_X1_leafSigned_2 z_signs z_sizes p1 p2 Post n (v3 + 1)))))))
def wp_X1_leafSigned (z_signs : RowT) (z_sizes : RowT) (p1 : Int32) (p2 : Int32) (Post : Int32 → Prop) : Prop := ∃ k, wl_X1_leafSigned_2 z_signs z_sizes p1 p2 Post k 0
def wj_X1_addToPile_32 (z_pile : RowT) (p1 : Int32) (v2 : Int32) (Post : RowT → Prop) : Prop := wp_X4_addAt z_pile v2 p1 (fun u1 => Post u1)
def wl_X1_addToPile_8 (z_pile : RowT) (p1 : Int32) (Post : RowT → Prop) : Nat → Int32 → Prop
  | 0, _ => False
  | n + 1, v2 => (v2 ≤ 0 → wj_X1_addToPile_32 z_pile p1 v2 Post) ∧ (¬ v2 ≤ 0 → wp_X4_at z_pile (v2 - 1) (fun r2 => ((r2 ≤ p1 → wj_X1_addToPile_32 z_pile p1 v2 Post) ∧ (¬ r2 ≤ p1 → wl_X1_addToPile_8 z_pile p1 Post n (v2 + (-1))))))
def wp_X1_addToPile (z_pile : RowT) (p1 : Int32) (Post : RowT → Prop) : Prop := wp_X4_length z_pile (fun r3 => (∃ k, wl_X1_addToPile_8 z_pile p1 Post k r3))
def wp_X1_become (z_alphabet_out : Int32) (z_signing : Int32) (z_signs : RowT) (z_sizes : RowT) (z_lost : RowT) (z_pile : RowT) (o1_alphabet_out : Int32) (o1_signing : Int32) (o1_signs : RowT) (o1_sizes : RowT) (o1_lost : RowT) (o1_pile : RowT) (Post : Int32 → Int32 → RowT → RowT → RowT → RowT → Prop) : Prop := wp_X0_become z_alphabet_out o1_alphabet_out (fun u1 => wp_X4_become z_signs o1_signs (fun u2 => wp_X4_become z_sizes o1_sizes (fun u3 => wp_X4_become z_lost o1_lost (fun u4 => wp_X4_become z_pile o1_pile (fun u5 => Post u1 o1_signing u2 u3 u4 u5)))))
def wl_X1_sameAhead_4 (z_signs : RowT) (p1 : Int32) (Post : Int32 → Prop) : Nat → Int32 → Int32 → Prop
  | 0, _, _ => False
  | n + 1, v2, v3 => (p1 ≤ v3 → Post v2) ∧ (¬ p1 ≤ v3 → wp_X4_at z_signs v3 (fun r1 => wp_X4_at z_signs p1 (fun r2 => ((r1 = r2 → wl_X1_sameAhead_4 z_signs p1 Post n (v2 + 1) (v3 + 1)) ∧ (¬ r1 = r2 → wl_X1_sameAhead_4 z_signs p1 Post n v2 (v3 + 1))))))
def wp_X1_sameAhead (z_signs : RowT) (p1 : Int32) (Post : Int32 → Prop) : Prop := ∃ k, wl_X1_sameAhead_4 z_signs p1 Post k 0 0
def wp_X1_thereIn (z_sizes : RowT) (z_lost : RowT) (p1 : Int32) (Post : Int32 → Prop) : Prop := wp_X4_at z_sizes p1 (fun r1 => wp_X4_at z_lost p1 (fun r2 => wp_J6_bitCount_0f7a4 r2 (fun r3 => Post (r1 - r3))))
def wl_X1_starredQuires_4 (z_signs : RowT) (Post : Int32 → Prop) : Nat → Int32 → Int32 → Prop
  | 0, _, _ => False
  | n + 1, v1, v2 => wp_X1_quires z_signs (fun r1 => ((r1 ≤ v2 → Post v1) ∧ (¬ r1 ≤ v2 → wp_X4_at z_signs v2 (fun r2 => wp_X5_isStarred r2 (fun r3 => ((r3 = 0 → wl_X1_starredQuires_4 z_signs Post n v1 (v2 + 1)) ∧ (¬ r3 = 0 → wl_X1_starredQuires_4 z_signs Post n (v1 + 1) (v2 + 1))))))))
def wp_X1_starredQuires (z_signs : RowT) (Post : Int32 → Prop) : Prop := ∃ k, wl_X1_starredQuires_4 z_signs Post k 0 0
/-- a row of four books, the first one behind the others -/
def hrot (f : Nat → BookT) : Nat → BookT := fun k => if k = 3 then f 0 else f (k + 1)
def hset (f : Nat → BookT) (k : Nat) (b : BookT) : Nat → BookT := fun j => if j = k then b else f j
def wp_bookBecome (z o : BookT) (Post : BookT → Prop) : Prop := wp_X1_become z.1 z.2.1 z.2.2.1 z.2.2.2.1 z.2.2.2.2.1 z.2.2.2.2.2 o.1 o.2.1 o.2.2.1 o.2.2.2.1 o.2.2.2.2.1 o.2.2.2.2.2 (fun a b c d e f => Post (a, b, c, d, e, f))
def wp_X2_record (v : HistT) (al sg : Int32) (r1 r2 r3 r4 : RowT) (Post : HistT → Prop) : Prop :=
  ∃ k : Nat, k ≤ 4 ∧ v.2 = nI k ∧ (k < 4 → wp_bookBecome (v.1 k) (al, sg, r1, r2, r3, r4) (fun b => Post (hset v.1 k b, nI (k + 1)))) ∧ (k = 4 → wp_bookBecome (hrot v.1 3) (al, sg, r1, r2, r3, r4) (fun b => Post (hset (hrot v.1) 3 b, nI 4)))
def wp_X2_takeBack (v : HistT) (al sg : Int32) (r1 r2 r3 r4 : RowT) (Post : HistT → Int32 → Int32 → RowT → RowT → RowT → RowT → Prop) : Prop :=
  ∃ k : Nat, k < 4 ∧ v.2 = nI (k + 1) ∧ wp_bookBecome (al, sg, r1, r2, r3, r4) (v.1 k) (fun b => Post (v.1, nI k) b.1 b.2.1 b.2.2.1 b.2.2.2.1 b.2.2.2.2.1 b.2.2.2.2.2)

def wj_X6_readStars_39 (z_characters : RowT) (z_at : Int32) (v1 : Int32) (Post : Int32 → Int32 → Prop) : Prop := wp_X5_ofStars v1 (fun r1 => Post r1 z_at)
def wl_X6_readStars_2 (z_characters : RowT) (Post : Int32 → Int32 → Prop) : Nat → Int32 → Int32 → Prop
  | 0, _, _ => False
  | n + 1, z_at, v1 => (5 ≤ v1 → wj_X6_readStars_39 z_characters z_at v1 Post) ∧ (¬ 5 ≤ v1 → wp_X4_at z_characters z_at (fun r2 => ((r2 = 42 → wl_X6_readStars_2 z_characters Post n (z_at + 1) (v1 + 1)) ∧ (¬ r2 = 42 → wj_X6_readStars_39 z_characters z_at v1 Post))))
def wp_X6_readStars (z_characters : RowT) (z_at : Int32) (Post : Int32 → Int32 → Prop) : Prop := ∃ k, wl_X6_readStars_2 z_characters Post k z_at 0
def wj_X6_readLetters_76 (z_characters : RowT) (z_at : Int32) (o1_out : Int32) (v2 : Int32) (v3 : Int32) (Post : Int32 → Int32 → Prop) : Prop := wp_X5_ofLetters v2 v3 (fun r1 => Post r1 z_at)
def wl_X6_readLetters_37 (z_characters : RowT) (o1_out : Int32) (v2 : Int32) (Post : Int32 → Int32 → Prop) : Nat → Int32 → Int32 → Prop
  | 0, _, _ => False
  | n + 1, z_at, v3 => (3 ≤ v3 → wj_X6_readLetters_76 z_characters z_at o1_out v2 v3 Post) ∧ (¬ 3 ≤ v3 → wp_X4_at z_characters z_at (fun r2 => ((r2 = (97 + v2) → wl_X6_readLetters_37 z_characters o1_out v2 Post n (z_at + 1) (v3 + 1)) ∧ (¬ r2 = (97 + v2) → wj_X6_readLetters_76 z_characters z_at o1_out v2 v3 Post))))
def wp_X6_readLetters (z_characters : RowT) (z_at : Int32) (o1_out : Int32) (Post : Int32 → Int32 → Prop) : Prop := wp_X4_at z_characters z_at (fun r3 => (∀ y4 : Int32, y4 = r3 - 65 → wp_X0_has o1_out y4 (fun r5 => ((r5 = 0 → Post (-1) z_at) ∧ (¬ r5 = 0 → (∃ k, wl_X6_readLetters_37 z_characters o1_out y4 Post k (z_at + 1) 1))))))
def wp_X6_readSign (z_characters : RowT) (z_at : Int32) (o1_out : Int32) (Post : Int32 → Int32 → Prop) : Prop := wp_X4_at z_characters z_at (fun r1 => ((r1 = 42 → wp_X6_readStars z_characters z_at (fun r4 u5 => Post r4 u5)) ∧ (¬ r1 = 42 → wp_X6_readLetters z_characters z_at o1_out (fun r2 u3 => Post r2 u3))))
def wj_X6_readLastSign_29 (z_characters : RowT) (z_at : Int32) (o1_out : Int32) (Post : Int32 → Int32 → Prop) : Prop := Post (-1) (z_at - 1)
def wp_X6_readLastSign (z_characters : RowT) (z_at : Int32) (o1_out : Int32) (p2 : Int32) (Post : Int32 → Int32 → Prop) : Prop := wp_X6_readLetters z_characters z_at o1_out (fun r1 u2 => ((r1 = (-1) → Post (-1) u2) ∧ (¬ r1 = (-1) → wp_X5_times r1 (fun r3 => wp_X5_times p2 (fun r4 => ((r3 = r4 → ((p2 ≤ r1 → Post r1 u2) ∧ (¬ p2 ≤ r1 → wj_X6_readLastSign_29 z_characters u2 o1_out Post))) ∧ (¬ r3 = r4 → wj_X6_readLastSign_29 z_characters u2 o1_out Post)))))))
def wp_X6_digitAt (z_characters : RowT) (p1 : Int32) (Post : Int32 → Prop) : Prop := wp_X4_at z_characters p1 (fun r1 => (∀ y2 : Int32, y2 = r1 - 48 → ((y2 < 0 → Post (-1)) ∧ (¬ y2 < 0 → ((9 < y2 → Post (-1)) ∧ (¬ 9 < y2 → Post y2))))))
def wp_X6_readNumber (z_characters : RowT) (z_at : Int32) (Post : Int32 → Int32 → Prop) : Prop := wp_X6_digitAt z_characters z_at (fun r1 => ((1 ≤ r1 → wp_X6_digitAt z_characters (z_at + 1) (fun r2 => ((r2 < 0 → Post r1 (z_at + 1)) ∧ (¬ r2 < 0 → ((((r1 * 10) + r2) ≤ 24 → Post ((r1 * 10) + r2) ((z_at + 1) + 1)) ∧ (¬ ((r1 * 10) + r2) ≤ 24 → Post r1 (z_at + 1))))))) ∧ (¬ 1 ≤ r1 → Post 0 z_at)))
def wj_X6_readEntry_69 (z_characters : RowT) (z_firstSigns : RowT) (z_lastSigns : RowT) (z_numbers : RowT) (z_at : Int32) (o1_out : Int32) (v3 : Int32) (v4 : Int32) (Post : Int32 → RowT → RowT → RowT → Int32 → Prop) : Prop := wp_X6_readNumber z_characters z_at (fun r1 u2 => ((r1 = 0 → Post 0 z_firstSigns z_lastSigns z_numbers u2) ∧ (¬ r1 = 0 → wp_X4_add z_firstSigns v3 (fun u3 => wp_X4_add z_lastSigns v4 (fun u4 => wp_X4_add z_numbers r1 (fun u5 => Post 1 u3 u4 u5 u2))))))
def wp_X6_readEntry (z_characters : RowT) (z_firstSigns : RowT) (z_lastSigns : RowT) (z_numbers : RowT) (z_at : Int32) (o1_out : Int32) (p2 : Int32) (Post : Int32 → RowT → RowT → RowT → Int32 → Prop) : Prop := wp_X6_readSign z_characters z_at o1_out (fun r6 u7 => ((r6 = (-1) → Post 0 z_firstSigns z_lastSigns z_numbers u7) ∧ (¬ r6 = (-1) → ((p2 = 0 → wj_X6_readEntry_69 z_characters z_firstSigns z_lastSigns z_numbers u7 o1_out r6 r6 Post) ∧ (¬ p2 = 0 → wp_X5_isStarred r6 (fun r8 => ((r8 = 0 → wp_X4_at z_characters u7 (fun r9 => ((r9 = 45 → wp_X6_readLastSign z_characters (u7 + 1) o1_out r6 (fun r10 u11 => ((r10 = (-1) → Post 0 z_firstSigns z_lastSigns z_numbers u11) ∧ (¬ r10 = (-1) → wj_X6_readEntry_69 z_characters z_firstSigns z_lastSigns z_numbers u11 o1_out r6 r10 Post)))) ∧ (¬ r9 = 45 → wj_X6_readEntry_69 z_characters z_firstSigns z_lastSigns z_numbers u7 o1_out r6 r6 Post)))) ∧ (¬ r8 = 0 → wj_X6_readEntry_69 z_characters z_firstSigns z_lastSigns z_numbers u7 o1_out r6 r6 Post))))))))
def wl_X6_readEntries_28 (z_characters : RowT) (o1_out : Int32) (p2 : Int32) (Post : Int32 → RowT → RowT → RowT → Int32 → Prop) : Nat → RowT → RowT → RowT → Int32 → Int32 → Prop
  | 0, _, _, _, _, _ => False
  | n + 1, z_firstSigns, z_lastSigns, z_numbers, z_at, v3 => wp_X4_length z_characters (fun r1 => ((r1 < v3 → Post z_at z_firstSigns z_lastSigns z_numbers z_at) ∧ (¬ r1 < v3 → wp_X6_readEntry z_characters z_firstSigns z_lastSigns z_numbers z_at o1_out p2 (fun r2 u3 u4 u5 u6 => ((r2 = 0 → Post u6 u3 u4 u5 u6) ∧ (¬ r2 = 0 → wp_X4_length z_characters (fun r7 => ((u6 = r7 → Post (-1) u3 u4 u5 u6) ∧ (¬ u6 = r7 → wp_X4_at z_characters u6 (fun r8 => ((r8 = 44 → wl_X6_readEntries_28 z_characters o1_out p2 Post n u3 u4 u5 (u6 + 1) (v3 + 1)) ∧ (¬ r8 = 44 → Post u6 u3 u4 u5 u6))))))))))))
def wp_X6_readEntries (z_characters : RowT) (z_firstSigns : RowT) (z_lastSigns : RowT) (z_numbers : RowT) (z_at : Int32) (o1_out : Int32) (p2 : Int32) (Post : Int32 → RowT → RowT → RowT → Int32 → Prop) : Prop := wp_X4_empty z_firstSigns (fun u9 => wp_X4_empty z_lastSigns (fun u10 => wp_X4_empty z_numbers (fun u11 => (∃ k, wl_X6_readEntries_28 z_characters o1_out p2 Post k u9 u10 u11 0 0))))
def wp_X6_readAsFormula (z_characters : RowT) (z_firstSigns : RowT) (z_lastSigns : RowT) (z_numbers : RowT) (z_at : Int32) (o1_out : Int32) (Post : Int32 → RowT → RowT → RowT → Int32 → Prop) : Prop := wp_X6_readEntries z_characters z_firstSigns z_lastSigns z_numbers z_at o1_out 1 (fun r1 u2 u3 u4 u5 => Post r1 u2 u3 u4 u5)
def wp_X6_entries (z_numbers : RowT) (Post : Int32 → Prop) : Prop := wp_X4_length z_numbers (fun r1 => Post r1)
def wp_X6_firstSign (z_firstSigns : RowT) (p1 : Int32) (Post : Int32 → Prop) : Prop := wp_X4_at z_firstSigns p1 (fun r1 => Post r1)
def wp_X6_lastSign (z_lastSigns : RowT) (p1 : Int32) (Post : Int32 → Prop) : Prop := wp_X4_at z_lastSigns p1 (fun r1 => Post r1)
def wp_X6_number (z_numbers : RowT) (p1 : Int32) (Post : Int32 → Prop) : Prop := wp_X4_at z_numbers p1 (fun r1 => Post r1)
def wp_X6_readAsPile (z_characters : RowT) (z_firstSigns : RowT) (z_lastSigns : RowT) (z_numbers : RowT) (z_at : Int32) (z_allLetters_out : Int32) (Post : Int32 → RowT → RowT → RowT → Int32 → Prop) : Prop := wp_X6_readEntries z_characters z_firstSigns z_lastSigns z_numbers z_at z_allLetters_out 0 (fun r1 u2 u3 u4 u5 => Post r1 u2 u3 u4 u5)
def wp_X6_length (z_characters : RowT) (Post : Int32 → Prop) : Prop := wp_X4_length z_characters (fun r1 => Post r1)
def wp_X6_add (z_characters : RowT) (p1 : Int32) (Post : RowT → Prop) : Prop := wp_X4_add z_characters p1 (fun u1 => Post u1)
def wp_X6_empty (z_characters : RowT) (Post : RowT → Prop) : Prop := wp_X4_empty z_characters (fun u1 => Post u1)
def wp_X3_kind (o1_alphabet_out : Int32) (o1_signs : RowT) (p2 : Int32) (Post : Int32 → Prop) : Prop := wp_X4_at o1_signs p2 (fun r1 => wp_X1_lastLettersAhead o1_signs p2 (fun r2 => wp_X5_isStarred r1 (fun r3 => ((r3 = 0 → ((r2 = (-1) → Post (-1)) ∧ (¬ r2 = (-1) → wp_X0_nextSign o1_alphabet_out r2 (fun r4 => ((r1 = r4 → Post (-1)) ∧ (¬ r1 = r4 → ((r1 = r2 → Post 0) ∧ (¬ r1 = r2 → ((r2 ≤ r1 → Post 2) ∧ (¬ r2 ≤ r1 → Post 1)))))))))) ∧ (¬ r3 = 0 → Post (-1))))))
def wl_X3_quireAt_4 (o1_alphabet_out : Int32) (o1_signs : RowT) (p2 : Int32) (Post : Int32 → Prop) : Nat → Int32 → Int32 → Prop
  | 0, _, _ => False
  | n + 1, v2, v3 => wp_X1_quires o1_signs (fun r1 => ((r1 ≤ v3 → Post (-1)) ∧ (¬ r1 ≤ v3 → wp_X3_kind o1_alphabet_out o1_signs v3 (fun r2 => ((r2 = (-1) → wl_X3_quireAt_4 o1_alphabet_out o1_signs p2 Post n v2 (v3 + 1)) ∧ (¬ r2 = (-1) → ((v2 = p2 → Post v3) ∧ (¬ v2 = p2 → wl_X3_quireAt_4 o1_alphabet_out o1_signs p2 Post n (v2 + 1) (v3 + 1)))))))))
def wp_X3_quireAt (o1_alphabet_out : Int32) (o1_signs : RowT) (p2 : Int32) (Post : Int32 → Prop) : Prop := ∃ k, wl_X3_quireAt_4 o1_alphabet_out o1_signs p2 Post k 0 0
def wp_X3_width (o1_alphabet_out : Int32) (o1_signs : RowT) (p2 : Int32) (Post : Int32 → Prop) : Prop := wp_X3_kind o1_alphabet_out o1_signs p2 (fun r1 => ((r1 = 2 → wp_X1_lastLettersAhead o1_signs p2 (fun r2 => wp_X4_at o1_signs p2 (fun r3 => wp_X0_signsBetween o1_alphabet_out r2 r3 (fun r4 => Post r4)))) ∧ (¬ r1 = 2 → Post 0)))
def wp_X7_goesOn (o1_alphabet_out : Int32) (o1_signs : RowT) (o1_sizes : RowT) (p2 : Int32) (Post : Int32 → Prop) : Prop := (p2 < 1 → Post 0) ∧ (¬ p2 < 1 → wp_X1_quires o1_signs (fun r1 => ((p2 < r1 → wp_X4_at o1_signs p2 (fun r2 => wp_X4_at o1_signs (p2 - 1) (fun r3 => wp_X0_nextSign o1_alphabet_out r3 (fun r4 => ((r2 = r4 → wp_X5_times r2 (fun r5 => wp_X5_times r3 (fun r6 => ((r5 = r6 → wp_X4_at o1_sizes p2 (fun r7 => wp_X4_at o1_sizes (p2 - 1) (fun r8 => ((r7 = r8 → Post 1) ∧ (¬ r7 = r8 → Post 0))))) ∧ (¬ r5 = r6 → Post 0))))) ∧ (¬ r2 = r4 → Post 0)))))) ∧ (¬ p2 < r1 → Post 0))))
def wj_X7_writeSign_58 (z_characters : RowT) (p1 : Int32) (v2 : Int32) (v3 : Int32) (t1 : Int32) (K30 : RowT → Int32 → Prop) (Post : RowT → Prop) : Prop := wp_X4_add z_characters t1 (fun u1 => K30 u1 (v3 + 1))
def wl_X7_writeSign_30 (p1 : Int32) (v2 : Int32) (Post : RowT → Prop) : Nat → RowT → Int32 → Prop
  | 0, _, _ => False
  | n + 1, z_characters, v3 => wp_X5_times p1 (fun r2 => ((r2 ≤ v3 → Post z_characters) ∧ (¬ r2 ≤ v3 → ((v2 = 0 → wp_X5_letter p1 (fun r3 => wj_X7_writeSign_58 z_characters p1 v2 v3 (97 + r3) (fun x0 x1 => wl_X7_writeSign_30 p1 v2 Post n x0 x1) Post)) ∧ (¬ v2 = 0 → wj_X7_writeSign_58 z_characters p1 v2 v3 42 (fun x0 x1 => wl_X7_writeSign_30 p1 v2 Post n x0 x1) Post)))))
def wj_X7_writeSign_25 (z_characters : RowT) (p1 : Int32) (v2 : Int32) (t1 : Int32) (Post : RowT → Prop) : Prop := wp_X4_add z_characters t1 (fun u4 => (∃ k, wl_X7_writeSign_30 p1 v2 Post k u4 1))
def wp_X7_writeSign (z_characters : RowT) (p1 : Int32) (Post : RowT → Prop) : Prop := wp_X5_isStarred p1 (fun r5 => ((r5 = 0 → wp_X5_letter p1 (fun r6 => wj_X7_writeSign_25 z_characters p1 r5 (65 + r6) Post)) ∧ (¬ r5 = 0 → wj_X7_writeSign_25 z_characters p1 r5 42 Post)))
def wj_X7_beginEntry_16 (z_characters : RowT) (z_entries : Int32) (p1 : Int32) (Post : RowT → Int32 → Prop) : Prop := wp_X7_writeSign z_characters p1 (fun u1 => Post u1 (z_entries + 1))
def wp_X7_beginEntry (z_characters : RowT) (z_entries : Int32) (p1 : Int32) (Post : RowT → Int32 → Prop) : Prop := (z_entries ≤ 0 → wj_X7_beginEntry_16 z_characters z_entries p1 Post) ∧ (¬ z_entries ≤ 0 → wp_X4_add z_characters 44 (fun u2 => wj_X7_beginEntry_16 u2 z_entries p1 Post))
def wj_X7_writeNumber_20 (z_characters : RowT) (p1 : Int32) (Post : RowT → Prop) : Prop := wp_X4_add z_characters (48 + (p1 - p1 / 10 * 10)) (fun u1 => Post u1)
def wp_X7_writeNumber (z_characters : RowT) (p1 : Int32) (Post : RowT → Prop) : Prop := (p1 < 10 → wj_X7_writeNumber_20 z_characters p1 Post) ∧ (¬ p1 < 10 → wp_X4_add z_characters (48 + (p1 / 10)) (fun u2 => wj_X7_writeNumber_20 u2 p1 Post))
def wj_X7_write_86 (z_characters : RowT) (z_entries : Int32) (o1_alphabet_out : Int32) (o1_signs : RowT) (o1_sizes : RowT) (v2 : Int32) (v3 : Int32) (K14 : RowT → Int32 → Int32 → Prop) (Post : RowT → Int32 → Prop) : Prop := (v3 = 0 → K14 z_characters z_entries (v2 + 1)) ∧ (¬ v3 = 0 → wp_X4_at o1_sizes v2 (fun r1 => wp_X7_writeNumber z_characters r1 (fun u2 => K14 u2 z_entries (v2 + 1))))
def wj_X7_write_37 (z_characters : RowT) (z_entries : Int32) (o1_alphabet_out : Int32) (o1_signs : RowT) (o1_sizes : RowT) (v2 : Int32) (t0 : Int32) (K14 : RowT → Int32 → Int32 → Prop) (Post : RowT → Int32 → Prop) : Prop := wp_X7_goesOn o1_alphabet_out o1_signs o1_sizes v2 (fun r3 => ((r3 = 0 → wp_X4_at o1_signs v2 (fun r7 => wp_X7_beginEntry z_characters z_entries r7 (fun u8 u9 => wj_X7_write_86 u8 u9 o1_alphabet_out o1_signs o1_sizes v2 t0 K14 Post))) ∧ (¬ r3 = 0 → ((t0 = 0 → wj_X7_write_86 z_characters z_entries o1_alphabet_out o1_signs o1_sizes v2 t0 K14 Post) ∧ (¬ t0 = 0 → wp_X4_add z_characters 45 (fun u4 => wp_X4_at o1_signs v2 (fun r5 => wp_X7_writeSign u4 r5 (fun u6 => wj_X7_write_86 u6 z_entries o1_alphabet_out o1_signs o1_sizes v2 t0 K14 Post))))))))
def wl_X7_write_14 (o1_alphabet_out : Int32) (o1_signs : RowT) (o1_sizes : RowT) (Post : RowT → Int32 → Prop) : Nat → RowT → Int32 → Int32 → Prop
  | 0, _, _, _ => False
  | n + 1, z_characters, z_entries, v2 => wp_X1_quires o1_signs (fun r10 => ((r10 ≤ v2 → Post z_characters z_entries) ∧ (¬ r10 ≤ v2 → wp_X7_goesOn o1_alphabet_out o1_signs o1_sizes (v2 + 1) (fun r11 => ((r11 = 0 → wj_X7_write_37 z_characters z_entries o1_alphabet_out o1_signs o1_sizes v2 1 (fun x0 x1 x2 => wl_X7_write_14 o1_alphabet_out o1_signs o1_sizes Post n x0 x1 x2) Post) ∧ (¬ r11 = 0 → wj_X7_write_37 z_characters z_entries o1_alphabet_out o1_signs o1_sizes v2 0 (fun x0 x1 x2 => wl_X7_write_14 o1_alphabet_out o1_signs o1_sizes Post n x0 x1 x2) Post))))))
def wp_X7_write (z_characters : RowT) (z_entries : Int32) (o1_alphabet_out : Int32) (o1_signs : RowT) (o1_sizes : RowT) (Post : RowT → Int32 → Prop) : Prop := wp_X4_empty z_characters (fun u12 => (∃ k, wl_X7_write_14 o1_alphabet_out o1_signs o1_sizes Post k u12 0 0))
def wp_X7_length (z_characters : RowT) (Post : Int32 → Prop) : Prop := wp_X4_length z_characters (fun r1 => Post r1)
def wp_X7_characterAt (z_characters : RowT) (p1 : Int32) (Post : Int32 → Prop) : Prop := wp_X4_at z_characters p1 (fun r1 => Post r1)
def wp_X7_entries (z_entries : Int32) (Post : Int32 → Prop) : Prop := Post z_entries
def wl_X3_number_4 (o1_alphabet_out : Int32) (o1_signs : RowT) (Post : Int32 → Prop) : Nat → Int32 → Int32 → Prop
  | 0, _, _ => False
  | n + 1, v1, v2 => wp_X1_quires o1_signs (fun r1 => ((r1 ≤ v2 → Post v1) ∧ (¬ r1 ≤ v2 → wp_X3_kind o1_alphabet_out o1_signs v2 (fun r2 => ((r2 = (-1) → wl_X3_number_4 o1_alphabet_out o1_signs Post n v1 (v2 + 1)) ∧ (¬ r2 = (-1) → wl_X3_number_4 o1_alphabet_out o1_signs Post n (v1 + 1) (v2 + 1)))))))
def wp_X3_number (o1_alphabet_out : Int32) (o1_signs : RowT) (Post : Int32 → Prop) : Prop := ∃ k, wl_X3_number_4 o1_alphabet_out o1_signs Post k 0 0
def wp_X2_states (z_ : HistT) (Post : Int32 → Prop) : Prop := Post z_.2
def wj_X8_leaveOut_64 (z_book_alphabet_out : Int32) (z_book_signing : Int32) (z_book_signs : RowT) (z_book_sizes : RowT) (z_book_lost : RowT) (z_book_pile : RowT) (z_history : HistT) (p2 : Int32) (v3 : Int32) (v4 : Int32) (Post : Int32 → Int32 → HistT → Prop) : Prop := (p2 = v4 → Post (-5) z_book_alphabet_out z_history) ∧ (¬ p2 = v4 → wp_X2_record z_history z_book_alphabet_out z_book_signing z_book_signs z_book_sizes z_book_lost z_book_pile (fun u1 => wp_X0_turn z_book_alphabet_out v3 (fun u3 => wp_X0_letters u3 (fun r4 => Post r4 u3 u1))))
def wj_X8_leaveOut_36 (z_book_alphabet_out : Int32) (z_book_signing : Int32) (z_book_signs : RowT) (z_book_sizes : RowT) (z_book_lost : RowT) (z_book_pile : RowT) (z_history : HistT) (p2 : Int32) (v3 : Int32) (t0 : Int32) (Post : Int32 → Int32 → HistT → Prop) : Prop := (p2 = 0 → wj_X8_leaveOut_64 z_book_alphabet_out z_book_signing z_book_signs z_book_sizes z_book_lost z_book_pile z_history p2 v3 t0 Post) ∧ (¬ p2 = 0 → ((t0 = 0 → wp_X0_letters z_book_alphabet_out (fun r5 => ((r5 = 1 → Post (-4) z_book_alphabet_out z_history) ∧ (¬ r5 = 1 → wj_X8_leaveOut_64 z_book_alphabet_out z_book_signing z_book_signs z_book_sizes z_book_lost z_book_pile z_history p2 v3 t0 Post)))) ∧ (¬ t0 = 0 → wj_X8_leaveOut_64 z_book_alphabet_out z_book_signing z_book_signs z_book_sizes z_book_lost z_book_pile z_history p2 v3 t0 Post)))
def wp_X8_leaveOut (z_book_alphabet_out : Int32) (z_book_signing : Int32) (z_book_signs : RowT) (z_book_sizes : RowT) (z_book_lost : RowT) (z_book_pile : RowT) (z_history : HistT) (p1 : Int32) (p2 : Int32) (Post : Int32 → Int32 → HistT → Prop) : Prop := ∀ y6 : Int32, y6 = p1 - 65 → ((y6 < 0 → Post (-1) z_book_alphabet_out z_history) ∧ (¬ y6 < 0 → ((y6 < 26 → wp_X0_has z_book_alphabet_out y6 (fun r7 => ((r7 = 0 → wj_X8_leaveOut_36 z_book_alphabet_out z_book_signing z_book_signs z_book_sizes z_book_lost z_book_pile z_history p2 y6 1 Post) ∧ (¬ r7 = 0 → wj_X8_leaveOut_36 z_book_alphabet_out z_book_signing z_book_signs z_book_sizes z_book_lost z_book_pile z_history p2 y6 0 Post)))) ∧ (¬ y6 < 26 → Post (-1) z_book_alphabet_out z_history))))
def wp_X8_setSigning (z_book_alphabet_out : Int32) (z_book_signing : Int32) (z_book_signs : RowT) (z_book_sizes : RowT) (z_book_lost : RowT) (z_book_pile : RowT) (z_history : HistT) (p1 : Int32) (Post : Int32 → Int32 → HistT → Prop) : Prop := (p1 < 0 → Post (-2) z_book_signing z_history) ∧ (¬ p1 < 0 → ((p1 ≤ 2 → ((p1 = z_book_signing → Post (-5) z_book_signing z_history) ∧ (¬ p1 = z_book_signing → wp_X2_record z_history z_book_alphabet_out z_book_signing z_book_signs z_book_sizes z_book_lost z_book_pile (fun u1 => wp_X1_signedLeaves p1 z_book_signs z_book_sizes (fun r3 => Post r3 p1 u1))))) ∧ (¬ p1 ≤ 2 → Post (-2) z_book_signing z_history)))
def wl_X8_quiresOfText_4 (z_book_alphabet_out : Int32) (z_text_firstSigns : RowT) (z_text_lastSigns : RowT) (z_text_numbers : RowT) (Post : Int32 → Prop) : Nat → Int32 → Int32 → Prop
  | 0, _, _ => False
  | n + 1, v1, v2 => wp_X6_entries z_text_numbers (fun r1 => ((r1 ≤ v2 → Post v1) ∧ (¬ r1 ≤ v2 → wp_X6_firstSign z_text_firstSigns v2 (fun r2 => wp_X6_lastSign z_text_lastSigns v2 (fun r3 => ((r2 = r3 → (∀ y6 : Int32, y6 = v1 + 1 → wl_X8_quiresOfText_4 z_book_alphabet_out z_text_firstSigns z_text_lastSigns z_text_numbers Post n y6 (v2 + 1))) ∧ (¬ r2 = r3 → wp_X0_signsBetween z_book_alphabet_out r2 r3 (fun r4 => (∀ y5 : Int32, y5 = v1 + (r4 + 2) → wl_X8_quiresOfText_4 z_book_alphabet_out z_text_firstSigns z_text_lastSigns z_text_numbers Post n y5 (v2 + 1))))))))))
def wp_X8_quiresOfText (z_book_alphabet_out : Int32) (z_text_firstSigns : RowT) (z_text_lastSigns : RowT) (z_text_numbers : RowT) (Post : Int32 → Prop) : Prop := ∃ k, wl_X8_quiresOfText_4 z_book_alphabet_out z_text_firstSigns z_text_lastSigns z_text_numbers Post k 0 0
def wl_X8_addEntry_53 (z_book_alphabet_out : Int32) (z_text_firstSigns : RowT) (z_text_lastSigns : RowT) (z_text_numbers : RowT) (v2 : Int32) (v3 : Int32) (Post : RowT → RowT → RowT → RowT → Prop) : Nat → RowT → RowT → RowT → RowT → Int32 → Prop
  | 0, _, _, _, _, _ => False
  | n + 1, z_book_signs, z_book_sizes, z_book_lost, z_book_pile, v4 => (v2 < v4 → Post z_book_signs z_book_sizes z_book_lost z_book_pile) ∧ (¬ v2 < v4 → wp_X5_letter v4 (fun r1 => wp_X0_has z_book_alphabet_out r1 (fun r2 => ((r2 = 0 → wl_X8_addEntry_53 z_book_alphabet_out z_text_firstSigns z_text_lastSigns z_text_numbers v2 v3 Post n z_book_signs z_book_sizes z_book_lost z_book_pile (v4 + 1)) ∧ (¬ r2 = 0 → wp_X1_quires z_book_signs (fun r3 => wp_X1_addQuire z_book_signs z_book_sizes z_book_lost z_book_pile r3 v4 v3 (fun u4 u5 u6 u7 => wl_X8_addEntry_53 z_book_alphabet_out z_text_firstSigns z_text_lastSigns z_text_numbers v2 v3 Post n u4 u5 u6 u7 (v4 + 1))))))))
def wp_X8_addEntry (z_book_alphabet_out : Int32) (z_book_signs : RowT) (z_book_sizes : RowT) (z_book_lost : RowT) (z_book_pile : RowT) (z_text_firstSigns : RowT) (z_text_lastSigns : RowT) (z_text_numbers : RowT) (p1 : Int32) (Post : RowT → RowT → RowT → RowT → Prop) : Prop := wp_X6_lastSign z_text_lastSigns p1 (fun r8 => wp_X6_number z_text_numbers p1 (fun r9 => wp_X1_quires z_book_signs (fun r10 => wp_X6_firstSign z_text_firstSigns p1 (fun r11 => wp_X1_addQuire z_book_signs z_book_sizes z_book_lost z_book_pile r10 r11 r9 (fun u12 u13 u14 u15 => wp_X6_firstSign z_text_firstSigns p1 (fun r16 => (∀ y17 : Int32, y17 = r16 + 1 → (∃ k, wl_X8_addEntry_53 z_book_alphabet_out z_text_firstSigns z_text_lastSigns z_text_numbers r8 r9 Post k u12 u13 u14 u15 y17))))))))
def wl_X8_readFormula_58 (z_book_alphabet_out : Int32) (z_book_signing : Int32) (z_history : HistT) (z_text_characters : RowT) (z_text_firstSigns : RowT) (z_text_lastSigns : RowT) (z_text_numbers : RowT) (z_text_at : Int32) (Post : Int32 → RowT → RowT → RowT → RowT → HistT → RowT → RowT → RowT → Int32 → Prop) : Nat → RowT → RowT → RowT → RowT → Int32 → Prop
  | 0, _, _, _, _, _ => False
  | n + 1, z_book_signs, z_book_sizes, z_book_lost, z_book_pile, v2 => wp_X6_entries z_text_numbers (fun r1 => ((r1 ≤ v2 → wp_X1_quires z_book_signs (fun r2 => Post r2 z_book_signs z_book_sizes z_book_lost z_book_pile z_history z_text_firstSigns z_text_lastSigns z_text_numbers z_text_at)) ∧ (¬ r1 ≤ v2 → wp_X8_addEntry z_book_alphabet_out z_book_signs z_book_sizes z_book_lost z_book_pile z_text_firstSigns z_text_lastSigns z_text_numbers v2 (fun u3 u4 u5 u6 => wl_X8_readFormula_58 z_book_alphabet_out z_book_signing z_history z_text_characters z_text_firstSigns z_text_lastSigns z_text_numbers z_text_at Post n u3 u4 u5 u6 (v2 + 1)))))
def wp_X8_readFormula (z_book_alphabet_out : Int32) (z_book_signing : Int32) (z_book_signs : RowT) (z_book_sizes : RowT) (z_book_lost : RowT) (z_book_pile : RowT) (z_history : HistT) (z_text_characters : RowT) (z_text_firstSigns : RowT) (z_text_lastSigns : RowT) (z_text_numbers : RowT) (z_text_at : Int32) (Post : Int32 → RowT → RowT → RowT → RowT → HistT → RowT → RowT → RowT → Int32 → Prop) : Prop := wp_X6_readAsFormula z_text_characters z_text_firstSigns z_text_lastSigns z_text_numbers z_text_at z_book_alphabet_out (fun r7 u8 u9 u10 u11 => ((r7 = (-1) → wp_X1_quires z_book_signs (fun r12 => wp_X8_quiresOfText z_book_alphabet_out u8 u9 u10 (fun r13 => (((r12 + r13) ≤ 40 → wp_X2_record z_history z_book_alphabet_out z_book_signing z_book_signs z_book_sizes z_book_lost z_book_pile (fun u14 => (∃ k, wl_X8_readFormula_58 z_book_alphabet_out z_book_signing u14 z_text_characters u8 u9 u10 u11 Post k z_book_signs z_book_sizes z_book_lost z_book_pile 0))) ∧ (¬ (r12 + r13) ≤ 40 → Post (-3) z_book_signs z_book_sizes z_book_lost z_book_pile z_history u8 u9 u10 u11))))) ∧ (¬ r7 = (-1) → Post ((-100) - r7) z_book_signs z_book_sizes z_book_lost z_book_pile z_history u8 u9 u10 u11)))
def wp_X8_isQuireSize (p1 : Int32) (Post : Int32 → Prop) : Prop := (p1 < 1 → Post 0) ∧ (¬ p1 < 1 → ((24 < p1 → Post 0) ∧ (¬ 24 < p1 → Post 1)))
def wp_X8_signNext (z_book_alphabet_out : Int32) (z_book_signing : Int32) (z_book_signs : RowT) (z_book_sizes : RowT) (z_book_lost : RowT) (z_book_pile : RowT) (z_history : HistT) (p1 : Int32) (Post : Int32 → RowT → RowT → RowT → RowT → HistT → Prop) : Prop := wp_X8_isQuireSize p1 (fun r1 => ((r1 = 0 → Post (-2) z_book_signs z_book_sizes z_book_lost z_book_pile z_history) ∧ (¬ r1 = 0 → wp_X1_quires z_book_signs (fun r2 => ((r2 < 40 → wp_X1_quires z_book_signs (fun r3 => wp_X1_lastLettersAhead z_book_signs r3 (fun r4 => wp_X0_nextSign z_book_alphabet_out r4 (fun r5 => ((r5 = (-1) → Post (-4) z_book_signs z_book_sizes z_book_lost z_book_pile z_history) ∧ (¬ r5 = (-1) → wp_X2_record z_history z_book_alphabet_out z_book_signing z_book_signs z_book_sizes z_book_lost z_book_pile (fun u6 => wp_X1_quires z_book_signs (fun r8 => wp_X1_addQuire z_book_signs z_book_sizes z_book_lost z_book_pile r8 r5 p1 (fun u9 u10 u11 u12 => wp_X1_quires u9 (fun r13 => Post (r13 - 1) u9 u10 u11 u12 u6)))))))))) ∧ (¬ r2 < 40 → Post (-3) z_book_signs z_book_sizes z_book_lost z_book_pile z_history))))))
def wp_X8_insert (z_book_alphabet_out : Int32) (z_book_signing : Int32) (z_book_signs : RowT) (z_book_sizes : RowT) (z_book_lost : RowT) (z_book_pile : RowT) (z_history : HistT) (p1 : Int32) (p2 : Int32) (p3 : Int32) (Post : Int32 → RowT → RowT → RowT → RowT → HistT → Prop) : Prop := (p1 < 0 → Post (-1) z_book_signs z_book_sizes z_book_lost z_book_pile z_history) ∧ (¬ p1 < 0 → wp_X1_quires z_book_signs (fun r1 => ((p1 ≤ r1 → ((p2 < 1 → Post (-2) z_book_signs z_book_sizes z_book_lost z_book_pile z_history) ∧ (¬ p2 < 1 → ((5 < p2 → Post (-2) z_book_signs z_book_sizes z_book_lost z_book_pile z_history) ∧ (¬ 5 < p2 → wp_X8_isQuireSize p3 (fun r2 => ((r2 = 0 → Post (-2) z_book_signs z_book_sizes z_book_lost z_book_pile z_history) ∧ (¬ r2 = 0 → wp_X1_quires z_book_signs (fun r3 => ((r3 < 40 → wp_X2_record z_history z_book_alphabet_out z_book_signing z_book_signs z_book_sizes z_book_lost z_book_pile (fun u4 => wp_X5_ofStars p2 (fun r6 => wp_X1_addQuire z_book_signs z_book_sizes z_book_lost z_book_pile p1 r6 p3 (fun u7 u8 u9 u10 => wp_X1_leaves u7 u8 (fun r11 => Post r11 u7 u8 u9 u10 u4))))) ∧ (¬ r3 < 40 → Post (-3) z_book_signs z_book_sizes z_book_lost z_book_pile z_history))))))))))) ∧ (¬ p1 ≤ r1 → Post (-1) z_book_signs z_book_sizes z_book_lost z_book_pile z_history))))
def wp_X8_remove (z_book_alphabet_out : Int32) (z_book_signing : Int32) (z_book_signs : RowT) (z_book_sizes : RowT) (z_book_lost : RowT) (z_book_pile : RowT) (z_history : HistT) (p1 : Int32) (Post : Int32 → RowT → RowT → RowT → RowT → HistT → Prop) : Prop := wp_X1_hasQuire z_book_signs p1 (fun r1 => ((r1 = 0 → Post (-1) z_book_signs z_book_sizes z_book_lost z_book_pile z_history) ∧ (¬ r1 = 0 → wp_X2_record z_history z_book_alphabet_out z_book_signing z_book_signs z_book_sizes z_book_lost z_book_pile (fun u2 => wp_X1_dropQuire z_book_signs z_book_sizes z_book_lost z_book_pile p1 (fun u4 u5 u6 u7 => wp_X1_leaves u4 u5 (fun r8 => Post r8 u4 u5 u6 u7 u2))))))
def wp_X8_lose (z_book_alphabet_out : Int32) (z_book_signing : Int32) (z_book_signs : RowT) (z_book_sizes : RowT) (z_book_lost : RowT) (z_book_pile : RowT) (z_history : HistT) (p1 : Int32) (p2 : Int32) (Post : Int32 → RowT → RowT → HistT → Prop) : Prop := wp_X1_hasLeaf z_book_signs z_book_sizes p1 (fun r1 => ((r1 = 0 → Post (-1) z_book_lost z_book_pile z_history) ∧ (¬ r1 = 0 → wp_X1_isLost z_book_signs z_book_sizes z_book_lost p1 (fun r2 => ((r2 = p2 → Post (-5) z_book_lost z_book_pile z_history) ∧ (¬ r2 = p2 → wp_X2_record z_history z_book_alphabet_out z_book_signing z_book_signs z_book_sizes z_book_lost z_book_pile (fun u3 => wp_X1_turnLost z_book_signs z_book_sizes z_book_lost z_book_pile p1 (fun u5 u6 => wp_X1_leavesThere z_book_signs z_book_sizes u5 (fun r7 => Post r7 u5 u6 u3)))))))))
def wl_X8_findLeavesOfText_9 (z_book_signs : RowT) (z_book_sizes : RowT) (z_text_firstSigns : RowT) (z_text_numbers : RowT) (Post : Int32 → RowT → Prop) : Nat → RowT → Int32 → Prop
  | 0, _, _ => False
  | n + 1, z_found, v1 => wp_X6_entries z_text_numbers (fun r1 => ((r1 ≤ v1 → Post 1 z_found) ∧ (¬ r1 ≤ v1 → wp_X6_firstSign z_text_firstSigns v1 (fun r2 => wp_X6_number z_text_numbers v1 (fun r3 => wp_X1_leafSigned z_book_signs z_book_sizes r2 r3 (fun r4 => ((r4 = (-1) → Post 0 z_found) ∧ (¬ r4 = (-1) → wp_X4_add z_found r4 (fun u5 => wl_X8_findLeavesOfText_9 z_book_signs z_book_sizes z_text_firstSigns z_text_numbers Post n u5 (v1 + 1))))))))))
def wp_X8_findLeavesOfText (z_book_signs : RowT) (z_book_sizes : RowT) (z_text_firstSigns : RowT) (z_text_numbers : RowT) (z_found : RowT) (Post : Int32 → RowT → Prop) : Prop := wp_X4_empty z_found (fun u6 => (∃ k, wl_X8_findLeavesOfText_9 z_book_signs z_book_sizes z_text_firstSigns z_text_numbers Post k u6 0))
def wl_X8_allFoundThereOnce_2 (z_book_signs : RowT) (z_book_sizes : RowT) (z_book_lost : RowT) (z_found : RowT) (Post : Int32 → Prop) : Nat → Int32 → Prop
  | 0, _ => False
  | n + 1, v1 => wp_X4_length z_found (fun r1 => ((r1 ≤ v1 → Post 1) ∧ (¬ r1 ≤ v1 → wp_X4_at z_found v1 (fun r2 => wp_X1_isLost z_book_signs z_book_sizes z_book_lost r2 (fun r3 => ((r3 = 0 → wp_X4_firstIndexOf z_found r2 (fun r4 => ((v1 ≤ r4 → wl_X8_allFoundThereOnce_2 z_book_signs z_book_sizes z_book_lost z_found Post n (v1 + 1)) ∧ (¬ v1 ≤ r4 → Post 0)))) ∧ (¬ r3 = 0 → Post 0)))))))
def wp_X8_allFoundThereOnce (z_book_signs : RowT) (z_book_sizes : RowT) (z_book_lost : RowT) (z_found : RowT) (Post : Int32 → Prop) : Prop := ∃ k, wl_X8_allFoundThereOnce_2 z_book_signs z_book_sizes z_book_lost z_found Post k 0
def wl_X8_readPile_75 (z_book_alphabet_out : Int32) (z_book_signing : Int32) (z_book_signs : RowT) (z_book_sizes : RowT) (z_book_lost : RowT) (z_history : HistT) (z_text_characters : RowT) (z_text_firstSigns : RowT) (z_text_lastSigns : RowT) (z_text_numbers : RowT) (z_text_at : Int32) (z_text_allLetters_out : Int32) (z_found : RowT) (Post : Int32 → RowT → HistT → RowT → RowT → RowT → Int32 → RowT → Prop) : Nat → RowT → Int32 → Prop
  | 0, _, _ => False
  | n + 1, z_book_pile, v2 => wp_X4_length z_found (fun r1 => ((r1 ≤ v2 → wp_X4_length z_book_pile (fun r2 => Post r2 z_book_pile z_history z_text_firstSigns z_text_lastSigns z_text_numbers z_text_at z_found)) ∧ (¬ r1 ≤ v2 → wp_X4_at z_found v2 (fun r3 => wp_X1_addToPile z_book_pile r3 (fun u4 => wl_X8_readPile_75 z_book_alphabet_out z_book_signing z_book_signs z_book_sizes z_book_lost z_history z_text_characters z_text_firstSigns z_text_lastSigns z_text_numbers z_text_at z_text_allLetters_out z_found Post n u4 (v2 + 1))))))
def wp_X8_readPile (z_book_alphabet_out : Int32) (z_book_signing : Int32) (z_book_signs : RowT) (z_book_sizes : RowT) (z_book_lost : RowT) (z_book_pile : RowT) (z_history : HistT) (z_text_characters : RowT) (z_text_firstSigns : RowT) (z_text_lastSigns : RowT) (z_text_numbers : RowT) (z_text_at : Int32) (z_text_allLetters_out : Int32) (z_found : RowT) (Post : Int32 → RowT → HistT → RowT → RowT → RowT → Int32 → RowT → Prop) : Prop := wp_X6_readAsPile z_text_characters z_text_firstSigns z_text_lastSigns z_text_numbers z_text_at z_text_allLetters_out (fun r5 u6 u7 u8 u9 => ((r5 = (-1) → wp_X8_findLeavesOfText z_book_signs z_book_sizes u6 u8 z_found (fun r10 u11 => ((r10 = 0 → Post (-1) z_book_pile z_history u6 u7 u8 u9 u11) ∧ (¬ r10 = 0 → wp_X8_allFoundThereOnce z_book_signs z_book_sizes z_book_lost u11 (fun r12 => ((r12 = 0 → Post (-4) z_book_pile z_history u6 u7 u8 u9 u11) ∧ (¬ r12 = 0 → wp_X4_length u11 (fun r13 => ((r13 ≤ 12 → wp_X2_record z_history z_book_alphabet_out z_book_signing z_book_signs z_book_sizes z_book_lost z_book_pile (fun u14 => wp_X4_empty z_book_pile (fun u16 => (∃ k, wl_X8_readPile_75 z_book_alphabet_out z_book_signing z_book_signs z_book_sizes z_book_lost u14 z_text_characters u6 u7 u8 u9 z_text_allLetters_out u11 Post k u16 0)))) ∧ (¬ r13 ≤ 12 → Post (-3) z_book_pile z_history u6 u7 u8 u9 u11)))))))))) ∧ (¬ r5 = (-1) → Post ((-100) - r5) z_book_pile z_history u6 u7 u8 u9 z_found)))
def wp_X8_type (z_text_characters : RowT) (p1 : Int32) (Post : Int32 → RowT → Prop) : Prop := wp_X6_length z_text_characters (fun r1 => ((r1 < 60 → wp_X6_add z_text_characters p1 (fun u2 => wp_X6_length u2 (fun r3 => Post r3 u2))) ∧ (¬ r1 < 60 → Post (-3) z_text_characters)))
def wp_X8_clearText (z_text_characters : RowT) (Post : Int32 → RowT → Prop) : Prop := wp_X6_length z_text_characters (fun r1 => wp_X6_empty z_text_characters (fun u2 => Post r1 u2))
def wp_X8_undo (z_book_alphabet_out : Int32) (z_book_signing : Int32) (z_book_signs : RowT) (z_book_sizes : RowT) (z_book_lost : RowT) (z_book_pile : RowT) (z_history : HistT) (Post : Int32 → Int32 → Int32 → RowT → RowT → RowT → RowT → HistT → Prop) : Prop := wp_X2_states z_history (fun r1 => ((r1 = 0 → Post (-5) z_book_alphabet_out z_book_signing z_book_signs z_book_sizes z_book_lost z_book_pile z_history) ∧ (¬ r1 = 0 → wp_X2_takeBack z_history z_book_alphabet_out z_book_signing z_book_signs z_book_sizes z_book_lost z_book_pile (fun u2 u3 u4 u5 u6 u7 u8 => wp_X2_states u2 (fun r9 => Post r9 u3 u4 u5 u6 u7 u8 u2)))))
def wp_X8_keep (z_snapshotTaken : Int32) (z_book_alphabet_out : Int32) (z_book_signing : Int32) (z_book_signs : RowT) (z_book_sizes : RowT) (z_book_lost : RowT) (z_book_pile : RowT) (z_snapshot_alphabet_out : Int32) (z_snapshot_signing : Int32) (z_snapshot_signs : RowT) (z_snapshot_sizes : RowT) (z_snapshot_lost : RowT) (z_snapshot_pile : RowT) (Post : Int32 → Int32 → Int32 → Int32 → RowT → RowT → RowT → RowT → Prop) : Prop := wp_X1_become z_snapshot_alphabet_out z_snapshot_signing z_snapshot_signs z_snapshot_sizes z_snapshot_lost z_snapshot_pile z_book_alphabet_out z_book_signing z_book_signs z_book_sizes z_book_lost z_book_pile (fun u1 u2 u3 u4 u5 u6 => wp_X1_quires z_book_signs (fun r7 => Post r7 1 u1 u2 u3 u4 u5 u6))
def wp_X8_restore (z_snapshotTaken : Int32) (z_book_alphabet_out : Int32) (z_book_signing : Int32) (z_book_signs : RowT) (z_book_sizes : RowT) (z_book_lost : RowT) (z_book_pile : RowT) (z_snapshot_alphabet_out : Int32) (z_snapshot_signing : Int32) (z_snapshot_signs : RowT) (z_snapshot_sizes : RowT) (z_snapshot_lost : RowT) (z_snapshot_pile : RowT) (z_history : HistT) (Post : Int32 → Int32 → Int32 → RowT → RowT → RowT → RowT → HistT → Prop) : Prop := (z_snapshotTaken = 0 → Post (-5) z_book_alphabet_out z_book_signing z_book_signs z_book_sizes z_book_lost z_book_pile z_history) ∧ (¬ z_snapshotTaken = 0 → wp_X2_record z_history z_book_alphabet_out z_book_signing z_book_signs z_book_sizes z_book_lost z_book_pile (fun u1 => wp_X1_become z_book_alphabet_out z_book_signing z_book_signs z_book_sizes z_book_lost z_book_pile z_snapshot_alphabet_out z_snapshot_signing z_snapshot_signs z_snapshot_sizes z_snapshot_lost z_snapshot_pile (fun u3 u4 u5 u6 u7 u8 => wp_X1_quires u5 (fun r9 => Post r9 u3 u4 u5 u6 u7 u8 u1))))
def wp_X8_quire (z_book_signing : Int32) (z_book_signs : RowT) (z_book_sizes : RowT) (z_book_lost : RowT) (p1 : Int32) (p2 : Int32) (Post : Int32 → Prop) : Prop := wp_X1_hasQuire z_book_signs p1 (fun r1 => ((r1 = 0 → Post (-1)) ∧ (¬ r1 = 0 → wp_X4_at z_book_signs p1 (fun r2 => ((p2 = 0 → wp_X5_times r2 (fun r3 => Post r3)) ∧ (¬ p2 = 0 → ((p2 = 1 → wp_X5_isStarred r2 (fun r4 => ((r4 = 0 → wp_X5_letter r2 (fun r5 => Post (65 + r5))) ∧ (¬ r4 = 0 → Post (-5))))) ∧ (¬ p2 = 1 → ((p2 = 2 → wp_X4_at z_book_sizes p1 (fun r6 => Post r6)) ∧ (¬ p2 = 2 → ((p2 = 3 → wp_X1_firstLeaf z_book_sizes p1 (fun r7 => Post r7)) ∧ (¬ p2 = 3 → ((p2 = 4 → wp_X1_signedIn z_book_signing z_book_sizes p1 (fun r8 => Post r8)) ∧ (¬ p2 = 4 → ((p2 = 5 → wp_X1_thereIn z_book_sizes z_book_lost p1 (fun r9 => Post r9)) ∧ (¬ p2 = 5 → ((p2 = 6 → wp_X1_sameAhead z_book_signs p1 (fun r10 => Post r10)) ∧ (¬ p2 = 6 → Post (-2)))))))))))))))))))
def wp_X8_leafHangingWith (z_book_signs : RowT) (z_book_sizes : RowT) (p1 : Int32) (Post : Int32 → Prop) : Prop := wp_X1_quireOf z_book_signs z_book_sizes p1 (fun r1 => wp_X1_numberOf z_book_signs z_book_sizes p1 (fun r2 => wp_X4_at z_book_sizes r1 (fun r3 => (∀ y4 : Int32, y4 = (r3 + 1) - r2 → ((y4 = r2 → Post (-5)) ∧ (¬ y4 = r2 → wp_X1_firstLeaf z_book_sizes r1 (fun r5 => Post ((r5 + y4) - 1))))))))
def wp_X8_leaf (z_book_signing : Int32) (z_book_signs : RowT) (z_book_sizes : RowT) (z_book_lost : RowT) (p1 : Int32) (p2 : Int32) (Post : Int32 → Prop) : Prop := wp_X1_hasLeaf z_book_signs z_book_sizes p1 (fun r1 => ((r1 = 0 → Post (-1)) ∧ (¬ r1 = 0 → wp_X1_quireOf z_book_signs z_book_sizes p1 (fun r2 => wp_X1_numberOf z_book_signs z_book_sizes p1 (fun r3 => ((p2 = 0 → Post r2) ∧ (¬ p2 = 0 → ((p2 = 1 → Post r3) ∧ (¬ p2 = 1 → ((p2 = 2 → wp_X1_signedIn z_book_signing z_book_sizes r2 (fun r4 => ((r4 < r3 → Post 0) ∧ (¬ r4 < r3 → Post 1)))) ∧ (¬ p2 = 2 → ((p2 = 3 → wp_X8_leafHangingWith z_book_signs z_book_sizes p1 (fun r5 => Post r5)) ∧ (¬ p2 = 3 → ((p2 = 4 → wp_X1_isLost z_book_signs z_book_sizes z_book_lost p1 (fun r6 => ((r6 = 0 → Post 0) ∧ (¬ r6 = 0 → Post 1)))) ∧ (¬ p2 = 4 → ((p2 = 5 → wp_X1_thereAhead z_book_signs z_book_sizes z_book_lost p1 (fun r7 => Post r7)) ∧ (¬ p2 = 5 → Post (-2))))))))))))))))))
def wp_X8_find (z_book_signs : RowT) (z_book_sizes : RowT) (z_text_characters : RowT) (z_text_firstSigns : RowT) (z_text_lastSigns : RowT) (z_text_numbers : RowT) (z_text_at : Int32) (z_text_allLetters_out : Int32) (Post : Int32 → RowT → RowT → RowT → Int32 → Prop) : Prop := wp_X6_readAsPile z_text_characters z_text_firstSigns z_text_lastSigns z_text_numbers z_text_at z_text_allLetters_out (fun r1 u2 u3 u4 u5 => ((r1 = (-1) → wp_X6_entries u4 (fun r6 => ((r6 = 1 → wp_X6_firstSign u2 0 (fun r7 => wp_X6_number u4 0 (fun r8 => wp_X1_leafSigned z_book_signs z_book_sizes r7 r8 (fun r9 => ((r9 = (-1) → Post (-5) u2 u3 u4 u5) ∧ (¬ r9 = (-1) → Post r9 u2 u3 u4 u5)))))) ∧ (¬ r6 = 1 → Post (-2) u2 u3 u4 u5)))) ∧ (¬ r1 = (-1) → Post ((-100) - r1) u2 u3 u4 u5)))
def wp_X8_lapse (z_book_alphabet_out : Int32) (z_book_signs : RowT) (p1 : Int32) (p2 : Int32) (Post : Int32 → Prop) : Prop := (p1 < 0 → Post (-2)) ∧ (¬ p1 < 0 → ((p2 < 0 → Post (-2)) ∧ (¬ p2 < 0 → ((p2 ≤ 2 → wp_X3_quireAt z_book_alphabet_out z_book_signs p1 (fun r1 => ((r1 = (-1) → Post (-5)) ∧ (¬ r1 = (-1) → ((p2 = 0 → Post r1) ∧ (¬ p2 = 0 → ((p2 = 1 → wp_X3_kind z_book_alphabet_out z_book_signs r1 (fun r2 => Post r2)) ∧ (¬ p2 = 1 → wp_X3_width z_book_alphabet_out z_book_signs r1 (fun r3 => Post r3))))))))) ∧ (¬ p2 ≤ 2 → Post (-2))))))
def wp_X8_piled (z_book_signs : RowT) (z_book_sizes : RowT) (z_book_lost : RowT) (z_book_pile : RowT) (p1 : Int32) (p2 : Int32) (Post : Int32 → Prop) : Prop := (p1 < 0 → Post (-2)) ∧ (¬ p1 < 0 → ((p2 < 0 → Post (-2)) ∧ (¬ p2 < 0 → ((p2 ≤ 1 → wp_X4_length z_book_pile (fun r1 => ((p1 < r1 → wp_X4_at z_book_pile p1 (fun r2 => ((p2 = 0 → Post r2) ∧ (¬ p2 = 0 → wp_X4_length z_book_pile (fun r3 => ((p1 = (r3 - 1) → Post (-5)) ∧ (¬ p1 = (r3 - 1) → wp_X4_at z_book_pile (p1 + 1) (fun r4 => wp_X1_thereAhead z_book_signs z_book_sizes z_book_lost r4 (fun r5 => wp_X1_thereAhead z_book_signs z_book_sizes z_book_lost (r2 + 1) (fun r6 => Post (r5 - r6))))))))))) ∧ (¬ p1 < r1 → Post (-5))))) ∧ (¬ p2 ≤ 1 → Post (-2))))))
def wl_X8_sheets_29 (z_book_signs : RowT) (z_book_sizes : RowT) (p1 : Int32) (Post : Int32 → Prop) : Nat → Int32 → Int32 → Prop
  | 0, _, _ => False
  | n + 1, v2, v3 => wp_X1_quires z_book_signs (fun r1 => ((r1 ≤ v3 → Post v2) ∧ (¬ r1 ≤ v3 → wp_X4_at z_book_sizes v3 (fun r2 => ((¬ p1 = 0) ∧ (∀ y3 : Int32, y3 = v2 + (((r2 + p1) - 1) / p1) → wl_X8_sheets_29 z_book_signs z_book_sizes p1 Post n y3 (v3 + 1)))))))
def wp_X8_sheets (z_book_signs : RowT) (z_book_sizes : RowT) (p1 : Int32) (Post : Int32 → Prop) : Prop := (p1 = 2 → (∃ k, wl_X8_sheets_29 z_book_signs z_book_sizes p1 Post k 0 0)) ∧ (¬ p1 = 2 → ((p1 = 4 → (∃ k, wl_X8_sheets_29 z_book_signs z_book_sizes p1 Post k 0 0)) ∧ (¬ p1 = 4 → ((p1 = 8 → (∃ k, wl_X8_sheets_29 z_book_signs z_book_sizes p1 Post k 0 0)) ∧ (¬ p1 = 8 → ((p1 = 12 → (∃ k, wl_X8_sheets_29 z_book_signs z_book_sizes p1 Post k 0 0)) ∧ (¬ p1 = 12 → Post (-2))))))))
def wp_X8_formula (z_book_alphabet_out : Int32) (z_book_signs : RowT) (z_book_sizes : RowT) (z_writer_characters : RowT) (z_writer_entries : Int32) (p1 : Int32) (Post : Int32 → RowT → Int32 → Prop) : Prop := (0 ≤ p1 → wp_X7_write z_writer_characters z_writer_entries z_book_alphabet_out z_book_signs z_book_sizes (fun u1 u2 => wp_X7_length u1 (fun r3 => ((r3 ≤ p1 → Post (-5) u1 u2) ∧ (¬ r3 ≤ p1 → wp_X7_characterAt u1 p1 (fun r4 => Post r4 u1 u2)))))) ∧ (¬ 0 ≤ p1 → Post (-2) z_writer_characters z_writer_entries)
def wp_X8_count (z_book_alphabet_out : Int32) (z_book_signing : Int32) (z_book_signs : RowT) (z_book_sizes : RowT) (z_book_lost : RowT) (z_book_pile : RowT) (z_history : HistT) (z_text_characters : RowT) (z_writer_characters : RowT) (z_writer_entries : Int32) (p1 : Int32) (Post : Int32 → RowT → Int32 → Prop) : Prop := (p1 = 0 → wp_X1_quires z_book_signs (fun r1 => Post r1 z_writer_characters z_writer_entries)) ∧ (¬ p1 = 0 → ((p1 = 1 → wp_X1_leaves z_book_signs z_book_sizes (fun r2 => Post r2 z_writer_characters z_writer_entries)) ∧ (¬ p1 = 1 → ((p1 = 2 → wp_X1_leaves z_book_signs z_book_sizes (fun r3 => wp_X1_leavesThere z_book_signs z_book_sizes z_book_lost (fun r4 => Post (r3 - r4) z_writer_characters z_writer_entries))) ∧ (¬ p1 = 2 → ((p1 = 3 → wp_X1_signedLeaves z_book_signing z_book_signs z_book_sizes (fun r5 => Post r5 z_writer_characters z_writer_entries)) ∧ (¬ p1 = 3 → ((p1 = 4 → wp_X0_letters z_book_alphabet_out (fun r6 => Post r6 z_writer_characters z_writer_entries)) ∧ (¬ p1 = 4 → ((p1 = 5 → wp_X1_starredQuires z_book_signs (fun r7 => Post r7 z_writer_characters z_writer_entries)) ∧ (¬ p1 = 5 → ((p1 = 6 → wp_X3_number z_book_alphabet_out z_book_signs (fun r8 => Post r8 z_writer_characters z_writer_entries)) ∧ (¬ p1 = 6 → ((p1 = 7 → wp_X7_write z_writer_characters z_writer_entries z_book_alphabet_out z_book_signs z_book_sizes (fun u9 u10 => wp_X7_length u9 (fun r11 => Post r11 u9 u10))) ∧ (¬ p1 = 7 → ((p1 = 8 → wp_X7_write z_writer_characters z_writer_entries z_book_alphabet_out z_book_signs z_book_sizes (fun u12 u13 => wp_X7_entries u13 (fun r14 => Post r14 u12 u13))) ∧ (¬ p1 = 8 → ((p1 = 9 → wp_X4_length z_book_pile (fun r15 => Post r15 z_writer_characters z_writer_entries)) ∧ (¬ p1 = 9 → ((p1 = 10 → Post z_book_signing z_writer_characters z_writer_entries) ∧ (¬ p1 = 10 → ((p1 = 11 → wp_X2_states z_history (fun r16 => Post r16 z_writer_characters z_writer_entries)) ∧ (¬ p1 = 11 → ((p1 = 12 → wp_X6_length z_text_characters (fun r17 => Post r17 z_writer_characters z_writer_entries)) ∧ (¬ p1 = 12 → Post (-2) z_writer_characters z_writer_entries)))))))))))))))))))))))))
def wp_X9_in (p1 : Int32) (p2 : Int32) (p3 : Int32) (Post : Int32 → Prop) : Prop := (p1 < p2 → Post 0) ∧ (¬ p1 < p2 → ((p3 < p1 → Post 0) ∧ (¬ p3 < p1 → Post 1)))
def wl_X9_copies_2 (p1 : Int32) (p2 : Int32) (Post : (Nat → Int32) → Prop) : Nat → (Nat → Int32) → Int32 → Prop
  | 0, _, _ => False
  | n + 1, z_s, v3 => (176 ≤ v3 → Post z_s) ∧ (¬ 176 ≤ v3 → (vp_in ((176 * p1) + v3) 1056 ∧ (vp_in ((176 * p2) + v3) 1056 ∧ wl_X9_copies_2 p1 p2 Post n (upd z_s ((176 * p2) + v3).toNatClampNeg (z_s ((176 * p1) + v3).toNatClampNeg)) (v3 + 1))))
def wp_X9_copies (z_s : Nat → Int32) (p1 : Int32) (p2 : Int32) (Post : (Nat → Int32) → Prop) : Prop := ∃ k, wl_X9_copies_2 p1 p2 Post k z_s 0
def wj_X9_records_39 (z_s : Nat → Int32) (z_states : Int32) (Post : (Nat → Int32) → Int32 → Prop) : Prop := wp_X9_copies z_s 0 (z_states + 1) (fun u1 => Post u1 (z_states + 1))
def wl_X9_records_10 (z_states : Int32) (Post : (Nat → Int32) → Int32 → Prop) : Nat → (Nat → Int32) → Int32 → Prop
  | 0, _, _ => False
  | n + 1, z_s, v1 => (4 ≤ v1 → wj_X9_records_39 z_s (z_states - 1) Post) ∧ (¬ 4 ≤ v1 → wp_X9_copies z_s (v1 + 1) v1 (fun u2 => wl_X9_records_10 z_states Post n u2 (v1 + 1)))
def wp_X9_records (z_s : Nat → Int32) (z_states : Int32) (Post : (Nat → Int32) → Int32 → Prop) : Prop := (z_states = 4 → (∃ k, wl_X9_records_10 z_states Post k z_s 1)) ∧ (¬ z_states = 4 → wj_X9_records_39 z_s z_states Post)
def wp_X9_isOut (z_s : Nat → Int32) (p1 : Int32) (Post : Int32 → Prop) : Prop := vp_in 0 1056 ∧ (((((z_s (0 : Int32).toNatClampNeg) >>> (p1 &&& 31)) &&& 1) = 1 → Post 1) ∧ (¬ (((z_s (0 : Int32).toNatClampNeg) >>> (p1 &&& 31)) &&& 1) = 1 → Post 0))
def wl_X9_letters_4 (z_s : Nat → Int32) (Post : Int32 → Prop) : Nat → Int32 → Int32 → Prop
  | 0, _, _ => False
  | n + 1, v1, v2 => (26 ≤ v2 → Post v1) ∧ (¬ 26 ≤ v2 → wp_X9_isOut z_s v2 (fun r1 => ((r1 = 0 → (∀ y2 : Int32, y2 = v1 + 1 → wl_X9_letters_4 z_s Post n y2 (v2 + 1))) ∧ (¬ r1 = 0 → (∀ y3 : Int32, y3 = v1 + 0 → wl_X9_letters_4 z_s Post n y3 (v2 + 1))))))
def wp_X9_letters (z_s : Nat → Int32) (Post : Int32 → Prop) : Prop := ∃ k, wl_X9_letters_4 z_s Post k 0 0
def wj_X9_next_27 (z_s : Nat → Int32) (v2 : Int32) (Post : Int32 → Prop) : Prop := (78 ≤ v2 → Post (-1)) ∧ (¬ 78 ≤ v2 → Post v2)
def wl_X9_next_4 (z_s : Nat → Int32) (Post : Int32 → Prop) : Nat → Int32 → Prop
  | 0, _ => False
  | n + 1, v2 => (78 ≤ v2 → wj_X9_next_27 z_s v2 Post) ∧ (¬ 78 ≤ v2 → wp_X9_isOut z_s (v2 - v2 / 26 * 26) (fun r1 => ((r1 = 0 → wj_X9_next_27 z_s v2 Post) ∧ (¬ r1 = 0 → wl_X9_next_4 z_s Post n (v2 + 1)))))
def wp_X9_next (z_s : Nat → Int32) (p1 : Int32) (Post : Int32 → Prop) : Prop := ∀ y2 : Int32, y2 = p1 + 1 → (∃ k, wl_X9_next_4 z_s Post k y2)
def wp_X9_of (p1 : Int32) (p2 : Int32) (Post : Int32 → Prop) : Prop := Post ((3 + (4 * p1)) + p2)
def wp_X9_isStarred (z_s : Nat → Int32) (p1 : Int32) (Post : Int32 → Prop) : Prop := wp_X9_of p1 1 (fun r1 => (vp_in r1 1056 ∧ ((0 ≤ (z_s r1.toNatClampNeg) → Post 0) ∧ (¬ 0 ≤ (z_s r1.toNatClampNeg) → Post 1))))
def wp_X9_sign (z_s : Nat → Int32) (p1 : Int32) (Post : Int32 → Prop) : Prop := wp_X9_of p1 0 (fun r1 => (vp_in r1 1056 ∧ wp_X9_of p1 1 (fun r2 => (vp_in r2 1056 ∧ Post ((26 * ((z_s r1.toNatClampNeg) - 1)) + (z_s r2.toNatClampNeg))))))
def wp_X9_areSame (z_s : Nat → Int32) (p1 : Int32) (p2 : Int32) (Post : Int32 → Prop) : Prop := wp_X9_of p1 0 (fun r1 => (vp_in r1 1056 ∧ wp_X9_of p2 0 (fun r2 => (vp_in r2 1056 ∧ (((z_s r1.toNatClampNeg) = (z_s r2.toNatClampNeg) → wp_X9_of p1 1 (fun r3 => (vp_in r3 1056 ∧ wp_X9_of p2 1 (fun r4 => (vp_in r4 1056 ∧ (((z_s r3.toNatClampNeg) = (z_s r4.toNatClampNeg) → Post 1) ∧ (¬ (z_s r3.toNatClampNeg) = (z_s r4.toNatClampNeg) → Post 0))))))) ∧ (¬ (z_s r1.toNatClampNeg) = (z_s r2.toNatClampNeg) → Post 0))))))
def wp_X9_isQuire (z_s : Nat → Int32) (p1 : Int32) (Post : Int32 → Prop) : Prop := vp_in 2 1056 ∧ wp_X9_in p1 0 ((z_s (2 : Int32).toNatClampNeg) - 1) (fun r1 => ((r1 = 0 ∨ r1 = 1) ∧ Post r1))
def wl_X9_leaves_4 (z_s : Nat → Int32) (Post : Int32 → Prop) : Nat → Int32 → Int32 → Prop
  | 0, _, _ => False
  | n + 1, v1, v2 => vp_in 2 1056 ∧ (((z_s (2 : Int32).toNatClampNeg) ≤ v2 → Post v1) ∧ (¬ (z_s (2 : Int32).toNatClampNeg) ≤ v2 → wp_X9_of v2 2 (fun r1 => (vp_in r1 1056 ∧ (∀ y2 : Int32, y2 = v1 + (z_s r1.toNatClampNeg) → wl_X9_leaves_4 z_s Post n y2 (v2 + 1))))))
def wp_X9_leaves (z_s : Nat → Int32) (Post : Int32 → Prop) : Prop := ∃ k, wl_X9_leaves_4 z_s Post k 0 0
def wl_X9_first_4 (z_s : Nat → Int32) (p1 : Int32) (Post : Int32 → Prop) : Nat → Int32 → Int32 → Prop
  | 0, _, _ => False
  | n + 1, v2, v3 => (p1 ≤ v3 → Post v2) ∧ (¬ p1 ≤ v3 → wp_X9_of v3 2 (fun r1 => (vp_in r1 1056 ∧ (∀ y2 : Int32, y2 = v2 + (z_s r1.toNatClampNeg) → wl_X9_first_4 z_s p1 Post n y2 (v3 + 1)))))
def wp_X9_first (z_s : Nat → Int32) (p1 : Int32) (Post : Int32 → Prop) : Prop := ∃ k, wl_X9_first_4 z_s p1 Post k 0 0
def wp_X9_signed (z_s : Nat → Int32) (p1 : Int32) (Post : Int32 → Prop) : Prop := wp_X9_of p1 2 (fun r1 => (vp_in r1 1056 ∧ (∀ y2 : Int32, y2 = z_s r1.toNatClampNeg → (∀ y3 : Int32, y3 = (y2 + 1) / 2 → (vp_in 1 1056 ∧ (((z_s (1 : Int32).toNatClampNeg) = 2 → Post y2) ∧ (¬ (z_s (1 : Int32).toNatClampNeg) = 2 → ((y3 = y2 → Post y2) ∧ (¬ y3 = y2 → (vp_in 1 1056 ∧ (((z_s (1 : Int32).toNatClampNeg) = 1 → Post (y3 + 1)) ∧ (¬ (z_s (1 : Int32).toNatClampNeg) = 1 → Post y3))))))))))))
def wl_X9_signedOfAll_4 (z_s : Nat → Int32) (Post : Int32 → Prop) : Nat → Int32 → Int32 → Prop
  | 0, _, _ => False
  | n + 1, v1, v2 => vp_in 2 1056 ∧ (((z_s (2 : Int32).toNatClampNeg) ≤ v2 → Post v1) ∧ (¬ (z_s (2 : Int32).toNatClampNeg) ≤ v2 → wp_X9_signed z_s v2 (fun r1 => (∀ y2 : Int32, y2 = v1 + r1 → wl_X9_signedOfAll_4 z_s Post n y2 (v2 + 1)))))
def wp_X9_signedOfAll (z_s : Nat → Int32) (Post : Int32 → Prop) : Prop := ∃ k, wl_X9_signedOfAll_4 z_s Post k 0 0
def wp_X9_isLeaf (z_s : Nat → Int32) (p1 : Int32) (Post : Int32 → Prop) : Prop := wp_X9_leaves z_s (fun r1 => wp_X9_in p1 0 (r1 - 1) (fun r2 => ((r2 = 0 ∨ r2 = 1) ∧ Post r2)))
def wl_X9_quireOf_2 (z_s : Nat → Int32) (p1 : Int32) (Post : Int32 → Prop) : Nat → Int32 → Prop
  | 0, _ => False
  | n + 1, v2 => wp_X9_first z_s v2 (fun r1 => wp_X9_of v2 2 (fun r2 => (vp_in r2 1056 ∧ ((p1 < (r1 + (z_s r2.toNatClampNeg)) → Post v2) ∧ (¬ p1 < (r1 + (z_s r2.toNatClampNeg)) → wl_X9_quireOf_2 z_s p1 Post n (v2 + 1))))))
def wp_X9_quireOf (z_s : Nat → Int32) (p1 : Int32) (Post : Int32 → Prop) : Prop := ∃ k, wl_X9_quireOf_2 z_s p1 Post k 0
def wp_X9_isLost (z_s : Nat → Int32) (p1 : Int32) (Post : Int32 → Prop) : Prop := wp_X9_quireOf z_s p1 (fun r1 => wp_X9_of r1 3 (fun r2 => (vp_in r2 1056 ∧ wp_X9_first z_s r1 (fun r3 => (((((z_s r2.toNatClampNeg) >>> ((p1 - r3) &&& 31)) &&& 1) = 1 → Post 1) ∧ (¬ (((z_s r2.toNatClampNeg) >>> ((p1 - r3) &&& 31)) &&& 1) = 1 → Post 0))))))
def wl_X9_there_13 (z_s : Nat → Int32) (p1 : Int32) (Post : Int32 → Prop) : Nat → Int32 → Int32 → Prop
  | 0, _, _ => False
  | n + 1, v2, v3 => (24 ≤ v3 → Post v2) ∧ (¬ 24 ≤ v3 → wp_X9_of p1 3 (fun r1 => (vp_in r1 1056 ∧ (∀ y2 : Int32, y2 = v2 - (((z_s r1.toNatClampNeg) >>> (v3 &&& 31)) &&& 1) → wl_X9_there_13 z_s p1 Post n y2 (v3 + 1)))))
def wp_X9_there (z_s : Nat → Int32) (p1 : Int32) (Post : Int32 → Prop) : Prop := wp_X9_of p1 2 (fun r3 => (vp_in r3 1056 ∧ (∀ y4 : Int32, y4 = z_s r3.toNatClampNeg → (∃ k, wl_X9_there_13 z_s p1 Post k y4 0))))
def wl_X9_thereOfAll_4 (z_s : Nat → Int32) (Post : Int32 → Prop) : Nat → Int32 → Int32 → Prop
  | 0, _, _ => False
  | n + 1, v1, v2 => vp_in 2 1056 ∧ (((z_s (2 : Int32).toNatClampNeg) ≤ v2 → Post v1) ∧ (¬ (z_s (2 : Int32).toNatClampNeg) ≤ v2 → wp_X9_there z_s v2 (fun r1 => (∀ y2 : Int32, y2 = v1 + r1 → wl_X9_thereOfAll_4 z_s Post n y2 (v2 + 1)))))
def wp_X9_thereOfAll (z_s : Nat → Int32) (Post : Int32 → Prop) : Prop := ∃ k, wl_X9_thereOfAll_4 z_s Post k 0 0
def wl_X9_puts_19 (p1 : Int32) (p2 : Int32) (p3 : Int32) (p4 : Int32) (v5 : Int32) (K10 : (Nat → Int32) → Int32 → Prop) (Post : (Nat → Int32) → Prop) : Nat → (Nat → Int32) → Int32 → Prop
  | 0, _, _ => False
  | n + 1, z_s, v6 => (4 ≤ v6 → K10 z_s (v5 + (-1))) ∧ (¬ 4 ≤ v6 → wp_X9_of (v5 + 1) v6 (fun r1 => wp_X9_of v5 v6 (fun r2 => (vp_in r2 1056 ∧ (vp_in r1 1056 ∧ wl_X9_puts_19 p1 p2 p3 p4 v5 K10 Post n (upd z_s r1.toNatClampNeg (z_s r2.toNatClampNeg)) (v6 + 1))))))
def wl_X9_puts_10 (p1 : Int32) (p2 : Int32) (p3 : Int32) (p4 : Int32) (Post : (Nat → Int32) → Prop) : Nat → (Nat → Int32) → Int32 → Prop
  | 0, _, _ => False
  | n + 1, z_s, v5 => (v5 < p1 → wp_X9_of p1 0 (fun r3 => (vp_in r3 1056 ∧ wp_X9_of p1 1 (fun r4 => (vp_in r4 1056 ∧ wp_X9_of p1 2 (fun r5 => (vp_in r5 1056 ∧ wp_X9_of p1 3 (fun r6 => (vp_in r6 1056 ∧ (vp_in 2 1056 ∧ (vp_in 2 1056 ∧ (vp_in 163 1056 ∧ Post (upd (upd (upd (upd (upd (upd z_s r3.toNatClampNeg p2) r4.toNatClampNeg p3) r5.toNatClampNeg p4) r6.toNatClampNeg 0) (2 : Int32).toNatClampNeg (((upd (upd (upd (upd z_s r3.toNatClampNeg p2) r4.toNatClampNeg p3) r5.toNatClampNeg p4) r6.toNatClampNeg 0) (2 : Int32).toNatClampNeg) + 1)) (163 : Int32).toNatClampNeg 0))))))))))))) ∧ (¬ v5 < p1 → (∃ k, wl_X9_puts_19 p1 p2 p3 p4 v5 (fun x0 x1 => wl_X9_puts_10 p1 p2 p3 p4 Post n x0 x1) Post k z_s 0))
def wp_X9_puts (z_s : Nat → Int32) (p1 : Int32) (p2 : Int32) (p3 : Int32) (p4 : Int32) (Post : (Nat → Int32) → Prop) : Prop := vp_in 2 1056 ∧ (∀ y7 : Int32, y7 = (z_s (2 : Int32).toNatClampNeg) - 1 → (∃ k, wl_X9_puts_10 p1 p2 p3 p4 Post k z_s y7))
def wj_X9_leaveOut_43 (z_s : Nat → Int32) (z_states : Int32) (p1 : Int32) (Post : Int32 → (Nat → Int32) → Int32 → Prop) : Prop := wp_X9_records z_s z_states (fun u1 u2 => (vp_in 0 1056 ∧ (vp_in 0 1056 ∧ wp_X9_letters (upd u1 (0 : Int32).toNatClampNeg ((u1 (0 : Int32).toNatClampNeg) ^^^ (1 <<< ((p1 - 65) &&& 31)))) (fun r3 => Post r3 (upd u1 (0 : Int32).toNatClampNeg ((u1 (0 : Int32).toNatClampNeg) ^^^ (1 <<< ((p1 - 65) &&& 31)))) u2))))
def wp_X9_leaveOut (z_s : Nat → Int32) (z_states : Int32) (p1 : Int32) (p2 : Int32) (Post : Int32 → (Nat → Int32) → Int32 → Prop) : Prop := wp_X9_in p1 65 90 (fun r4 => ((r4 = 0 → Post (-1) z_s z_states) ∧ (¬ r4 = 0 → wp_X9_isOut z_s (p1 - 65) (fun r5 => ((r5 = p2 → Post (-5) z_s z_states) ∧ (¬ r5 = p2 → ((p2 = 0 → wj_X9_leaveOut_43 z_s z_states p1 Post) ∧ (¬ p2 = 0 → wp_X9_letters z_s (fun r6 => ((r6 = 1 → Post (-4) z_s z_states) ∧ (¬ r6 = 1 → wj_X9_leaveOut_43 z_s z_states p1 Post)))))))))))
def wp_X9_setSigning (z_s : Nat → Int32) (z_states : Int32) (p1 : Int32) (Post : Int32 → (Nat → Int32) → Int32 → Prop) : Prop := wp_X9_in p1 0 2 (fun r1 => ((r1 = 0 → Post (-2) z_s z_states) ∧ (¬ r1 = 0 → (vp_in 1 1056 ∧ (((z_s (1 : Int32).toNatClampNeg) = p1 → Post (-5) z_s z_states) ∧ (¬ (z_s (1 : Int32).toNatClampNeg) = p1 → wp_X9_records z_s z_states (fun u2 u3 => (vp_in 1 1056 ∧ wp_X9_signedOfAll (upd u2 (1 : Int32).toNatClampNeg p1) (fun r4 => Post r4 (upd u2 (1 : Int32).toNatClampNeg p1) u3)))))))))
def wp_X9_isNext (z_text : Nat → Int32) (z_typed : Int32) (z_at : Int32) (z_isRight : Int32) (p1 : Int32) (p2 : Int32) (Post : Int32 → Prop) : Prop := (z_isRight = 0 → Post 0) ∧ (¬ z_isRight = 0 → ((z_typed ≤ z_at → Post 0) ∧ (¬ z_typed ≤ z_at → (vp_in z_at 60 ∧ wp_X9_in (z_text z_at.toNatClampNeg) p1 p2 (fun r1 => ((r1 = 0 → Post 0) ∧ (¬ r1 = 0 → Post 1)))))))
def wl_X9_reads_21 (z_s : Nat → Int32) (z_text : Nat → Int32) (z_typed : Int32) (z_isRight : Int32) (z_letter : Int32) (Post : Int32 → Int32 → Int32 → Int32 → Prop) : Nat → Int32 → Int32 → Prop
  | 0, _, _ => False
  | n + 1, z_at, z_times => (5 ≤ z_times → Post z_at z_isRight z_times z_letter) ∧ (¬ 5 ≤ z_times → wp_X9_isNext z_text z_typed z_at z_isRight 42 42 (fun r1 => ((r1 = 0 → Post z_at z_isRight z_times z_letter) ∧ (¬ r1 = 0 → wl_X9_reads_21 z_s z_text z_typed z_isRight z_letter Post n (z_at + 1) (z_times + 1)))))
def wl_X9_reads_145 (z_s : Nat → Int32) (z_text : Nat → Int32) (z_typed : Int32) (z_isRight : Int32) (z_letter : Int32) (Post : Int32 → Int32 → Int32 → Int32 → Prop) : Nat → Int32 → Int32 → Prop
  | 0, _, _ => False
  | n + 1, z_at, z_times => (3 ≤ z_times → Post z_at z_isRight z_times z_letter) ∧ (¬ 3 ≤ z_times → wp_X9_isNext z_text z_typed z_at z_isRight (97 + z_letter) (97 + z_letter) (fun r2 => ((r2 = 0 → Post z_at z_isRight z_times z_letter) ∧ (¬ r2 = 0 → wl_X9_reads_145 z_s z_text z_typed z_isRight z_letter Post n (z_at + 1) (z_times + 1)))))
def wj_X9_reads_104 (z_s : Nat → Int32) (z_text : Nat → Int32) (z_typed : Int32) (z_at : Int32) (z_isRight : Int32) (z_times : Int32) (z_letter : Int32) (t1 : Int32) (Post : Int32 → Int32 → Int32 → Int32 → Prop) : Prop := (t1 = 0 ∨ t1 = 1) ∧ ((t1 = 0 → Post z_at t1 z_times z_letter) ∧ (¬ t1 = 0 → (vp_in z_at 60 ∧ (∃ k, wl_X9_reads_145 z_s z_text z_typed t1 ((z_text z_at.toNatClampNeg) - 65) Post k (z_at + 1) 1))))
def wj_X9_reads_99 (z_s : Nat → Int32) (z_text : Nat → Int32) (z_typed : Int32) (z_at : Int32) (z_isRight : Int32) (z_times : Int32) (z_letter : Int32) (Post : Int32 → Int32 → Int32 → Int32 → Prop) : Prop := wj_X9_reads_104 z_s z_text z_typed z_at z_isRight z_times z_letter 1 Post
def wj_X9_reads_103 (z_s : Nat → Int32) (z_text : Nat → Int32) (z_typed : Int32) (z_at : Int32) (z_isRight : Int32) (z_times : Int32) (z_letter : Int32) (Post : Int32 → Int32 → Int32 → Int32 → Prop) : Prop := wj_X9_reads_104 z_s z_text z_typed z_at z_isRight z_times z_letter 0 Post
def wp_X9_reads (z_s : Nat → Int32) (z_text : Nat → Int32) (z_typed : Int32) (z_at : Int32) (z_isRight : Int32) (z_times : Int32) (z_letter : Int32) (p1 : Int32) (Post : Int32 → Int32 → Int32 → Int32 → Prop) : Prop := wp_X9_isNext z_text z_typed z_at z_isRight 42 42 (fun r3 => ((r3 = 0 → wp_X9_isNext z_text z_typed z_at z_isRight 65 90 (fun r4 => ((r4 = 0 → wj_X9_reads_103 z_s z_text z_typed z_at z_isRight 0 (-1) Post) ∧ (¬ r4 = 0 → ((p1 = 0 → wj_X9_reads_99 z_s z_text z_typed z_at z_isRight 0 (-1) Post) ∧ (¬ p1 = 0 → (vp_in z_at 60 ∧ wp_X9_isOut z_s ((z_text z_at.toNatClampNeg) - 65) (fun r5 => ((r5 = 0 → wj_X9_reads_99 z_s z_text z_typed z_at z_isRight 0 (-1) Post) ∧ (¬ r5 = 0 → wj_X9_reads_103 z_s z_text z_typed z_at z_isRight 0 (-1) Post)))))))))) ∧ (¬ r3 = 0 → (∃ k, wl_X9_reads_21 z_s z_text z_typed z_isRight (-1) Post k z_at 0))))
def wj_X9_number_61 (z_text : Nat → Int32) (z_typed : Int32) (z_at : Int32) (z_isRight : Int32) (v1 : Int32) (t1 : Int32) (t2 : Int32) (Post : Int32 → Int32 → Int32 → Prop) : Prop := wp_X9_isNext z_text z_typed z_at z_isRight t1 t2 (fun r1 => ((r1 = 0 → Post v1 z_at z_isRight) ∧ (¬ r1 = 0 → (vp_in z_at 60 ∧ (∀ y2 : Int32, y2 = ((10 * v1) + (z_text z_at.toNatClampNeg)) - 48 → Post y2 (z_at + 1) z_isRight)))))
def wp_X9_number (z_text : Nat → Int32) (z_typed : Int32) (z_at : Int32) (z_isRight : Int32) (Post : Int32 → Int32 → Int32 → Prop) : Prop := wp_X9_isNext z_text z_typed z_at z_isRight 49 57 (fun r3 => ((r3 = 0 → Post 0 z_at 0) ∧ (¬ r3 = 0 → (vp_in z_at 60 ∧ (∀ y4 : Int32, y4 = (z_text z_at.toNatClampNeg) - 48 → ((3 ≤ y4 → Post y4 (z_at + 1) z_isRight) ∧ (¬ 3 ≤ y4 → ((y4 = 1 → wj_X9_number_61 z_text z_typed (z_at + 1) z_isRight y4 48 57 Post) ∧ (¬ y4 = 1 → wj_X9_number_61 z_text z_typed (z_at + 1) z_isRight y4 48 52 Post)))))))))
def wj_X9_item_199 (z_s : Nat → Int32) (z_text : Nat → Int32) (z_told : Nat → Int32) (z_typed : Int32) (z_at : Int32) (z_isRight : Int32) (z_times : Int32) (z_letter : Int32) (z_items : Int32) (t1 : Int32) (t2 : Int32) (Post : (Nat → Int32) → Int32 → Int32 → Int32 → Int32 → Int32 → Prop) : Prop := vp_in t1 160 ∧ Post (upd z_told t1.toNatClampNeg t2) z_at z_isRight z_times z_letter (z_items + 1)
def wj_X9_item_177 (z_s : Nat → Int32) (z_text : Nat → Int32) (z_told : Nat → Int32) (z_typed : Int32) (z_at : Int32) (z_isRight : Int32) (z_times : Int32) (z_letter : Int32) (z_items : Int32) (v2 : Int32) (Post : (Nat → Int32) → Int32 → Int32 → Int32 → Int32 → Int32 → Prop) : Prop := (z_isRight = 0 → wj_X9_item_199 z_s z_text z_told z_typed z_at z_isRight z_times z_letter z_items (v2 + 3) 0 Post) ∧ (¬ z_isRight = 0 → wp_X9_number z_text z_typed z_at z_isRight (fun r1 u2 u3 => wj_X9_item_199 z_s z_text z_told z_typed u2 u3 z_times z_letter z_items (v2 + 3) r1 Post))
def wj_X9_item_165 (z_s : Nat → Int32) (z_text : Nat → Int32) (z_told : Nat → Int32) (z_typed : Int32) (z_at : Int32) (z_isRight : Int32) (z_times : Int32) (z_letter : Int32) (z_items : Int32) (v2 : Int32) (Post : (Nat → Int32) → Int32 → Int32 → Int32 → Int32 → Int32 → Prop) : Prop := vp_in (v2 + 2) 160 ∧ wj_X9_item_177 z_s z_text (upd z_told (v2 + 2).toNatClampNeg z_letter) z_typed z_at z_isRight z_times z_letter z_items v2 Post
def wj_X9_item_150 (z_s : Nat → Int32) (z_text : Nat → Int32) (z_told : Nat → Int32) (z_typed : Int32) (z_at : Int32) (z_isRight : Int32) (z_times : Int32) (z_letter : Int32) (z_items : Int32) (v2 : Int32) (Post : (Nat → Int32) → Int32 → Int32 → Int32 → Int32 → Int32 → Prop) : Prop := wj_X9_item_165 z_s z_text z_told z_typed (z_at - 1) 0 z_times z_letter z_items v2 Post
def wj_X9_item_115 (z_s : Nat → Int32) (z_text : Nat → Int32) (z_told : Nat → Int32) (z_typed : Int32) (z_at : Int32) (z_isRight : Int32) (z_times : Int32) (z_letter : Int32) (z_items : Int32) (v2 : Int32) (Post : (Nat → Int32) → Int32 → Int32 → Int32 → Int32 → Int32 → Prop) : Prop := (z_isRight = 0 → wj_X9_item_165 z_s z_text z_told z_typed z_at z_isRight z_times z_letter z_items v2 Post) ∧ (¬ z_isRight = 0 → (vp_in v2 160 ∧ ((z_times = (z_told v2.toNatClampNeg) → (vp_in (v2 + 1) 160 ∧ (((z_told (v2 + 1).toNatClampNeg) ≤ z_letter → wj_X9_item_165 z_s z_text z_told z_typed z_at z_isRight z_times z_letter z_items v2 Post) ∧ (¬ (z_told (v2 + 1).toNatClampNeg) ≤ z_letter → wj_X9_item_150 z_s z_text z_told z_typed z_at z_isRight z_times z_letter z_items v2 Post)))) ∧ (¬ z_times = (z_told v2.toNatClampNeg) → wj_X9_item_150 z_s z_text z_told z_typed z_at z_isRight z_times z_letter z_items v2 Post))))
def wp_X9_item (z_s : Nat → Int32) (z_text : Nat → Int32) (z_told : Nat → Int32) (z_typed : Int32) (z_at : Int32) (z_isRight : Int32) (z_times : Int32) (z_letter : Int32) (z_items : Int32) (p1 : Int32) (Post : (Nat → Int32) → Int32 → Int32 → Int32 → Int32 → Int32 → Prop) : Prop := wp_X9_reads z_s z_text z_typed z_at z_isRight z_times z_letter p1 (fun u4 u5 u6 u7 => (∀ y8 : Int32, y8 = 4 * z_items → (vp_in y8 160 ∧ (vp_in (y8 + 1) 160 ∧ (vp_in (y8 + 2) 160 ∧ ((p1 = 0 → wj_X9_item_177 z_s z_text (upd (upd (upd z_told y8.toNatClampNeg u6) (y8 + 1).toNatClampNeg u7) (y8 + 2).toNatClampNeg u7) z_typed u4 u5 u6 u7 z_items y8 Post) ∧ (¬ p1 = 0 → ((u7 < 0 → wj_X9_item_177 z_s z_text (upd (upd (upd z_told y8.toNatClampNeg u6) (y8 + 1).toNatClampNeg u7) (y8 + 2).toNatClampNeg u7) z_typed u4 u5 u6 u7 z_items y8 Post) ∧ (¬ u7 < 0 → wp_X9_isNext z_text z_typed u4 u5 45 45 (fun r9 => ((r9 = 0 → wj_X9_item_177 z_s z_text (upd (upd (upd z_told y8.toNatClampNeg u6) (y8 + 1).toNatClampNeg u7) (y8 + 2).toNatClampNeg u7) z_typed u4 u5 u6 u7 z_items y8 Post) ∧ (¬ r9 = 0 → wp_X9_reads z_s z_text z_typed (u4 + 1) u5 u6 u7 1 (fun u10 u11 u12 u13 => ((u11 = 0 → wj_X9_item_115 z_s z_text (upd (upd (upd z_told y8.toNatClampNeg u6) (y8 + 1).toNatClampNeg u7) (y8 + 2).toNatClampNeg u7) z_typed u10 u11 u12 u13 z_items y8 Post) ∧ (¬ u11 = 0 → ((0 ≤ u13 → wj_X9_item_115 z_s z_text (upd (upd (upd z_told y8.toNatClampNeg u6) (y8 + 1).toNatClampNeg u7) (y8 + 2).toNatClampNeg u7) z_typed u10 u11 u12 u13 z_items y8 Post) ∧ (¬ 0 ≤ u13 → wj_X9_item_115 z_s z_text (upd (upd (upd z_told y8.toNatClampNeg u6) (y8 + 1).toNatClampNeg u7) (y8 + 2).toNatClampNeg u7) z_typed (u10 - u12) 0 u12 u13 z_items y8 Post)))))))))))))))))
def wj_X9_fault_74 (z_s : Nat → Int32) (z_text : Nat → Int32) (z_told : Nat → Int32) (z_typed : Int32) (z_at : Int32) (z_isRight : Int32) (z_times : Int32) (z_letter : Int32) (z_items : Int32) (p1 : Int32) (t1 : Int32) (K17 : (Nat → Int32) → Int32 → Int32 → Int32 → Int32 → Int32 → Int32 → Prop) (Post : Int32 → (Nat → Int32) → Int32 → Int32 → Int32 → Int32 → Int32 → Prop) : Prop := (t1 = 0 ∨ t1 = 1) ∧ ((t1 = 0 → K17 z_told (z_at + 0) t1 z_times z_letter z_items t1) ∧ (¬ t1 = 0 → K17 z_told (z_at + 1) t1 z_times z_letter z_items t1))
def wj_X9_fault_49 (z_s : Nat → Int32) (z_text : Nat → Int32) (z_told : Nat → Int32) (z_typed : Int32) (z_at : Int32) (z_isRight : Int32) (z_times : Int32) (z_letter : Int32) (z_items : Int32) (p1 : Int32) (t0 : Int32) (K17 : (Nat → Int32) → Int32 → Int32 → Int32 → Int32 → Int32 → Int32 → Prop) (Post : Int32 → (Nat → Int32) → Int32 → Int32 → Int32 → Int32 → Int32 → Prop) : Prop := (t0 = 0 → K17 z_told z_at z_isRight z_times z_letter z_items t0) ∧ (¬ t0 = 0 → (vp_in z_at 60 ∧ (((z_text z_at.toNatClampNeg) = 44 → wj_X9_fault_74 z_s z_text z_told z_typed z_at z_isRight z_times z_letter z_items p1 1 K17 Post) ∧ (¬ (z_text z_at.toNatClampNeg) = 44 → wj_X9_fault_74 z_s z_text z_told z_typed z_at z_isRight z_times z_letter z_items p1 0 K17 Post))))
def wj_X9_fault_48 (z_s : Nat → Int32) (z_text : Nat → Int32) (z_told : Nat → Int32) (z_typed : Int32) (z_at : Int32) (z_isRight : Int32) (z_times : Int32) (z_letter : Int32) (z_items : Int32) (p1 : Int32) (K17 : (Nat → Int32) → Int32 → Int32 → Int32 → Int32 → Int32 → Int32 → Prop) (Post : Int32 → (Nat → Int32) → Int32 → Int32 → Int32 → Int32 → Int32 → Prop) : Prop := wj_X9_fault_49 z_s z_text z_told z_typed z_at z_isRight z_times z_letter z_items p1 0 K17 Post
def wl_X9_fault_17 (z_s : Nat → Int32) (z_text : Nat → Int32) (z_typed : Int32) (p1 : Int32) (Post : Int32 → (Nat → Int32) → Int32 → Int32 → Int32 → Int32 → Int32 → Prop) : Nat → (Nat → Int32) → Int32 → Int32 → Int32 → Int32 → Int32 → Int32 → Prop
  | 0, _, _, _, _, _, _, _ => False
  | n + 1, z_told, z_at, z_isRight, z_times, z_letter, z_items, v2 => (v2 = 0 → ((z_isRight = 0 → Post z_at z_told z_at z_isRight z_times z_letter z_items) ∧ (¬ z_isRight = 0 → Post (-1) z_told z_at z_isRight z_times z_letter z_items))) ∧ (¬ v2 = 0 → wp_X9_item z_s z_text z_told z_typed z_at z_isRight z_times z_letter z_items p1 (fun u1 u2 u3 u4 u5 u6 => ((u3 = 0 → wj_X9_fault_48 z_s z_text u1 z_typed u2 u3 u4 u5 u6 p1 (fun x0 x1 x2 x3 x4 x5 x6 => wl_X9_fault_17 z_s z_text z_typed p1 Post n x0 x1 x2 x3 x4 x5 x6) Post) ∧ (¬ u3 = 0 → ((z_typed ≤ u2 → wj_X9_fault_48 z_s z_text u1 z_typed u2 u3 u4 u5 u6 p1 (fun x0 x1 x2 x3 x4 x5 x6 => wl_X9_fault_17 z_s z_text z_typed p1 Post n x0 x1 x2 x3 x4 x5 x6) Post) ∧ (¬ z_typed ≤ u2 → wj_X9_fault_49 z_s z_text u1 z_typed u2 u3 u4 u5 u6 p1 1 (fun x0 x1 x2 x3 x4 x5 x6 => wl_X9_fault_17 z_s z_text z_typed p1 Post n x0 x1 x2 x3 x4 x5 x6) Post))))))
def wp_X9_fault (z_s : Nat → Int32) (z_text : Nat → Int32) (z_told : Nat → Int32) (z_typed : Int32) (z_at : Int32) (z_isRight : Int32) (z_times : Int32) (z_letter : Int32) (z_items : Int32) (p1 : Int32) (Post : Int32 → (Nat → Int32) → Int32 → Int32 → Int32 → Int32 → Int32 → Prop) : Prop := ∃ k, wl_X9_fault_17 z_s z_text z_typed p1 Post k z_told 0 1 z_times z_letter 0 1
def wl_X9_readFormula_39 (z_s : Nat → Int32) (z_text : Nat → Int32) (z_told : Nat → Int32) (z_states : Int32) (z_typed : Int32) (z_at : Int32) (z_isRight : Int32) (z_times : Int32) (z_letter : Int32) (z_items : Int32) (v3 : Int32) (K19 : Int32 → Int32 → Prop) (Post : Int32 → (Nat → Int32) → (Nat → Int32) → Int32 → Int32 → Int32 → Int32 → Int32 → Int32 → Prop) : Nat → Int32 → Int32 → Prop
  | 0, _, _ => False
  | n + 1, v2, v4 => vp_in ((4 * v3) + 2) 160 ∧ (((z_told ((4 * v3) + 2).toNatClampNeg) < v4 → K19 v2 (v3 + 1)) ∧ (¬ (z_told ((4 * v3) + 2).toNatClampNeg) < v4 → ((v4 < 0 → (∀ y1 : Int32, y1 = v2 + 1 → wl_X9_readFormula_39 z_s z_text z_told z_states z_typed z_at z_isRight z_times z_letter z_items v3 K19 Post n y1 (v4 + 1))) ∧ (¬ v4 < 0 → wp_X9_isOut z_s v4 (fun r2 => ((r2 = 0 → (∀ y4 : Int32, y4 = v2 + 1 → wl_X9_readFormula_39 z_s z_text z_told z_states z_typed z_at z_isRight z_times z_letter z_items v3 K19 Post n y4 (v4 + 1))) ∧ (¬ r2 = 0 → (∀ y3 : Int32, y3 = v2 + 0 → wl_X9_readFormula_39 z_s z_text z_told z_states z_typed z_at z_isRight z_times z_letter z_items v3 K19 Post n y3 (v4 + 1)))))))))
def wj_X9_readFormula_159 (z_s : Nat → Int32) (z_text : Nat → Int32) (z_told : Nat → Int32) (z_states : Int32) (z_typed : Int32) (z_at : Int32) (z_isRight : Int32) (z_times : Int32) (z_letter : Int32) (z_items : Int32) (v3 : Int32) (v4 : Int32) (K110 : (Nat → Int32) → Int32 → Prop) (K130 : (Nat → Int32) → Int32 → Prop) (Post : Int32 → (Nat → Int32) → (Nat → Int32) → Int32 → Int32 → Int32 → Int32 → Int32 → Int32 → Prop) : Prop := vp_in 2 1056 ∧ (vp_in (4 * v3) 160 ∧ (vp_in ((4 * v3) + 3) 160 ∧ wp_X9_puts z_s (z_s (2 : Int32).toNatClampNeg) (z_told (4 * v3).toNatClampNeg) v4 (z_told ((4 * v3) + 3).toNatClampNeg) (fun u5 => K130 u5 (v4 + 1))))
def wl_X9_readFormula_130 (z_text : Nat → Int32) (z_told : Nat → Int32) (z_states : Int32) (z_typed : Int32) (z_at : Int32) (z_isRight : Int32) (z_times : Int32) (z_letter : Int32) (z_items : Int32) (v3 : Int32) (K110 : (Nat → Int32) → Int32 → Prop) (Post : Int32 → (Nat → Int32) → (Nat → Int32) → Int32 → Int32 → Int32 → Int32 → Int32 → Int32 → Prop) : Nat → (Nat → Int32) → Int32 → Prop
  | 0, _, _ => False
  | n + 1, z_s, v4 => vp_in ((4 * v3) + 2) 160 ∧ (((z_told ((4 * v3) + 2).toNatClampNeg) < v4 → K110 z_s (v3 + 1)) ∧ (¬ (z_told ((4 * v3) + 2).toNatClampNeg) < v4 → ((v4 < 0 → wj_X9_readFormula_159 z_s z_text z_told z_states z_typed z_at z_isRight z_times z_letter z_items v3 v4 K110 (fun x0 x1 => wl_X9_readFormula_130 z_text z_told z_states z_typed z_at z_isRight z_times z_letter z_items v3 K110 Post n x0 x1) Post) ∧ (¬ v4 < 0 → wp_X9_isOut z_s v4 (fun r6 => ((r6 = 0 → wj_X9_readFormula_159 z_s z_text z_told z_states z_typed z_at z_isRight z_times z_letter z_items v3 v4 K110 (fun x0 x1 => wl_X9_readFormula_130 z_text z_told z_states z_typed z_at z_isRight z_times z_letter z_items v3 K110 Post n x0 x1) Post) ∧ (¬ r6 = 0 → wl_X9_readFormula_130 z_text z_told z_states z_typed z_at z_isRight z_times z_letter z_items v3 K110 Post n z_s (v4 + 1))))))))
def wl_X9_readFormula_110 (z_text : Nat → Int32) (z_told : Nat → Int32) (z_states : Int32) (z_typed : Int32) (z_at : Int32) (z_isRight : Int32) (z_times : Int32) (z_letter : Int32) (z_items : Int32) (Post : Int32 → (Nat → Int32) → (Nat → Int32) → Int32 → Int32 → Int32 → Int32 → Int32 → Int32 → Prop) : Nat → (Nat → Int32) → Int32 → Prop
  | 0, _, _ => False
  | n + 1, z_s, v3 => (z_items ≤ v3 → (vp_in 2 1056 ∧ Post (z_s (2 : Int32).toNatClampNeg) z_s z_told z_states z_at z_isRight z_times z_letter z_items)) ∧ (¬ z_items ≤ v3 → (vp_in ((4 * v3) + 1) 160 ∧ (∀ y7 : Int32, y7 = z_told ((4 * v3) + 1).toNatClampNeg → (∃ k, wl_X9_readFormula_130 z_text z_told z_states z_typed z_at z_isRight z_times z_letter z_items v3 (fun x0 x1 => wl_X9_readFormula_110 z_text z_told z_states z_typed z_at z_isRight z_times z_letter z_items Post n x0 x1) Post k z_s y7))))
def wl_X9_readFormula_19 (z_s : Nat → Int32) (z_text : Nat → Int32) (z_told : Nat → Int32) (z_states : Int32) (z_typed : Int32) (z_at : Int32) (z_isRight : Int32) (z_times : Int32) (z_letter : Int32) (z_items : Int32) (Post : Int32 → (Nat → Int32) → (Nat → Int32) → Int32 → Int32 → Int32 → Int32 → Int32 → Int32 → Prop) : Nat → Int32 → Int32 → Prop
  | 0, _, _ => False
  | n + 1, v2, v3 => (z_items ≤ v3 → (vp_in 2 1056 ∧ ((v2 ≤ (40 - (z_s (2 : Int32).toNatClampNeg)) → wp_X9_records z_s z_states (fun u8 u9 => (∃ k, wl_X9_readFormula_110 z_text z_told u9 z_typed z_at z_isRight z_times z_letter z_items Post k u8 0))) ∧ (¬ v2 ≤ (40 - (z_s (2 : Int32).toNatClampNeg)) → Post (-3) z_s z_told z_states z_at z_isRight z_times z_letter z_items)))) ∧ (¬ z_items ≤ v3 → (vp_in ((4 * v3) + 1) 160 ∧ (∀ y10 : Int32, y10 = z_told ((4 * v3) + 1).toNatClampNeg → (∃ k, wl_X9_readFormula_39 z_s z_text z_told z_states z_typed z_at z_isRight z_times z_letter z_items v3 (fun x0 x1 => wl_X9_readFormula_19 z_s z_text z_told z_states z_typed z_at z_isRight z_times z_letter z_items Post n x0 x1) Post k v2 y10))))
def wp_X9_readFormula (z_s : Nat → Int32) (z_text : Nat → Int32) (z_told : Nat → Int32) (z_states : Int32) (z_typed : Int32) (z_at : Int32) (z_isRight : Int32) (z_times : Int32) (z_letter : Int32) (z_items : Int32) (Post : Int32 → (Nat → Int32) → (Nat → Int32) → Int32 → Int32 → Int32 → Int32 → Int32 → Int32 → Prop) : Prop := wp_X9_fault z_s z_text z_told z_typed z_at z_isRight z_times z_letter z_items 1 (fun r11 u12 u13 u14 u15 u16 u17 => ((r11 < 0 → (∃ k, wl_X9_readFormula_19 z_s z_text u12 z_states z_typed u13 u14 u15 u16 u17 Post k 0 0)) ∧ (¬ r11 < 0 → Post ((-100) - r11) z_s u12 z_states u13 u14 u15 u16 u17)))
def wl_X9_signNext_31 (z_s : Nat → Int32) (z_states : Int32) (p1 : Int32) (Post : Int32 → (Nat → Int32) → Int32 → Prop) : Nat → Int32 → Int32 → Prop
  | 0, _, _ => False
  | n + 1, v2, v3 => vp_in 2 1056 ∧ (((z_s (2 : Int32).toNatClampNeg) ≤ v3 → wp_X9_next z_s v2 (fun r1 => ((0 ≤ r1 → wp_X9_records z_s z_states (fun u2 u3 => (vp_in 2 1056 ∧ wp_X9_puts u2 (u2 (2 : Int32).toNatClampNeg) ((r1 / 26) + 1) (r1 - r1 / 26 * 26) p1 (fun u4 => (vp_in 2 1056 ∧ Post ((u4 (2 : Int32).toNatClampNeg) - 1) u4 u3))))) ∧ (¬ 0 ≤ r1 → Post (-4) z_s z_states)))) ∧ (¬ (z_s (2 : Int32).toNatClampNeg) ≤ v3 → wp_X9_isStarred z_s v3 (fun r5 => ((r5 = 0 → wp_X9_sign z_s v3 (fun r6 => wl_X9_signNext_31 z_s z_states p1 Post n r6 (v3 + 1))) ∧ (¬ r5 = 0 → wl_X9_signNext_31 z_s z_states p1 Post n v2 (v3 + 1))))))
def wp_X9_signNext (z_s : Nat → Int32) (z_states : Int32) (p1 : Int32) (Post : Int32 → (Nat → Int32) → Int32 → Prop) : Prop := wp_X9_in p1 1 24 (fun r7 => ((r7 = 0 → Post (-2) z_s z_states) ∧ (¬ r7 = 0 → (vp_in 2 1056 ∧ (((z_s (2 : Int32).toNatClampNeg) = 40 → Post (-3) z_s z_states) ∧ (¬ (z_s (2 : Int32).toNatClampNeg) = 40 → (∃ k, wl_X9_signNext_31 z_s z_states p1 Post k (-1) 0)))))))
def wp_X9_insert (z_s : Nat → Int32) (z_states : Int32) (p1 : Int32) (p2 : Int32) (p3 : Int32) (Post : Int32 → (Nat → Int32) → Int32 → Prop) : Prop := vp_in 2 1056 ∧ wp_X9_in p1 0 (z_s (2 : Int32).toNatClampNeg) (fun r1 => ((r1 = 0 → Post (-1) z_s z_states) ∧ (¬ r1 = 0 → wp_X9_in p2 1 5 (fun r2 => ((r2 = 0 → Post (-2) z_s z_states) ∧ (¬ r2 = 0 → wp_X9_in p3 1 24 (fun r3 => ((r3 = 0 → Post (-2) z_s z_states) ∧ (¬ r3 = 0 → (vp_in 2 1056 ∧ (((z_s (2 : Int32).toNatClampNeg) = 40 → Post (-3) z_s z_states) ∧ (¬ (z_s (2 : Int32).toNatClampNeg) = 40 → wp_X9_records z_s z_states (fun u4 u5 => wp_X9_puts u4 p1 p2 (-1) p3 (fun u6 => wp_X9_leaves u6 (fun r7 => Post r7 u6 u5)))))))))))))))
def wl_X9_remove_30 (z_states : Int32) (v2 : Int32) (K16 : (Nat → Int32) → Int32 → Prop) (Post : Int32 → (Nat → Int32) → Int32 → Prop) : Nat → (Nat → Int32) → Int32 → Prop
  | 0, _, _ => False
  | n + 1, z_s, v3 => (4 ≤ v3 → K16 z_s (v2 + 1)) ∧ (¬ 4 ≤ v3 → wp_X9_of v2 v3 (fun r1 => wp_X9_of (v2 + 1) v3 (fun r2 => (vp_in r2 1056 ∧ (vp_in r1 1056 ∧ wl_X9_remove_30 z_states v2 K16 Post n (upd z_s r1.toNatClampNeg (z_s r2.toNatClampNeg)) (v3 + 1))))))
def wl_X9_remove_16 (z_states : Int32) (Post : Int32 → (Nat → Int32) → Int32 → Prop) : Nat → (Nat → Int32) → Int32 → Prop
  | 0, _, _ => False
  | n + 1, z_s, v2 => vp_in 2 1056 ∧ (((z_s (2 : Int32).toNatClampNeg) ≤ (v2 + 1) → (vp_in 2 1056 ∧ (vp_in 2 1056 ∧ (vp_in 163 1056 ∧ wp_X9_leaves (upd (upd z_s (2 : Int32).toNatClampNeg ((z_s (2 : Int32).toNatClampNeg) - 1)) (163 : Int32).toNatClampNeg 0) (fun r3 => Post r3 (upd (upd z_s (2 : Int32).toNatClampNeg ((z_s (2 : Int32).toNatClampNeg) - 1)) (163 : Int32).toNatClampNeg 0) z_states))))) ∧ (¬ (z_s (2 : Int32).toNatClampNeg) ≤ (v2 + 1) → (∃ k, wl_X9_remove_30 z_states v2 (fun x0 x1 => wl_X9_remove_16 z_states Post n x0 x1) Post k z_s 0)))
def wp_X9_remove (z_s : Nat → Int32) (z_states : Int32) (p1 : Int32) (Post : Int32 → (Nat → Int32) → Int32 → Prop) : Prop := wp_X9_isQuire z_s p1 (fun r4 => ((r4 = 0 → Post (-1) z_s z_states) ∧ (¬ r4 = 0 → wp_X9_records z_s z_states (fun u5 u6 => (∃ k, wl_X9_remove_16 u6 Post k u5 p1)))))
def wp_X9_lose (z_s : Nat → Int32) (z_states : Int32) (p1 : Int32) (p2 : Int32) (Post : Int32 → (Nat → Int32) → Int32 → Prop) : Prop := wp_X9_isLeaf z_s p1 (fun r1 => ((r1 = 0 → Post (-1) z_s z_states) ∧ (¬ r1 = 0 → wp_X9_isLost z_s p1 (fun r2 => ((r2 = p2 → Post (-5) z_s z_states) ∧ (¬ r2 = p2 → wp_X9_records z_s z_states (fun u3 u4 => wp_X9_quireOf u3 p1 (fun r5 => wp_X9_of r5 3 (fun r6 => (vp_in r6 1056 ∧ wp_X9_first u3 r5 (fun r7 => (vp_in r6 1056 ∧ (vp_in 163 1056 ∧ wp_X9_thereOfAll (upd (upd u3 r6.toNatClampNeg ((u3 r6.toNatClampNeg) ^^^ (1 <<< ((p1 - r7) &&& 31)))) (163 : Int32).toNatClampNeg 0) (fun r8 => Post r8 (upd (upd u3 r6.toNatClampNeg ((u3 r6.toNatClampNeg) ^^^ (1 <<< ((p1 - r7) &&& 31)))) (163 : Int32).toNatClampNeg 0) u4))))))))))))))
def wj_X9_found_61 (z_s : Nat → Int32) (z_told : Nat → Int32) (p1 : Int32) (v2 : Int32) (t0 : Int32) (K2 : Int32 → Prop) (Post : Int32 → Prop) : Prop := (t0 = 0 → K2 (v2 + 1)) ∧ (¬ t0 = 0 → (vp_in ((4 * p1) + 3) 160 ∧ wp_X9_of v2 2 (fun r1 => (vp_in r1 1056 ∧ (((z_s r1.toNatClampNeg) < (z_told ((4 * p1) + 3).toNatClampNeg) → K2 (v2 + 1)) ∧ (¬ (z_s r1.toNatClampNeg) < (z_told ((4 * p1) + 3).toNatClampNeg) → wp_X9_first z_s v2 (fun r2 => (vp_in ((4 * p1) + 3) 160 ∧ Post ((r2 + (z_told ((4 * p1) + 3).toNatClampNeg)) - 1)))))))))
def wj_X9_found_60 (z_s : Nat → Int32) (z_told : Nat → Int32) (p1 : Int32) (v2 : Int32) (K2 : Int32 → Prop) (Post : Int32 → Prop) : Prop := wj_X9_found_61 z_s z_told p1 v2 0 K2 Post
def wl_X9_found_2 (z_s : Nat → Int32) (z_told : Nat → Int32) (p1 : Int32) (Post : Int32 → Prop) : Nat → Int32 → Prop
  | 0, _ => False
  | n + 1, v2 => vp_in 2 1056 ∧ (((z_s (2 : Int32).toNatClampNeg) ≤ v2 → Post (-1)) ∧ (¬ (z_s (2 : Int32).toNatClampNeg) ≤ v2 → wp_X9_of v2 0 (fun r3 => (vp_in r3 1056 ∧ (vp_in (4 * p1) 160 ∧ (((z_s r3.toNatClampNeg) = (z_told (4 * p1).toNatClampNeg) → wp_X9_of v2 1 (fun r4 => (vp_in r4 1056 ∧ (vp_in ((4 * p1) + 1) 160 ∧ (((z_s r4.toNatClampNeg) = (z_told ((4 * p1) + 1).toNatClampNeg) → wj_X9_found_61 z_s z_told p1 v2 1 (fun x0 => wl_X9_found_2 z_s z_told p1 Post n x0) Post) ∧ (¬ (z_s r4.toNatClampNeg) = (z_told ((4 * p1) + 1).toNatClampNeg) → wj_X9_found_60 z_s z_told p1 v2 (fun x0 => wl_X9_found_2 z_s z_told p1 Post n x0) Post)))))) ∧ (¬ (z_s r3.toNatClampNeg) = (z_told (4 * p1).toNatClampNeg) → wj_X9_found_60 z_s z_told p1 v2 (fun x0 => wl_X9_found_2 z_s z_told p1 Post n x0) Post)))))))
def wp_X9_found (z_s : Nat → Int32) (z_told : Nat → Int32) (p1 : Int32) (Post : Int32 → Prop) : Prop := ∃ k, wl_X9_found_2 z_s z_told p1 Post k 0
def wl_X9_readPile_56 (z_s : Nat → Int32) (z_text : Nat → Int32) (z_told : Nat → Int32) (z_states : Int32) (z_typed : Int32) (z_at : Int32) (z_isRight : Int32) (z_times : Int32) (z_letter : Int32) (z_items : Int32) (v2 : Int32) (K43 : Int32 → Prop) (Post : Int32 → (Nat → Int32) → (Nat → Int32) → Int32 → Int32 → Int32 → Int32 → Int32 → Int32 → Prop) : Nat → Int32 → Int32 → Prop
  | 0, _, _ => False
  | n + 1, v3, v4 => (v2 ≤ v4 → ((v3 = 0 → wp_X9_found z_s z_told v2 (fun r1 => wp_X9_isLost z_s r1 (fun r2 => ((r2 = 0 → K43 (v2 + 1)) ∧ (¬ r2 = 0 → Post (-4) z_s z_told z_states z_at z_isRight z_times z_letter z_items))))) ∧ (¬ v3 = 0 → Post (-4) z_s z_told z_states z_at z_isRight z_times z_letter z_items))) ∧ (¬ v2 ≤ v4 → ((v3 = 0 → wp_X9_found z_s z_told v4 (fun r3 => wp_X9_found z_s z_told v2 (fun r4 => ((r3 = r4 → wl_X9_readPile_56 z_s z_text z_told z_states z_typed z_at z_isRight z_times z_letter z_items v2 K43 Post n 1 (v4 + 1)) ∧ (¬ r3 = r4 → wl_X9_readPile_56 z_s z_text z_told z_states z_typed z_at z_isRight z_times z_letter z_items v2 K43 Post n 0 (v4 + 1)))))) ∧ (¬ v3 = 0 → wl_X9_readPile_56 z_s z_text z_told z_states z_typed z_at z_isRight z_times z_letter z_items v2 K43 Post n 1 (v4 + 1))))
def wl_X9_readPile_135 (z_text : Nat → Int32) (z_told : Nat → Int32) (z_states : Int32) (z_typed : Int32) (z_at : Int32) (z_isRight : Int32) (z_times : Int32) (z_letter : Int32) (z_items : Int32) (Post : Int32 → (Nat → Int32) → (Nat → Int32) → Int32 → Int32 → Int32 → Int32 → Int32 → Int32 → Prop) : Nat → (Nat → Int32) → Int32 → Prop
  | 0, _, _ => False
  | n + 1, z_s, v2 => (z_items ≤ v2 → (vp_in 163 1056 ∧ Post z_items (upd z_s (163 : Int32).toNatClampNeg z_items) z_told z_states z_at z_isRight z_times z_letter z_items)) ∧ (¬ z_items ≤ v2 → wp_X9_found z_s z_told v2 (fun r5 => (vp_in (164 + v2) 1056 ∧ wl_X9_readPile_135 z_text z_told z_states z_typed z_at z_isRight z_times z_letter z_items Post n (upd z_s (164 + v2).toNatClampNeg r5) (v2 + 1))))
def wl_X9_readPile_43 (z_s : Nat → Int32) (z_text : Nat → Int32) (z_told : Nat → Int32) (z_states : Int32) (z_typed : Int32) (z_at : Int32) (z_isRight : Int32) (z_times : Int32) (z_letter : Int32) (z_items : Int32) (Post : Int32 → (Nat → Int32) → (Nat → Int32) → Int32 → Int32 → Int32 → Int32 → Int32 → Int32 → Prop) : Nat → Int32 → Prop
  | 0, _ => False
  | n + 1, v2 => (z_items ≤ v2 → ((z_items ≤ 12 → wp_X9_records z_s z_states (fun u6 u7 => (∃ k, wl_X9_readPile_135 z_text z_told u7 z_typed z_at z_isRight z_times z_letter z_items Post k u6 0))) ∧ (¬ z_items ≤ 12 → Post (-3) z_s z_told z_states z_at z_isRight z_times z_letter z_items))) ∧ (¬ z_items ≤ v2 → (∃ k, wl_X9_readPile_56 z_s z_text z_told z_states z_typed z_at z_isRight z_times z_letter z_items v2 (fun x0 => wl_X9_readPile_43 z_s z_text z_told z_states z_typed z_at z_isRight z_times z_letter z_items Post n x0) Post k 0 0))
def wl_X9_readPile_17 (z_s : Nat → Int32) (z_text : Nat → Int32) (z_told : Nat → Int32) (z_states : Int32) (z_typed : Int32) (z_at : Int32) (z_isRight : Int32) (z_times : Int32) (z_letter : Int32) (z_items : Int32) (Post : Int32 → (Nat → Int32) → (Nat → Int32) → Int32 → Int32 → Int32 → Int32 → Int32 → Int32 → Prop) : Nat → Int32 → Prop
  | 0, _ => False
  | n + 1, v2 => (z_items ≤ v2 → (∃ k, wl_X9_readPile_43 z_s z_text z_told z_states z_typed z_at z_isRight z_times z_letter z_items Post k 0)) ∧ (¬ z_items ≤ v2 → wp_X9_found z_s z_told v2 (fun r8 => ((0 ≤ r8 → wl_X9_readPile_17 z_s z_text z_told z_states z_typed z_at z_isRight z_times z_letter z_items Post n (v2 + 1)) ∧ (¬ 0 ≤ r8 → Post (-1) z_s z_told z_states z_at z_isRight z_times z_letter z_items))))
def wp_X9_readPile (z_s : Nat → Int32) (z_text : Nat → Int32) (z_told : Nat → Int32) (z_states : Int32) (z_typed : Int32) (z_at : Int32) (z_isRight : Int32) (z_times : Int32) (z_letter : Int32) (z_items : Int32) (Post : Int32 → (Nat → Int32) → (Nat → Int32) → Int32 → Int32 → Int32 → Int32 → Int32 → Int32 → Prop) : Prop := wp_X9_fault z_s z_text z_told z_typed z_at z_isRight z_times z_letter z_items 0 (fun r9 u10 u11 u12 u13 u14 u15 => ((r9 < 0 → (∃ k, wl_X9_readPile_17 z_s z_text u10 z_states z_typed u11 u12 u13 u14 u15 Post k 0)) ∧ (¬ r9 < 0 → Post ((-100) - r9) z_s u10 z_states u11 u12 u13 u14 u15)))
def wp_X9_type (z_text : Nat → Int32) (z_typed : Int32) (p1 : Int32) (Post : Int32 → (Nat → Int32) → Int32 → Prop) : Prop := (z_typed = 60 → Post (-3) z_text z_typed) ∧ (¬ z_typed = 60 → (vp_in z_typed 60 ∧ Post (z_typed + 1) (upd z_text z_typed.toNatClampNeg (vp_nar .char p1)) (z_typed + 1)))
def wp_X9_clearText (z_typed : Int32) (Post : Int32 → Int32 → Prop) : Prop := Post z_typed 0
def wp_X9_undo (z_s : Nat → Int32) (z_states : Int32) (Post : Int32 → (Nat → Int32) → Int32 → Prop) : Prop := (z_states = 0 → Post (-5) z_s z_states) ∧ (¬ z_states = 0 → wp_X9_copies z_s z_states 0 (fun u1 => Post (z_states - 1) u1 (z_states - 1)))
def wp_X9_keep (z_s : Nat → Int32) (z_isKept : Int32) (Post : Int32 → (Nat → Int32) → Int32 → Prop) : Prop := wp_X9_copies z_s 0 5 (fun u1 => (vp_in 2 1056 ∧ Post (u1 (2 : Int32).toNatClampNeg) u1 1))
def wp_X9_restore (z_s : Nat → Int32) (z_states : Int32) (z_isKept : Int32) (Post : Int32 → (Nat → Int32) → Int32 → Prop) : Prop := (z_isKept = 0 → Post (-5) z_s z_states) ∧ (¬ z_isKept = 0 → wp_X9_records z_s z_states (fun u1 u2 => wp_X9_copies u1 5 0 (fun u3 => (vp_in 2 1056 ∧ Post (u3 (2 : Int32).toNatClampNeg) u3 u2))))
def wl_X9_sameAhead_4 (z_s : Nat → Int32) (p1 : Int32) (Post : Int32 → Prop) : Nat → Int32 → Int32 → Prop
  | 0, _, _ => False
  | n + 1, v2, v3 => (p1 ≤ v3 → Post v2) ∧ (¬ p1 ≤ v3 → wp_X9_areSame z_s v3 p1 (fun r1 => ((r1 = 0 → (∀ y2 : Int32, y2 = v2 + 0 → wl_X9_sameAhead_4 z_s p1 Post n y2 (v3 + 1))) ∧ (¬ r1 = 0 → (∀ y3 : Int32, y3 = v2 + 1 → wl_X9_sameAhead_4 z_s p1 Post n y3 (v3 + 1))))))
def wp_X9_sameAhead (z_s : Nat → Int32) (p1 : Int32) (Post : Int32 → Prop) : Prop := ∃ k, wl_X9_sameAhead_4 z_s p1 Post k 0 0
def wp_X9_quire (z_s : Nat → Int32) (p1 : Int32) (p2 : Int32) (Post : Int32 → Prop) : Prop := wp_X9_isQuire z_s p1 (fun r1 => ((r1 = 0 → Post (-1)) ∧ (¬ r1 = 0 → ((p2 = 0 → wp_X9_of p1 0 (fun r2 => (vp_in r2 1056 ∧ Post (z_s r2.toNatClampNeg)))) ∧ (¬ p2 = 0 → ((p2 = 1 → wp_X9_isStarred z_s p1 (fun r3 => ((r3 = 0 → wp_X9_of p1 1 (fun r4 => (vp_in r4 1056 ∧ Post (65 + (z_s r4.toNatClampNeg))))) ∧ (¬ r3 = 0 → Post (-5))))) ∧ (¬ p2 = 1 → ((p2 = 2 → wp_X9_of p1 2 (fun r5 => (vp_in r5 1056 ∧ Post (z_s r5.toNatClampNeg)))) ∧ (¬ p2 = 2 → ((p2 = 3 → wp_X9_first z_s p1 (fun r6 => Post r6)) ∧ (¬ p2 = 3 → ((p2 = 4 → wp_X9_signed z_s p1 (fun r7 => Post r7)) ∧ (¬ p2 = 4 → ((p2 = 5 → wp_X9_there z_s p1 (fun r8 => Post r8)) ∧ (¬ p2 = 5 → ((p2 = 6 → wp_X9_sameAhead z_s p1 (fun r9 => Post r9)) ∧ (¬ p2 = 6 → Post (-2))))))))))))))))))
def wl_X9_thereAhead_4 (z_s : Nat → Int32) (p1 : Int32) (Post : Int32 → Prop) : Nat → Int32 → Int32 → Prop
  | 0, _, _ => False
  | n + 1, v2, v3 => (p1 ≤ v3 → Post v2) ∧ (¬ p1 ≤ v3 → wp_X9_isLost z_s v3 (fun r1 => ((r1 = 0 → (∀ y2 : Int32, y2 = v2 + 1 → wl_X9_thereAhead_4 z_s p1 Post n y2 (v3 + 1))) ∧ (¬ r1 = 0 → (∀ y3 : Int32, y3 = v2 + 0 → wl_X9_thereAhead_4 z_s p1 Post n y3 (v3 + 1))))))
def wp_X9_thereAhead (z_s : Nat → Int32) (p1 : Int32) (Post : Int32 → Prop) : Prop := ∃ k, wl_X9_thereAhead_4 z_s p1 Post k 0 0
def wp_X9_leaf (z_s : Nat → Int32) (p1 : Int32) (p2 : Int32) (Post : Int32 → Prop) : Prop := wp_X9_isLeaf z_s p1 (fun r1 => ((r1 = 0 → Post (-1)) ∧ (¬ r1 = 0 → wp_X9_quireOf z_s p1 (fun r2 => wp_X9_first z_s r2 (fun r3 => (∀ y4 : Int32, y4 = (p1 - r3) + 1 → wp_X9_of r2 2 (fun r5 => (vp_in r5 1056 ∧ (∀ y6 : Int32, y6 = ((z_s r5.toNatClampNeg) + 1) - y4 → ((p2 = 0 → Post r2) ∧ (¬ p2 = 0 → ((p2 = 1 → Post y4) ∧ (¬ p2 = 1 → ((p2 = 2 → wp_X9_signed z_s r2 (fun r7 => ((r7 < y4 → Post 0) ∧ (¬ r7 < y4 → Post 1)))) ∧ (¬ p2 = 2 → ((p2 = 3 → ((y6 = y4 → Post (-5)) ∧ (¬ y6 = y4 → wp_X9_first z_s r2 (fun r8 => Post ((r8 + y6) - 1))))) ∧ (¬ p2 = 3 → ((p2 = 4 → wp_X9_isLost z_s p1 (fun r9 => ((r9 = 0 → Post 0) ∧ (¬ r9 = 0 → Post 1)))) ∧ (¬ p2 = 4 → ((p2 = 5 → wp_X9_thereAhead z_s p1 (fun r10 => Post r10)) ∧ (¬ p2 = 5 → Post (-2))))))))))))))))))))))
def wp_X9_find (z_s : Nat → Int32) (z_text : Nat → Int32) (z_told : Nat → Int32) (z_typed : Int32) (z_at : Int32) (z_isRight : Int32) (z_times : Int32) (z_letter : Int32) (z_items : Int32) (Post : Int32 → (Nat → Int32) → Int32 → Int32 → Int32 → Int32 → Int32 → Prop) : Prop := wp_X9_fault z_s z_text z_told z_typed z_at z_isRight z_times z_letter z_items 0 (fun r1 u2 u3 u4 u5 u6 u7 => ((r1 < 0 → ((u7 ≤ 1 → wp_X9_found z_s u2 0 (fun r8 => ((0 ≤ r8 → Post r8 u2 u3 u4 u5 u6 u7) ∧ (¬ 0 ≤ r8 → Post (-5) u2 u3 u4 u5 u6 u7)))) ∧ (¬ u7 ≤ 1 → Post (-2) u2 u3 u4 u5 u6 u7))) ∧ (¬ r1 < 0 → Post ((-100) - r1) u2 u3 u4 u5 u6 u7)))
def wl_X9_before_4 (z_s : Nat → Int32) (p1 : Int32) (Post : Int32 → Prop) : Nat → Int32 → Int32 → Prop
  | 0, _, _ => False
  | n + 1, v2, v3 => (p1 ≤ v3 → Post v2) ∧ (¬ p1 ≤ v3 → wp_X9_isStarred z_s v3 (fun r1 => ((r1 = 0 → wl_X9_before_4 z_s p1 Post n v3 (v3 + 1)) ∧ (¬ r1 = 0 → wl_X9_before_4 z_s p1 Post n v2 (v3 + 1)))))
def wp_X9_before (z_s : Nat → Int32) (p1 : Int32) (Post : Int32 → Prop) : Prop := ∃ k, wl_X9_before_4 z_s p1 Post k (-1) 0
def wj_X9_isLapse_17 (z_s : Nat → Int32) (p1 : Int32) (t0 : Int32) (Post : Int32 → Prop) : Prop := (t0 < 0 → Post 0) ∧ (¬ t0 < 0 → wp_X9_sign z_s p1 (fun r1 => wp_X9_sign z_s t0 (fun r2 => wp_X9_next z_s r2 (fun r3 => ((r1 = r3 → Post 0) ∧ (¬ r1 = r3 → Post 1))))))
def wp_X9_isLapse (z_s : Nat → Int32) (p1 : Int32) (Post : Int32 → Prop) : Prop := wp_X9_isStarred z_s p1 (fun r4 => ((r4 = 0 → wp_X9_before z_s p1 (fun r5 => wj_X9_isLapse_17 z_s p1 r5 Post)) ∧ (¬ r4 = 0 → wj_X9_isLapse_17 z_s p1 (-1) Post)))
def wl_X9_between_7 (z_s : Nat → Int32) (p2 : Int32) (Post : Int32 → Prop) : Nat → Int32 → Int32 → Prop
  | 0, _, _ => False
  | n + 1, v3, v4 => (p2 ≤ v4 → Post v3) ∧ (¬ p2 ≤ v4 → wp_X9_isOut z_s (v4 - v4 / 26 * 26) (fun r1 => ((r1 = 0 → (∀ y2 : Int32, y2 = v3 + 1 → wl_X9_between_7 z_s p2 Post n y2 (v4 + 1))) ∧ (¬ r1 = 0 → (∀ y3 : Int32, y3 = v3 + 0 → wl_X9_between_7 z_s p2 Post n y3 (v4 + 1))))))
def wp_X9_between (z_s : Nat → Int32) (p1 : Int32) (p2 : Int32) (Post : Int32 → Prop) : Prop := ∀ y4 : Int32, y4 = p1 + 1 → (∃ k, wl_X9_between_7 z_s p2 Post k 0 y4)
def wj_X9_lapse_88 (z_s : Nat → Int32) (p2 : Int32) (v4 : Int32) (v5 : Int32) (v6 : Int32) (t0 : Int32) (Post : Int32 → Prop) : Prop := (p2 = 0 → Post v4) ∧ (¬ p2 = 0 → ((p2 = 1 → Post t0) ∧ (¬ p2 = 1 → wp_X9_between z_s v5 v6 (fun r1 => Post r1))))
def wl_X9_lapse_21 (z_s : Nat → Int32) (p2 : Int32) (Post : Int32 → Prop) : Nat → Int32 → Int32 → Prop
  | 0, _, _ => False
  | n + 1, v3, v4 => vp_in 2 1056 ∧ (((z_s (2 : Int32).toNatClampNeg) ≤ v4 → Post (-5)) ∧ (¬ (z_s (2 : Int32).toNatClampNeg) ≤ v4 → wp_X9_isLapse z_s v4 (fun r2 => ((r2 = 0 → wl_X9_lapse_21 z_s p2 Post n v3 (v4 + 1)) ∧ (¬ r2 = 0 → ((v3 = 0 → wp_X9_before z_s v4 (fun r3 => wp_X9_sign z_s r3 (fun r4 => wp_X9_sign z_s v4 (fun r5 => ((r4 = r5 → wj_X9_lapse_88 z_s p2 v4 r4 r5 0 Post) ∧ (¬ r4 = r5 → ((r4 ≤ r5 → wj_X9_lapse_88 z_s p2 v4 r4 r5 2 Post) ∧ (¬ r4 ≤ r5 → wj_X9_lapse_88 z_s p2 v4 r4 r5 1 Post)))))))) ∧ (¬ v3 = 0 → wl_X9_lapse_21 z_s p2 Post n (v3 + (-1)) (v4 + 1))))))))
def wp_X9_lapse (z_s : Nat → Int32) (p1 : Int32) (p2 : Int32) (Post : Int32 → Prop) : Prop := (p1 < 0 → Post (-2)) ∧ (¬ p1 < 0 → wp_X9_in p2 0 2 (fun r6 => ((r6 = 0 → Post (-2)) ∧ (¬ r6 = 0 → (∃ k, wl_X9_lapse_21 z_s p2 Post k p1 0)))))
def wl_X9_isPiled_4 (z_s : Nat → Int32) (p1 : Int32) (Post : Int32 → Prop) : Nat → Int32 → Int32 → Prop
  | 0, _, _ => False
  | n + 1, v2, v3 => vp_in 163 1056 ∧ (((z_s (163 : Int32).toNatClampNeg) ≤ v3 → ((v2 = 0 ∨ v2 = 1) ∧ Post v2)) ∧ (¬ (z_s (163 : Int32).toNatClampNeg) ≤ v3 → ((v2 = 0 → (vp_in (164 + v3) 1056 ∧ (((z_s (164 + v3).toNatClampNeg) = p1 → wl_X9_isPiled_4 z_s p1 Post n 1 (v3 + 1)) ∧ (¬ (z_s (164 + v3).toNatClampNeg) = p1 → wl_X9_isPiled_4 z_s p1 Post n 0 (v3 + 1))))) ∧ (¬ v2 = 0 → wl_X9_isPiled_4 z_s p1 Post n 1 (v3 + 1)))))
def wp_X9_isPiled (z_s : Nat → Int32) (p1 : Int32) (Post : Int32 → Prop) : Prop := ∃ k, wl_X9_isPiled_4 z_s p1 Post k 0 0
def wj_X9_piled_49 (z_s : Nat → Int32) (p1 : Int32) (p2 : Int32) (v3 : Int32) (v4 : Int32) (K36 : Int32 → Int32 → Prop) (Post : Int32 → Prop) : Prop := wp_X9_isPiled z_s v4 (fun r1 => ((r1 = 0 → (∀ y2 : Int32, y2 = v3 - 0 → K36 y2 (v4 + 1))) ∧ (¬ r1 = 0 → (∀ y3 : Int32, y3 = v3 - 1 → K36 y3 (v4 + 1)))))
def wl_X9_piled_105 (z_s : Nat → Int32) (Post : Int32 → Prop) : Nat → Int32 → Int32 → Prop
  | 0, _, _ => False
  | n + 1, v5, v6 => wp_X9_isPiled z_s v6 (fun r4 => ((r4 = 0 → wp_X9_isLost z_s v6 (fun r5 => ((r5 = 0 → (∀ y6 : Int32, y6 = v5 + 1 → wl_X9_piled_105 z_s Post n y6 (v6 + 1))) ∧ (¬ r5 = 0 → (∀ y7 : Int32, y7 = v5 + 0 → wl_X9_piled_105 z_s Post n y7 (v6 + 1)))))) ∧ (¬ r4 = 0 → Post v5)))
def wl_X9_piled_36 (z_s : Nat → Int32) (p1 : Int32) (p2 : Int32) (Post : Int32 → Prop) : Nat → Int32 → Int32 → Prop
  | 0, _, _ => False
  | n + 1, v3, v4 => (0 < v3 → wj_X9_piled_49 z_s p1 p2 v3 v4 (fun x0 x1 => wl_X9_piled_36 z_s p1 p2 Post n x0 x1) Post) ∧ (¬ 0 < v3 → wp_X9_isPiled z_s v4 (fun r8 => ((r8 = 0 → wj_X9_piled_49 z_s p1 p2 v3 v4 (fun x0 x1 => wl_X9_piled_36 z_s p1 p2 Post n x0 x1) Post) ∧ (¬ r8 = 0 → ((p2 = 0 → Post v4) ∧ (¬ p2 = 0 → (vp_in 163 1056 ∧ ((p1 = ((z_s (163 : Int32).toNatClampNeg) - 1) → Post (-5)) ∧ (¬ p1 = ((z_s (163 : Int32).toNatClampNeg) - 1) → (∀ y9 : Int32, y9 = v4 + 1 → (∃ k, wl_X9_piled_105 z_s Post k 0 y9)))))))))))
def wp_X9_piled (z_s : Nat → Int32) (p1 : Int32) (p2 : Int32) (Post : Int32 → Prop) : Prop := (p1 < 0 → Post (-2)) ∧ (¬ p1 < 0 → wp_X9_in p2 0 1 (fun r10 => ((r10 = 0 → Post (-2)) ∧ (¬ r10 = 0 → (vp_in 163 1056 ∧ ((p1 < (z_s (163 : Int32).toNatClampNeg) → (∃ k, wl_X9_piled_36 z_s p1 p2 Post k p1 0)) ∧ (¬ p1 < (z_s (163 : Int32).toNatClampNeg) → Post (-5))))))))
def wl_X9_sheets_29 (z_s : Nat → Int32) (p1 : Int32) (Post : Int32 → Prop) : Nat → Int32 → Int32 → Prop
  | 0, _, _ => False
  | n + 1, v2, v3 => vp_in 2 1056 ∧ (((z_s (2 : Int32).toNatClampNeg) ≤ v3 → Post v2) ∧ (¬ (z_s (2 : Int32).toNatClampNeg) ≤ v3 → wp_X9_of v3 2 (fun r1 => (vp_in r1 1056 ∧ ((¬ p1 = 0) ∧ (∀ y2 : Int32, y2 = v2 + ((((z_s r1.toNatClampNeg) + p1) - 1) / p1) → wl_X9_sheets_29 z_s p1 Post n y2 (v3 + 1)))))))
def wp_X9_sheets (z_s : Nat → Int32) (p1 : Int32) (Post : Int32 → Prop) : Prop := (p1 = 2 → (∃ k, wl_X9_sheets_29 z_s p1 Post k 0 0)) ∧ (¬ p1 = 2 → ((p1 = 4 → (∃ k, wl_X9_sheets_29 z_s p1 Post k 0 0)) ∧ (¬ p1 = 4 → ((p1 = 8 → (∃ k, wl_X9_sheets_29 z_s p1 Post k 0 0)) ∧ (¬ p1 = 8 → ((p1 = 12 → (∃ k, wl_X9_sheets_29 z_s p1 Post k 0 0)) ∧ (¬ p1 = 12 → Post (-2))))))))
def wp_X9_writes (z_formula : Nat → Int32) (z_length : Int32) (p1 : Int32) (Post : (Nat → Int32) → Int32 → Prop) : Prop := vp_in z_length 400 ∧ Post (upd z_formula z_length.toNatClampNeg (vp_nar .char (cI p1))) (z_length + 1)
def wj_X9_writesSign_63 (z_s : Nat → Int32) (z_formula : Nat → Int32) (z_length : Int32) (p1 : Int32) (v2 : Int32) (t1 : Int32) (K2 : (Nat → Int32) → Int32 → Int32 → Prop) (Post : (Nat → Int32) → Int32 → Prop) : Prop := wp_X9_writes z_formula z_length t1 (fun u1 u2 => K2 u1 u2 (v2 + 1))
def wl_X9_writesSign_2 (z_s : Nat → Int32) (p1 : Int32) (Post : (Nat → Int32) → Int32 → Prop) : Nat → (Nat → Int32) → Int32 → Int32 → Prop
  | 0, _, _, _ => False
  | n + 1, z_formula, z_length, v2 => wp_X9_of p1 0 (fun r3 => (vp_in r3 1056 ∧ (((z_s r3.toNatClampNeg) ≤ v2 → Post z_formula z_length) ∧ (¬ (z_s r3.toNatClampNeg) ≤ v2 → wp_X9_isStarred z_s p1 (fun r4 => ((r4 = 0 → ((v2 = 0 → wp_X9_of p1 1 (fun r6 => (vp_in r6 1056 ∧ wj_X9_writesSign_63 z_s z_formula z_length p1 v2 (65 + (z_s r6.toNatClampNeg)) (fun x0 x1 x2 => wl_X9_writesSign_2 z_s p1 Post n x0 x1 x2) Post))) ∧ (¬ v2 = 0 → wp_X9_of p1 1 (fun r5 => (vp_in r5 1056 ∧ wj_X9_writesSign_63 z_s z_formula z_length p1 v2 (97 + (z_s r5.toNatClampNeg)) (fun x0 x1 x2 => wl_X9_writesSign_2 z_s p1 Post n x0 x1 x2) Post))))) ∧ (¬ r4 = 0 → wj_X9_writesSign_63 z_s z_formula z_length p1 v2 42 (fun x0 x1 x2 => wl_X9_writesSign_2 z_s p1 Post n x0 x1 x2) Post)))))))
def wp_X9_writesSign (z_s : Nat → Int32) (z_formula : Nat → Int32) (z_length : Int32) (p1 : Int32) (Post : (Nat → Int32) → Int32 → Prop) : Prop := ∃ k, wl_X9_writesSign_2 z_s p1 Post k z_formula z_length 0
def wj_X9_goesOn_73 (z_s : Nat → Int32) (p1 : Int32) (t0 : Int32) (Post : Int32 → Prop) : Prop := (t0 = 0 → Post 0) ∧ (¬ t0 = 0 → wp_X9_sign z_s p1 (fun r1 => wp_X9_sign z_s (p1 - 1) (fun r2 => wp_X9_next z_s r2 (fun r3 => ((r1 = r3 → Post 1) ∧ (¬ r1 = r3 → Post 0))))))
def wj_X9_goesOn_72 (z_s : Nat → Int32) (p1 : Int32) (Post : Int32 → Prop) : Prop := wj_X9_goesOn_73 z_s p1 0 Post
def wp_X9_goesOn (z_s : Nat → Int32) (p1 : Int32) (Post : Int32 → Prop) : Prop := wp_X9_isStarred z_s p1 (fun r4 => ((r4 = 0 → wp_X9_isStarred z_s (p1 - 1) (fun r5 => ((r5 = 0 → wp_X9_of p1 0 (fun r6 => (vp_in r6 1056 ∧ wp_X9_of (p1 - 1) 0 (fun r7 => (vp_in r7 1056 ∧ (((z_s r6.toNatClampNeg) = (z_s r7.toNatClampNeg) → wp_X9_of p1 2 (fun r8 => (vp_in r8 1056 ∧ wp_X9_of (p1 - 1) 2 (fun r9 => (vp_in r9 1056 ∧ (((z_s r8.toNatClampNeg) = (z_s r9.toNatClampNeg) → wj_X9_goesOn_73 z_s p1 1 Post) ∧ (¬ (z_s r8.toNatClampNeg) = (z_s r9.toNatClampNeg) → wj_X9_goesOn_72 z_s p1 Post))))))) ∧ (¬ (z_s r6.toNatClampNeg) = (z_s r7.toNatClampNeg) → wj_X9_goesOn_72 z_s p1 Post))))))) ∧ (¬ r5 = 0 → wj_X9_goesOn_72 z_s p1 Post)))) ∧ (¬ r4 = 0 → wj_X9_goesOn_72 z_s p1 Post)))
def wj_X9_lays_111 (z_s : Nat → Int32) (z_formula : Nat → Int32) (z_length : Int32) (z_entries : Int32) (v2 : Int32) (v3 : Int32) (K12 : (Nat → Int32) → Int32 → Int32 → Int32 → Prop) (Post : (Nat → Int32) → Int32 → Int32 → Prop) : Prop := wp_X9_writes z_formula z_length (48 + (v3 - v3 / 10 * 10)) (fun u1 u2 => (∀ y3 : Int32, y3 = v2 + 1 → K12 u1 u2 (z_entries + 1) y3))
def wj_X9_lays_83 (z_s : Nat → Int32) (z_formula : Nat → Int32) (z_length : Int32) (z_entries : Int32) (v1 : Int32) (v2 : Int32) (K12 : (Nat → Int32) → Int32 → Int32 → Int32 → Prop) (Post : (Nat → Int32) → Int32 → Int32 → Prop) : Prop := wp_X9_of v1 2 (fun r4 => (vp_in r4 1056 ∧ (∀ y5 : Int32, y5 = z_s r4.toNatClampNeg → ((y5 ≤ 9 → wj_X9_lays_111 z_s z_formula z_length z_entries v2 y5 K12 Post) ∧ (¬ y5 ≤ 9 → wp_X9_writes z_formula z_length (48 + (y5 / 10)) (fun u6 u7 => wj_X9_lays_111 z_s u6 u7 z_entries v2 y5 K12 Post))))))
def wj_X9_lays_62 (z_s : Nat → Int32) (z_formula : Nat → Int32) (z_length : Int32) (z_entries : Int32) (v1 : Int32) (v2 : Int32) (K12 : (Nat → Int32) → Int32 → Int32 → Int32 → Prop) (Post : (Nat → Int32) → Int32 → Int32 → Prop) : Prop := wp_X9_writesSign z_s z_formula z_length v1 (fun u8 u9 => ((v2 ≤ v1 → wj_X9_lays_83 z_s u8 u9 z_entries v1 v2 K12 Post) ∧ (¬ v2 ≤ v1 → wp_X9_writes u8 u9 45 (fun u10 u11 => wp_X9_writesSign z_s u10 u11 v2 (fun u12 u13 => wj_X9_lays_83 z_s u12 u13 z_entries v1 v2 K12 Post)))))
def wj_X9_lays_52 (z_s : Nat → Int32) (z_formula : Nat → Int32) (z_length : Int32) (z_entries : Int32) (v1 : Int32) (v2 : Int32) (K12 : (Nat → Int32) → Int32 → Int32 → Int32 → Prop) (Post : (Nat → Int32) → Int32 → Int32 → Prop) : Prop := (v1 ≤ 0 → wj_X9_lays_62 z_s z_formula z_length z_entries v1 v2 K12 Post) ∧ (¬ v1 ≤ 0 → wp_X9_writes z_formula z_length 44 (fun u14 u15 => wj_X9_lays_62 z_s u14 u15 z_entries v1 v2 K12 Post))
def wl_X9_lays_24 (z_s : Nat → Int32) (z_formula : Nat → Int32) (z_length : Int32) (z_entries : Int32) (v1 : Int32) (K12 : (Nat → Int32) → Int32 → Int32 → Int32 → Prop) (Post : (Nat → Int32) → Int32 → Int32 → Prop) : Nat → Int32 → Prop
  | 0, _ => False
  | n + 1, v2 => vp_in 2 1056 ∧ (((z_s (2 : Int32).toNatClampNeg) ≤ (v2 + 1) → wj_X9_lays_52 z_s z_formula z_length z_entries v1 v2 K12 Post) ∧ (¬ (z_s (2 : Int32).toNatClampNeg) ≤ (v2 + 1) → wp_X9_goesOn z_s (v2 + 1) (fun r16 => ((r16 = 0 → wj_X9_lays_52 z_s z_formula z_length z_entries v1 v2 K12 Post) ∧ (¬ r16 = 0 → wl_X9_lays_24 z_s z_formula z_length z_entries v1 K12 Post n (v2 + 1))))))
def wl_X9_lays_12 (z_s : Nat → Int32) (Post : (Nat → Int32) → Int32 → Int32 → Prop) : Nat → (Nat → Int32) → Int32 → Int32 → Int32 → Prop
  | 0, _, _, _, _ => False
  | n + 1, z_formula, z_length, z_entries, v1 => vp_in 2 1056 ∧ (((z_s (2 : Int32).toNatClampNeg) ≤ v1 → Post z_formula z_length z_entries) ∧ (¬ (z_s (2 : Int32).toNatClampNeg) ≤ v1 → (∃ k, wl_X9_lays_24 z_s z_formula z_length z_entries v1 (fun x0 x1 x2 x3 => wl_X9_lays_12 z_s Post n x0 x1 x2 x3) Post k v1)))
def wp_X9_lays (z_s : Nat → Int32) (z_formula : Nat → Int32) (z_length : Int32) (z_entries : Int32) (Post : (Nat → Int32) → Int32 → Int32 → Prop) : Prop := ∃ k, wl_X9_lays_12 z_s Post k z_formula 0 0 0
def wp_X9_formula (z_s : Nat → Int32) (z_formula : Nat → Int32) (z_length : Int32) (z_entries : Int32) (p1 : Int32) (Post : Int32 → (Nat → Int32) → Int32 → Int32 → Prop) : Prop := (0 ≤ p1 → wp_X9_lays z_s z_formula z_length z_entries (fun u1 u2 u3 => ((u2 ≤ p1 → Post (-5) u1 u2 u3) ∧ (¬ u2 ≤ p1 → (vp_in p1 400 ∧ Post (u1 p1.toNatClampNeg) u1 u2 u3))))) ∧ (¬ 0 ≤ p1 → Post (-2) z_formula z_length z_entries)
def wl_X9_starred_4 (z_s : Nat → Int32) (Post : Int32 → Prop) : Nat → Int32 → Int32 → Prop
  | 0, _, _ => False
  | n + 1, v1, v2 => vp_in 2 1056 ∧ (((z_s (2 : Int32).toNatClampNeg) ≤ v2 → Post v1) ∧ (¬ (z_s (2 : Int32).toNatClampNeg) ≤ v2 → wp_X9_isStarred z_s v2 (fun r1 => ((r1 = 0 → (∀ y2 : Int32, y2 = v1 + 0 → wl_X9_starred_4 z_s Post n y2 (v2 + 1))) ∧ (¬ r1 = 0 → (∀ y3 : Int32, y3 = v1 + 1 → wl_X9_starred_4 z_s Post n y3 (v2 + 1)))))))
def wp_X9_starred (z_s : Nat → Int32) (Post : Int32 → Prop) : Prop := ∃ k, wl_X9_starred_4 z_s Post k 0 0
def wl_X9_lapses_4 (z_s : Nat → Int32) (Post : Int32 → Prop) : Nat → Int32 → Int32 → Prop
  | 0, _, _ => False
  | n + 1, v1, v2 => vp_in 2 1056 ∧ (((z_s (2 : Int32).toNatClampNeg) ≤ v2 → Post v1) ∧ (¬ (z_s (2 : Int32).toNatClampNeg) ≤ v2 → wp_X9_isLapse z_s v2 (fun r1 => ((r1 = 0 → (∀ y2 : Int32, y2 = v1 + 0 → wl_X9_lapses_4 z_s Post n y2 (v2 + 1))) ∧ (¬ r1 = 0 → (∀ y3 : Int32, y3 = v1 + 1 → wl_X9_lapses_4 z_s Post n y3 (v2 + 1)))))))
def wp_X9_lapses (z_s : Nat → Int32) (Post : Int32 → Prop) : Prop := ∃ k, wl_X9_lapses_4 z_s Post k 0 0
def wp_X9_count (z_s : Nat → Int32) (z_formula : Nat → Int32) (z_states : Int32) (z_typed : Int32) (z_length : Int32) (z_entries : Int32) (p1 : Int32) (Post : Int32 → (Nat → Int32) → Int32 → Int32 → Prop) : Prop := wp_X9_lays z_s z_formula z_length z_entries (fun u1 u2 u3 => ((p1 = 0 → (vp_in 2 1056 ∧ Post (z_s (2 : Int32).toNatClampNeg) u1 u2 u3)) ∧ (¬ p1 = 0 → ((p1 = 1 → wp_X9_leaves z_s (fun r4 => Post r4 u1 u2 u3)) ∧ (¬ p1 = 1 → ((p1 = 2 → wp_X9_leaves z_s (fun r5 => wp_X9_thereOfAll z_s (fun r6 => Post (r5 - r6) u1 u2 u3))) ∧ (¬ p1 = 2 → ((p1 = 3 → wp_X9_signedOfAll z_s (fun r7 => Post r7 u1 u2 u3)) ∧ (¬ p1 = 3 → ((p1 = 4 → wp_X9_letters z_s (fun r8 => Post r8 u1 u2 u3)) ∧ (¬ p1 = 4 → ((p1 = 5 → wp_X9_starred z_s (fun r9 => Post r9 u1 u2 u3)) ∧ (¬ p1 = 5 → ((p1 = 6 → wp_X9_lapses z_s (fun r10 => Post r10 u1 u2 u3)) ∧ (¬ p1 = 6 → ((p1 = 7 → Post u2 u1 u2 u3) ∧ (¬ p1 = 7 → ((p1 = 8 → Post u3 u1 u2 u3) ∧ (¬ p1 = 8 → ((p1 = 9 → (vp_in 163 1056 ∧ Post (z_s (163 : Int32).toNatClampNeg) u1 u2 u3)) ∧ (¬ p1 = 9 → ((p1 = 10 → (vp_in 1 1056 ∧ Post (z_s (1 : Int32).toNatClampNeg) u1 u2 u3)) ∧ (¬ p1 = 10 → ((p1 = 11 → Post z_states u1 u2 u3) ∧ (¬ p1 = 11 → ((p1 = 12 → Post z_typed u1 u2 u3) ∧ (¬ p1 = 12 → Post (-2) u1 u2 u3)))))))))))))))))))))))))))
end
section
/-! contracts, printed (gen.py) -/
theorem ce_X0_has : CE yX0_has cX0_has 2 (some .boolean) 1 := ⟨tw_230, tw_58, ⟨by decide, by decide⟩, ce_par (by decide +kernel)⟩
theorem cv_X0_has : CV yX0_has := ⟨tw_228, tw_229⟩
theorem ce_X0_letters : CE yX0_letters cX0_letters 1 (some .int) 0 := ⟨tw_234, tw_58, ⟨by decide, by decide⟩, ce_par (by decide +kernel)⟩
theorem cv_X0_letters : CV yX0_letters := ⟨tw_232, tw_233⟩
theorem ce_X0_turn : CE yX0_turn cX0_turn 2 none 1 := ⟨tw_279, tw_58, ⟨by decide, by decide⟩, ce_par (by decide +kernel)⟩
theorem cv_X0_turn : CV yX0_turn := ⟨tw_277, tw_278⟩
theorem ce_X0_nextSign : CE yX0_nextSign cX0_nextSign 3 (some .int) 1 := ⟨tw_425, tw_58, ⟨by decide, by decide⟩, ce_par (by decide +kernel)⟩
theorem cv_X0_nextSign : CV yX0_nextSign := ⟨tw_423, tw_424⟩
theorem ce_X0_signsBetween : CE yX0_signsBetween cX0_signsBetween 5 (some .int) 2 := ⟨tw_390, tw_58, ⟨by decide, by decide⟩, ce_par (by decide +kernel)⟩
theorem cv_X0_signsBetween : CV yX0_signsBetween := ⟨tw_388, tw_389⟩
theorem ce_X0_become : CE yX0_become cX0_become 2 none 1 := ⟨tw_260, tw_58, ⟨by decide, by decide⟩, ce_par (by decide +kernel)⟩
theorem cv_X0_become : CV yX0_become := ⟨tw_258, tw_259⟩
theorem ce_X4_length : CE yX4_length cX4_length 1 (some .int) 0 := ⟨tw_295, tw_59, ⟨by decide, by decide⟩, ce_par (by decide +kernel)⟩
theorem cv_X4_length : CV yX4_length := ⟨tw_293, tw_294⟩
theorem ce_X4_at : CE yX4_at cX4_at 2 (some .int) 1 := ⟨tw_271, tw_59, ⟨by decide, by decide⟩, ce_par (by decide +kernel)⟩
theorem cv_X4_at : CV yX4_at := ⟨tw_269, tw_270⟩
theorem ce_X4_firstIndexOf : CE yX4_firstIndexOf cX4_firstIndexOf 3 (some .int) 1 := ⟨tw_518, tw_59, ⟨by decide, by decide⟩, ce_par (by decide +kernel)⟩
theorem cv_X4_firstIndexOf : CV yX4_firstIndexOf := ⟨tw_516, tw_517⟩
theorem ce_X4_set : CE yX4_set cX4_set 3 none 2 := ⟨tw_275, tw_59, ⟨by decide, by decide⟩, ce_par (by decide +kernel)⟩
theorem cv_X4_set : CV yX4_set := ⟨tw_273, tw_274⟩
theorem ce_X4_add : CE yX4_add cX4_add 2 none 1 := ⟨tw_365, tw_59, ⟨by decide, by decide⟩, ce_par (by decide +kernel)⟩
theorem cv_X4_add : CV yX4_add := ⟨tw_363, tw_364⟩
theorem ce_X4_addAt : CE yX4_addAt cX4_addAt 4 none 2 := ⟨tw_369, tw_59, ⟨by decide, by decide⟩, ce_par (by decide +kernel)⟩
theorem cv_X4_addAt : CV yX4_addAt := ⟨tw_367, tw_368⟩
theorem ce_X4_drop : CE yX4_drop cX4_drop 3 none 1 := ⟨tw_454, tw_59, ⟨by decide, by decide⟩, ce_par (by decide +kernel)⟩
theorem cv_X4_drop : CV yX4_drop := ⟨tw_452, tw_453⟩
theorem ce_X4_empty : CE yX4_empty cX4_empty 1 none 0 := ⟨tw_317, tw_59, ⟨by decide, by decide⟩, ce_par (by decide +kernel)⟩
theorem cv_X4_empty : CV yX4_empty := ⟨tw_315, tw_316⟩
theorem ce_X4_become : CE yX4_become cX4_become 3 none 1 := ⟨tw_264, tw_59, ⟨by decide, by decide⟩, ce_par (by decide +kernel)⟩
theorem cv_X4_become : CV yX4_become := ⟨tw_262, tw_263⟩
theorem ce_X5_ofLetters : CE yX5_ofLetters cX5_ofLetters 2 (some .int) 2 := ⟨tw_342, tw_66, ⟨by decide, by decide⟩, ce_par (by decide +kernel)⟩
theorem cv_X5_ofLetters : Cond.static yX5_ofLetters ∈ gw := tw_341
theorem ce_X5_ofStars : CE yX5_ofStars cX5_ofStars 1 (some .int) 1 := ⟨tw_334, tw_66, ⟨by decide, by decide⟩, ce_par (by decide +kernel)⟩
theorem cv_X5_ofStars : Cond.static yX5_ofStars ∈ gw := tw_333
theorem ce_X5_isStarred : CE yX5_isStarred cX5_isStarred 1 (some .boolean) 1 := ⟨tw_345, tw_66, ⟨by decide, by decide⟩, ce_par (by decide +kernel)⟩
theorem cv_X5_isStarred : Cond.static yX5_isStarred ∈ gw := tw_344
theorem ce_X5_letter : CE yX5_letter cX5_letter 1 (some .int) 1 := ⟨tw_393, tw_66, ⟨by decide, by decide⟩, ce_par (by decide +kernel)⟩
theorem cv_X5_letter : Cond.static yX5_letter ∈ gw := tw_392
theorem ce_X5_times : CE yX5_times cX5_times 1 (some .int) 1 := ⟨tw_352, tw_66, ⟨by decide, by decide⟩, ce_par (by decide +kernel)⟩
theorem cv_X5_times : Cond.static yX5_times ∈ gw := tw_351
theorem ce_J6_bitCount_0f7a4 : CE yJ6_bitCount_0f7a4 cJ6_bitCount_0f7a4 1 (some .int) 1 := ⟨tw_237, tw_65, ⟨by decide, by decide⟩, ce_par (by decide +kernel)⟩
theorem cv_J6_bitCount_0f7a4 : Cond.static yJ6_bitCount_0f7a4 ∈ gw := tw_236
set_option maxHeartbeats 4000000 in
set_option maxRecDepth 100000 in
theorem c_X0_has (l : Launch) (D : va_G) (kI kC kB : ClassId) (a : AdT) (z_out : Int32) (p1 : Int32) (Post : Int32 → Prop) (hw : wp_X0_has z_out p1 Post) : CR l D kI kC kB yX0_has cX0_has 2 (some .boolean) ({ frames := 0, cells := 0, slots := 0, locals := 0 } : Room) [.ref (a 0), .int p1] (cwAlph a z_out) Post := by
  refine entR (by decide) (Nat.le_of_ble_eq_true rfl) ?_
  intro p e s m args below meth c ls C hP hl
  replace hl : lv_has ls 2 [(0, .ref (a 0)), (1, .int p1)] := hl
  obtain ⟨hx, hb, hr, hml, hown, hts, hlocks, hK⟩ := id C
  refine lv_iload_n hx hb dX0_has_0 rfl (lv_at hl 1 rfl) ?_
  refine lv_if_lt (tgt := 25) hx hb dX0_has_1 (by decide) (fun hc => ?_) (fun hc => ?_)
  · replace hw := hw.1 hc
    refine lv_iconst (v := 0) hx hb dX0_has_25 (by decide) ?_
    exact retRz C (by decide) hw dX0_has_26
  · replace hw := hw.2 hc
    refine lv_iload_n hx hb dX0_has_4 rfl (lv_at hl 1 rfl) ?_
    refine lv_bipush (v := 26) hx hb dX0_has_5 (by decide) ?_
    refine lv_icmp_ge (tgt := 25) hx hb dX0_has_7 (by decide) (fun hc => ?_) (fun hc => ?_)
    · replace hw := hw.1 hc
      refine lv_iconst (v := 0) hx hb dX0_has_25 (by decide) ?_
      exact retRz C (by decide) hw dX0_has_26
    · replace hw := hw.2 hc
      refine lv_aload_n hx hb dX0_has_10 rfl (lv_at hl 0 rfl) ?_
      refine va_get (D := D) (ci := 0) (v := .int z_out) (C := RX0) (T := TX0) (N := 1) hx hb hts inX0 hown hK.1 hP 0 rfl rfl 0 (by decide) (hts _ tw_89) (fun _ h9 => h9) rfl dX0_has_11 ?_
      refine lv_iload_n hx hb dX0_has_14 rfl (lv_at hl 1 rfl) ?_
      refine lv_ishr hx hb dX0_has_15 ?_
      refine lv_iconst (v := 1) hx hb dX0_has_16 (by decide) ?_
      refine lv_iand hx hb dX0_has_17 ?_
      refine lv_if_ne (tgt := 25) hx hb dX0_has_18 (by decide) (fun hc => ?_) (fun hc => ?_)
      · replace hw := hw.2 hc
        refine lv_iconst (v := 0) hx hb dX0_has_25 (by decide) ?_
        exact retRz C (by decide) hw dX0_has_26
      · replace hw := hw.1 hc
        refine lv_iconst (v := 1) hx hb dX0_has_21 (by decide) ?_
        refine lv_goto (tgt := 26) hx hb dX0_has_22 (by decide) ?_
        exact retRz C (by decide) hw dX0_has_26
set_option maxHeartbeats 4000000 in
set_option maxRecDepth 100000 in
theorem c_J6_bitCount_0f7a4 (l : Launch) (D : va_G) (kI kC kB : ClassId)  (p1 : Int32) (Post : Int32 → Prop) (hw : wp_J6_bitCount_0f7a4 p1 Post) : CR l D kI kC kB yJ6_bitCount_0f7a4 cJ6_bitCount_0f7a4 1 (some .int) ({ frames := 0, cells := 0, slots := 0, locals := 0 } : Room) [.int p1] ([] : va_W) Post := by
  refine entR (by decide) (Nat.le_of_ble_eq_true rfl) ?_
  intro p e s m args below meth c ls C hP hl
  replace hl : lv_has ls 1 [(0, .int p1)] := hl
  obtain ⟨hx, hb, hr, hml, hown, hts, hlocks, hK⟩ := id C
  refine lv_iload_n hx hb dJ6_bitCount_0f7a4_0 rfl (lv_at hl 0 rfl) ?_
  refine lv_iload_n hx hb dJ6_bitCount_0f7a4_1 rfl (lv_at hl 0 rfl) ?_
  refine lv_iconst (v := 1) hx hb dJ6_bitCount_0f7a4_2 (by decide) ?_
  refine lv_iushr hx hb dJ6_bitCount_0f7a4_3 rfl ?_
  refine lv_ldcw (v := 1431655765) hx hb hown (hts _ tw_238) dJ6_bitCount_0f7a4_4 ?_
  refine lv_iand hx hb dJ6_bitCount_0f7a4_7 ?_
  refine lv_isub hx hb dJ6_bitCount_0f7a4_8 ?_
  refine lv_topi (fun y1 ey1 => ?_)
  replace hw := hw y1 ey1
  refine lv_istore_n (lv' := [(0, .int y1)]) hx hb dJ6_bitCount_0f7a4_9 rfl hl (by decide) rfl (fun ls hl => ?_)
  refine lv_iload_n hx hb dJ6_bitCount_0f7a4_10 rfl (lv_at hl 0 rfl) ?_
  refine lv_ldcw (v := 858993459) hx hb hown (hts _ tw_239) dJ6_bitCount_0f7a4_11 ?_
  refine lv_iand hx hb dJ6_bitCount_0f7a4_14 ?_
  refine lv_iload_n hx hb dJ6_bitCount_0f7a4_15 rfl (lv_at hl 0 rfl) ?_
  refine lv_iconst (v := 2) hx hb dJ6_bitCount_0f7a4_16 (by decide) ?_
  refine lv_iushr hx hb dJ6_bitCount_0f7a4_17 rfl ?_
  refine lv_ldcw (v := 858993459) hx hb hown (hts _ tw_239) dJ6_bitCount_0f7a4_18 ?_
  refine lv_iand hx hb dJ6_bitCount_0f7a4_21 ?_
  refine lv_iadd hx hb dJ6_bitCount_0f7a4_22 ?_
  refine lv_topi (fun y2 ey2 => ?_)
  replace hw := hw y2 ey2
  refine lv_istore_n (lv' := [(0, .int y2)]) hx hb dJ6_bitCount_0f7a4_23 rfl hl (by decide) rfl (fun ls hl => ?_)
  refine lv_iload_n hx hb dJ6_bitCount_0f7a4_24 rfl (lv_at hl 0 rfl) ?_
  refine lv_iload_n hx hb dJ6_bitCount_0f7a4_25 rfl (lv_at hl 0 rfl) ?_
  refine lv_iconst (v := 4) hx hb dJ6_bitCount_0f7a4_26 (by decide) ?_
  refine lv_iushr hx hb dJ6_bitCount_0f7a4_27 rfl ?_
  refine lv_iadd hx hb dJ6_bitCount_0f7a4_28 ?_
  refine lv_ldcw (v := 252645135) hx hb hown (hts _ tw_240) dJ6_bitCount_0f7a4_29 ?_
  refine lv_iand hx hb dJ6_bitCount_0f7a4_32 ?_
  refine lv_topi (fun y3 ey3 => ?_)
  replace hw := hw y3 ey3
  refine lv_istore_n (lv' := [(0, .int y3)]) hx hb dJ6_bitCount_0f7a4_33 rfl hl (by decide) rfl (fun ls hl => ?_)
  refine lv_iload_n hx hb dJ6_bitCount_0f7a4_34 rfl (lv_at hl 0 rfl) ?_
  refine lv_iload_n hx hb dJ6_bitCount_0f7a4_35 rfl (lv_at hl 0 rfl) ?_
  refine lv_bipush (v := 8) hx hb dJ6_bitCount_0f7a4_36 (by decide) ?_
  refine lv_iushr hx hb dJ6_bitCount_0f7a4_38 rfl ?_
  refine lv_iadd hx hb dJ6_bitCount_0f7a4_39 ?_
  refine lv_topi (fun y4 ey4 => ?_)
  replace hw := hw y4 ey4
  refine lv_istore_n (lv' := [(0, .int y4)]) hx hb dJ6_bitCount_0f7a4_40 rfl hl (by decide) rfl (fun ls hl => ?_)
  refine lv_iload_n hx hb dJ6_bitCount_0f7a4_41 rfl (lv_at hl 0 rfl) ?_
  refine lv_iload_n hx hb dJ6_bitCount_0f7a4_42 rfl (lv_at hl 0 rfl) ?_
  refine lv_bipush (v := 16) hx hb dJ6_bitCount_0f7a4_43 (by decide) ?_
  refine lv_iushr hx hb dJ6_bitCount_0f7a4_45 rfl ?_
  refine lv_iadd hx hb dJ6_bitCount_0f7a4_46 ?_
  refine lv_topi (fun y5 ey5 => ?_)
  replace hw := hw y5 ey5
  refine lv_istore_n (lv' := [(0, .int y5)]) hx hb dJ6_bitCount_0f7a4_47 rfl hl (by decide) rfl (fun ls hl => ?_)
  refine lv_iload_n hx hb dJ6_bitCount_0f7a4_48 rfl (lv_at hl 0 rfl) ?_
  refine lv_bipush (v := 63) hx hb dJ6_bitCount_0f7a4_49 (by decide) ?_
  refine lv_iand hx hb dJ6_bitCount_0f7a4_51 ?_
  exact retR C hw dJ6_bitCount_0f7a4_52
set_option maxHeartbeats 4000000 in
set_option maxRecDepth 100000 in
theorem c_X0_letters (l : Launch) (D : va_G) (kI kC kB : ClassId) (a : AdT) (z_out : Int32) (Post : Int32 → Prop) (hw : wp_X0_letters z_out Post) : CR l D kI kC kB yX0_letters cX0_letters 1 (some .int) ({ frames := 1, cells := 0, slots := 0, locals := 20 } : Room) [.ref (a 0)] (cwAlph a z_out) Post := by
  refine entR (by decide) (Nat.le_of_ble_eq_true rfl) ?_
  intro p e s m args below meth c ls C hP hl
  replace hl : lv_has ls 1 [(0, .ref (a 0))] := hl
  obtain ⟨hx, hb, hr, hml, hown, hts, hlocks, hK⟩ := id C
  refine lv_bipush (v := 26) hx hb dX0_letters_0 (by decide) ?_
  refine lv_aload_n hx hb dX0_letters_2 rfl (lv_at hl 0 rfl) ?_
  refine va_get (D := D) (ci := 0) (v := .int z_out) (C := RX0) (T := TX0) (N := 1) hx hb hts inX0 hown hK.1 hP 0 rfl rfl 0 (by decide) (hts _ tw_89) (fun _ h9 => h9) rfl dX0_letters_3 ?_
  refine kRS (As := [.int z_out]) (rest := [.int 26]) C (c_J6_bitCount_0f7a4 l D kI kC kB  z_out _ hw) ⟨rfl, rfl⟩ ce_J6_bitCount_0f7a4 cv_J6_bitCount_0f7a4 tw_235 ⟨Nat.le_of_ble_eq_true rfl, Nat.le_of_ble_eq_true rfl⟩ hP [] rfl hl.1 rfl (Nat.le_of_ble_eq_true rfl) ⟨Nat.zero_le _, Nat.zero_le _⟩ dX0_letters_6 (fun r1 hw => ?_)
  refine lv_isub hx hb dX0_letters_9 ?_
  exact retR C hw dX0_letters_10
set_option maxHeartbeats 4000000 in
set_option maxRecDepth 100000 in
theorem c_X0_turn (l : Launch) (D : va_G) (kI kC kB : ClassId) (a : AdT) (z_out : Int32) (sz : Nat) (p1 : Int32) (Post : Int32 → Prop) (hw : wp_X0_turn z_out p1 Post) : CMv l D kI kC kB yX0_turn cX0_turn 2 none ({ frames := 0, cells := 0, slots := 0, locals := 0 } : Room) [.ref (a 0), .int p1] (cwAlph a z_out) sz (fun (u : Int32) => Post u) (fun u : Int32 => (cwAlph a u)) := by
  refine entMv (by decide) (Nat.le_of_ble_eq_true rfl) ?_
  intro p e s m args below meth c ls A C hA hP hD hS hl
  obtain ⟨H, hHe⟩ : ∃ H, H = s.heap := ⟨_, rfl⟩
  obtain ⟨locs, hlo⟩ : ∃ lo : List Loc, lo = [] := ⟨_, rfl⟩
  have hS : va_S A s.heap H locs := by rw [hHe, hlo]; exact hS
  rw [← hHe] at hP
  suffices hg : W p l e ({ frames := 0, cells := 0, slots := 0, locals := 0 } : Room) s m args below meth c H locs 0 0 (MQ below (va_Qv (fun (u : Int32) => Post u) (BB D A (fun u : Int32 => (cwAlph a u))) A) args s 0 0 A) (F0 m 0 ls []) by rw [hHe, hlo] at hg; exact hg
  replace hl : lv_has ls 2 [(0, .ref (a 0)), (1, .int p1)] := hl
  obtain ⟨hx, hb, hr, hml, hown, hts, hlocks, hK⟩ := id C
  refine lv_aload_n hx hb dX0_turn_0 rfl (lv_at hl 0 rfl) ?_
  refine lv_dup hx hb dX0_turn_1 rfl ?_
  refine va_get (D := D) (ci := 0) (v := .int z_out) (C := RX0) (T := TX0) (N := 1) hx hb hts inX0 hown hK.1 hP 0 rfl rfl 0 (by decide) (hts _ tw_89) (fun _ h9 => h9) rfl dX0_turn_2 ?_
  refine lv_iconst (v := 1) hx hb dX0_turn_5 (by decide) ?_
  refine lv_iload_n hx hb dX0_turn_6 rfl (lv_at hl 1 rfl) ?_
  refine lv_ishl hx hb dX0_turn_7 ?_
  refine lv_ixor hx hb dX0_turn_8 ?_
  refine va_put (D := D) (ci := 0) (v := .int (z_out ^^^ (1 <<< (p1 &&& 31)))) (ty := .int) (C := RX0) (T := TX0) (N := 1) hx hb hts inX0 tyX0 tyX0_ok nmX0 hown hK.1 hP hD hS 0 rfl rfl 0 (by decide) (hts _ tw_89) (fun _ h9 => h9) rfl (tyX0_ok 0 (by decide)) rfl rfl (Nat.le_of_ble_eq_true rfl) dX0_turn_9 (fun H locs hP hD hS => ?_)
  replace hP : va_P D vwCl (cwAlph a (z_out ^^^ (1 <<< (p1 &&& 31)))) H := hP
  replace hD : va_D A (cwAlph a (z_out ^^^ (1 <<< (p1 &&& 31)))) := hD
  exact retMv C ((z_out ^^^ (1 <<< (p1 &&& 31)))) hw hP hD hS dX0_turn_12
set_option maxHeartbeats 4000000 in
set_option maxRecDepth 100000 in
theorem c_X4_length (l : Launch) (D : va_G) (kI kC kB : ClassId) (a : AdT) (z_ : RowT) (Post : Int32 → Prop) (hw : wp_X4_length z_ Post) : CR l D kI kC kB yX4_length cX4_length 1 (some .int) ({ frames := 0, cells := 0, slots := 0, locals := 0 } : Room) [.ref (a 0)] (cwRow kI a z_) Post := by
  refine entR (by decide) (Nat.le_of_ble_eq_true rfl) ?_
  intro p e s m args below meth c ls C hP hl
  replace hl : lv_has ls 1 [(0, .ref (a 0))] := hl
  obtain ⟨hx, hb, hr, hml, hown, hts, hlocks, hK⟩ := id C
  refine lv_aload_n hx hb dX4_length_0 rfl (lv_at hl 0 rfl) ?_
  refine va_get (D := D) (ci := 3) (v := .int z_.2.2) (C := RX4) (T := TX4) (N := 2) hx hb hts inX4 hown hK.1 hP 0 rfl rfl 1 (by decide) (hts _ tw_103) (fun _ h9 => h9) rfl dX4_length_1 ?_
  exact retR C hw dX4_length_4
set_option maxHeartbeats 4000000 in
set_option maxRecDepth 100000 in
theorem c_X4_at (l : Launch) (D : va_G) (kI kC kB : ClassId) (a : AdT) (z_ : RowT) (p1 : Int32) (Post : Int32 → Prop) (hw : wp_X4_at z_ p1 Post) : CR l D kI kC kB yX4_at cX4_at 2 (some .int) ({ frames := 0, cells := 0, slots := 0, locals := 0 } : Room) [.ref (a 0), .int p1] (cwRow kI a z_) Post := by
  refine entR (by decide) (Nat.le_of_ble_eq_true rfl) ?_
  intro p e s m args below meth c ls C hP hl
  replace hl : lv_has ls 2 [(0, .ref (a 0)), (1, .int p1)] := hl
  obtain ⟨hx, hb, hr, hml, hown, hts, hlocks, hK⟩ := id C
  refine lv_iload_n hx hb dX4_at_0 rfl (lv_at hl 1 rfl) ?_
  refine lv_if_lt (tgt := 30) hx hb dX4_at_1 (by decide) (fun hc => ?_) (fun hc => ?_)
  · replace hw := hw.1 hc
    refine lv_iconst (v := (-1)) hx hb dX4_at_30 (by decide) ?_
    exact retR C hw dX4_at_31
  · replace hw := hw.2 hc
    refine lv_iload_n hx hb dX4_at_4 rfl (lv_at hl 1 rfl) ?_
    refine lv_aload_n hx hb dX4_at_5 rfl (lv_at hl 0 rfl) ?_
    refine va_get (D := D) (ci := 3) (v := .int z_.2.2) (C := RX4) (T := TX4) (N := 2) hx hb hts inX4 hown hK.1 hP 0 rfl rfl 1 (by decide) (hts _ tw_103) (fun _ h9 => h9) rfl dX4_at_6 ?_
    refine lv_icmp_ge (tgt := 30) hx hb dX4_at_9 (by decide) (fun hc => ?_) (fun hc => ?_)
    · replace hw := hw.1 hc
      refine lv_iconst (v := (-1)) hx hb dX4_at_30 (by decide) ?_
      exact retR C hw dX4_at_31
    · replace hw := hw.2 hc
      refine lv_iload_n hx hb dX4_at_12 rfl (lv_at hl 1 rfl) ?_
      refine lv_aload_n hx hb dX4_at_13 rfl (lv_at hl 0 rfl) ?_
      refine va_get (D := D) (ci := 3) (v := .ref (a 1)) (C := RX4) (T := TX4) (N := 2) hx hb hts inX4 hown hK.1 hP 0 rfl rfl 0 (by decide) (hts _ tw_102) (fun _ h9 => h9) rfl dX4_at_14 ?_
      refine va_alen (v := (nI z_.1)) hx hb hK.1 hP 1 0 rfl rfl rfl dX4_at_17 ?_
      refine lv_icmp_ge (tgt := 30) hx hb dX4_at_18 (by decide) (fun hc => ?_) (fun hc => ?_)
      · replace hw := hw.1 hc
        refine lv_iconst (v := (-1)) hx hb dX4_at_30 (by decide) ?_
        exact retR C hw dX4_at_31
      · replace hw := hw.2 hc
        refine lv_aload_n hx hb dX4_at_21 rfl (lv_at hl 0 rfl) ?_
        refine va_get (D := D) (ci := 3) (v := .ref (a 1)) (C := RX4) (T := TX4) (N := 2) hx hb hts inX4 hown hK.1 hP 0 rfl rfl 0 (by decide) (hts _ tw_102) (fun _ h9 => h9) rfl dX4_at_22 ?_
        refine lv_iload_n hx hb dX4_at_25 rfl (lv_at hl 1 rfl) ?_
        have hin := hw.1
        replace hw := hw.2
        refine va_iald hx hb hK.1 hP 1 0 rfl rfl hin dX4_at_26 ?_
        refine lv_goto (tgt := 31) hx hb dX4_at_27 (by decide) ?_
        exact retR C hw dX4_at_31
set_option maxHeartbeats 4000000 in
set_option maxRecDepth 100000 in
theorem c_X4_empty (l : Launch) (D : va_G) (kI kC kB : ClassId) (a : AdT) (z_ : RowT) (sz : Nat) (Post : RowT → Prop) (hw : wp_X4_empty z_ Post) : CMv l D kI kC kB yX4_empty cX4_empty 1 none ({ frames := 0, cells := 0, slots := 0, locals := 0 } : Room) [.ref (a 0)] (cwRow kI a z_) sz (fun (u : RowT) => Post u) (fun u : RowT => (cwRow kI a u)) := by
  refine entMv (by decide) (Nat.le_of_ble_eq_true rfl) ?_
  intro p e s m args below meth c ls A C hA hP hD hS hl
  obtain ⟨H, hHe⟩ : ∃ H, H = s.heap := ⟨_, rfl⟩
  obtain ⟨locs, hlo⟩ : ∃ lo : List Loc, lo = [] := ⟨_, rfl⟩
  have hS : va_S A s.heap H locs := by rw [hHe, hlo]; exact hS
  rw [← hHe] at hP
  suffices hg : W p l e ({ frames := 0, cells := 0, slots := 0, locals := 0 } : Room) s m args below meth c H locs 0 0 (MQ below (va_Qv (fun (u : RowT) => Post u) (BB D A (fun u : RowT => (cwRow kI a u))) A) args s 0 0 A) (F0 m 0 ls []) by rw [hHe, hlo] at hg; exact hg
  replace hl : lv_has ls 1 [(0, .ref (a 0))] := hl
  obtain ⟨hx, hb, hr, hml, hown, hts, hlocks, hK⟩ := id C
  refine lv_aload_n hx hb dX4_empty_0 rfl (lv_at hl 0 rfl) ?_
  refine lv_iconst (v := 0) hx hb dX4_empty_1 (by decide) ?_
  refine va_put (D := D) (ci := 3) (v := .int 0) (ty := .int) (C := RX4) (T := TX4) (N := 2) hx hb hts inX4 tyX4 tyX4_ok nmX4 hown hK.1 hP hD hS 0 rfl rfl 1 (by decide) (hts _ tw_103) (fun _ h9 => h9) rfl (tyX4_ok 1 (by decide)) rfl rfl (Nat.le_of_ble_eq_true rfl) dX4_empty_2 (fun H locs hP hD hS => ?_)
  replace hP : va_P D vwCl (cwRow kI a (z_.1, z_.2.1, 0)) H := hP
  replace hD : va_D A (cwRow kI a (z_.1, z_.2.1, 0)) := hD
  exact retMv C ((z_.1, z_.2.1, 0)) hw hP hD hS dX4_empty_5
set_option maxHeartbeats 4000000 in
set_option maxRecDepth 100000 in
theorem c_X5_ofStars (l : Launch) (D : va_G) (kI kC kB : ClassId)  (p1 : Int32) (Post : Int32 → Prop) (hw : wp_X5_ofStars p1 Post) : CR l D kI kC kB yX5_ofStars cX5_ofStars 1 (some .int) ({ frames := 0, cells := 0, slots := 0, locals := 0 } : Room) [.int p1] ([] : va_W) Post := by
  refine entR (by decide) (Nat.le_of_ble_eq_true rfl) ?_
  intro p e s m args below meth c ls C hP hl
  replace hl : lv_has ls 1 [(0, .int p1)] := hl
  obtain ⟨hx, hb, hr, hml, hown, hts, hlocks, hK⟩ := id C
  refine lv_bipush (v := 78) hx hb dX5_ofStars_0 (by decide) ?_
  refine lv_iload_n hx hb dX5_ofStars_2 rfl (lv_at hl 0 rfl) ?_
  refine lv_iadd hx hb dX5_ofStars_3 ?_
  refine lv_iconst (v := 1) hx hb dX5_ofStars_4 (by decide) ?_
  refine lv_isub hx hb dX5_ofStars_5 ?_
  exact retR C hw dX5_ofStars_6
set_option maxHeartbeats 4000000 in
set_option maxRecDepth 100000 in
theorem c_X5_ofLetters (l : Launch) (D : va_G) (kI kC kB : ClassId)  (p1 : Int32) (p2 : Int32) (Post : Int32 → Prop) (hw : wp_X5_ofLetters p1 p2 Post) : CR l D kI kC kB yX5_ofLetters cX5_ofLetters 2 (some .int) ({ frames := 0, cells := 0, slots := 0, locals := 0 } : Room) [.int p1, .int p2] ([] : va_W) Post := by
  refine entR (by decide) (Nat.le_of_ble_eq_true rfl) ?_
  intro p e s m args below meth c ls C hP hl
  replace hl : lv_has ls 2 [(0, .int p1), (1, .int p2)] := hl
  obtain ⟨hx, hb, hr, hml, hown, hts, hlocks, hK⟩ := id C
  refine lv_iload_n hx hb dX5_ofLetters_0 rfl (lv_at hl 1 rfl) ?_
  refine lv_iconst (v := 1) hx hb dX5_ofLetters_1 (by decide) ?_
  refine lv_isub hx hb dX5_ofLetters_2 ?_
  refine lv_bipush (v := 26) hx hb dX5_ofLetters_3 (by decide) ?_
  refine lv_imul hx hb dX5_ofLetters_5 ?_
  refine lv_iload_n hx hb dX5_ofLetters_6 rfl (lv_at hl 0 rfl) ?_
  refine lv_iadd hx hb dX5_ofLetters_7 ?_
  exact retR C hw dX5_ofLetters_8
set_option maxHeartbeats 4000000 in
set_option maxRecDepth 100000 in
theorem c_X5_isStarred (l : Launch) (D : va_G) (kI kC kB : ClassId)  (p1 : Int32) (Post : Int32 → Prop) (hw : wp_X5_isStarred p1 Post) : CR l D kI kC kB yX5_isStarred cX5_isStarred 1 (some .boolean) ({ frames := 0, cells := 0, slots := 0, locals := 0 } : Room) [.int p1] ([] : va_W) Post := by
  refine entR (by decide) (Nat.le_of_ble_eq_true rfl) ?_
  intro p e s m args below meth c ls C hP hl
  replace hl : lv_has ls 1 [(0, .int p1)] := hl
  obtain ⟨hx, hb, hr, hml, hown, hts, hlocks, hK⟩ := id C
  refine lv_iload_n hx hb dX5_isStarred_0 rfl (lv_at hl 0 rfl) ?_
  refine lv_bipush (v := 78) hx hb dX5_isStarred_1 (by decide) ?_
  refine lv_icmp_lt (tgt := 10) hx hb dX5_isStarred_3 (by decide) (fun hc => ?_) (fun hc => ?_)
  · replace hw := hw.1 hc
    refine lv_iconst (v := 0) hx hb dX5_isStarred_10 (by decide) ?_
    exact retRz C (by decide) hw dX5_isStarred_11
  · replace hw := hw.2 hc
    refine lv_iconst (v := 1) hx hb dX5_isStarred_6 (by decide) ?_
    refine lv_goto (tgt := 11) hx hb dX5_isStarred_7 (by decide) ?_
    exact retRz C (by decide) hw dX5_isStarred_11
set_option maxHeartbeats 4000000 in
set_option maxRecDepth 100000 in
theorem c_X5_times (l : Launch) (D : va_G) (kI kC kB : ClassId)  (p1 : Int32) (Post : Int32 → Prop) (hw : wp_X5_times p1 Post) : CR l D kI kC kB yX5_times cX5_times 1 (some .int) ({ frames := 1, cells := 0, slots := 0, locals := 20 } : Room) [.int p1] ([] : va_W) Post := by
  refine entR (by decide) (Nat.le_of_ble_eq_true rfl) ?_
  intro p e s m args below meth c ls C hP hl
  replace hl : lv_has ls 1 [(0, .int p1)] := hl
  obtain ⟨hx, hb, hr, hml, hown, hts, hlocks, hK⟩ := id C
  refine lv_iload_n hx hb dX5_times_0 rfl (lv_at hl 0 rfl) ?_
  refine kRS (As := [.int p1]) (rest := []) C (c_X5_isStarred l D kI kC kB  p1 _ hw) ⟨rfl, rfl⟩ ce_X5_isStarred cv_X5_isStarred tw_353 ⟨Nat.le_of_ble_eq_true rfl, Nat.le_of_ble_eq_true rfl⟩ hP [] rfl hl.1 rfl (Nat.le_of_ble_eq_true rfl) ⟨Nat.zero_le _, Nat.zero_le _⟩ dX5_times_1 (fun r1 hw => ?_)
  refine lv_if_eq (tgt := 16) hx hb dX5_times_4 (by decide) (fun hc => ?_) (fun hc => ?_)
  · replace hw := hw.1 hc
    refine lv_iload_n hx hb dX5_times_16 rfl (lv_at hl 0 rfl) ?_
    refine lv_bipush (v := 26) hx hb dX5_times_17 (by decide) ?_
    refine lv_idiv hx hb dX5_times_19 (by decide) ?_
    refine lv_iconst (v := 1) hx hb dX5_times_20 (by decide) ?_
    refine lv_iadd hx hb dX5_times_21 ?_
    exact retR C hw dX5_times_22
  · replace hw := hw.2 hc
    refine lv_iload_n hx hb dX5_times_7 rfl (lv_at hl 0 rfl) ?_
    refine lv_bipush (v := 78) hx hb dX5_times_8 (by decide) ?_
    refine lv_isub hx hb dX5_times_10 ?_
    refine lv_iconst (v := 1) hx hb dX5_times_11 (by decide) ?_
    refine lv_iadd hx hb dX5_times_12 ?_
    refine lv_goto (tgt := 22) hx hb dX5_times_13 (by decide) ?_
    exact retR C hw dX5_times_22
set_option maxHeartbeats 4000000 in
set_option maxRecDepth 100000 in
theorem c_X4_set (l : Launch) (D : va_G) (kI kC kB : ClassId) (a : AdT) (z_ : RowT) (sz : Nat) (p1 : Int32) (p2 : Int32) (Post : RowT → Prop) (hw : wp_X4_set z_ p1 p2 Post) : CMv l D kI kC kB yX4_set cX4_set 3 none ({ frames := 0, cells := 0, slots := 0, locals := 0 } : Room) [.ref (a 0), .int p1, .int p2] (cwRow kI a z_) sz (fun (u : RowT) => Post u) (fun u : RowT => (cwRow kI a u)) := by
  refine entMv (by decide) (Nat.le_of_ble_eq_true rfl) ?_
  intro p e s m args below meth c ls A C hA hP hD hS hl
  obtain ⟨H, hHe⟩ : ∃ H, H = s.heap := ⟨_, rfl⟩
  obtain ⟨locs, hlo⟩ : ∃ lo : List Loc, lo = [] := ⟨_, rfl⟩
  have hS : va_S A s.heap H locs := by rw [hHe, hlo]; exact hS
  rw [← hHe] at hP
  suffices hg : W p l e ({ frames := 0, cells := 0, slots := 0, locals := 0 } : Room) s m args below meth c H locs 0 0 (MQ below (va_Qv (fun (u : RowT) => Post u) (BB D A (fun u : RowT => (cwRow kI a u))) A) args s 0 0 A) (F0 m 0 ls []) by rw [hHe, hlo] at hg; exact hg
  replace hl : lv_has ls 3 [(0, .ref (a 0)), (1, .int p1), (2, .int p2)] := hl
  obtain ⟨hx, hb, hr, hml, hown, hts, hlocks, hK⟩ := id C
  refine lv_iload_n hx hb dX4_set_0 rfl (lv_at hl 1 rfl) ?_
  refine lv_if_lt (tgt := 28) hx hb dX4_set_1 (by decide) (fun hc => ?_) (fun hc => ?_)
  · replace hw := hw.1 hc
    exact retMv C (z_) hw hP hD hS dX4_set_28
  · replace hw := hw.2 hc
    refine lv_iload_n hx hb dX4_set_4 rfl (lv_at hl 1 rfl) ?_
    refine lv_aload_n hx hb dX4_set_5 rfl (lv_at hl 0 rfl) ?_
    refine va_get (D := D) (ci := 3) (v := .int z_.2.2) (C := RX4) (T := TX4) (N := 2) hx hb hts inX4 hown hK.1 hP 0 rfl rfl 1 (by decide) (hts _ tw_103) (fun _ h9 => h9) rfl dX4_set_6 ?_
    refine lv_icmp_ge (tgt := 28) hx hb dX4_set_9 (by decide) (fun hc => ?_) (fun hc => ?_)
    · replace hw := hw.1 hc
      exact retMv C (z_) hw hP hD hS dX4_set_28
    · replace hw := hw.2 hc
      refine lv_iload_n hx hb dX4_set_12 rfl (lv_at hl 1 rfl) ?_
      refine lv_aload_n hx hb dX4_set_13 rfl (lv_at hl 0 rfl) ?_
      refine va_get (D := D) (ci := 3) (v := .ref (a 1)) (C := RX4) (T := TX4) (N := 2) hx hb hts inX4 hown hK.1 hP 0 rfl rfl 0 (by decide) (hts _ tw_102) (fun _ h9 => h9) rfl dX4_set_14 ?_
      refine va_alen (v := (nI z_.1)) hx hb hK.1 hP 1 0 rfl rfl rfl dX4_set_17 ?_
      refine lv_icmp_ge (tgt := 28) hx hb dX4_set_18 (by decide) (fun hc => ?_) (fun hc => ?_)
      · replace hw := hw.1 hc
        exact retMv C (z_) hw hP hD hS dX4_set_28
      · replace hw := hw.2 hc
        refine lv_aload_n hx hb dX4_set_21 rfl (lv_at hl 0 rfl) ?_
        refine va_get (D := D) (ci := 3) (v := .ref (a 1)) (C := RX4) (T := TX4) (N := 2) hx hb hts inX4 hown hK.1 hP 0 rfl rfl 0 (by decide) (hts _ tw_102) (fun _ h9 => h9) rfl dX4_set_22 ?_
        refine lv_iload_n hx hb dX4_set_25 rfl (lv_at hl 1 rfl) ?_
        refine lv_iload_n hx hb dX4_set_26 rfl (lv_at hl 2 rfl) ?_
        have hin := hw.1
        replace hw := hw.2
        refine va_iast hx hb hK.1 hP hD hS 1 0 rfl rfl hin dX4_set_27 (fun H locs hP hD hS => ?_)
        replace hP : va_P D vwCl (cwRow kI a (z_.1, (upd z_.2.1 p1.toNatClampNeg p2), z_.2.2)) H := hP
        replace hD : va_D A (cwRow kI a (z_.1, (upd z_.2.1 p1.toNatClampNeg p2), z_.2.2)) := hD
        exact retMv C ((z_.1, (upd z_.2.1 p1.toNatClampNeg p2), z_.2.2)) hw hP hD hS dX4_set_28
set_option maxHeartbeats 4000000 in
set_option maxRecDepth 100000 in
theorem cl_X4_addAt_42 (l : Launch) (D : va_G) (kI kC kB : ClassId) (a : AdT) (p1 : Int32) (p2 : Int32) (Post : RowT → Prop) {p : Program} {e : Env} {s : State} {m : MethodId} {args : Array Value} {below : List Frame} {meth : Method} {c : Code} {A : Nat → Prop} (hA : ∀ q : Nat, s.heap.size ≤ q → A q) (C : CtxT p s m args meth c cX4_addAt 4 none yX4_addAt.cls D kI kC kB) : ∀ (n : Nat), ∀ (z_ : RowT) (v3 : Int32), wl_X4_addAt_42 p1 p2 Post n z_ v3 → ∀ (H : Heap) (locs : List Loc), va_P D vwCl (cwRow kI a z_) H → va_D A (cwRow kI a z_) → va_S A s.heap H locs → ∀ (ls : Array Slot), lv_has ls 4 [(0, .ref (a 0)), (1, .int p1), (2, .int p2), (3, .int v3)] → W p l e ({ frames := 1, cells := 0, slots := 0, locals := 22 } : Room) s m args below meth c H locs 0 0 (MQ below (va_Qv (fun (u : RowT) => Post u) (BB D A (fun u : RowT => (cwRow kI a u))) A) args s 0 0 A) (F0 m 42 ls []) := by
  obtain ⟨hx, hb, hr, hml, hown, hts, hlocks, hK⟩ := id C
  intro n
  induction n with
  | zero => intro z_ v3 hw; exact hw.elim
  | succ n ih =>
    intro z_ v3 hw H locs hP hD hS ls hl
    refine lv_iload_n hx hb dX4_addAt_42 rfl (lv_at hl 3 rfl) ?_
    refine lv_iload_n hx hb dX4_addAt_43 rfl (lv_at hl 1 rfl) ?_
    refine lv_icmp_le (tgt := 65) hx hb dX4_addAt_44 (by decide) (fun hc => ?_) (fun hc => ?_)
    · replace hw := hw.1 hc
      refine lv_aload_n hx hb dX4_addAt_65 rfl (lv_at hl 0 rfl) ?_
      refine lv_iload_n hx hb dX4_addAt_66 rfl (lv_at hl 1 rfl) ?_
      refine lv_iload_n hx hb dX4_addAt_67 rfl (lv_at hl 2 rfl) ?_
      refine kMVv (q0 := 0) (As := [.int p1, .int p2]) (rest := []) C (c_X4_set l D kI kC kB a z_ H.size p1 p2 _ hw) ⟨rfl, rfl⟩ ce_X4_set cv_X4_set tw_272 ⟨Nat.le_of_ble_eq_true rfl, Nat.le_of_ble_eq_true rfl⟩ hP hD hS hA [0, 1] rfl rfl (fun _ => rfl) rfl rfl rfl hl.1 rfl (Nat.le_of_ble_eq_true rfl) ⟨Nat.zero_le _, Nat.zero_le _⟩ dX4_addAt_68 (fun u H locs hw hP hD hS => ?_)
      obtain ⟨u1, rfl⟩ : ∃ z, z = u := ⟨_, rfl⟩
      try dsimp only at hw
      replace hP : va_P D vwCl (cwRow kI a u1) H := hP
      replace hD : va_D A (cwRow kI a u1) := hD
      exact retMv C (u1) hw hP hD hS dX4_addAt_71
    · replace hw := hw.2 hc
      refine lv_aload_n hx hb dX4_addAt_47 rfl (lv_at hl 0 rfl) ?_
      refine lv_iload_n hx hb dX4_addAt_48 rfl (lv_at hl 3 rfl) ?_
      refine lv_aload_n hx hb dX4_addAt_49 rfl (lv_at hl 0 rfl) ?_
      refine lv_iload_n hx hb dX4_addAt_50 rfl (lv_at hl 3 rfl) ?_
      refine lv_iconst (v := 1) hx hb dX4_addAt_51 (by decide) ?_
      refine lv_isub hx hb dX4_addAt_52 ?_
      refine kRV (As := [.int (v3 - 1)]) (rest := [.int v3, .ref (a 0)]) (q0 := 0) C (c_X4_at l D kI kC kB a z_ (v3 - 1) _ hw) ⟨rfl, rfl⟩ ce_X4_at cv_X4_at tw_268 ⟨Nat.le_of_ble_eq_true rfl, Nat.le_of_ble_eq_true rfl⟩ hP [0, 1] rfl rfl rfl rfl hl.1 rfl (Nat.le_of_ble_eq_true rfl) ⟨Nat.zero_le _, Nat.zero_le _⟩ dX4_addAt_53 (fun r2 hw => ?_)
      refine kMVv (q0 := 0) (As := [.int v3, .int r2]) (rest := []) C (c_X4_set l D kI kC kB a z_ H.size v3 r2 _ hw) ⟨rfl, rfl⟩ ce_X4_set cv_X4_set tw_272 ⟨Nat.le_of_ble_eq_true rfl, Nat.le_of_ble_eq_true rfl⟩ hP hD hS hA [0, 1] rfl rfl (fun _ => rfl) rfl rfl rfl hl.1 rfl (Nat.le_of_ble_eq_true rfl) ⟨Nat.zero_le _, Nat.zero_le _⟩ dX4_addAt_56 (fun u H locs hw hP hD hS => ?_)
      obtain ⟨u3, rfl⟩ : ∃ z, z = u := ⟨_, rfl⟩
      try dsimp only at hw
      replace hP : va_P D vwCl (cwRow kI a u3) H := hP
      replace hD : va_D A (cwRow kI a u3) := hD
      refine lv_iinc (v := (v3 + (-1))) (lv' := [(3, .int (v3 + (-1))), (0, .ref (a 0)), (1, .int p1), (2, .int p2)]) hx hb dX4_addAt_59 hl (k := 3) rfl rfl (by decide) rfl (fun ls hl => ?_)
      refine lv_goto (tgt := 42) hx hb dX4_addAt_62 (by decide) ?_
      exact ih u3 (v3 + (-1)) hw H locs hP hD hS ls (lv_sub hl [1, 2, 3, 0] rfl)
set_option maxHeartbeats 4000000 in
set_option maxRecDepth 100000 in
theorem c_X4_addAt (l : Launch) (D : va_G) (kI kC kB : ClassId) (a : AdT) (z_ : RowT) (sz : Nat) (p1 : Int32) (p2 : Int32) (Post : RowT → Prop) (hw : wp_X4_addAt z_ p1 p2 Post) : CMv l D kI kC kB yX4_addAt cX4_addAt 4 none ({ frames := 1, cells := 0, slots := 0, locals := 22 } : Room) [.ref (a 0), .int p1, .int p2] (cwRow kI a z_) sz (fun (u : RowT) => Post u) (fun u : RowT => (cwRow kI a u)) := by
  refine entMv (by decide) (Nat.le_of_ble_eq_true rfl) ?_
  intro p e s m args below meth c ls A C hA hP hD hS hl
  obtain ⟨H, hHe⟩ : ∃ H, H = s.heap := ⟨_, rfl⟩
  obtain ⟨locs, hlo⟩ : ∃ lo : List Loc, lo = [] := ⟨_, rfl⟩
  have hS : va_S A s.heap H locs := by rw [hHe, hlo]; exact hS
  rw [← hHe] at hP
  suffices hg : W p l e ({ frames := 1, cells := 0, slots := 0, locals := 22 } : Room) s m args below meth c H locs 0 0 (MQ below (va_Qv (fun (u : RowT) => Post u) (BB D A (fun u : RowT => (cwRow kI a u))) A) args s 0 0 A) (F0 m 0 ls []) by rw [hHe, hlo] at hg; exact hg
  replace hl : lv_has ls 4 [(0, .ref (a 0)), (1, .int p1), (2, .int p2)] := hl
  obtain ⟨hx, hb, hr, hml, hown, hts, hlocks, hK⟩ := id C
  refine lv_iload_n hx hb dX4_addAt_0 rfl (lv_at hl 1 rfl) ?_
  refine lv_if_lt (tgt := 24) hx hb dX4_addAt_1 (by decide) (fun hc => ?_) (fun hc => ?_)
  · replace hw := hw.1 hc
    exact retMv C (z_) hw hP hD hS dX4_addAt_24
  · replace hw := hw.2 hc
    refine lv_iload_n hx hb dX4_addAt_4 rfl (lv_at hl 1 rfl) ?_
    refine lv_aload_n hx hb dX4_addAt_5 rfl (lv_at hl 0 rfl) ?_
    refine va_get (D := D) (ci := 3) (v := .int z_.2.2) (C := RX4) (T := TX4) (N := 2) hx hb hts inX4 hown hK.1 hP 0 rfl rfl 1 (by decide) (hts _ tw_103) (fun _ h9 => h9) rfl dX4_addAt_6 ?_
    refine lv_icmp_gt (tgt := 24) hx hb dX4_addAt_9 (by decide) (fun hc => ?_) (fun hc => ?_)
    · replace hw := hw.1 hc
      exact retMv C (z_) hw hP hD hS dX4_addAt_24
    · replace hw := hw.2 hc
      refine lv_aload_n hx hb dX4_addAt_12 rfl (lv_at hl 0 rfl) ?_
      refine va_get (D := D) (ci := 3) (v := .int z_.2.2) (C := RX4) (T := TX4) (N := 2) hx hb hts inX4 hown hK.1 hP 0 rfl rfl 1 (by decide) (hts _ tw_103) (fun _ h9 => h9) rfl dX4_addAt_13 ?_
      refine lv_aload_n hx hb dX4_addAt_16 rfl (lv_at hl 0 rfl) ?_
      refine va_get (D := D) (ci := 3) (v := .ref (a 1)) (C := RX4) (T := TX4) (N := 2) hx hb hts inX4 hown hK.1 hP 0 rfl rfl 0 (by decide) (hts _ tw_102) (fun _ h9 => h9) rfl dX4_addAt_17 ?_
      refine va_alen (v := (nI z_.1)) hx hb hK.1 hP 1 0 rfl rfl rfl dX4_addAt_20 ?_
      refine lv_icmp_lt (tgt := 25) hx hb dX4_addAt_21 (by decide) (fun hc => ?_) (fun hc => ?_)
      · replace hw := hw.1 hc
        refine lv_aload_n hx hb dX4_addAt_25 rfl (lv_at hl 0 rfl) ?_
        refine lv_dup hx hb dX4_addAt_26 rfl ?_
        refine va_get (D := D) (ci := 3) (v := .int z_.2.2) (C := RX4) (T := TX4) (N := 2) hx hb hts inX4 hown hK.1 hP 0 rfl rfl 1 (by decide) (hts _ tw_103) (fun _ h9 => h9) rfl dX4_addAt_27 ?_
        refine lv_iconst (v := 1) hx hb dX4_addAt_30 (by decide) ?_
        refine lv_iadd hx hb dX4_addAt_31 ?_
        refine va_put (D := D) (ci := 3) (v := .int (z_.2.2 + 1)) (ty := .int) (C := RX4) (T := TX4) (N := 2) hx hb hts inX4 tyX4 tyX4_ok nmX4 hown hK.1 hP hD hS 0 rfl rfl 1 (by decide) (hts _ tw_103) (fun _ h9 => h9) rfl (tyX4_ok 1 (by decide)) rfl rfl (Nat.le_of_ble_eq_true rfl) dX4_addAt_32 (fun H locs hP hD hS => ?_)
        replace hP : va_P D vwCl (cwRow kI a (z_.1, z_.2.1, (z_.2.2 + 1))) H := hP
        replace hD : va_D A (cwRow kI a (z_.1, z_.2.1, (z_.2.2 + 1))) := hD
        refine lv_aload_n hx hb dX4_addAt_35 rfl (lv_at hl 0 rfl) ?_
        refine va_get (D := D) (ci := 3) (v := .int (z_.2.2 + 1)) (C := RX4) (T := TX4) (N := 2) hx hb hts inX4 hown hK.1 hP 0 rfl rfl 1 (by decide) (hts _ tw_103) (fun _ h9 => h9) rfl dX4_addAt_36 ?_
        refine lv_iconst (v := 1) hx hb dX4_addAt_39 (by decide) ?_
        refine lv_isub hx hb dX4_addAt_40 ?_
        refine lv_topi (fun y4 ey4 => ?_)
        replace hw := hw y4 ey4
        refine lv_istore_n (lv' := [(3, .int y4), (0, .ref (a 0)), (1, .int p1), (2, .int p2)]) hx hb dX4_addAt_41 rfl hl (by decide) rfl (fun ls hl => ?_)
        obtain ⟨n9, hw⟩ := hw
        exact cl_X4_addAt_42 l D kI kC kB a p1 p2 Post hA C n9 (z_.1, z_.2.1, (z_.2.2 + 1)) y4 hw H locs hP hD hS ls (lv_sub hl [1, 2, 3, 0] rfl)
      · replace hw := hw.2 hc
        exact retMv C (z_) hw hP hD hS dX4_addAt_24
set_option maxHeartbeats 4000000 in
set_option maxRecDepth 100000 in
theorem c_X4_add (l : Launch) (D : va_G) (kI kC kB : ClassId) (a : AdT) (z_ : RowT) (sz : Nat) (p1 : Int32) (Post : RowT → Prop) (hw : wp_X4_add z_ p1 Post) : CMv l D kI kC kB yX4_add cX4_add 2 none ({ frames := 2, cells := 0, slots := 0, locals := 45 } : Room) [.ref (a 0), .int p1] (cwRow kI a z_) sz (fun (u : RowT) => Post u) (fun u : RowT => (cwRow kI a u)) := by
  refine entMv (by decide) (Nat.le_of_ble_eq_true rfl) ?_
  intro p e s m args below meth c ls A C hA hP hD hS hl
  obtain ⟨H, hHe⟩ : ∃ H, H = s.heap := ⟨_, rfl⟩
  obtain ⟨locs, hlo⟩ : ∃ lo : List Loc, lo = [] := ⟨_, rfl⟩
  have hS : va_S A s.heap H locs := by rw [hHe, hlo]; exact hS
  rw [← hHe] at hP
  suffices hg : W p l e ({ frames := 2, cells := 0, slots := 0, locals := 45 } : Room) s m args below meth c H locs 0 0 (MQ below (va_Qv (fun (u : RowT) => Post u) (BB D A (fun u : RowT => (cwRow kI a u))) A) args s 0 0 A) (F0 m 0 ls []) by rw [hHe, hlo] at hg; exact hg
  replace hl : lv_has ls 2 [(0, .ref (a 0)), (1, .int p1)] := hl
  obtain ⟨hx, hb, hr, hml, hown, hts, hlocks, hK⟩ := id C
  refine lv_aload_n hx hb dX4_add_0 rfl (lv_at hl 0 rfl) ?_
  refine lv_aload_n hx hb dX4_add_1 rfl (lv_at hl 0 rfl) ?_
  refine va_get (D := D) (ci := 3) (v := .int z_.2.2) (C := RX4) (T := TX4) (N := 2) hx hb hts inX4 hown hK.1 hP 0 rfl rfl 1 (by decide) (hts _ tw_103) (fun _ h9 => h9) rfl dX4_add_2 ?_
  refine lv_iload_n hx hb dX4_add_5 rfl (lv_at hl 1 rfl) ?_
  refine kMVv (q0 := 0) (As := [.int z_.2.2, .int p1]) (rest := []) C (c_X4_addAt l D kI kC kB a z_ H.size z_.2.2 p1 _ hw) ⟨rfl, rfl⟩ ce_X4_addAt cv_X4_addAt tw_366 ⟨Nat.le_of_ble_eq_true rfl, Nat.le_of_ble_eq_true rfl⟩ hP hD hS hA [0, 1] rfl rfl (fun _ => rfl) rfl rfl rfl hl.1 rfl (Nat.le_of_ble_eq_true rfl) ⟨Nat.zero_le _, Nat.zero_le _⟩ dX4_add_6 (fun u H locs hw hP hD hS => ?_)
  obtain ⟨u1, rfl⟩ : ∃ z, z = u := ⟨_, rfl⟩
  try dsimp only at hw
  replace hP : va_P D vwCl (cwRow kI a u1) H := hP
  replace hD : va_D A (cwRow kI a u1) := hD
  exact retMv C (u1) hw hP hD hS dX4_add_9
set_option maxHeartbeats 4000000 in
set_option maxRecDepth 100000 in
theorem c_X5_letter (l : Launch) (D : va_G) (kI kC kB : ClassId)  (p1 : Int32) (Post : Int32 → Prop) (hw : wp_X5_letter p1 Post) : CR l D kI kC kB yX5_letter cX5_letter 1 (some .int) ({ frames := 0, cells := 0, slots := 0, locals := 0 } : Room) [.int p1] ([] : va_W) Post := by
  refine entR (by decide) (Nat.le_of_ble_eq_true rfl) ?_
  intro p e s m args below meth c ls C hP hl
  replace hl : lv_has ls 1 [(0, .int p1)] := hl
  obtain ⟨hx, hb, hr, hml, hown, hts, hlocks, hK⟩ := id C
  refine lv_iload_n hx hb dX5_letter_0 rfl (lv_at hl 0 rfl) ?_
  refine lv_bipush (v := 26) hx hb dX5_letter_1 (by decide) ?_
  refine lv_irem hx hb dX5_letter_3 (by decide) ?_
  exact retR C hw dX5_letter_4
set_option maxHeartbeats 4000000 in
set_option maxRecDepth 100000 in
theorem cl_X0_signsBetween_7 (l : Launch) (D : va_G) (kI kC kB : ClassId) (a : AdT) (z_out : Int32) (p2 : Int32) (Post : Int32 → Prop) {p : Program} {e : Env} {s : State} {m : MethodId} {args : Array Value} {below : List Frame} {meth : Method} {c : Code} (C : CtxT p s m args meth c cX0_signsBetween 5 (some .int) yX0_signsBetween.cls D kI kC kB) (hP : va_P D vwCl (cwAlph a z_out) s.heap) : ∀ (n : Nat), ∀ (v3 : Int32) (v4 : Int32), wl_X0_signsBetween_7 z_out p2 Post n v3 v4 → ∀ (ls : Array Slot), lv_has ls 5 [(0, .ref (a 0)), (2, .int p2), (3, .int v3), (4, .int v4)] → W p l e ({ frames := 1, cells := 0, slots := 0, locals := 21 } : Room) s m args below meth c s.heap [] 0 0 (MQ below (vp_Si Post) args s 0 0 (fun _ => False)) (F0 m 7 ls []) := by
  obtain ⟨hx, hb, hr, hml, hown, hts, hlocks, hK⟩ := id C
  intro n
  induction n with
  | zero => intro v3 v4 hw; exact hw.elim
  | succ n ih =>
    intro v3 v4 hw ls hl
    refine lv_iload hx hb dX0_signsBetween_7 (lv_at hl 3 rfl) ?_
    refine lv_iload_n hx hb dX0_signsBetween_9 rfl (lv_at hl 1 rfl) ?_
    refine lv_icmp_ge (tgt := 41) hx hb dX0_signsBetween_10 (by decide) (fun hc => ?_) (fun hc => ?_)
    · replace hw := hw.1 hc
      refine lv_iload_n hx hb dX0_signsBetween_41 rfl (lv_at hl 2 rfl) ?_
      exact retR C hw dX0_signsBetween_42
    · replace hw := hw.2 hc
      refine lv_iload hx hb dX0_signsBetween_13 (lv_at hl 3 rfl) ?_
      refine lv_bipush (v := 78) hx hb dX0_signsBetween_15 (by decide) ?_
      refine lv_icmp_ge (tgt := 41) hx hb dX0_signsBetween_17 (by decide) (fun hc => ?_) (fun hc => ?_)
      · replace hw := hw.1 hc
        refine lv_iload_n hx hb dX0_signsBetween_41 rfl (lv_at hl 2 rfl) ?_
        exact retR C hw dX0_signsBetween_42
      · replace hw := hw.2 hc
        refine lv_aload_n hx hb dX0_signsBetween_20 rfl (lv_at hl 0 rfl) ?_
        refine lv_iload hx hb dX0_signsBetween_21 (lv_at hl 3 rfl) ?_
        refine kRS (As := [.int v4]) (rest := [.ref (a 0)]) C (c_X5_letter l D kI kC kB  v4 _ hw) ⟨rfl, rfl⟩ ce_X5_letter cv_X5_letter tw_391 ⟨Nat.le_of_ble_eq_true rfl, Nat.le_of_ble_eq_true rfl⟩ hP [] rfl hl.1 rfl (Nat.le_of_ble_eq_true rfl) ⟨Nat.zero_le _, Nat.zero_le _⟩ dX0_signsBetween_23 (fun r1 hw => ?_)
        refine kRV (As := [.int r1]) (rest := []) (q0 := 0) C (c_X0_has l D kI kC kB a z_out r1 _ hw) ⟨rfl, rfl⟩ ce_X0_has cv_X0_has tw_394 ⟨Nat.le_of_ble_eq_true rfl, Nat.le_of_ble_eq_true rfl⟩ hP [0] rfl rfl rfl rfl hl.1 rfl (Nat.le_of_ble_eq_true rfl) ⟨Nat.zero_le _, Nat.zero_le _⟩ dX0_signsBetween_26 (fun r2 hw => ?_)
        refine lv_if_eq (tgt := 35) hx hb dX0_signsBetween_29 (by decide) (fun hc => ?_) (fun hc => ?_)
        · replace hw := hw.1 hc
          refine lv_iinc (v := (v4 + 1)) (lv' := [(4, .int (v4 + 1)), (0, .ref (a 0)), (2, .int p2), (3, .int v3)]) hx hb dX0_signsBetween_35 hl (k := 3) rfl rfl (by decide) rfl (fun ls hl => ?_)
          refine lv_goto (tgt := 7) hx hb dX0_signsBetween_38 (by decide) ?_
          exact ih v3 (v4 + 1) hw ls (lv_sub hl [1, 2, 3, 0] rfl)
        · replace hw := hw.2 hc
          refine lv_iinc (v := (v3 + 1)) (lv' := [(3, .int (v3 + 1)), (0, .ref (a 0)), (2, .int p2), (4, .int v4)]) hx hb dX0_signsBetween_32 hl (k := 2) rfl rfl (by decide) rfl (fun ls hl => ?_)
          refine lv_iinc (v := (v4 + 1)) (lv' := [(4, .int (v4 + 1)), (3, .int (v3 + 1)), (0, .ref (a 0)), (2, .int p2)]) hx hb dX0_signsBetween_35 hl (k := 3) rfl rfl (by decide) rfl (fun ls hl => ?_)
          refine lv_goto (tgt := 7) hx hb dX0_signsBetween_38 (by decide) ?_
          exact ih (v3 + 1) (v4 + 1) hw ls (lv_sub hl [2, 3, 1, 0] rfl)
set_option maxHeartbeats 4000000 in
set_option maxRecDepth 100000 in
theorem c_X0_signsBetween (l : Launch) (D : va_G) (kI kC kB : ClassId) (a : AdT) (z_out : Int32) (p1 : Int32) (p2 : Int32) (Post : Int32 → Prop) (hw : wp_X0_signsBetween z_out p1 p2 Post) : CR l D kI kC kB yX0_signsBetween cX0_signsBetween 5 (some .int) ({ frames := 1, cells := 0, slots := 0, locals := 21 } : Room) [.ref (a 0), .int p1, .int p2] (cwAlph a z_out) Post := by
  refine entR (by decide) (Nat.le_of_ble_eq_true rfl) ?_
  intro p e s m args below meth c ls C hP hl
  replace hl : lv_has ls 5 [(0, .ref (a 0)), (1, .int p1), (2, .int p2)] := hl
  obtain ⟨hx, hb, hr, hml, hown, hts, hlocks, hK⟩ := id C
  refine lv_iconst (v := 0) hx hb dX0_signsBetween_0 (by decide) ?_
  refine lv_istore_n (lv' := [(3, .int 0), (0, .ref (a 0)), (1, .int p1), (2, .int p2)]) hx hb dX0_signsBetween_1 rfl hl (by decide) rfl (fun ls hl => ?_)
  refine lv_iload_n hx hb dX0_signsBetween_2 rfl (lv_at hl 2 rfl) ?_
  refine lv_iconst (v := 1) hx hb dX0_signsBetween_3 (by decide) ?_
  refine lv_iadd hx hb dX0_signsBetween_4 ?_
  refine lv_topi (fun y3 ey3 => ?_)
  replace hw := hw y3 ey3
  refine lv_istore (lv' := [(4, .int y3), (3, .int 0), (0, .ref (a 0)), (1, .int p1), (2, .int p2)]) hx hb dX0_signsBetween_5 hl (by decide) rfl (fun ls hl => ?_)
  obtain ⟨n9, hw⟩ := hw
  exact cl_X0_signsBetween_7 l D kI kC kB a z_out p2 Post C hP n9 0 y3 hw ls (lv_sub hl [2, 4, 1, 0] rfl)
set_option maxHeartbeats 4000000 in
set_option maxRecDepth 100000 in
theorem cl_X0_nextSign_4 (l : Launch) (D : va_G) (kI kC kB : ClassId) (a : AdT) (z_out : Int32) (Post : Int32 → Prop) {p : Program} {e : Env} {s : State} {m : MethodId} {args : Array Value} {below : List Frame} {meth : Method} {c : Code} (C : CtxT p s m args meth c cX0_nextSign 3 (some .int) yX0_nextSign.cls D kI kC kB) (hP : va_P D vwCl (cwAlph a z_out) s.heap) : ∀ (n : Nat), ∀ (v2 : Int32), wl_X0_nextSign_4 z_out Post n v2 → ∀ (ls : Array Slot), lv_has ls 3 [(0, .ref (a 0)), (2, .int v2)] → W p l e ({ frames := 1, cells := 0, slots := 0, locals := 21 } : Room) s m args below meth c s.heap [] 0 0 (MQ below (vp_Si Post) args s 0 0 (fun _ => False)) (F0 m 4 ls []) := by
  obtain ⟨hx, hb, hr, hml, hown, hts, hlocks, hK⟩ := id C
  intro n
  induction n with
  | zero => intro v2 hw; exact hw.elim
  | succ n ih =>
    intro v2 hw ls hl
    refine lv_iload_n hx hb dX0_nextSign_4 rfl (lv_at hl 1 rfl) ?_
    refine lv_bipush (v := 78) hx hb dX0_nextSign_5 (by decide) ?_
    refine lv_icmp_ge (tgt := 29) hx hb dX0_nextSign_7 (by decide) (fun hc => ?_) (fun hc => ?_)
    · replace hw := hw.1 hc
      refine lv_iconst (v := (-1)) hx hb dX0_nextSign_29 (by decide) ?_
      exact retR C hw dX0_nextSign_30
    · replace hw := hw.2 hc
      refine lv_aload_n hx hb dX0_nextSign_10 rfl (lv_at hl 0 rfl) ?_
      refine lv_iload_n hx hb dX0_nextSign_11 rfl (lv_at hl 1 rfl) ?_
      refine kRS (As := [.int v2]) (rest := [.ref (a 0)]) C (c_X5_letter l D kI kC kB  v2 _ hw) ⟨rfl, rfl⟩ ce_X5_letter cv_X5_letter tw_391 ⟨Nat.le_of_ble_eq_true rfl, Nat.le_of_ble_eq_true rfl⟩ hP [] rfl hl.1 rfl (Nat.le_of_ble_eq_true rfl) ⟨Nat.zero_le _, Nat.zero_le _⟩ dX0_nextSign_12 (fun r1 hw => ?_)
      refine kRV (As := [.int r1]) (rest := []) (q0 := 0) C (c_X0_has l D kI kC kB a z_out r1 _ hw) ⟨rfl, rfl⟩ ce_X0_has cv_X0_has tw_394 ⟨Nat.le_of_ble_eq_true rfl, Nat.le_of_ble_eq_true rfl⟩ hP [0] rfl rfl rfl rfl hl.1 rfl (Nat.le_of_ble_eq_true rfl) ⟨Nat.zero_le _, Nat.zero_le _⟩ dX0_nextSign_15 (fun r2 hw => ?_)
      refine lv_if_eq (tgt := 23) hx hb dX0_nextSign_18 (by decide) (fun hc => ?_) (fun hc => ?_)
      · replace hw := hw.1 hc
        refine lv_iinc (v := (v2 + 1)) (lv' := [(2, .int (v2 + 1)), (0, .ref (a 0))]) hx hb dX0_nextSign_23 hl (k := 1) rfl rfl (by decide) rfl (fun ls hl => ?_)
        refine lv_goto (tgt := 4) hx hb dX0_nextSign_26 (by decide) ?_
        exact ih (v2 + 1) hw ls (lv_sub hl [1, 0] rfl)
      · replace hw := hw.2 hc
        refine lv_iload_n hx hb dX0_nextSign_21 rfl (lv_at hl 1 rfl) ?_
        exact retR C hw dX0_nextSign_22
set_option maxHeartbeats 4000000 in
set_option maxRecDepth 100000 in
theorem c_X0_nextSign (l : Launch) (D : va_G) (kI kC kB : ClassId) (a : AdT) (z_out : Int32) (p1 : Int32) (Post : Int32 → Prop) (hw : wp_X0_nextSign z_out p1 Post) : CR l D kI kC kB yX0_nextSign cX0_nextSign 3 (some .int) ({ frames := 1, cells := 0, slots := 0, locals := 21 } : Room) [.ref (a 0), .int p1] (cwAlph a z_out) Post := by
  refine entR (by decide) (Nat.le_of_ble_eq_true rfl) ?_
  intro p e s m args below meth c ls C hP hl
  replace hl : lv_has ls 3 [(0, .ref (a 0)), (1, .int p1)] := hl
  obtain ⟨hx, hb, hr, hml, hown, hts, hlocks, hK⟩ := id C
  refine lv_iload_n hx hb dX0_nextSign_0 rfl (lv_at hl 1 rfl) ?_
  refine lv_iconst (v := 1) hx hb dX0_nextSign_1 (by decide) ?_
  refine lv_iadd hx hb dX0_nextSign_2 ?_
  refine lv_topi (fun y3 ey3 => ?_)
  replace hw := hw y3 ey3
  refine lv_istore_n (lv' := [(2, .int y3), (0, .ref (a 0)), (1, .int p1)]) hx hb dX0_nextSign_3 rfl hl (by decide) rfl (fun ls hl => ?_)
  obtain ⟨n9, hw⟩ := hw
  exact cl_X0_nextSign_4 l D kI kC kB a z_out Post C hP n9 y3 hw ls (lv_sub hl [1, 0] rfl)
set_option maxHeartbeats 4000000 in
set_option maxRecDepth 100000 in
theorem cl_X4_drop_15 (l : Launch) (D : va_G) (kI kC kB : ClassId) (a : AdT) (Post : RowT → Prop) {p : Program} {e : Env} {s : State} {m : MethodId} {args : Array Value} {below : List Frame} {meth : Method} {c : Code} {A : Nat → Prop} (hA : ∀ q : Nat, s.heap.size ≤ q → A q) (C : CtxT p s m args meth c cX4_drop 3 none yX4_drop.cls D kI kC kB) : ∀ (n : Nat), ∀ (z_ : RowT) (v2 : Int32), wl_X4_drop_15 Post n z_ v2 → ∀ (H : Heap) (locs : List Loc), va_P D vwCl (cwRow kI a z_) H → va_D A (cwRow kI a z_) → va_S A s.heap H locs → ∀ (ls : Array Slot), lv_has ls 3 [(0, .ref (a 0)), (2, .int v2)] → W p l e ({ frames := 1, cells := 0, slots := 0, locals := 22 } : Room) s m args below meth c H locs 0 0 (MQ below (va_Qv (fun (u : RowT) => Post u) (BB D A (fun u : RowT => (cwRow kI a u))) A) args s 0 0 A) (F0 m 15 ls []) := by
  obtain ⟨hx, hb, hr, hml, hown, hts, hlocks, hK⟩ := id C
  intro n
  induction n with
  | zero => intro z_ v2 hw; exact hw.elim
  | succ n ih =>
    intro z_ v2 hw H locs hP hD hS ls hl
    refine lv_iload_n hx hb dX4_drop_15 rfl (lv_at hl 1 rfl) ?_
    refine lv_aload_n hx hb dX4_drop_16 rfl (lv_at hl 0 rfl) ?_
    refine va_get (D := D) (ci := 3) (v := .int z_.2.2) (C := RX4) (T := TX4) (N := 2) hx hb hts inX4 hown hK.1 hP 0 rfl rfl 1 (by decide) (hts _ tw_103) (fun _ h9 => h9) rfl dX4_drop_17 ?_
    refine lv_iconst (v := 1) hx hb dX4_drop_20 (by decide) ?_
    refine lv_isub hx hb dX4_drop_21 ?_
    refine lv_icmp_ge (tgt := 43) hx hb dX4_drop_22 (by decide) (fun hc => ?_) (fun hc => ?_)
    · replace hw := hw.1 hc
      refine lv_aload_n hx hb dX4_drop_43 rfl (lv_at hl 0 rfl) ?_
      refine lv_dup hx hb dX4_drop_44 rfl ?_
      refine va_get (D := D) (ci := 3) (v := .int z_.2.2) (C := RX4) (T := TX4) (N := 2) hx hb hts inX4 hown hK.1 hP 0 rfl rfl 1 (by decide) (hts _ tw_103) (fun _ h9 => h9) rfl dX4_drop_45 ?_
      refine lv_iconst (v := 1) hx hb dX4_drop_48 (by decide) ?_
      refine lv_isub hx hb dX4_drop_49 ?_
      refine va_put (D := D) (ci := 3) (v := .int (z_.2.2 - 1)) (ty := .int) (C := RX4) (T := TX4) (N := 2) hx hb hts inX4 tyX4 tyX4_ok nmX4 hown hK.1 hP hD hS 0 rfl rfl 1 (by decide) (hts _ tw_103) (fun _ h9 => h9) rfl (tyX4_ok 1 (by decide)) rfl rfl (Nat.le_of_ble_eq_true rfl) dX4_drop_50 (fun H locs hP hD hS => ?_)
      replace hP : va_P D vwCl (cwRow kI a (z_.1, z_.2.1, (z_.2.2 - 1))) H := hP
      replace hD : va_D A (cwRow kI a (z_.1, z_.2.1, (z_.2.2 - 1))) := hD
      exact retMv C ((z_.1, z_.2.1, (z_.2.2 - 1))) hw hP hD hS dX4_drop_53
    · replace hw := hw.2 hc
      refine lv_aload_n hx hb dX4_drop_25 rfl (lv_at hl 0 rfl) ?_
      refine lv_iload_n hx hb dX4_drop_26 rfl (lv_at hl 1 rfl) ?_
      refine lv_aload_n hx hb dX4_drop_27 rfl (lv_at hl 0 rfl) ?_
      refine lv_iload_n hx hb dX4_drop_28 rfl (lv_at hl 1 rfl) ?_
      refine lv_iconst (v := 1) hx hb dX4_drop_29 (by decide) ?_
      refine lv_iadd hx hb dX4_drop_30 ?_
      refine kRV (As := [.int (v2 + 1)]) (rest := [.int v2, .ref (a 0)]) (q0 := 0) C (c_X4_at l D kI kC kB a z_ (v2 + 1) _ hw) ⟨rfl, rfl⟩ ce_X4_at cv_X4_at tw_268 ⟨Nat.le_of_ble_eq_true rfl, Nat.le_of_ble_eq_true rfl⟩ hP [0, 1] rfl rfl rfl rfl hl.1 rfl (Nat.le_of_ble_eq_true rfl) ⟨Nat.zero_le _, Nat.zero_le _⟩ dX4_drop_31 (fun r1 hw => ?_)
      refine kMVv (q0 := 0) (As := [.int v2, .int r1]) (rest := []) C (c_X4_set l D kI kC kB a z_ H.size v2 r1 _ hw) ⟨rfl, rfl⟩ ce_X4_set cv_X4_set tw_272 ⟨Nat.le_of_ble_eq_true rfl, Nat.le_of_ble_eq_true rfl⟩ hP hD hS hA [0, 1] rfl rfl (fun _ => rfl) rfl rfl rfl hl.1 rfl (Nat.le_of_ble_eq_true rfl) ⟨Nat.zero_le _, Nat.zero_le _⟩ dX4_drop_34 (fun u H locs hw hP hD hS => ?_)
      obtain ⟨u2, rfl⟩ : ∃ z, z = u := ⟨_, rfl⟩
      try dsimp only at hw
      replace hP : va_P D vwCl (cwRow kI a u2) H := hP
      replace hD : va_D A (cwRow kI a u2) := hD
      refine lv_iinc (v := (v2 + 1)) (lv' := [(2, .int (v2 + 1)), (0, .ref (a 0))]) hx hb dX4_drop_37 hl (k := 1) rfl rfl (by decide) rfl (fun ls hl => ?_)
      refine lv_goto (tgt := 15) hx hb dX4_drop_40 (by decide) ?_
      exact ih u2 (v2 + 1) hw H locs hP hD hS ls (lv_sub hl [1, 0] rfl)
set_option maxHeartbeats 4000000 in
set_option maxRecDepth 100000 in
theorem c_X4_drop (l : Launch) (D : va_G) (kI kC kB : ClassId) (a : AdT) (z_ : RowT) (sz : Nat) (p1 : Int32) (Post : RowT → Prop) (hw : wp_X4_drop z_ p1 Post) : CMv l D kI kC kB yX4_drop cX4_drop 3 none ({ frames := 1, cells := 0, slots := 0, locals := 22 } : Room) [.ref (a 0), .int p1] (cwRow kI a z_) sz (fun (u : RowT) => Post u) (fun u : RowT => (cwRow kI a u)) := by
  refine entMv (by decide) (Nat.le_of_ble_eq_true rfl) ?_
  intro p e s m args below meth c ls A C hA hP hD hS hl
  obtain ⟨H, hHe⟩ : ∃ H, H = s.heap := ⟨_, rfl⟩
  obtain ⟨locs, hlo⟩ : ∃ lo : List Loc, lo = [] := ⟨_, rfl⟩
  have hS : va_S A s.heap H locs := by rw [hHe, hlo]; exact hS
  rw [← hHe] at hP
  suffices hg : W p l e ({ frames := 1, cells := 0, slots := 0, locals := 22 } : Room) s m args below meth c H locs 0 0 (MQ below (va_Qv (fun (u : RowT) => Post u) (BB D A (fun u : RowT => (cwRow kI a u))) A) args s 0 0 A) (F0 m 0 ls []) by rw [hHe, hlo] at hg; exact hg
  replace hl : lv_has ls 3 [(0, .ref (a 0)), (1, .int p1)] := hl
  obtain ⟨hx, hb, hr, hml, hown, hts, hlocks, hK⟩ := id C
  refine lv_iload_n hx hb dX4_drop_0 rfl (lv_at hl 1 rfl) ?_
  refine lv_if_lt (tgt := 12) hx hb dX4_drop_1 (by decide) (fun hc => ?_) (fun hc => ?_)
  · replace hw := hw.1 hc
    exact retMv C (z_) hw hP hD hS dX4_drop_12
  · replace hw := hw.2 hc
    refine lv_iload_n hx hb dX4_drop_4 rfl (lv_at hl 1 rfl) ?_
    refine lv_aload_n hx hb dX4_drop_5 rfl (lv_at hl 0 rfl) ?_
    refine va_get (D := D) (ci := 3) (v := .int z_.2.2) (C := RX4) (T := TX4) (N := 2) hx hb hts inX4 hown hK.1 hP 0 rfl rfl 1 (by decide) (hts _ tw_103) (fun _ h9 => h9) rfl dX4_drop_6 ?_
    refine lv_icmp_lt (tgt := 13) hx hb dX4_drop_9 (by decide) (fun hc => ?_) (fun hc => ?_)
    · replace hw := hw.1 hc
      refine lv_iload_n hx hb dX4_drop_13 rfl (lv_at hl 1 rfl) ?_
      refine lv_istore_n (lv' := [(2, .int p1), (0, .ref (a 0)), (1, .int p1)]) hx hb dX4_drop_14 rfl hl (by decide) rfl (fun ls hl => ?_)
      obtain ⟨n9, hw⟩ := hw
      exact cl_X4_drop_15 l D kI kC kB a Post hA C n9 z_ p1 hw H locs hP hD hS ls (lv_sub hl [1, 0] rfl)
    · replace hw := hw.2 hc
      exact retMv C (z_) hw hP hD hS dX4_drop_12
set_option maxHeartbeats 4000000 in
set_option maxRecDepth 100000 in
theorem cl_X4_firstIndexOf_2 (l : Launch) (D : va_G) (kI kC kB : ClassId) (a : AdT) (z_ : RowT) (p1 : Int32) (Post : Int32 → Prop) {p : Program} {e : Env} {s : State} {m : MethodId} {args : Array Value} {below : List Frame} {meth : Method} {c : Code} (C : CtxT p s m args meth c cX4_firstIndexOf 3 (some .int) yX4_firstIndexOf.cls D kI kC kB) (hP : va_P D vwCl (cwRow kI a z_) s.heap) : ∀ (n : Nat), ∀ (v2 : Int32), wl_X4_firstIndexOf_2 z_ p1 Post n v2 → ∀ (ls : Array Slot), lv_has ls 3 [(0, .ref (a 0)), (1, .int p1), (2, .int v2)] → W p l e ({ frames := 1, cells := 0, slots := 0, locals := 21 } : Room) s m args below meth c s.heap [] 0 0 (MQ below (vp_Si Post) args s 0 0 (fun _ => False)) (F0 m 2 ls []) := by
  obtain ⟨hx, hb, hr, hml, hown, hts, hlocks, hK⟩ := id C
  intro n
  induction n with
  | zero => intro v2 hw; exact hw.elim
  | succ n ih =>
    intro v2 hw ls hl
    refine lv_iload_n hx hb dX4_firstIndexOf_2 rfl (lv_at hl 2 rfl) ?_
    refine lv_aload_n hx hb dX4_firstIndexOf_3 rfl (lv_at hl 0 rfl) ?_
    refine va_get (D := D) (ci := 3) (v := .int z_.2.2) (C := RX4) (T := TX4) (N := 2) hx hb hts inX4 hown hK.1 hP 0 rfl rfl 1 (by decide) (hts _ tw_103) (fun _ h9 => h9) rfl dX4_firstIndexOf_4 ?_
    refine lv_icmp_ge (tgt := 27) hx hb dX4_firstIndexOf_7 (by decide) (fun hc => ?_) (fun hc => ?_)
    · replace hw := hw.1 hc
      refine lv_aload_n hx hb dX4_firstIndexOf_27 rfl (lv_at hl 0 rfl) ?_
      refine va_get (D := D) (ci := 3) (v := .int z_.2.2) (C := RX4) (T := TX4) (N := 2) hx hb hts inX4 hown hK.1 hP 0 rfl rfl 1 (by decide) (hts _ tw_103) (fun _ h9 => h9) rfl dX4_firstIndexOf_28 ?_
      exact retR C hw dX4_firstIndexOf_31
    · replace hw := hw.2 hc
      refine lv_aload_n hx hb dX4_firstIndexOf_10 rfl (lv_at hl 0 rfl) ?_
      refine lv_iload_n hx hb dX4_firstIndexOf_11 rfl (lv_at hl 2 rfl) ?_
      refine kRV (As := [.int v2]) (rest := []) (q0 := 0) C (c_X4_at l D kI kC kB a z_ v2 _ hw) ⟨rfl, rfl⟩ ce_X4_at cv_X4_at tw_268 ⟨Nat.le_of_ble_eq_true rfl, Nat.le_of_ble_eq_true rfl⟩ hP [0, 1] rfl rfl rfl rfl hl.1 rfl (Nat.le_of_ble_eq_true rfl) ⟨Nat.zero_le _, Nat.zero_le _⟩ dX4_firstIndexOf_12 (fun r1 hw => ?_)
      refine lv_iload_n hx hb dX4_firstIndexOf_15 rfl (lv_at hl 1 rfl) ?_
      refine lv_icmp_ne (tgt := 21) hx hb dX4_firstIndexOf_16 (by decide) (fun hc => ?_) (fun hc => ?_)
      · replace hw := hw.2 hc
        refine lv_iinc (v := (v2 + 1)) (lv' := [(2, .int (v2 + 1)), (0, .ref (a 0)), (1, .int p1)]) hx hb dX4_firstIndexOf_21 hl (k := 2) rfl rfl (by decide) rfl (fun ls hl => ?_)
        refine lv_goto (tgt := 2) hx hb dX4_firstIndexOf_24 (by decide) ?_
        exact ih (v2 + 1) hw ls (lv_sub hl [1, 2, 0] rfl)
      · replace hw := hw.1 hc
        refine lv_iload_n hx hb dX4_firstIndexOf_19 rfl (lv_at hl 2 rfl) ?_
        exact retR C hw dX4_firstIndexOf_20
set_option maxHeartbeats 4000000 in
set_option maxRecDepth 100000 in
theorem c_X4_firstIndexOf (l : Launch) (D : va_G) (kI kC kB : ClassId) (a : AdT) (z_ : RowT) (p1 : Int32) (Post : Int32 → Prop) (hw : wp_X4_firstIndexOf z_ p1 Post) : CR l D kI kC kB yX4_firstIndexOf cX4_firstIndexOf 3 (some .int) ({ frames := 1, cells := 0, slots := 0, locals := 21 } : Room) [.ref (a 0), .int p1] (cwRow kI a z_) Post := by
  refine entR (by decide) (Nat.le_of_ble_eq_true rfl) ?_
  intro p e s m args below meth c ls C hP hl
  replace hl : lv_has ls 3 [(0, .ref (a 0)), (1, .int p1)] := hl
  obtain ⟨hx, hb, hr, hml, hown, hts, hlocks, hK⟩ := id C
  refine lv_iconst (v := 0) hx hb dX4_firstIndexOf_0 (by decide) ?_
  refine lv_istore_n (lv' := [(2, .int 0), (0, .ref (a 0)), (1, .int p1)]) hx hb dX4_firstIndexOf_1 rfl hl (by decide) rfl (fun ls hl => ?_)
  obtain ⟨n9, hw⟩ := hw
  exact cl_X4_firstIndexOf_2 l D kI kC kB a z_ p1 Post C hP n9 0 hw ls (lv_sub hl [1, 2, 0] rfl)
set_option maxHeartbeats 4000000 in
set_option maxRecDepth 100000 in
theorem c_X0_become (l : Launch) (D : va_G) (kI kC kB : ClassId) (a : AdT) (b : AdT) (z_out : Int32) (o1_out : Int32) (sz : Nat) (Post : Int32 → Prop) (hw : wp_X0_become z_out o1_out Post) : CMv l D kI kC kB yX0_become cX0_become 2 none ({ frames := 0, cells := 0, slots := 0, locals := 0 } : Room) [.ref (a 0), .ref (b 0)] (cwAlph a z_out ++ cwAlph b o1_out) sz (fun (u : Int32) => Post u) (fun u : Int32 => (cwAlph a u ++ cwAlph b o1_out)) := by
  refine entMv (by decide) (Nat.le_of_ble_eq_true rfl) ?_
  intro p e s m args below meth c ls A C hA hP hD hS hl
  obtain ⟨H, hHe⟩ : ∃ H, H = s.heap := ⟨_, rfl⟩
  obtain ⟨locs, hlo⟩ : ∃ lo : List Loc, lo = [] := ⟨_, rfl⟩
  have hS : va_S A s.heap H locs := by rw [hHe, hlo]; exact hS
  rw [← hHe] at hP
  suffices hg : W p l e ({ frames := 0, cells := 0, slots := 0, locals := 0 } : Room) s m args below meth c H locs 0 0 (MQ below (va_Qv (fun (u : Int32) => Post u) (BB D A (fun u : Int32 => (cwAlph a u ++ cwAlph b o1_out))) A) args s 0 0 A) (F0 m 0 ls []) by rw [hHe, hlo] at hg; exact hg
  replace hl : lv_has ls 2 [(0, .ref (a 0)), (1, .ref (b 0))] := hl
  obtain ⟨hx, hb, hr, hml, hown, hts, hlocks, hK⟩ := id C
  refine lv_aload_n hx hb dX0_become_0 rfl (lv_at hl 0 rfl) ?_
  refine lv_aload_n hx hb dX0_become_1 rfl (lv_at hl 1 rfl) ?_
  refine va_get (D := D) (ci := 0) (v := .int o1_out) (C := RX0) (T := TX0) (N := 1) hx hb hts inX0 hown hK.1 hP 1 rfl rfl 0 (by decide) (hts _ tw_89) (fun _ h9 => h9) rfl dX0_become_2 ?_
  refine va_put (D := D) (ci := 0) (v := .int o1_out) (ty := .int) (C := RX0) (T := TX0) (N := 1) hx hb hts inX0 tyX0 tyX0_ok nmX0 hown hK.1 hP hD hS 0 rfl rfl 0 (by decide) (hts _ tw_89) (fun _ h9 => h9) rfl (tyX0_ok 0 (by decide)) rfl rfl (Nat.le_of_ble_eq_true rfl) dX0_become_5 (fun H locs hP hD hS => ?_)
  replace hP : va_P D vwCl (cwAlph a o1_out ++ cwAlph b o1_out) H := hP
  replace hD : va_D A (cwAlph a o1_out ++ cwAlph b o1_out) := hD
  exact retMv C (o1_out) hw hP hD hS dX0_become_8
set_option maxHeartbeats 4000000 in
set_option maxRecDepth 100000 in
theorem cl_X4_become_18 (l : Launch) (D : va_G) (kI kC kB : ClassId) (a : AdT) (b : AdT) (o1_ : RowT) (Post : RowT → Prop) {p : Program} {e : Env} {s : State} {m : MethodId} {args : Array Value} {below : List Frame} {meth : Method} {c : Code} {A : Nat → Prop} (hA : ∀ q : Nat, s.heap.size ≤ q → A q) (C : CtxT p s m args meth c cX4_become 3 none yX4_become.cls D kI kC kB) : ∀ (n : Nat), ∀ (z_ : RowT) (v2 : Int32), wl_X4_become_18 o1_ Post n z_ v2 → ∀ (H : Heap) (locs : List Loc), va_P D vwCl (cwRow kI a z_ ++ cwRow kI b o1_) H → va_D A (cwRow kI a z_ ++ cwRow kI b o1_) → va_S A s.heap H locs → ∀ (ls : Array Slot), lv_has ls 3 [(0, .ref (a 0)), (1, .ref (b 0)), (2, .int v2)] → W p l e ({ frames := 1, cells := 0, slots := 0, locals := 22 } : Room) s m args below meth c H locs 0 0 (MQ below (va_Qv (fun (u : RowT) => Post u) (BB D A (fun u : RowT => (cwRow kI a u ++ cwRow kI b o1_))) A) args s 0 0 A) (F0 m 18 ls []) := by
  obtain ⟨hx, hb, hr, hml, hown, hts, hlocks, hK⟩ := id C
  intro n
  induction n with
  | zero => intro z_ v2 hw; exact hw.elim
  | succ n ih =>
    intro z_ v2 hw H locs hP hD hS ls hl
    refine lv_iload_n hx hb dX4_become_18 rfl (lv_at hl 2 rfl) ?_
    refine lv_aload_n hx hb dX4_become_19 rfl (lv_at hl 0 rfl) ?_
    refine va_get (D := D) (ci := 3) (v := .int z_.2.2) (C := RX4) (T := TX4) (N := 2) hx hb hts inX4 hown hK.1 hP 0 rfl rfl 1 (by decide) (hts _ tw_103) (fun _ h9 => h9) rfl dX4_become_20 ?_
    refine lv_icmp_ge (tgt := 42) hx hb dX4_become_23 (by decide) (fun hc => ?_) (fun hc => ?_)
    · replace hw := hw.1 hc
      exact retMv C (z_) hw hP hD hS dX4_become_42
    · replace hw := hw.2 hc
      refine lv_aload_n hx hb dX4_become_26 rfl (lv_at hl 0 rfl) ?_
      refine lv_iload_n hx hb dX4_become_27 rfl (lv_at hl 2 rfl) ?_
      refine lv_aload_n hx hb dX4_become_28 rfl (lv_at hl 1 rfl) ?_
      refine lv_iload_n hx hb dX4_become_29 rfl (lv_at hl 2 rfl) ?_
      refine kRV (As := [.int v2]) (rest := [.int v2, .ref (a 0)]) (q0 := 2) C (c_X4_at l D kI kC kB b o1_ v2 _ hw) ⟨rfl, rfl⟩ ce_X4_at cv_X4_at tw_268 ⟨Nat.le_of_ble_eq_true rfl, Nat.le_of_ble_eq_true rfl⟩ hP [2, 3] rfl rfl rfl rfl hl.1 rfl (Nat.le_of_ble_eq_true rfl) ⟨Nat.zero_le _, Nat.zero_le _⟩ dX4_become_30 (fun r1 hw => ?_)
      refine kMVv (q0 := 0) (As := [.int v2, .int r1]) (rest := []) C (c_X4_set l D kI kC kB a z_ H.size v2 r1 _ hw) ⟨rfl, rfl⟩ ce_X4_set cv_X4_set tw_272 ⟨Nat.le_of_ble_eq_true rfl, Nat.le_of_ble_eq_true rfl⟩ hP hD hS hA [0, 1] rfl rfl (fun _ => rfl) rfl rfl rfl hl.1 rfl (Nat.le_of_ble_eq_true rfl) ⟨Nat.zero_le _, Nat.zero_le _⟩ dX4_become_33 (fun u H locs hw hP hD hS => ?_)
      obtain ⟨u2, rfl⟩ : ∃ z, z = u := ⟨_, rfl⟩
      try dsimp only at hw
      replace hP : va_P D vwCl (cwRow kI a u2 ++ cwRow kI b o1_) H := hP
      replace hD : va_D A (cwRow kI a u2 ++ cwRow kI b o1_) := hD
      refine lv_iinc (v := (v2 + 1)) (lv' := [(2, .int (v2 + 1)), (0, .ref (a 0)), (1, .ref (b 0))]) hx hb dX4_become_36 hl (k := 2) rfl rfl (by decide) rfl (fun ls hl => ?_)
      refine lv_goto (tgt := 18) hx hb dX4_become_39 (by decide) ?_
      exact ih u2 (v2 + 1) hw H locs hP hD hS ls (lv_sub hl [1, 2, 0] rfl)
set_option maxHeartbeats 4000000 in
set_option maxRecDepth 100000 in
theorem c_X4_become (l : Launch) (D : va_G) (kI kC kB : ClassId) (a : AdT) (b : AdT) (z_ : RowT) (o1_ : RowT) (sz : Nat) (Post : RowT → Prop) (hw : wp_X4_become z_ o1_ Post) : CMv l D kI kC kB yX4_become cX4_become 3 none ({ frames := 1, cells := 0, slots := 0, locals := 22 } : Room) [.ref (a 0), .ref (b 0)] (cwRow kI a z_ ++ cwRow kI b o1_) sz (fun (u : RowT) => Post u) (fun u : RowT => (cwRow kI a u ++ cwRow kI b o1_)) := by
  refine entMv (by decide) (Nat.le_of_ble_eq_true rfl) ?_
  intro p e s m args below meth c ls A C hA hP hD hS hl
  obtain ⟨H, hHe⟩ : ∃ H, H = s.heap := ⟨_, rfl⟩
  obtain ⟨locs, hlo⟩ : ∃ lo : List Loc, lo = [] := ⟨_, rfl⟩
  have hS : va_S A s.heap H locs := by rw [hHe, hlo]; exact hS
  rw [← hHe] at hP
  suffices hg : W p l e ({ frames := 1, cells := 0, slots := 0, locals := 22 } : Room) s m args below meth c H locs 0 0 (MQ below (va_Qv (fun (u : RowT) => Post u) (BB D A (fun u : RowT => (cwRow kI a u ++ cwRow kI b o1_))) A) args s 0 0 A) (F0 m 0 ls []) by rw [hHe, hlo] at hg; exact hg
  replace hl : lv_has ls 3 [(0, .ref (a 0)), (1, .ref (b 0))] := hl
  obtain ⟨hx, hb, hr, hml, hown, hts, hlocks, hK⟩ := id C
  refine lv_aload_n hx hb dX4_become_0 rfl (lv_at hl 0 rfl) ?_
  refine lv_aload_n hx hb dX4_become_1 rfl (lv_at hl 1 rfl) ?_
  refine va_get (D := D) (ci := 3) (v := .int o1_.2.2) (C := RX4) (T := TX4) (N := 2) hx hb hts inX4 hown hK.1 hP 2 rfl rfl 1 (by decide) (hts _ tw_103) (fun _ h9 => h9) rfl dX4_become_2 ?_
  refine lv_aload_n hx hb dX4_become_5 rfl (lv_at hl 0 rfl) ?_
  refine va_get (D := D) (ci := 3) (v := .ref (a 1)) (C := RX4) (T := TX4) (N := 2) hx hb hts inX4 hown hK.1 hP 0 rfl rfl 0 (by decide) (hts _ tw_102) (fun _ h9 => h9) rfl dX4_become_6 ?_
  refine va_alen (v := (nI z_.1)) hx hb hK.1 hP 1 0 rfl rfl rfl dX4_become_9 ?_
  refine va_mmin hx hb (by rw [C.2.2.2.1]; exact hl.1.symm) hown (hts _ tw_265) (hts _ tw_266) (hts _ tw_60) (hts _ tw_267) (Nat.le_of_ble_eq_true rfl) (Nat.le_of_ble_eq_true rfl) (Nat.zero_le _) (Nat.zero_le _) dX4_become_10 ?_
  refine va_put (D := D) (ci := 3) (v := .int (if (nI z_.1) < o1_.2.2 then (nI z_.1) else o1_.2.2)) (ty := .int) (C := RX4) (T := TX4) (N := 2) hx hb hts inX4 tyX4 tyX4_ok nmX4 hown hK.1 hP hD hS 0 rfl rfl 1 (by decide) (hts _ tw_103) (fun _ h9 => h9) rfl (tyX4_ok 1 (by decide)) rfl rfl (Nat.le_of_ble_eq_true rfl) dX4_become_13 (fun H locs hP hD hS => ?_)
  replace hP : va_P D vwCl (cwRow kI a (z_.1, z_.2.1, (if (nI z_.1) < o1_.2.2 then (nI z_.1) else o1_.2.2)) ++ cwRow kI b o1_) H := hP
  replace hD : va_D A (cwRow kI a (z_.1, z_.2.1, (if (nI z_.1) < o1_.2.2 then (nI z_.1) else o1_.2.2)) ++ cwRow kI b o1_) := hD
  refine lv_iconst (v := 0) hx hb dX4_become_16 (by decide) ?_
  refine lv_istore_n (lv' := [(2, .int 0), (0, .ref (a 0)), (1, .ref (b 0))]) hx hb dX4_become_17 rfl hl (by decide) rfl (fun ls hl => ?_)
  obtain ⟨n9, hw⟩ := hw
  exact cl_X4_become_18 l D kI kC kB a b o1_ Post hA C n9 (z_.1, z_.2.1, (if (nI z_.1) < o1_.2.2 then (nI z_.1) else o1_.2.2)) 0 hw H locs hP hD hS ls (lv_sub hl [1, 2, 0] rfl)
end
