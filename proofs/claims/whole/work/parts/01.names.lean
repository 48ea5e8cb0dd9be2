-- ===== PART A: goes FIRST, ahead of the names: the tables' words, and 'selects' of the private methods out of them =====
/-- a private method of a class that the tables say can be made, by its rows of tables_1 -/
def lw_okq (q : MethodName × Nat) : Prop := (q.1.cls ≠ "java/lang/invoke/MethodHandle" ∧ q.1.cls ≠ "java/lang/invoke/VarHandle") ∧ Cond.instantiable q.1.cls q.2 ∈ tables_1 ∧ Cond.privateMethod q.1 ∈ tables_1 ∧ Cond.instanceMethod q.1 ∈ tables_1
theorem lw_p0 : lw_okq (⟨"QuireSigns$History", "dropOldest", "()V"⟩, 2) := ⟨⟨by decide +kernel, by decide +kernel⟩, List.mem_of_getElem? (i := 85) (by decide +kernel), List.mem_of_getElem? (i := 191) (by decide +kernel), List.mem_of_getElem? (i := 192) (by decide +kernel)⟩
theorem lw_p1 : lw_okq (⟨"QuireSigns$History", "bookAt", "(I)LQuireSigns$Book;"⟩, 2) := ⟨⟨by decide +kernel, by decide +kernel⟩, List.mem_of_getElem? (i := 85) (by decide +kernel), List.mem_of_getElem? (i := 195) (by decide +kernel), List.mem_of_getElem? (i := 196) (by decide +kernel)⟩
theorem lw_p2 : lw_okq (⟨"QuireSigns$Text", "readEntries", "(LQuireSigns$Alphabet;Z)I"⟩, 6) := ⟨⟨by decide +kernel, by decide +kernel⟩, List.mem_of_getElem? (i := 101) (by decide +kernel), List.mem_of_getElem? (i := 256) (by decide +kernel), List.mem_of_getElem? (i := 257) (by decide +kernel)⟩
theorem lw_p3 : lw_okq (⟨"QuireSigns$Text", "readEntry", "(LQuireSigns$Alphabet;Z)Z"⟩, 6) := ⟨⟨by decide +kernel, by decide +kernel⟩, List.mem_of_getElem? (i := 101) (by decide +kernel), List.mem_of_getElem? (i := 265) (by decide +kernel), List.mem_of_getElem? (i := 266) (by decide +kernel)⟩
theorem lw_p4 : lw_okq (⟨"QuireSigns$Text", "readSign", "(LQuireSigns$Alphabet;)I"⟩, 6) := ⟨⟨by decide +kernel, by decide +kernel⟩, List.mem_of_getElem? (i := 101) (by decide +kernel), List.mem_of_getElem? (i := 269) (by decide +kernel), List.mem_of_getElem? (i := 270) (by decide +kernel)⟩
theorem lw_p5 : lw_okq (⟨"QuireSigns$Text", "readStars", "()I"⟩, 6) := ⟨⟨by decide +kernel, by decide +kernel⟩, List.mem_of_getElem? (i := 101) (by decide +kernel), List.mem_of_getElem? (i := 274) (by decide +kernel), List.mem_of_getElem? (i := 275) (by decide +kernel)⟩
theorem lw_p6 : lw_okq (⟨"QuireSigns$Text", "readLetters", "(LQuireSigns$Alphabet;)I"⟩, 6) := ⟨⟨by decide +kernel, by decide +kernel⟩, List.mem_of_getElem? (i := 101) (by decide +kernel), List.mem_of_getElem? (i := 281) (by decide +kernel), List.mem_of_getElem? (i := 282) (by decide +kernel)⟩
theorem lw_p7 : lw_okq (⟨"QuireSigns$Text", "readLastSign", "(LQuireSigns$Alphabet;I)I"⟩, 6) := ⟨⟨by decide +kernel, by decide +kernel⟩, List.mem_of_getElem? (i := 101) (by decide +kernel), List.mem_of_getElem? (i := 292) (by decide +kernel), List.mem_of_getElem? (i := 293) (by decide +kernel)⟩
theorem lw_p8 : lw_okq (⟨"QuireSigns$Text", "readNumber", "()I"⟩, 6) := ⟨⟨by decide +kernel, by decide +kernel⟩, List.mem_of_getElem? (i := 101) (by decide +kernel), List.mem_of_getElem? (i := 300) (by decide +kernel), List.mem_of_getElem? (i := 301) (by decide +kernel)⟩
theorem lw_p9 : lw_okq (⟨"QuireSigns$Text", "digitAt", "(I)I"⟩, 6) := ⟨⟨by decide +kernel, by decide +kernel⟩, List.mem_of_getElem? (i := 101) (by decide +kernel), List.mem_of_getElem? (i := 304) (by decide +kernel), List.mem_of_getElem? (i := 305) (by decide +kernel)⟩
theorem lw_p10 : lw_okq (⟨"QuireSigns", "quiresOfText", "()I"⟩, 7) := ⟨⟨by decide +kernel, by decide +kernel⟩, List.mem_of_getElem? (i := 14) (by decide +kernel), List.mem_of_getElem? (i := 317) (by decide +kernel), List.mem_of_getElem? (i := 318) (by decide +kernel)⟩
theorem lw_p11 : lw_okq (⟨"QuireSigns", "addEntry", "(I)V"⟩, 7) := ⟨⟨by decide +kernel, by decide +kernel⟩, List.mem_of_getElem? (i := 14) (by decide +kernel), List.mem_of_getElem? (i := 341) (by decide +kernel), List.mem_of_getElem? (i := 342) (by decide +kernel)⟩
theorem lw_p12 : lw_okq (⟨"QuireSigns", "findLeavesOfText", "()Z"⟩, 7) := ⟨⟨by decide +kernel, by decide +kernel⟩, List.mem_of_getElem? (i := 14) (by decide +kernel), List.mem_of_getElem? (i := 445) (by decide +kernel), List.mem_of_getElem? (i := 446) (by decide +kernel)⟩
theorem lw_p13 : lw_okq (⟨"QuireSigns", "allFoundThereOnce", "()Z"⟩, 7) := ⟨⟨by decide +kernel, by decide +kernel⟩, List.mem_of_getElem? (i := 14) (by decide +kernel), List.mem_of_getElem? (i := 455) (by decide +kernel), List.mem_of_getElem? (i := 456) (by decide +kernel)⟩
theorem lw_p14 : lw_okq (⟨"QuireSigns", "leafHangingWith", "(I)I"⟩, 7) := ⟨⟨by decide +kernel, by decide +kernel⟩, List.mem_of_getElem? (i := 14) (by decide +kernel), List.mem_of_getElem? (i := 532) (by decide +kernel), List.mem_of_getElem? (i := 533) (by decide +kernel)⟩
theorem lw_p15 : lw_okq (⟨"QuireSigns$Writer", "beginEntry", "(I)V"⟩, 2) := ⟨⟨by decide +kernel, by decide +kernel⟩, List.mem_of_getElem? (i := 130) (by decide +kernel), List.mem_of_getElem? (i := 585) (by decide +kernel), List.mem_of_getElem? (i := 586) (by decide +kernel)⟩
def lw_privs_1 : List (MethodName × Nat) := [(⟨"QuireSigns$History", "dropOldest", "()V"⟩, 2), (⟨"QuireSigns$History", "bookAt", "(I)LQuireSigns$Book;"⟩, 2), (⟨"QuireSigns$Text", "readEntries", "(LQuireSigns$Alphabet;Z)I"⟩, 6), (⟨"QuireSigns$Text", "readEntry", "(LQuireSigns$Alphabet;Z)Z"⟩, 6), (⟨"QuireSigns$Text", "readSign", "(LQuireSigns$Alphabet;)I"⟩, 6), (⟨"QuireSigns$Text", "readStars", "()I"⟩, 6), (⟨"QuireSigns$Text", "readLetters", "(LQuireSigns$Alphabet;)I"⟩, 6), (⟨"QuireSigns$Text", "readLastSign", "(LQuireSigns$Alphabet;I)I"⟩, 6), (⟨"QuireSigns$Text", "readNumber", "()I"⟩, 6), (⟨"QuireSigns$Text", "digitAt", "(I)I"⟩, 6), (⟨"QuireSigns", "quiresOfText", "()I"⟩, 7), (⟨"QuireSigns", "addEntry", "(I)V"⟩, 7), (⟨"QuireSigns", "findLeavesOfText", "()Z"⟩, 7), (⟨"QuireSigns", "allFoundThereOnce", "()Z"⟩, 7), (⟨"QuireSigns", "leafHangingWith", "(I)I"⟩, 7), (⟨"QuireSigns$Writer", "beginEntry", "(I)V"⟩, 2)]
theorem lw_r1 : ∀ q ∈ lw_privs_1, lw_okq q := List.forall_mem_cons.mpr ⟨lw_p0, List.forall_mem_cons.mpr ⟨lw_p1, List.forall_mem_cons.mpr ⟨lw_p2, List.forall_mem_cons.mpr ⟨lw_p3, List.forall_mem_cons.mpr ⟨lw_p4, List.forall_mem_cons.mpr ⟨lw_p5, List.forall_mem_cons.mpr ⟨lw_p6, List.forall_mem_cons.mpr ⟨lw_p7, List.forall_mem_cons.mpr ⟨lw_p8, List.forall_mem_cons.mpr ⟨lw_p9, List.forall_mem_cons.mpr ⟨lw_p10, List.forall_mem_cons.mpr ⟨lw_p11, List.forall_mem_cons.mpr ⟨lw_p12, List.forall_mem_cons.mpr ⟨lw_p13, List.forall_mem_cons.mpr ⟨lw_p14, List.forall_mem_cons.mpr ⟨lw_p15, fun _ h => absurd h List.not_mem_nil⟩⟩⟩⟩⟩⟩⟩⟩⟩⟩⟩⟩⟩⟩⟩⟩
theorem lw_p16 : lw_okq (⟨"QuireSigns$Writer", "writeSign", "(I)V"⟩, 2) := ⟨⟨by decide +kernel, by decide +kernel⟩, List.mem_of_getElem? (i := 130) (by decide +kernel), List.mem_of_getElem? (i := 590) (by decide +kernel), List.mem_of_getElem? (i := 591) (by decide +kernel)⟩
theorem lw_p17 : lw_okq (⟨"QuireSigns$Writer", "writeNumber", "(I)V"⟩, 2) := ⟨⟨by decide +kernel, by decide +kernel⟩, List.mem_of_getElem? (i := 130) (by decide +kernel), List.mem_of_getElem? (i := 596) (by decide +kernel), List.mem_of_getElem? (i := 597) (by decide +kernel)⟩
theorem lw_p18 : lw_okq (⟨"QuireSignsModel", "isOut", "(I)Z"⟩, 14) := ⟨⟨by decide +kernel, by decide +kernel⟩, List.mem_of_getElem? (i := 624) (by decide +kernel), List.mem_of_getElem? (i := 682) (by decide +kernel), List.mem_of_getElem? (i := 683) (by decide +kernel)⟩
theorem lw_p19 : lw_okq (⟨"QuireSignsModel", "letters", "()I"⟩, 14) := ⟨⟨by decide +kernel, by decide +kernel⟩, List.mem_of_getElem? (i := 624) (by decide +kernel), List.mem_of_getElem? (i := 686) (by decide +kernel), List.mem_of_getElem? (i := 687) (by decide +kernel)⟩
theorem lw_p20 : lw_okq (⟨"QuireSignsModel", "records", "()V"⟩, 14) := ⟨⟨by decide +kernel, by decide +kernel⟩, List.mem_of_getElem? (i := 624) (by decide +kernel), List.mem_of_getElem? (i := 690) (by decide +kernel), List.mem_of_getElem? (i := 691) (by decide +kernel)⟩
theorem lw_p21 : lw_okq (⟨"QuireSignsModel", "copies", "(II)V"⟩, 14) := ⟨⟨by decide +kernel, by decide +kernel⟩, List.mem_of_getElem? (i := 624) (by decide +kernel), List.mem_of_getElem? (i := 694) (by decide +kernel), List.mem_of_getElem? (i := 695) (by decide +kernel)⟩
theorem lw_p22 : lw_okq (⟨"QuireSignsModel", "signedOfAll", "()I"⟩, 14) := ⟨⟨by decide +kernel, by decide +kernel⟩, List.mem_of_getElem? (i := 624) (by decide +kernel), List.mem_of_getElem? (i := 702) (by decide +kernel), List.mem_of_getElem? (i := 703) (by decide +kernel)⟩
theorem lw_p23 : lw_okq (⟨"QuireSignsModel", "signed", "(I)I"⟩, 14) := ⟨⟨by decide +kernel, by decide +kernel⟩, List.mem_of_getElem? (i := 624) (by decide +kernel), List.mem_of_getElem? (i := 706) (by decide +kernel), List.mem_of_getElem? (i := 707) (by decide +kernel)⟩
theorem lw_p24 : lw_okq (⟨"QuireSignsModel", "fault", "(Z)I"⟩, 14) := ⟨⟨by decide +kernel, by decide +kernel⟩, List.mem_of_getElem? (i := 624) (by decide +kernel), List.mem_of_getElem? (i := 717) (by decide +kernel), List.mem_of_getElem? (i := 718) (by decide +kernel)⟩
theorem lw_p25 : lw_okq (⟨"QuireSignsModel", "item", "(Z)V"⟩, 14) := ⟨⟨by decide +kernel, by decide +kernel⟩, List.mem_of_getElem? (i := 624) (by decide +kernel), List.mem_of_getElem? (i := 721) (by decide +kernel), List.mem_of_getElem? (i := 722) (by decide +kernel)⟩
theorem lw_p26 : lw_okq (⟨"QuireSignsModel", "reads", "(Z)V"⟩, 14) := ⟨⟨by decide +kernel, by decide +kernel⟩, List.mem_of_getElem? (i := 624) (by decide +kernel), List.mem_of_getElem? (i := 725) (by decide +kernel), List.mem_of_getElem? (i := 726) (by decide +kernel)⟩
theorem lw_p27 : lw_okq (⟨"QuireSignsModel", "isNext", "(II)Z"⟩, 14) := ⟨⟨by decide +kernel, by decide +kernel⟩, List.mem_of_getElem? (i := 624) (by decide +kernel), List.mem_of_getElem? (i := 729) (by decide +kernel), List.mem_of_getElem? (i := 730) (by decide +kernel)⟩
theorem lw_p28 : lw_okq (⟨"QuireSignsModel", "number", "()I"⟩, 14) := ⟨⟨by decide +kernel, by decide +kernel⟩, List.mem_of_getElem? (i := 624) (by decide +kernel), List.mem_of_getElem? (i := 733) (by decide +kernel), List.mem_of_getElem? (i := 734) (by decide +kernel)⟩
theorem lw_p29 : lw_okq (⟨"QuireSignsModel", "puts", "(IIII)V"⟩, 14) := ⟨⟨by decide +kernel, by decide +kernel⟩, List.mem_of_getElem? (i := 624) (by decide +kernel), List.mem_of_getElem? (i := 737) (by decide +kernel), List.mem_of_getElem? (i := 738) (by decide +kernel)⟩
theorem lw_p30 : lw_okq (⟨"QuireSignsModel", "isStarred", "(I)Z"⟩, 14) := ⟨⟨by decide +kernel, by decide +kernel⟩, List.mem_of_getElem? (i := 624) (by decide +kernel), List.mem_of_getElem? (i := 745) (by decide +kernel), List.mem_of_getElem? (i := 746) (by decide +kernel)⟩
theorem lw_p31 : lw_okq (⟨"QuireSignsModel", "sign", "(I)I"⟩, 14) := ⟨⟨by decide +kernel, by decide +kernel⟩, List.mem_of_getElem? (i := 624) (by decide +kernel), List.mem_of_getElem? (i := 749) (by decide +kernel), List.mem_of_getElem? (i := 750) (by decide +kernel)⟩
def lw_privs_2 : List (MethodName × Nat) := [(⟨"QuireSigns$Writer", "writeSign", "(I)V"⟩, 2), (⟨"QuireSigns$Writer", "writeNumber", "(I)V"⟩, 2), (⟨"QuireSignsModel", "isOut", "(I)Z"⟩, 14), (⟨"QuireSignsModel", "letters", "()I"⟩, 14), (⟨"QuireSignsModel", "records", "()V"⟩, 14), (⟨"QuireSignsModel", "copies", "(II)V"⟩, 14), (⟨"QuireSignsModel", "signedOfAll", "()I"⟩, 14), (⟨"QuireSignsModel", "signed", "(I)I"⟩, 14), (⟨"QuireSignsModel", "fault", "(Z)I"⟩, 14), (⟨"QuireSignsModel", "item", "(Z)V"⟩, 14), (⟨"QuireSignsModel", "reads", "(Z)V"⟩, 14), (⟨"QuireSignsModel", "isNext", "(II)Z"⟩, 14), (⟨"QuireSignsModel", "number", "()I"⟩, 14), (⟨"QuireSignsModel", "puts", "(IIII)V"⟩, 14), (⟨"QuireSignsModel", "isStarred", "(I)Z"⟩, 14), (⟨"QuireSignsModel", "sign", "(I)I"⟩, 14)]
theorem lw_r2 : ∀ q ∈ lw_privs_2, lw_okq q := List.forall_mem_cons.mpr ⟨lw_p16, List.forall_mem_cons.mpr ⟨lw_p17, List.forall_mem_cons.mpr ⟨lw_p18, List.forall_mem_cons.mpr ⟨lw_p19, List.forall_mem_cons.mpr ⟨lw_p20, List.forall_mem_cons.mpr ⟨lw_p21, List.forall_mem_cons.mpr ⟨lw_p22, List.forall_mem_cons.mpr ⟨lw_p23, List.forall_mem_cons.mpr ⟨lw_p24, List.forall_mem_cons.mpr ⟨lw_p25, List.forall_mem_cons.mpr ⟨lw_p26, List.forall_mem_cons.mpr ⟨lw_p27, List.forall_mem_cons.mpr ⟨lw_p28, List.forall_mem_cons.mpr ⟨lw_p29, List.forall_mem_cons.mpr ⟨lw_p30, List.forall_mem_cons.mpr ⟨lw_p31, fun _ h => absurd h List.not_mem_nil⟩⟩⟩⟩⟩⟩⟩⟩⟩⟩⟩⟩⟩⟩⟩⟩
theorem lw_p32 : lw_okq (⟨"QuireSignsModel", "next", "(I)I"⟩, 14) := ⟨⟨by decide +kernel, by decide +kernel⟩, List.mem_of_getElem? (i := 624) (by decide +kernel), List.mem_of_getElem? (i := 753) (by decide +kernel), List.mem_of_getElem? (i := 754) (by decide +kernel)⟩
theorem lw_p33 : lw_okq (⟨"QuireSignsModel", "leaves", "()I"⟩, 14) := ⟨⟨by decide +kernel, by decide +kernel⟩, List.mem_of_getElem? (i := 624) (by decide +kernel), List.mem_of_getElem? (i := 761) (by decide +kernel), List.mem_of_getElem? (i := 762) (by decide +kernel)⟩
theorem lw_p34 : lw_okq (⟨"QuireSignsModel", "isQuire", "(I)Z"⟩, 14) := ⟨⟨by decide +kernel, by decide +kernel⟩, List.mem_of_getElem? (i := 624) (by decide +kernel), List.mem_of_getElem? (i := 769) (by decide +kernel), List.mem_of_getElem? (i := 770) (by decide +kernel)⟩
theorem lw_p35 : lw_okq (⟨"QuireSignsModel", "isLeaf", "(I)Z"⟩, 14) := ⟨⟨by decide +kernel, by decide +kernel⟩, List.mem_of_getElem? (i := 624) (by decide +kernel), List.mem_of_getElem? (i := 777) (by decide +kernel), List.mem_of_getElem? (i := 778) (by decide +kernel)⟩
theorem lw_p36 : lw_okq (⟨"QuireSignsModel", "isLost", "(I)Z"⟩, 14) := ⟨⟨by decide +kernel, by decide +kernel⟩, List.mem_of_getElem? (i := 624) (by decide +kernel), List.mem_of_getElem? (i := 781) (by decide +kernel), List.mem_of_getElem? (i := 782) (by decide +kernel)⟩
theorem lw_p37 : lw_okq (⟨"QuireSignsModel", "quireOf", "(I)I"⟩, 14) := ⟨⟨by decide +kernel, by decide +kernel⟩, List.mem_of_getElem? (i := 624) (by decide +kernel), List.mem_of_getElem? (i := 785) (by decide +kernel), List.mem_of_getElem? (i := 786) (by decide +kernel)⟩
theorem lw_p38 : lw_okq (⟨"QuireSignsModel", "first", "(I)I"⟩, 14) := ⟨⟨by decide +kernel, by decide +kernel⟩, List.mem_of_getElem? (i := 624) (by decide +kernel), List.mem_of_getElem? (i := 789) (by decide +kernel), List.mem_of_getElem? (i := 790) (by decide +kernel)⟩
theorem lw_p39 : lw_okq (⟨"QuireSignsModel", "thereOfAll", "()I"⟩, 14) := ⟨⟨by decide +kernel, by decide +kernel⟩, List.mem_of_getElem? (i := 624) (by decide +kernel), List.mem_of_getElem? (i := 793) (by decide +kernel), List.mem_of_getElem? (i := 794) (by decide +kernel)⟩
theorem lw_p40 : lw_okq (⟨"QuireSignsModel", "there", "(I)I"⟩, 14) := ⟨⟨by decide +kernel, by decide +kernel⟩, List.mem_of_getElem? (i := 624) (by decide +kernel), List.mem_of_getElem? (i := 797) (by decide +kernel), List.mem_of_getElem? (i := 798) (by decide +kernel)⟩
theorem lw_p41 : lw_okq (⟨"QuireSignsModel", "found", "(I)I"⟩, 14) := ⟨⟨by decide +kernel, by decide +kernel⟩, List.mem_of_getElem? (i := 624) (by decide +kernel), List.mem_of_getElem? (i := 805) (by decide +kernel), List.mem_of_getElem? (i := 806) (by decide +kernel)⟩
theorem lw_p42 : lw_okq (⟨"QuireSignsModel", "sameAhead", "(I)I"⟩, 14) := ⟨⟨by decide +kernel, by decide +kernel⟩, List.mem_of_getElem? (i := 624) (by decide +kernel), List.mem_of_getElem? (i := 833) (by decide +kernel), List.mem_of_getElem? (i := 834) (by decide +kernel)⟩
theorem lw_p43 : lw_okq (⟨"QuireSignsModel", "areSame", "(II)Z"⟩, 14) := ⟨⟨by decide +kernel, by decide +kernel⟩, List.mem_of_getElem? (i := 624) (by decide +kernel), List.mem_of_getElem? (i := 837) (by decide +kernel), List.mem_of_getElem? (i := 838) (by decide +kernel)⟩
theorem lw_p44 : lw_okq (⟨"QuireSignsModel", "thereAhead", "(I)I"⟩, 14) := ⟨⟨by decide +kernel, by decide +kernel⟩, List.mem_of_getElem? (i := 624) (by decide +kernel), List.mem_of_getElem? (i := 845) (by decide +kernel), List.mem_of_getElem? (i := 846) (by decide +kernel)⟩
theorem lw_p45 : lw_okq (⟨"QuireSignsModel", "isLapse", "(I)Z"⟩, 14) := ⟨⟨by decide +kernel, by decide +kernel⟩, List.mem_of_getElem? (i := 624) (by decide +kernel), List.mem_of_getElem? (i := 857) (by decide +kernel), List.mem_of_getElem? (i := 858) (by decide +kernel)⟩
theorem lw_p46 : lw_okq (⟨"QuireSignsModel", "before", "(I)I"⟩, 14) := ⟨⟨by decide +kernel, by decide +kernel⟩, List.mem_of_getElem? (i := 624) (by decide +kernel), List.mem_of_getElem? (i := 861) (by decide +kernel), List.mem_of_getElem? (i := 862) (by decide +kernel)⟩
theorem lw_p47 : lw_okq (⟨"QuireSignsModel", "between", "(II)I"⟩, 14) := ⟨⟨by decide +kernel, by decide +kernel⟩, List.mem_of_getElem? (i := 624) (by decide +kernel), List.mem_of_getElem? (i := 865) (by decide +kernel), List.mem_of_getElem? (i := 866) (by decide +kernel)⟩
def lw_privs_3 : List (MethodName × Nat) := [(⟨"QuireSignsModel", "next", "(I)I"⟩, 14), (⟨"QuireSignsModel", "leaves", "()I"⟩, 14), (⟨"QuireSignsModel", "isQuire", "(I)Z"⟩, 14), (⟨"QuireSignsModel", "isLeaf", "(I)Z"⟩, 14), (⟨"QuireSignsModel", "isLost", "(I)Z"⟩, 14), (⟨"QuireSignsModel", "quireOf", "(I)I"⟩, 14), (⟨"QuireSignsModel", "first", "(I)I"⟩, 14), (⟨"QuireSignsModel", "thereOfAll", "()I"⟩, 14), (⟨"QuireSignsModel", "there", "(I)I"⟩, 14), (⟨"QuireSignsModel", "found", "(I)I"⟩, 14), (⟨"QuireSignsModel", "sameAhead", "(I)I"⟩, 14), (⟨"QuireSignsModel", "areSame", "(II)Z"⟩, 14), (⟨"QuireSignsModel", "thereAhead", "(I)I"⟩, 14), (⟨"QuireSignsModel", "isLapse", "(I)Z"⟩, 14), (⟨"QuireSignsModel", "before", "(I)I"⟩, 14), (⟨"QuireSignsModel", "between", "(II)I"⟩, 14)]
theorem lw_r3 : ∀ q ∈ lw_privs_3, lw_okq q := List.forall_mem_cons.mpr ⟨lw_p32, List.forall_mem_cons.mpr ⟨lw_p33, List.forall_mem_cons.mpr ⟨lw_p34, List.forall_mem_cons.mpr ⟨lw_p35, List.forall_mem_cons.mpr ⟨lw_p36, List.forall_mem_cons.mpr ⟨lw_p37, List.forall_mem_cons.mpr ⟨lw_p38, List.forall_mem_cons.mpr ⟨lw_p39, List.forall_mem_cons.mpr ⟨lw_p40, List.forall_mem_cons.mpr ⟨lw_p41, List.forall_mem_cons.mpr ⟨lw_p42, List.forall_mem_cons.mpr ⟨lw_p43, List.forall_mem_cons.mpr ⟨lw_p44, List.forall_mem_cons.mpr ⟨lw_p45, List.forall_mem_cons.mpr ⟨lw_p46, List.forall_mem_cons.mpr ⟨lw_p47, fun _ h => absurd h List.not_mem_nil⟩⟩⟩⟩⟩⟩⟩⟩⟩⟩⟩⟩⟩⟩⟩⟩
theorem lw_p48 : lw_okq (⟨"QuireSignsModel", "isPiled", "(I)Z"⟩, 14) := ⟨⟨by decide +kernel, by decide +kernel⟩, List.mem_of_getElem? (i := 624) (by decide +kernel), List.mem_of_getElem? (i := 873) (by decide +kernel), List.mem_of_getElem? (i := 874) (by decide +kernel)⟩
theorem lw_p49 : lw_okq (⟨"QuireSignsModel", "lays", "()V"⟩, 14) := ⟨⟨by decide +kernel, by decide +kernel⟩, List.mem_of_getElem? (i := 624) (by decide +kernel), List.mem_of_getElem? (i := 885) (by decide +kernel), List.mem_of_getElem? (i := 886) (by decide +kernel)⟩
theorem lw_p50 : lw_okq (⟨"QuireSignsModel", "goesOn", "(I)Z"⟩, 14) := ⟨⟨by decide +kernel, by decide +kernel⟩, List.mem_of_getElem? (i := 624) (by decide +kernel), List.mem_of_getElem? (i := 889) (by decide +kernel), List.mem_of_getElem? (i := 890) (by decide +kernel)⟩
theorem lw_p51 : lw_okq (⟨"QuireSignsModel", "writes", "(I)V"⟩, 14) := ⟨⟨by decide +kernel, by decide +kernel⟩, List.mem_of_getElem? (i := 624) (by decide +kernel), List.mem_of_getElem? (i := 893) (by decide +kernel), List.mem_of_getElem? (i := 894) (by decide +kernel)⟩
theorem lw_p52 : lw_okq (⟨"QuireSignsModel", "writesSign", "(I)V"⟩, 14) := ⟨⟨by decide +kernel, by decide +kernel⟩, List.mem_of_getElem? (i := 624) (by decide +kernel), List.mem_of_getElem? (i := 897) (by decide +kernel), List.mem_of_getElem? (i := 898) (by decide +kernel)⟩
theorem lw_p53 : lw_okq (⟨"QuireSignsModel", "starred", "()I"⟩, 14) := ⟨⟨by decide +kernel, by decide +kernel⟩, List.mem_of_getElem? (i := 624) (by decide +kernel), List.mem_of_getElem? (i := 905) (by decide +kernel), List.mem_of_getElem? (i := 906) (by decide +kernel)⟩
theorem lw_p54 : lw_okq (⟨"QuireSignsModel", "lapses", "()I"⟩, 14) := ⟨⟨by decide +kernel, by decide +kernel⟩, List.mem_of_getElem? (i := 624) (by decide +kernel), List.mem_of_getElem? (i := 909) (by decide +kernel), List.mem_of_getElem? (i := 910) (by decide +kernel)⟩
def lw_privs_4 : List (MethodName × Nat) := [(⟨"QuireSignsModel", "isPiled", "(I)Z"⟩, 14), (⟨"QuireSignsModel", "lays", "()V"⟩, 14), (⟨"QuireSignsModel", "goesOn", "(I)Z"⟩, 14), (⟨"QuireSignsModel", "writes", "(I)V"⟩, 14), (⟨"QuireSignsModel", "writesSign", "(I)V"⟩, 14), (⟨"QuireSignsModel", "starred", "()I"⟩, 14), (⟨"QuireSignsModel", "lapses", "()I"⟩, 14)]
theorem lw_r4 : ∀ q ∈ lw_privs_4, lw_okq q := List.forall_mem_cons.mpr ⟨lw_p48, List.forall_mem_cons.mpr ⟨lw_p49, List.forall_mem_cons.mpr ⟨lw_p50, List.forall_mem_cons.mpr ⟨lw_p51, List.forall_mem_cons.mpr ⟨lw_p52, List.forall_mem_cons.mpr ⟨lw_p53, List.forall_mem_cons.mpr ⟨lw_p54, fun _ h => absurd h List.not_mem_nil⟩⟩⟩⟩⟩⟩⟩
def lw_privs : List (MethodName × Nat) := lw_privs_1 ++ (lw_privs_2 ++ (lw_privs_3 ++ (lw_privs_4)))
def lw_tbl : List Cond := k2_sels lw_privs ++ tables_1
theorem lw_privs_ok : ∀ q ∈ lw_privs, lw_okq q := by
  show ∀ q ∈ lw_privs_1 ++ (lw_privs_2 ++ (lw_privs_3 ++ (lw_privs_4))), lw_okq q
  exact List.forall_mem_append.mpr ⟨lw_r1, List.forall_mem_append.mpr ⟨lw_r2, List.forall_mem_append.mpr ⟨lw_r3, lw_r4⟩⟩⟩
def RX0 : String := "QuireSigns$Alphabet"
def TX0 : u_T := fun k => match k with
  | _ => ("QuireSigns$Alphabet", "out", "I", false)
def tyX0 : Nat → FieldType := fun k => match k with
  | _ => .int
abbrev wsX00 : List Cond := u_ws RX0 TX0 1
theorem nmX0 : ∀ a, a < 1 → ∀ b, b < 1 → a ≠ b → (TX0 a).2.1 ≠ (TX0 b).2.1 := by decide +kernel
theorem tyX0_ok : ∀ k, k < 1 → parseFieldDescriptor (TX0 k).2.2.1 = some (tyX0 k) := by decide +kernel
abbrev cX0_init : ByteArray := prog_2_method_1_code
def yX0_init : MethodName := ⟨RX0, "<init>", "(I)V"⟩
abbrev cX0_has : ByteArray := prog_2_method_2_code
def yX0_has : MethodName := ⟨RX0, "has", "(I)Z"⟩
abbrev cX0_letters : ByteArray := prog_2_method_3_code
def yX0_letters : MethodName := ⟨RX0, "letters", "()I"⟩
abbrev cX0_turn : ByteArray := prog_2_method_4_code
def yX0_turn : MethodName := ⟨RX0, "turn", "(I)V"⟩
abbrev cX0_nextSign : ByteArray := prog_2_method_5_code
def yX0_nextSign : MethodName := ⟨RX0, "nextSign", "(I)I"⟩
abbrev cX0_signsBetween : ByteArray := prog_2_method_6_code
def yX0_signsBetween : MethodName := ⟨RX0, "signsBetween", "(II)I"⟩
abbrev cX0_become : ByteArray := prog_2_method_7_code
def yX0_become : MethodName := ⟨RX0, "become", "(LQuireSigns$Alphabet;)V"⟩
def RX1 : String := "QuireSigns$Book"
def TX1 : u_T := fun k => match k with
  | 0 => ("QuireSigns$Book", "alphabet", "LQuireSigns$Alphabet;", true)
  | 1 => ("QuireSigns$Book", "signing", "I", false)
  | 2 => ("QuireSigns$Book", "signs", "LQuireSigns$Row;", true)
  | 3 => ("QuireSigns$Book", "sizes", "LQuireSigns$Row;", true)
  | 4 => ("QuireSigns$Book", "lost", "LQuireSigns$Row;", true)
  | _ => ("QuireSigns$Book", "pile", "LQuireSigns$Row;", true)
def tyX1 : Nat → FieldType := fun k => match k with
  | 0 => .object "QuireSigns$Alphabet"
  | 1 => .int
  | 2 => .object "QuireSigns$Row"
  | 3 => .object "QuireSigns$Row"
  | 4 => .object "QuireSigns$Row"
  | _ => .object "QuireSigns$Row"
abbrev wsX10 : List Cond := u_ws RX1 TX1 6
theorem nmX1 : ∀ a, a < 6 → ∀ b, b < 6 → a ≠ b → (TX1 a).2.1 ≠ (TX1 b).2.1 := by decide +kernel
theorem tyX1_ok : ∀ k, k < 6 → parseFieldDescriptor (TX1 k).2.2.1 = some (tyX1 k) := by decide +kernel
abbrev cX1_init : ByteArray := prog_3_method_1_code
def yX1_init : MethodName := ⟨RX1, "<init>", "()V"⟩
abbrev cX1_become : ByteArray := prog_3_method_2_code
def yX1_become : MethodName := ⟨RX1, "become", "(LQuireSigns$Book;)V"⟩
abbrev cX1_quires : ByteArray := prog_3_method_3_code
def yX1_quires : MethodName := ⟨RX1, "quires", "()I"⟩
abbrev cX1_hasQuire : ByteArray := prog_3_method_4_code
def yX1_hasQuire : MethodName := ⟨RX1, "hasQuire", "(I)Z"⟩
abbrev cX1_addQuire : ByteArray := prog_3_method_5_code
def yX1_addQuire : MethodName := ⟨RX1, "addQuire", "(III)V"⟩
abbrev cX1_dropQuire : ByteArray := prog_3_method_6_code
def yX1_dropQuire : MethodName := ⟨RX1, "dropQuire", "(I)V"⟩
abbrev cX1_starredQuires : ByteArray := prog_3_method_7_code
def yX1_starredQuires : MethodName := ⟨RX1, "starredQuires", "()I"⟩
abbrev cX1_sameAhead : ByteArray := prog_3_method_8_code
def yX1_sameAhead : MethodName := ⟨RX1, "sameAhead", "(I)I"⟩
abbrev cX1_lastLettersAhead : ByteArray := prog_3_method_9_code
def yX1_lastLettersAhead : MethodName := ⟨RX1, "lastLettersAhead", "(I)I"⟩
abbrev cX1_firstLeaf : ByteArray := prog_3_method_10_code
def yX1_firstLeaf : MethodName := ⟨RX1, "firstLeaf", "(I)I"⟩
abbrev cX1_leaves : ByteArray := prog_3_method_11_code
def yX1_leaves : MethodName := ⟨RX1, "leaves", "()I"⟩
abbrev cX1_hasLeaf : ByteArray := prog_3_method_12_code
def yX1_hasLeaf : MethodName := ⟨RX1, "hasLeaf", "(I)Z"⟩
abbrev cX1_quireOf : ByteArray := prog_3_method_13_code
def yX1_quireOf : MethodName := ⟨RX1, "quireOf", "(I)I"⟩
abbrev cX1_numberOf : ByteArray := prog_3_method_14_code
def yX1_numberOf : MethodName := ⟨RX1, "numberOf", "(I)I"⟩
abbrev cX1_signedIn : ByteArray := prog_3_method_15_code
def yX1_signedIn : MethodName := ⟨RX1, "signedIn", "(I)I"⟩
abbrev cX1_signedLeaves : ByteArray := prog_3_method_16_code
def yX1_signedLeaves : MethodName := ⟨RX1, "signedLeaves", "()I"⟩
abbrev cX1_isLost : ByteArray := prog_3_method_17_code
def yX1_isLost : MethodName := ⟨RX1, "isLost", "(I)Z"⟩
abbrev cX1_turnLost : ByteArray := prog_3_method_18_code
def yX1_turnLost : MethodName := ⟨RX1, "turnLost", "(I)V"⟩
abbrev cX1_thereIn : ByteArray := prog_3_method_19_code
def yX1_thereIn : MethodName := ⟨RX1, "thereIn", "(I)I"⟩
abbrev cX1_thereAhead : ByteArray := prog_3_method_20_code
def yX1_thereAhead : MethodName := ⟨RX1, "thereAhead", "(I)I"⟩
abbrev cX1_leavesThere : ByteArray := prog_3_method_21_code
def yX1_leavesThere : MethodName := ⟨RX1, "leavesThere", "()I"⟩
abbrev cX1_leafSigned : ByteArray := prog_3_method_22_code
def yX1_leafSigned : MethodName := ⟨RX1, "leafSigned", "(II)I"⟩
abbrev cX1_addToPile : ByteArray := prog_3_method_23_code
def yX1_addToPile : MethodName := ⟨RX1, "addToPile", "(I)V"⟩
def RX2 : String := "QuireSigns$History"
def TX2 : u_T := fun k => match k with
  | 0 => ("QuireSigns$History", "books", "[LQuireSigns$Book;", true)
  | _ => ("QuireSigns$History", "states", "I", false)
def tyX2 : Nat → FieldType := fun k => match k with
  | 0 => .array (.object "QuireSigns$Book")
  | _ => .int
abbrev wsX20 : List Cond := u_ws RX2 TX2 2
theorem nmX2 : ∀ a, a < 2 → ∀ b, b < 2 → a ≠ b → (TX2 a).2.1 ≠ (TX2 b).2.1 := by decide +kernel
theorem tyX2_ok : ∀ k, k < 2 → parseFieldDescriptor (TX2 k).2.2.1 = some (tyX2 k) := by decide +kernel
abbrev cX2_init : ByteArray := prog_4_method_1_code
def yX2_init : MethodName := ⟨RX2, "<init>", "()V"⟩
abbrev cX2_states : ByteArray := prog_4_method_2_code
def yX2_states : MethodName := ⟨RX2, "states", "()I"⟩
abbrev cX2_record : ByteArray := prog_4_method_3_code
def yX2_record : MethodName := ⟨RX2, "record", "(LQuireSigns$Book;)V"⟩
abbrev cX2_takeBack : ByteArray := prog_4_method_4_code
def yX2_takeBack : MethodName := ⟨RX2, "takeBack", "(LQuireSigns$Book;)V"⟩
abbrev cX2_bookAt : ByteArray := prog_4_method_5_code
def yX2_bookAt : MethodName := ⟨RX2, "bookAt", "(I)LQuireSigns$Book;"⟩
abbrev cX2_dropOldest : ByteArray := prog_4_method_6_code
def yX2_dropOldest : MethodName := ⟨RX2, "dropOldest", "()V"⟩
def RX3 : String := "QuireSigns$Lapses"
def TX3 : u_T := fun k => match k with
  | _ => ("", "", "", false)
def tyX3 : Nat → FieldType := fun k => match k with
  | _ => .int
abbrev wsX30 : List Cond := u_ws RX3 TX3 0
theorem nmX3 : ∀ a, a < 0 → ∀ b, b < 0 → a ≠ b → (TX3 a).2.1 ≠ (TX3 b).2.1 := by decide +kernel
theorem tyX3_ok : ∀ k, k < 0 → parseFieldDescriptor (TX3 k).2.2.1 = some (tyX3 k) := by decide +kernel
abbrev cX3_kind : ByteArray := prog_5_method_2_code
def yX3_kind : MethodName := ⟨RX3, "kind", "(LQuireSigns$Book;I)I"⟩
abbrev cX3_width : ByteArray := prog_5_method_3_code
def yX3_width : MethodName := ⟨RX3, "width", "(LQuireSigns$Book;I)I"⟩
abbrev cX3_number : ByteArray := prog_5_method_4_code
def yX3_number : MethodName := ⟨RX3, "number", "(LQuireSigns$Book;)I"⟩
abbrev cX3_quireAt : ByteArray := prog_5_method_5_code
def yX3_quireAt : MethodName := ⟨RX3, "quireAt", "(LQuireSigns$Book;I)I"⟩
def RX4 : String := "QuireSigns$Row"
def TX4 : u_T := fun k => match k with
  | 0 => ("QuireSigns$Row", "cells", "[I", true)
  | _ => ("QuireSigns$Row", "length", "I", false)
def tyX4 : Nat → FieldType := fun k => match k with
  | 0 => .array .int
  | _ => .int
abbrev wsX40 : List Cond := u_ws RX4 TX4 2
theorem nmX4 : ∀ a, a < 2 → ∀ b, b < 2 → a ≠ b → (TX4 a).2.1 ≠ (TX4 b).2.1 := by decide +kernel
theorem tyX4_ok : ∀ k, k < 2 → parseFieldDescriptor (TX4 k).2.2.1 = some (tyX4 k) := by decide +kernel
abbrev cX4_init : ByteArray := prog_6_method_1_code
def yX4_init : MethodName := ⟨RX4, "<init>", "(I)V"⟩
abbrev cX4_length : ByteArray := prog_6_method_2_code
def yX4_length : MethodName := ⟨RX4, "length", "()I"⟩
abbrev cX4_at : ByteArray := prog_6_method_3_code
def yX4_at : MethodName := ⟨RX4, "at", "(I)I"⟩
abbrev cX4_firstIndexOf : ByteArray := prog_6_method_4_code
def yX4_firstIndexOf : MethodName := ⟨RX4, "firstIndexOf", "(I)I"⟩
abbrev cX4_set : ByteArray := prog_6_method_5_code
def yX4_set : MethodName := ⟨RX4, "set", "(II)V"⟩
abbrev cX4_add : ByteArray := prog_6_method_6_code
def yX4_add : MethodName := ⟨RX4, "add", "(I)V"⟩
abbrev cX4_addAt : ByteArray := prog_6_method_7_code
def yX4_addAt : MethodName := ⟨RX4, "addAt", "(II)V"⟩
abbrev cX4_drop : ByteArray := prog_6_method_8_code
def yX4_drop : MethodName := ⟨RX4, "drop", "(I)V"⟩
abbrev cX4_empty : ByteArray := prog_6_method_9_code
def yX4_empty : MethodName := ⟨RX4, "empty", "()V"⟩
abbrev cX4_become : ByteArray := prog_6_method_10_code
def yX4_become : MethodName := ⟨RX4, "become", "(LQuireSigns$Row;)V"⟩
def RX5 : String := "QuireSigns$Sign"
def TX5 : u_T := fun k => match k with
  | _ => ("", "", "", false)
def tyX5 : Nat → FieldType := fun k => match k with
  | _ => .int
abbrev wsX50 : List Cond := u_ws RX5 TX5 0
theorem nmX5 : ∀ a, a < 0 → ∀ b, b < 0 → a ≠ b → (TX5 a).2.1 ≠ (TX5 b).2.1 := by decide +kernel
theorem tyX5_ok : ∀ k, k < 0 → parseFieldDescriptor (TX5 k).2.2.1 = some (tyX5 k) := by decide +kernel
abbrev cX5_ofLetters : ByteArray := prog_7_method_2_code
def yX5_ofLetters : MethodName := ⟨RX5, "ofLetters", "(II)I"⟩
abbrev cX5_ofStars : ByteArray := prog_7_method_3_code
def yX5_ofStars : MethodName := ⟨RX5, "ofStars", "(I)I"⟩
abbrev cX5_isStarred : ByteArray := prog_7_method_4_code
def yX5_isStarred : MethodName := ⟨RX5, "isStarred", "(I)Z"⟩
abbrev cX5_letter : ByteArray := prog_7_method_5_code
def yX5_letter : MethodName := ⟨RX5, "letter", "(I)I"⟩
abbrev cX5_times : ByteArray := prog_7_method_6_code
def yX5_times : MethodName := ⟨RX5, "times", "(I)I"⟩
def RX6 : String := "QuireSigns$Text"
def TX6 : u_T := fun k => match k with
  | 0 => ("QuireSigns$Text", "characters", "LQuireSigns$Row;", true)
  | 1 => ("QuireSigns$Text", "firstSigns", "LQuireSigns$Row;", true)
  | 2 => ("QuireSigns$Text", "lastSigns", "LQuireSigns$Row;", true)
  | 3 => ("QuireSigns$Text", "numbers", "LQuireSigns$Row;", true)
  | 4 => ("QuireSigns$Text", "allLetters", "LQuireSigns$Alphabet;", true)
  | _ => ("QuireSigns$Text", "at", "I", false)
def tyX6 : Nat → FieldType := fun k => match k with
  | 0 => .object "QuireSigns$Row"
  | 1 => .object "QuireSigns$Row"
  | 2 => .object "QuireSigns$Row"
  | 3 => .object "QuireSigns$Row"
  | 4 => .object "QuireSigns$Alphabet"
  | _ => .int
abbrev wsX60 : List Cond := u_ws RX6 TX6 6
theorem nmX6 : ∀ a, a < 6 → ∀ b, b < 6 → a ≠ b → (TX6 a).2.1 ≠ (TX6 b).2.1 := by decide +kernel
theorem tyX6_ok : ∀ k, k < 6 → parseFieldDescriptor (TX6 k).2.2.1 = some (tyX6 k) := by decide +kernel
abbrev cX6_init : ByteArray := prog_8_method_1_code
def yX6_init : MethodName := ⟨RX6, "<init>", "()V"⟩
abbrev cX6_length : ByteArray := prog_8_method_2_code
def yX6_length : MethodName := ⟨RX6, "length", "()I"⟩
abbrev cX6_add : ByteArray := prog_8_method_3_code
def yX6_add : MethodName := ⟨RX6, "add", "(C)V"⟩
abbrev cX6_empty : ByteArray := prog_8_method_4_code
def yX6_empty : MethodName := ⟨RX6, "empty", "()V"⟩
abbrev cX6_entries : ByteArray := prog_8_method_5_code
def yX6_entries : MethodName := ⟨RX6, "entries", "()I"⟩
abbrev cX6_firstSign : ByteArray := prog_8_method_6_code
def yX6_firstSign : MethodName := ⟨RX6, "firstSign", "(I)I"⟩
abbrev cX6_lastSign : ByteArray := prog_8_method_7_code
def yX6_lastSign : MethodName := ⟨RX6, "lastSign", "(I)I"⟩
abbrev cX6_number : ByteArray := prog_8_method_8_code
def yX6_number : MethodName := ⟨RX6, "number", "(I)I"⟩
abbrev cX6_readAsFormula : ByteArray := prog_8_method_9_code
def yX6_readAsFormula : MethodName := ⟨RX6, "readAsFormula", "(LQuireSigns$Alphabet;)I"⟩
abbrev cX6_readAsPile : ByteArray := prog_8_method_10_code
def yX6_readAsPile : MethodName := ⟨RX6, "readAsPile", "()I"⟩
abbrev cX6_readEntries : ByteArray := prog_8_method_11_code
def yX6_readEntries : MethodName := ⟨RX6, "readEntries", "(LQuireSigns$Alphabet;Z)I"⟩
abbrev cX6_readEntry : ByteArray := prog_8_method_12_code
def yX6_readEntry : MethodName := ⟨RX6, "readEntry", "(LQuireSigns$Alphabet;Z)Z"⟩
abbrev cX6_readSign : ByteArray := prog_8_method_13_code
def yX6_readSign : MethodName := ⟨RX6, "readSign", "(LQuireSigns$Alphabet;)I"⟩
abbrev cX6_readStars : ByteArray := prog_8_method_14_code
def yX6_readStars : MethodName := ⟨RX6, "readStars", "()I"⟩
abbrev cX6_readLetters : ByteArray := prog_8_method_15_code
def yX6_readLetters : MethodName := ⟨RX6, "readLetters", "(LQuireSigns$Alphabet;)I"⟩
abbrev cX6_readLastSign : ByteArray := prog_8_method_16_code
def yX6_readLastSign : MethodName := ⟨RX6, "readLastSign", "(LQuireSigns$Alphabet;I)I"⟩
abbrev cX6_readNumber : ByteArray := prog_8_method_17_code
def yX6_readNumber : MethodName := ⟨RX6, "readNumber", "()I"⟩
abbrev cX6_digitAt : ByteArray := prog_8_method_18_code
def yX6_digitAt : MethodName := ⟨RX6, "digitAt", "(I)I"⟩
def RX7 : String := "QuireSigns$Writer"
def TX7 : u_T := fun k => match k with
  | 0 => ("QuireSigns$Writer", "characters", "LQuireSigns$Row;", true)
  | _ => ("QuireSigns$Writer", "entries", "I", false)
def tyX7 : Nat → FieldType := fun k => match k with
  | 0 => .object "QuireSigns$Row"
  | _ => .int
abbrev wsX70 : List Cond := u_ws RX7 TX7 2
theorem nmX7 : ∀ a, a < 2 → ∀ b, b < 2 → a ≠ b → (TX7 a).2.1 ≠ (TX7 b).2.1 := by decide +kernel
theorem tyX7_ok : ∀ k, k < 2 → parseFieldDescriptor (TX7 k).2.2.1 = some (tyX7 k) := by decide +kernel
abbrev cX7_init : ByteArray := prog_9_method_1_code
def yX7_init : MethodName := ⟨RX7, "<init>", "()V"⟩
abbrev cX7_length : ByteArray := prog_9_method_2_code
def yX7_length : MethodName := ⟨RX7, "length", "()I"⟩
abbrev cX7_characterAt : ByteArray := prog_9_method_3_code
def yX7_characterAt : MethodName := ⟨RX7, "characterAt", "(I)I"⟩
abbrev cX7_entries : ByteArray := prog_9_method_4_code
def yX7_entries : MethodName := ⟨RX7, "entries", "()I"⟩
abbrev cX7_write : ByteArray := prog_9_method_5_code
def yX7_write : MethodName := ⟨RX7, "write", "(LQuireSigns$Book;)V"⟩
abbrev cX7_goesOn : ByteArray := prog_9_method_6_code
def yX7_goesOn : MethodName := ⟨RX7, "goesOn", "(LQuireSigns$Book;I)Z"⟩
abbrev cX7_beginEntry : ByteArray := prog_9_method_7_code
def yX7_beginEntry : MethodName := ⟨RX7, "beginEntry", "(I)V"⟩
abbrev cX7_writeSign : ByteArray := prog_9_method_8_code
def yX7_writeSign : MethodName := ⟨RX7, "writeSign", "(I)V"⟩
abbrev cX7_writeNumber : ByteArray := prog_9_method_9_code
def yX7_writeNumber : MethodName := ⟨RX7, "writeNumber", "(I)V"⟩
def RX8 : String := "QuireSigns"
def TX8 : u_T := fun k => match k with
  | 0 => ("QuireSigns", "book", "LQuireSigns$Book;", true)
  | 1 => ("QuireSigns", "snapshot", "LQuireSigns$Book;", true)
  | 2 => ("QuireSigns", "snapshotTaken", "Z", false)
  | 3 => ("QuireSigns", "history", "LQuireSigns$History;", true)
  | 4 => ("QuireSigns", "text", "LQuireSigns$Text;", true)
  | 5 => ("QuireSigns", "writer", "LQuireSigns$Writer;", true)
  | _ => ("QuireSigns", "found", "LQuireSigns$Row;", true)
def tyX8 : Nat → FieldType := fun k => match k with
  | 0 => .object "QuireSigns$Book"
  | 1 => .object "QuireSigns$Book"
  | 2 => .boolean
  | 3 => .object "QuireSigns$History"
  | 4 => .object "QuireSigns$Text"
  | 5 => .object "QuireSigns$Writer"
  | _ => .object "QuireSigns$Row"
abbrev wsX80 : List Cond := u_ws RX8 TX8 7
theorem nmX8 : ∀ a, a < 7 → ∀ b, b < 7 → a ≠ b → (TX8 a).2.1 ≠ (TX8 b).2.1 := by decide +kernel
theorem tyX8_ok : ∀ k, k < 7 → parseFieldDescriptor (TX8 k).2.2.1 = some (tyX8 k) := by decide +kernel
abbrev cX8_init : ByteArray := prog_1_method_1_code
def yX8_init : MethodName := ⟨RX8, "<init>", "()V"⟩
abbrev cX8_leaveOut : ByteArray := prog_1_method_2_code
def yX8_leaveOut : MethodName := ⟨RX8, "leaveOut", "(CZ)I"⟩
abbrev cX8_setSigning : ByteArray := prog_1_method_3_code
def yX8_setSigning : MethodName := ⟨RX8, "setSigning", "(I)I"⟩
abbrev cX8_readFormula : ByteArray := prog_1_method_4_code
def yX8_readFormula : MethodName := ⟨RX8, "readFormula", "()I"⟩
abbrev cX8_signNext : ByteArray := prog_1_method_5_code
def yX8_signNext : MethodName := ⟨RX8, "signNext", "(I)I"⟩
abbrev cX8_insert : ByteArray := prog_1_method_6_code
def yX8_insert : MethodName := ⟨RX8, "insert", "(III)I"⟩
abbrev cX8_remove : ByteArray := prog_1_method_7_code
def yX8_remove : MethodName := ⟨RX8, "remove", "(I)I"⟩
abbrev cX8_lose : ByteArray := prog_1_method_8_code
def yX8_lose : MethodName := ⟨RX8, "lose", "(IZ)I"⟩
abbrev cX8_readPile : ByteArray := prog_1_method_9_code
def yX8_readPile : MethodName := ⟨RX8, "readPile", "()I"⟩
abbrev cX8_type : ByteArray := prog_1_method_10_code
def yX8_type : MethodName := ⟨RX8, "type", "(C)I"⟩
abbrev cX8_clearText : ByteArray := prog_1_method_11_code
def yX8_clearText : MethodName := ⟨RX8, "clearText", "()I"⟩
abbrev cX8_undo : ByteArray := prog_1_method_12_code
def yX8_undo : MethodName := ⟨RX8, "undo", "()I"⟩
abbrev cX8_keep : ByteArray := prog_1_method_13_code
def yX8_keep : MethodName := ⟨RX8, "keep", "()I"⟩
abbrev cX8_restore : ByteArray := prog_1_method_14_code
def yX8_restore : MethodName := ⟨RX8, "restore", "()I"⟩
abbrev cX8_quire : ByteArray := prog_1_method_15_code
def yX8_quire : MethodName := ⟨RX8, "quire", "(II)I"⟩
abbrev cX8_leaf : ByteArray := prog_1_method_16_code
def yX8_leaf : MethodName := ⟨RX8, "leaf", "(II)I"⟩
abbrev cX8_find : ByteArray := prog_1_method_17_code
def yX8_find : MethodName := ⟨RX8, "find", "()I"⟩
abbrev cX8_lapse : ByteArray := prog_1_method_18_code
def yX8_lapse : MethodName := ⟨RX8, "lapse", "(II)I"⟩
abbrev cX8_piled : ByteArray := prog_1_method_19_code
def yX8_piled : MethodName := ⟨RX8, "piled", "(II)I"⟩
abbrev cX8_sheets : ByteArray := prog_1_method_20_code
def yX8_sheets : MethodName := ⟨RX8, "sheets", "(I)I"⟩
abbrev cX8_formula : ByteArray := prog_1_method_21_code
def yX8_formula : MethodName := ⟨RX8, "formula", "(I)I"⟩
abbrev cX8_count : ByteArray := prog_1_method_22_code
def yX8_count : MethodName := ⟨RX8, "count", "(I)I"⟩
abbrev cX8_isQuireSize : ByteArray := prog_1_method_23_code
def yX8_isQuireSize : MethodName := ⟨RX8, "isQuireSize", "(I)Z"⟩
abbrev cX8_quiresOfText : ByteArray := prog_1_method_24_code
def yX8_quiresOfText : MethodName := ⟨RX8, "quiresOfText", "()I"⟩
abbrev cX8_addEntry : ByteArray := prog_1_method_25_code
def yX8_addEntry : MethodName := ⟨RX8, "addEntry", "(I)V"⟩
abbrev cX8_findLeavesOfText : ByteArray := prog_1_method_26_code
def yX8_findLeavesOfText : MethodName := ⟨RX8, "findLeavesOfText", "()Z"⟩
abbrev cX8_allFoundThereOnce : ByteArray := prog_1_method_27_code
def yX8_allFoundThereOnce : MethodName := ⟨RX8, "allFoundThereOnce", "()Z"⟩
abbrev cX8_leafHangingWith : ByteArray := prog_1_method_28_code
def yX8_leafHangingWith : MethodName := ⟨RX8, "leafHangingWith", "(I)I"⟩
def RX9 : String := "QuireSignsModel"
def TX9 : u_T := fun k => match k with
  | 0 => ("QuireSignsModel", "s", "[I", true)
  | 1 => ("QuireSignsModel", "states", "I", false)
  | 2 => ("QuireSignsModel", "isKept", "Z", false)
  | 3 => ("QuireSignsModel", "text", "[C", true)
  | 4 => ("QuireSignsModel", "typed", "I", false)
  | 5 => ("QuireSignsModel", "at", "I", false)
  | 6 => ("QuireSignsModel", "isRight", "Z", false)
  | 7 => ("QuireSignsModel", "times", "I", false)
  | 8 => ("QuireSignsModel", "letter", "I", false)
  | 9 => ("QuireSignsModel", "told", "[I", true)
  | 10 => ("QuireSignsModel", "items", "I", false)
  | 11 => ("QuireSignsModel", "formula", "[C", true)
  | 12 => ("QuireSignsModel", "length", "I", false)
  | _ => ("QuireSignsModel", "entries", "I", false)
def tyX9 : Nat → FieldType := fun k => match k with
  | 0 => .array .int
  | 1 => .int
  | 2 => .boolean
  | 3 => .array .char
  | 4 => .int
  | 5 => .int
  | 6 => .boolean
  | 7 => .int
  | 8 => .int
  | 9 => .array .int
  | 10 => .int
  | 11 => .array .char
  | 12 => .int
  | _ => .int
abbrev wsX90 : List Cond := u_ws RX9 TX9 14
theorem nmX9 : ∀ a, a < 14 → ∀ b, b < 14 → a ≠ b → (TX9 a).2.1 ≠ (TX9 b).2.1 := by decide +kernel
theorem tyX9_ok : ∀ k, k < 14 → parseFieldDescriptor (TX9 k).2.2.1 = some (tyX9 k) := by decide +kernel
abbrev cX9_init : ByteArray := prog_11_method_1_code
def yX9_init : MethodName := ⟨RX9, "<init>", "()V"⟩
abbrev cX9_in : ByteArray := prog_11_method_2_code
def yX9_in : MethodName := ⟨RX9, "in", "(III)Z"⟩
abbrev cX9_copies : ByteArray := prog_11_method_3_code
def yX9_copies : MethodName := ⟨RX9, "copies", "(II)V"⟩
abbrev cX9_records : ByteArray := prog_11_method_4_code
def yX9_records : MethodName := ⟨RX9, "records", "()V"⟩
abbrev cX9_isOut : ByteArray := prog_11_method_5_code
def yX9_isOut : MethodName := ⟨RX9, "isOut", "(I)Z"⟩
abbrev cX9_letters : ByteArray := prog_11_method_6_code
def yX9_letters : MethodName := ⟨RX9, "letters", "()I"⟩
abbrev cX9_next : ByteArray := prog_11_method_7_code
def yX9_next : MethodName := ⟨RX9, "next", "(I)I"⟩
abbrev cX9_of : ByteArray := prog_11_method_8_code
def yX9_of : MethodName := ⟨RX9, "of", "(II)I"⟩
abbrev cX9_isStarred : ByteArray := prog_11_method_9_code
def yX9_isStarred : MethodName := ⟨RX9, "isStarred", "(I)Z"⟩
abbrev cX9_sign : ByteArray := prog_11_method_10_code
def yX9_sign : MethodName := ⟨RX9, "sign", "(I)I"⟩
abbrev cX9_areSame : ByteArray := prog_11_method_11_code
def yX9_areSame : MethodName := ⟨RX9, "areSame", "(II)Z"⟩
abbrev cX9_isQuire : ByteArray := prog_11_method_12_code
def yX9_isQuire : MethodName := ⟨RX9, "isQuire", "(I)Z"⟩
abbrev cX9_leaves : ByteArray := prog_11_method_13_code
def yX9_leaves : MethodName := ⟨RX9, "leaves", "()I"⟩
abbrev cX9_first : ByteArray := prog_11_method_14_code
def yX9_first : MethodName := ⟨RX9, "first", "(I)I"⟩
abbrev cX9_signed : ByteArray := prog_11_method_15_code
def yX9_signed : MethodName := ⟨RX9, "signed", "(I)I"⟩
abbrev cX9_signedOfAll : ByteArray := prog_11_method_16_code
def yX9_signedOfAll : MethodName := ⟨RX9, "signedOfAll", "()I"⟩
abbrev cX9_isLeaf : ByteArray := prog_11_method_17_code
def yX9_isLeaf : MethodName := ⟨RX9, "isLeaf", "(I)Z"⟩
abbrev cX9_quireOf : ByteArray := prog_11_method_18_code
def yX9_quireOf : MethodName := ⟨RX9, "quireOf", "(I)I"⟩
abbrev cX9_isLost : ByteArray := prog_11_method_19_code
def yX9_isLost : MethodName := ⟨RX9, "isLost", "(I)Z"⟩
abbrev cX9_there : ByteArray := prog_11_method_20_code
def yX9_there : MethodName := ⟨RX9, "there", "(I)I"⟩
abbrev cX9_thereOfAll : ByteArray := prog_11_method_21_code
def yX9_thereOfAll : MethodName := ⟨RX9, "thereOfAll", "()I"⟩
abbrev cX9_puts : ByteArray := prog_11_method_22_code
def yX9_puts : MethodName := ⟨RX9, "puts", "(IIII)V"⟩
abbrev cX9_leaveOut : ByteArray := prog_11_method_23_code
def yX9_leaveOut : MethodName := ⟨RX9, "leaveOut", "(CZ)I"⟩
abbrev cX9_setSigning : ByteArray := prog_11_method_24_code
def yX9_setSigning : MethodName := ⟨RX9, "setSigning", "(I)I"⟩
abbrev cX9_isNext : ByteArray := prog_11_method_25_code
def yX9_isNext : MethodName := ⟨RX9, "isNext", "(II)Z"⟩
abbrev cX9_reads : ByteArray := prog_11_method_26_code
def yX9_reads : MethodName := ⟨RX9, "reads", "(Z)V"⟩
abbrev cX9_number : ByteArray := prog_11_method_27_code
def yX9_number : MethodName := ⟨RX9, "number", "()I"⟩
abbrev cX9_item : ByteArray := prog_11_method_28_code
def yX9_item : MethodName := ⟨RX9, "item", "(Z)V"⟩
abbrev cX9_fault : ByteArray := prog_11_method_29_code
def yX9_fault : MethodName := ⟨RX9, "fault", "(Z)I"⟩
abbrev cX9_readFormula : ByteArray := prog_11_method_30_code
def yX9_readFormula : MethodName := ⟨RX9, "readFormula", "()I"⟩
abbrev cX9_signNext : ByteArray := prog_11_method_31_code
def yX9_signNext : MethodName := ⟨RX9, "signNext", "(I)I"⟩
abbrev cX9_insert : ByteArray := prog_11_method_32_code
def yX9_insert : MethodName := ⟨RX9, "insert", "(III)I"⟩
abbrev cX9_remove : ByteArray := prog_11_method_33_code
def yX9_remove : MethodName := ⟨RX9, "remove", "(I)I"⟩
abbrev cX9_lose : ByteArray := prog_11_method_34_code
def yX9_lose : MethodName := ⟨RX9, "lose", "(IZ)I"⟩
abbrev cX9_found : ByteArray := prog_11_method_35_code
def yX9_found : MethodName := ⟨RX9, "found", "(I)I"⟩
abbrev cX9_readPile : ByteArray := prog_11_method_36_code
def yX9_readPile : MethodName := ⟨RX9, "readPile", "()I"⟩
abbrev cX9_type : ByteArray := prog_11_method_37_code
def yX9_type : MethodName := ⟨RX9, "type", "(C)I"⟩
abbrev cX9_clearText : ByteArray := prog_11_method_38_code
def yX9_clearText : MethodName := ⟨RX9, "clearText", "()I"⟩
abbrev cX9_undo : ByteArray := prog_11_method_39_code
def yX9_undo : MethodName := ⟨RX9, "undo", "()I"⟩
abbrev cX9_keep : ByteArray := prog_11_method_40_code
def yX9_keep : MethodName := ⟨RX9, "keep", "()I"⟩
abbrev cX9_restore : ByteArray := prog_11_method_41_code
def yX9_restore : MethodName := ⟨RX9, "restore", "()I"⟩
abbrev cX9_sameAhead : ByteArray := prog_11_method_42_code
def yX9_sameAhead : MethodName := ⟨RX9, "sameAhead", "(I)I"⟩
abbrev cX9_quire : ByteArray := prog_11_method_43_code
def yX9_quire : MethodName := ⟨RX9, "quire", "(II)I"⟩
abbrev cX9_thereAhead : ByteArray := prog_11_method_44_code
def yX9_thereAhead : MethodName := ⟨RX9, "thereAhead", "(I)I"⟩
abbrev cX9_leaf : ByteArray := prog_11_method_45_code
def yX9_leaf : MethodName := ⟨RX9, "leaf", "(II)I"⟩
abbrev cX9_find : ByteArray := prog_11_method_46_code
def yX9_find : MethodName := ⟨RX9, "find", "()I"⟩
abbrev cX9_before : ByteArray := prog_11_method_47_code
def yX9_before : MethodName := ⟨RX9, "before", "(I)I"⟩
abbrev cX9_isLapse : ByteArray := prog_11_method_48_code
def yX9_isLapse : MethodName := ⟨RX9, "isLapse", "(I)Z"⟩
abbrev cX9_between : ByteArray := prog_11_method_49_code
def yX9_between : MethodName := ⟨RX9, "between", "(II)I"⟩
abbrev cX9_lapse : ByteArray := prog_11_method_50_code
def yX9_lapse : MethodName := ⟨RX9, "lapse", "(II)I"⟩
abbrev cX9_isPiled : ByteArray := prog_11_method_51_code
def yX9_isPiled : MethodName := ⟨RX9, "isPiled", "(I)Z"⟩
abbrev cX9_piled : ByteArray := prog_11_method_52_code
def yX9_piled : MethodName := ⟨RX9, "piled", "(II)I"⟩
abbrev cX9_sheets : ByteArray := prog_11_method_53_code
def yX9_sheets : MethodName := ⟨RX9, "sheets", "(I)I"⟩
abbrev cX9_writes : ByteArray := prog_11_method_54_code
def yX9_writes : MethodName := ⟨RX9, "writes", "(I)V"⟩
abbrev cX9_writesSign : ByteArray := prog_11_method_55_code
def yX9_writesSign : MethodName := ⟨RX9, "writesSign", "(I)V"⟩
abbrev cX9_goesOn : ByteArray := prog_11_method_56_code
def yX9_goesOn : MethodName := ⟨RX9, "goesOn", "(I)Z"⟩
abbrev cX9_lays : ByteArray := prog_11_method_57_code
def yX9_lays : MethodName := ⟨RX9, "lays", "()V"⟩
abbrev cX9_formula : ByteArray := prog_11_method_58_code
def yX9_formula : MethodName := ⟨RX9, "formula", "(I)I"⟩
abbrev cX9_starred : ByteArray := prog_11_method_59_code
def yX9_starred : MethodName := ⟨RX9, "starred", "()I"⟩
abbrev cX9_lapses : ByteArray := prog_11_method_60_code
def yX9_lapses : MethodName := ⟨RX9, "lapses", "()I"⟩
abbrev cX9_count : ByteArray := prog_11_method_61_code
def yX9_count : MethodName := ⟨RX9, "count", "(I)I"⟩
def RJ6 : String := "java/lang/Integer"
def TJ6 : u_T := fun k => match k with
  | _ => ("", "", "", false)
def tyJ6 : Nat → FieldType := fun k => match k with
  | _ => .int
abbrev wsJ60 : List Cond := u_ws RJ6 TJ6 0
theorem nmJ6 : ∀ a, a < 0 → ∀ b, b < 0 → a ≠ b → (TJ6 a).2.1 ≠ (TJ6 b).2.1 := by decide +kernel
theorem tyJ6_ok : ∀ k, k < 0 → parseFieldDescriptor (TJ6 k).2.2.1 = some (tyJ6 k) := by decide +kernel
abbrev cJ6_bitCount_0f7a4 : ByteArray := prog_12_method_49_code
def yJ6_bitCount_0f7a4 : MethodName := ⟨RJ6, "bitCount", "(I)I"⟩
def RJ9 : String := "java/lang/Math"
def TJ9 : u_T := fun k => match k with
  | _ => ("", "", "", false)
def tyJ9 : Nat → FieldType := fun k => match k with
  | _ => .int
abbrev wsJ90 : List Cond := u_ws RJ9 TJ9 0
theorem nmJ9 : ∀ a, a < 0 → ∀ b, b < 0 → a ≠ b → (TJ9 a).2.1 ≠ (TJ9 b).2.1 := by decide +kernel
theorem tyJ9_ok : ∀ k, k < 0 → parseFieldDescriptor (TJ9 k).2.2.1 = some (tyJ9 k) := by decide +kernel
abbrev cJ9_max_7cf53 : ByteArray := prog_13_method_65_code
def yJ9_max_7cf53 : MethodName := ⟨RJ9, "max", "(II)I"⟩
abbrev cJ9_min_7cf53 : ByteArray := prog_13_method_69_code
def yJ9_min_7cf53 : MethodName := ⟨RJ9, "min", "(II)I"⟩
def RL : String := "QuireSignsLaw"
abbrev cL_law : ByteArray := code
def yL_law : MethodName := ⟨RL, "law", "([I)Z"⟩
/-! the words that stay at a call: every word of the tables but those of nest mates -/
def gw : List Cond := lw_tbl.filter goodWord
theorem gw_good : GoodIn gw gw := fun w h => ⟨h, good_of_word (List.mem_filter.mp h).2⟩
theorem gw_at {w : Cond} (i : Nat) (h : lw_tbl[i]? = some w) (hg : goodWord w = true) : w ∈ gw := List.mem_filter.mpr ⟨List.mem_of_getElem? h, hg⟩
theorem tw_0 : Cond.selects "QuireSigns$History" ⟨"QuireSigns$History", "dropOldest", "()V"⟩ ⟨"QuireSigns$History", "dropOldest", "()V"⟩ ∈ gw := gw_at 0 rfl rfl
theorem tw_1 : Cond.selects "QuireSigns$History" ⟨"QuireSigns$History", "bookAt", "(I)LQuireSigns$Book;"⟩ ⟨"QuireSigns$History", "bookAt", "(I)LQuireSigns$Book;"⟩ ∈ gw := gw_at 1 rfl rfl
theorem tw_2 : Cond.selects "QuireSigns$Text" ⟨"QuireSigns$Text", "readEntries", "(LQuireSigns$Alphabet;Z)I"⟩ ⟨"QuireSigns$Text", "readEntries", "(LQuireSigns$Alphabet;Z)I"⟩ ∈ gw := gw_at 2 rfl rfl
theorem tw_3 : Cond.selects "QuireSigns$Text" ⟨"QuireSigns$Text", "readEntry", "(LQuireSigns$Alphabet;Z)Z"⟩ ⟨"QuireSigns$Text", "readEntry", "(LQuireSigns$Alphabet;Z)Z"⟩ ∈ gw := gw_at 3 rfl rfl
theorem tw_4 : Cond.selects "QuireSigns$Text" ⟨"QuireSigns$Text", "readSign", "(LQuireSigns$Alphabet;)I"⟩ ⟨"QuireSigns$Text", "readSign", "(LQuireSigns$Alphabet;)I"⟩ ∈ gw := gw_at 4 rfl rfl
theorem tw_5 : Cond.selects "QuireSigns$Text" ⟨"QuireSigns$Text", "readStars", "()I"⟩ ⟨"QuireSigns$Text", "readStars", "()I"⟩ ∈ gw := gw_at 5 rfl rfl
theorem tw_6 : Cond.selects "QuireSigns$Text" ⟨"QuireSigns$Text", "readLetters", "(LQuireSigns$Alphabet;)I"⟩ ⟨"QuireSigns$Text", "readLetters", "(LQuireSigns$Alphabet;)I"⟩ ∈ gw := gw_at 6 rfl rfl
theorem tw_7 : Cond.selects "QuireSigns$Text" ⟨"QuireSigns$Text", "readLastSign", "(LQuireSigns$Alphabet;I)I"⟩ ⟨"QuireSigns$Text", "readLastSign", "(LQuireSigns$Alphabet;I)I"⟩ ∈ gw := gw_at 7 rfl rfl
theorem tw_8 : Cond.selects "QuireSigns$Text" ⟨"QuireSigns$Text", "readNumber", "()I"⟩ ⟨"QuireSigns$Text", "readNumber", "()I"⟩ ∈ gw := gw_at 8 rfl rfl
theorem tw_9 : Cond.selects "QuireSigns$Text" ⟨"QuireSigns$Text", "digitAt", "(I)I"⟩ ⟨"QuireSigns$Text", "digitAt", "(I)I"⟩ ∈ gw := gw_at 9 rfl rfl
theorem tw_10 : Cond.selects "QuireSigns" ⟨"QuireSigns", "quiresOfText", "()I"⟩ ⟨"QuireSigns", "quiresOfText", "()I"⟩ ∈ gw := gw_at 10 rfl rfl
theorem tw_11 : Cond.selects "QuireSigns" ⟨"QuireSigns", "addEntry", "(I)V"⟩ ⟨"QuireSigns", "addEntry", "(I)V"⟩ ∈ gw := gw_at 11 rfl rfl
theorem tw_12 : Cond.selects "QuireSigns" ⟨"QuireSigns", "findLeavesOfText", "()Z"⟩ ⟨"QuireSigns", "findLeavesOfText", "()Z"⟩ ∈ gw := gw_at 12 rfl rfl
theorem tw_13 : Cond.selects "QuireSigns" ⟨"QuireSigns", "allFoundThereOnce", "()Z"⟩ ⟨"QuireSigns", "allFoundThereOnce", "()Z"⟩ ∈ gw := gw_at 13 rfl rfl
theorem tw_14 : Cond.selects "QuireSigns" ⟨"QuireSigns", "leafHangingWith", "(I)I"⟩ ⟨"QuireSigns", "leafHangingWith", "(I)I"⟩ ∈ gw := gw_at 14 rfl rfl
theorem tw_15 : Cond.selects "QuireSigns$Writer" ⟨"QuireSigns$Writer", "beginEntry", "(I)V"⟩ ⟨"QuireSigns$Writer", "beginEntry", "(I)V"⟩ ∈ gw := gw_at 15 rfl rfl
theorem tw_16 : Cond.selects "QuireSigns$Writer" ⟨"QuireSigns$Writer", "writeSign", "(I)V"⟩ ⟨"QuireSigns$Writer", "writeSign", "(I)V"⟩ ∈ gw := gw_at 16 rfl rfl
theorem tw_17 : Cond.selects "QuireSigns$Writer" ⟨"QuireSigns$Writer", "writeNumber", "(I)V"⟩ ⟨"QuireSigns$Writer", "writeNumber", "(I)V"⟩ ∈ gw := gw_at 17 rfl rfl
theorem tw_18 : Cond.selects "QuireSignsModel" ⟨"QuireSignsModel", "isOut", "(I)Z"⟩ ⟨"QuireSignsModel", "isOut", "(I)Z"⟩ ∈ gw := gw_at 18 rfl rfl
theorem tw_19 : Cond.selects "QuireSignsModel" ⟨"QuireSignsModel", "letters", "()I"⟩ ⟨"QuireSignsModel", "letters", "()I"⟩ ∈ gw := gw_at 19 rfl rfl
theorem tw_20 : Cond.selects "QuireSignsModel" ⟨"QuireSignsModel", "records", "()V"⟩ ⟨"QuireSignsModel", "records", "()V"⟩ ∈ gw := gw_at 20 rfl rfl
theorem tw_21 : Cond.selects "QuireSignsModel" ⟨"QuireSignsModel", "copies", "(II)V"⟩ ⟨"QuireSignsModel", "copies", "(II)V"⟩ ∈ gw := gw_at 21 rfl rfl
theorem tw_22 : Cond.selects "QuireSignsModel" ⟨"QuireSignsModel", "signedOfAll", "()I"⟩ ⟨"QuireSignsModel", "signedOfAll", "()I"⟩ ∈ gw := gw_at 22 rfl rfl
theorem tw_23 : Cond.selects "QuireSignsModel" ⟨"QuireSignsModel", "signed", "(I)I"⟩ ⟨"QuireSignsModel", "signed", "(I)I"⟩ ∈ gw := gw_at 23 rfl rfl
theorem tw_24 : Cond.selects "QuireSignsModel" ⟨"QuireSignsModel", "fault", "(Z)I"⟩ ⟨"QuireSignsModel", "fault", "(Z)I"⟩ ∈ gw := gw_at 24 rfl rfl
theorem tw_25 : Cond.selects "QuireSignsModel" ⟨"QuireSignsModel", "item", "(Z)V"⟩ ⟨"QuireSignsModel", "item", "(Z)V"⟩ ∈ gw := gw_at 25 rfl rfl
theorem tw_26 : Cond.selects "QuireSignsModel" ⟨"QuireSignsModel", "reads", "(Z)V"⟩ ⟨"QuireSignsModel", "reads", "(Z)V"⟩ ∈ gw := gw_at 26 rfl rfl
theorem tw_27 : Cond.selects "QuireSignsModel" ⟨"QuireSignsModel", "isNext", "(II)Z"⟩ ⟨"QuireSignsModel", "isNext", "(II)Z"⟩ ∈ gw := gw_at 27 rfl rfl
theorem tw_28 : Cond.selects "QuireSignsModel" ⟨"QuireSignsModel", "number", "()I"⟩ ⟨"QuireSignsModel", "number", "()I"⟩ ∈ gw := gw_at 28 rfl rfl
theorem tw_29 : Cond.selects "QuireSignsModel" ⟨"QuireSignsModel", "puts", "(IIII)V"⟩ ⟨"QuireSignsModel", "puts", "(IIII)V"⟩ ∈ gw := gw_at 29 rfl rfl
theorem tw_30 : Cond.selects "QuireSignsModel" ⟨"QuireSignsModel", "isStarred", "(I)Z"⟩ ⟨"QuireSignsModel", "isStarred", "(I)Z"⟩ ∈ gw := gw_at 30 rfl rfl
theorem tw_31 : Cond.selects "QuireSignsModel" ⟨"QuireSignsModel", "sign", "(I)I"⟩ ⟨"QuireSignsModel", "sign", "(I)I"⟩ ∈ gw := gw_at 31 rfl rfl
theorem tw_32 : Cond.selects "QuireSignsModel" ⟨"QuireSignsModel", "next", "(I)I"⟩ ⟨"QuireSignsModel", "next", "(I)I"⟩ ∈ gw := gw_at 32 rfl rfl
theorem tw_33 : Cond.selects "QuireSignsModel" ⟨"QuireSignsModel", "leaves", "()I"⟩ ⟨"QuireSignsModel", "leaves", "()I"⟩ ∈ gw := gw_at 33 rfl rfl
theorem tw_34 : Cond.selects "QuireSignsModel" ⟨"QuireSignsModel", "isQuire", "(I)Z"⟩ ⟨"QuireSignsModel", "isQuire", "(I)Z"⟩ ∈ gw := gw_at 34 rfl rfl
theorem tw_35 : Cond.selects "QuireSignsModel" ⟨"QuireSignsModel", "isLeaf", "(I)Z"⟩ ⟨"QuireSignsModel", "isLeaf", "(I)Z"⟩ ∈ gw := gw_at 35 rfl rfl
theorem tw_36 : Cond.selects "QuireSignsModel" ⟨"QuireSignsModel", "isLost", "(I)Z"⟩ ⟨"QuireSignsModel", "isLost", "(I)Z"⟩ ∈ gw := gw_at 36 rfl rfl
theorem tw_37 : Cond.selects "QuireSignsModel" ⟨"QuireSignsModel", "quireOf", "(I)I"⟩ ⟨"QuireSignsModel", "quireOf", "(I)I"⟩ ∈ gw := gw_at 37 rfl rfl
theorem tw_38 : Cond.selects "QuireSignsModel" ⟨"QuireSignsModel", "first", "(I)I"⟩ ⟨"QuireSignsModel", "first", "(I)I"⟩ ∈ gw := gw_at 38 rfl rfl
theorem tw_39 : Cond.selects "QuireSignsModel" ⟨"QuireSignsModel", "thereOfAll", "()I"⟩ ⟨"QuireSignsModel", "thereOfAll", "()I"⟩ ∈ gw := gw_at 39 rfl rfl
theorem tw_40 : Cond.selects "QuireSignsModel" ⟨"QuireSignsModel", "there", "(I)I"⟩ ⟨"QuireSignsModel", "there", "(I)I"⟩ ∈ gw := gw_at 40 rfl rfl
theorem tw_41 : Cond.selects "QuireSignsModel" ⟨"QuireSignsModel", "found", "(I)I"⟩ ⟨"QuireSignsModel", "found", "(I)I"⟩ ∈ gw := gw_at 41 rfl rfl
theorem tw_42 : Cond.selects "QuireSignsModel" ⟨"QuireSignsModel", "sameAhead", "(I)I"⟩ ⟨"QuireSignsModel", "sameAhead", "(I)I"⟩ ∈ gw := gw_at 42 rfl rfl
theorem tw_43 : Cond.selects "QuireSignsModel" ⟨"QuireSignsModel", "areSame", "(II)Z"⟩ ⟨"QuireSignsModel", "areSame", "(II)Z"⟩ ∈ gw := gw_at 43 rfl rfl
theorem tw_44 : Cond.selects "QuireSignsModel" ⟨"QuireSignsModel", "thereAhead", "(I)I"⟩ ⟨"QuireSignsModel", "thereAhead", "(I)I"⟩ ∈ gw := gw_at 44 rfl rfl
theorem tw_45 : Cond.selects "QuireSignsModel" ⟨"QuireSignsModel", "isLapse", "(I)Z"⟩ ⟨"QuireSignsModel", "isLapse", "(I)Z"⟩ ∈ gw := gw_at 45 rfl rfl
theorem tw_46 : Cond.selects "QuireSignsModel" ⟨"QuireSignsModel", "before", "(I)I"⟩ ⟨"QuireSignsModel", "before", "(I)I"⟩ ∈ gw := gw_at 46 rfl rfl
theorem tw_47 : Cond.selects "QuireSignsModel" ⟨"QuireSignsModel", "between", "(II)I"⟩ ⟨"QuireSignsModel", "between", "(II)I"⟩ ∈ gw := gw_at 47 rfl rfl
theorem tw_48 : Cond.selects "QuireSignsModel" ⟨"QuireSignsModel", "isPiled", "(I)Z"⟩ ⟨"QuireSignsModel", "isPiled", "(I)Z"⟩ ∈ gw := gw_at 48 rfl rfl
theorem tw_49 : Cond.selects "QuireSignsModel" ⟨"QuireSignsModel", "lays", "()V"⟩ ⟨"QuireSignsModel", "lays", "()V"⟩ ∈ gw := gw_at 49 rfl rfl
theorem tw_50 : Cond.selects "QuireSignsModel" ⟨"QuireSignsModel", "goesOn", "(I)Z"⟩ ⟨"QuireSignsModel", "goesOn", "(I)Z"⟩ ∈ gw := gw_at 50 rfl rfl
theorem tw_51 : Cond.selects "QuireSignsModel" ⟨"QuireSignsModel", "writes", "(I)V"⟩ ⟨"QuireSignsModel", "writes", "(I)V"⟩ ∈ gw := gw_at 51 rfl rfl
theorem tw_52 : Cond.selects "QuireSignsModel" ⟨"QuireSignsModel", "writesSign", "(I)V"⟩ ⟨"QuireSignsModel", "writesSign", "(I)V"⟩ ∈ gw := gw_at 52 rfl rfl
theorem tw_53 : Cond.selects "QuireSignsModel" ⟨"QuireSignsModel", "starred", "()I"⟩ ⟨"QuireSignsModel", "starred", "()I"⟩ ∈ gw := gw_at 53 rfl rfl
theorem tw_54 : Cond.selects "QuireSignsModel" ⟨"QuireSignsModel", "lapses", "()I"⟩ ⟨"QuireSignsModel", "lapses", "()I"⟩ ∈ gw := gw_at 54 rfl rfl
theorem tw_55 : Jvm.Cond.initialized "QuireSignsLaw" ∈ gw := gw_at 55 rfl rfl
theorem tw_56 : Jvm.Cond.initialized "QuireSigns" ∈ gw := gw_at 56 rfl rfl
theorem tw_57 : Jvm.Cond.initialized "QuireSigns$Book" ∈ gw := gw_at 57 rfl rfl
theorem tw_58 : Jvm.Cond.initialized "QuireSigns$Alphabet" ∈ gw := gw_at 58 rfl rfl
theorem tw_59 : Jvm.Cond.initialized "QuireSigns$Row" ∈ gw := gw_at 59 rfl rfl
theorem tw_60 : Jvm.Cond.initialized "java/lang/Math" ∈ gw := gw_at 60 rfl rfl
theorem tw_61 : Jvm.Cond.initialized "QuireSigns$History" ∈ gw := gw_at 61 rfl rfl
theorem tw_62 : Jvm.Cond.initialized "QuireSigns$Text" ∈ gw := gw_at 62 rfl rfl
theorem tw_63 : Jvm.Cond.initialized "QuireSigns$Writer" ∈ gw := gw_at 63 rfl rfl
theorem tw_64 : Jvm.Cond.initialized "QuireSignsModel" ∈ gw := gw_at 64 rfl rfl
theorem tw_65 : Jvm.Cond.initialized "java/lang/Integer" ∈ gw := gw_at 65 rfl rfl
theorem tw_66 : Jvm.Cond.initialized "QuireSigns$Sign" ∈ gw := gw_at 66 rfl rfl
theorem tw_67 : Jvm.Cond.initialized "QuireSigns$Lapses" ∈ gw := gw_at 67 rfl rfl
theorem tw_68 : Jvm.Cond.classLink "QuireSignsLaw" (7 : Nat) "QuireSigns" ∈ gw := gw_at 68 rfl rfl
theorem tw_69 : Jvm.Cond.instantiable "QuireSigns" (7 : Nat) ∈ gw := gw_at 69 rfl rfl
theorem tw_70 : Jvm.Cond.methodLink "QuireSignsLaw" (9 : Nat) ({ cls := "QuireSigns", name := "<init>", desc := "()V" } : Jvm.MethodName) ∈ gw := gw_at 70 rfl rfl
theorem tw_71 : Jvm.Cond.instanceMethod ({ cls := "QuireSigns", name := "<init>", desc := "()V" } : Jvm.MethodName) ∈ gw := gw_at 71 rfl rfl
theorem tw_72 : Jvm.Cond.code ({ cls := "QuireSigns", name := "<init>", desc := "()V" } : Jvm.MethodName) prog_1_method_1_code (1 : Nat) (Option.none : Option Jvm.ClassFile.FieldType) ∈ gw := gw_at 72 rfl rfl
theorem tw_73 : Jvm.Cond.methodLink "QuireSigns" (3 : Nat) ({ cls := "java/lang/Object", name := "<init>", desc := "()V" } : Jvm.MethodName) ∈ gw := gw_at 73 rfl rfl
theorem tw_74 : Jvm.Cond.instanceMethod ({ cls := "java/lang/Object", name := "<init>", desc := "()V" } : Jvm.MethodName) ∈ gw := gw_at 74 rfl rfl
theorem tw_75 : Jvm.Cond.code ({ cls := "java/lang/Object", name := "<init>", desc := "()V" } : Jvm.MethodName) object_method_1_code (1 : Nat) (Option.none : Option Jvm.ClassFile.FieldType) ∈ gw := gw_at 75 rfl rfl
theorem tw_76 : Jvm.Cond.classLink "QuireSigns" (9 : Nat) "QuireSigns$Book" ∈ gw := gw_at 76 rfl rfl
theorem tw_77 : Jvm.Cond.instantiable "QuireSigns$Book" (6 : Nat) ∈ gw := gw_at 77 rfl rfl
theorem tw_79 : Jvm.Cond.instanceMethod ({ cls := "QuireSigns$Book", name := "<init>", desc := "()V" } : Jvm.MethodName) ∈ gw := gw_at 79 rfl rfl
theorem tw_80 : Jvm.Cond.code ({ cls := "QuireSigns$Book", name := "<init>", desc := "()V" } : Jvm.MethodName) prog_3_method_1_code (1 : Nat) (Option.none : Option Jvm.ClassFile.FieldType) ∈ gw := gw_at 80 rfl rfl
theorem tw_81 : Jvm.Cond.methodLink "QuireSigns$Book" (3 : Nat) ({ cls := "java/lang/Object", name := "<init>", desc := "()V" } : Jvm.MethodName) ∈ gw := gw_at 81 rfl rfl
theorem tw_82 : Jvm.Cond.classLink "QuireSigns$Book" (9 : Nat) "QuireSigns$Alphabet" ∈ gw := gw_at 82 rfl rfl
theorem tw_83 : Jvm.Cond.instantiable "QuireSigns$Alphabet" (1 : Nat) ∈ gw := gw_at 83 rfl rfl
theorem tw_84 : Jvm.Cond.constant "QuireSigns$Book" (11 : Nat) (6291968 : Int32) ∈ gw := gw_at 84 rfl rfl
theorem tw_85 : Jvm.Cond.methodLink "QuireSigns$Book" (12 : Nat) ({ cls := "QuireSigns$Alphabet", name := "<init>", desc := "(I)V" } : Jvm.MethodName) ∈ gw := gw_at 85 rfl rfl
theorem tw_86 : Jvm.Cond.instanceMethod ({ cls := "QuireSigns$Alphabet", name := "<init>", desc := "(I)V" } : Jvm.MethodName) ∈ gw := gw_at 86 rfl rfl
theorem tw_87 : Jvm.Cond.code ({ cls := "QuireSigns$Alphabet", name := "<init>", desc := "(I)V" } : Jvm.MethodName) prog_2_method_1_code (2 : Nat) (Option.none : Option Jvm.ClassFile.FieldType) ∈ gw := gw_at 87 rfl rfl
theorem tw_88 : Jvm.Cond.methodLink "QuireSigns$Alphabet" (1 : Nat) ({ cls := "java/lang/Object", name := "<init>", desc := "()V" } : Jvm.MethodName) ∈ gw := gw_at 88 rfl rfl
theorem tw_89 : Jvm.Cond.fieldLink "QuireSigns$Alphabet" (7 : Nat) "QuireSigns$Alphabet" "out" "I" ∈ gw := gw_at 89 rfl rfl
theorem tw_90 : Jvm.Cond.lays "QuireSigns$Alphabet" "QuireSigns$Alphabet" "out" "I" ∈ gw := gw_at 90 rfl rfl
theorem tw_93 : Jvm.Cond.classLink "QuireSigns$Book" (25 : Nat) "QuireSigns$Row" ∈ gw := gw_at 93 rfl rfl
theorem tw_94 : Jvm.Cond.instantiable "QuireSigns$Row" (2 : Nat) ∈ gw := gw_at 94 rfl rfl
theorem tw_95 : Jvm.Cond.methodLink "QuireSigns$Book" (27 : Nat) ({ cls := "QuireSigns$Row", name := "<init>", desc := "(I)V" } : Jvm.MethodName) ∈ gw := gw_at 95 rfl rfl
theorem tw_96 : Jvm.Cond.instanceMethod ({ cls := "QuireSigns$Row", name := "<init>", desc := "(I)V" } : Jvm.MethodName) ∈ gw := gw_at 96 rfl rfl
theorem tw_97 : Jvm.Cond.code ({ cls := "QuireSigns$Row", name := "<init>", desc := "(I)V" } : Jvm.MethodName) prog_6_method_1_code (2 : Nat) (Option.none : Option Jvm.ClassFile.FieldType) ∈ gw := gw_at 97 rfl rfl
theorem tw_98 : Jvm.Cond.methodLink "QuireSigns$Row" (1 : Nat) ({ cls := "java/lang/Object", name := "<init>", desc := "()V" } : Jvm.MethodName) ∈ gw := gw_at 98 rfl rfl
theorem tw_99 : Jvm.Cond.methodLink "QuireSigns$Row" (7 : Nat) ({ cls := "java/lang/Math", name := "max", desc := "(II)I" } : Jvm.MethodName) ∈ gw := gw_at 99 rfl rfl
theorem tw_100 : Jvm.Cond.static ({ cls := "java/lang/Math", name := "max", desc := "(II)I" } : Jvm.MethodName) ∈ gw := gw_at 100 rfl rfl
theorem tw_101 : Jvm.Cond.code ({ cls := "java/lang/Math", name := "max", desc := "(II)I" } : Jvm.MethodName) prog_13_method_65_code (2 : Nat) (Option.some Jvm.ClassFile.FieldType.int) ∈ gw := gw_at 101 rfl rfl
theorem tw_102 : Jvm.Cond.fieldLink "QuireSigns$Row" (13 : Nat) "QuireSigns$Row" "cells" "[I" ∈ gw := gw_at 102 rfl rfl
theorem tw_103 : Jvm.Cond.fieldLink "QuireSigns$Row" (19 : Nat) "QuireSigns$Row" "length" "I" ∈ gw := gw_at 103 rfl rfl
theorem tw_104 : Jvm.Cond.laysFinal "QuireSigns$Row" "QuireSigns$Row" "cells" "[I" ∈ gw := gw_at 104 rfl rfl
theorem tw_106 : Jvm.Cond.lays "QuireSigns$Row" "QuireSigns$Row" "length" "I" ∈ gw := gw_at 106 rfl rfl
theorem tw_109 : Jvm.Cond.arrayClass Jvm.ClassFile.FieldType.int ∈ gw := gw_at 109 rfl rfl
theorem tw_110 : Jvm.Cond.fieldLink "QuireSigns$Book" (15 : Nat) "QuireSigns$Book" "alphabet" "LQuireSigns$Alphabet;" ∈ gw := gw_at 110 rfl rfl
theorem tw_114 : Jvm.Cond.fieldLink "QuireSigns$Book" (21 : Nat) "QuireSigns$Book" "signing" "I" ∈ gw := gw_at 114 rfl rfl
theorem tw_116 : Jvm.Cond.fieldLink "QuireSigns$Book" (28 : Nat) "QuireSigns$Book" "signs" "LQuireSigns$Row;" ∈ gw := gw_at 116 rfl rfl
theorem tw_120 : Jvm.Cond.fieldLink "QuireSigns$Book" (32 : Nat) "QuireSigns$Book" "sizes" "LQuireSigns$Row;" ∈ gw := gw_at 120 rfl rfl
theorem tw_123 : Jvm.Cond.fieldLink "QuireSigns$Book" (35 : Nat) "QuireSigns$Book" "lost" "LQuireSigns$Row;" ∈ gw := gw_at 123 rfl rfl
theorem tw_124 : Jvm.Cond.fieldLink "QuireSigns$Book" (38 : Nat) "QuireSigns$Book" "pile" "LQuireSigns$Row;" ∈ gw := gw_at 124 rfl rfl
theorem tw_126 : Jvm.Cond.laysFinal "QuireSigns$Book" "QuireSigns$Book" "alphabet" "LQuireSigns$Alphabet;" ∈ gw := gw_at 126 rfl rfl
theorem tw_128 : Jvm.Cond.lays "QuireSigns$Book" "QuireSigns$Book" "signing" "I" ∈ gw := gw_at 128 rfl rfl
theorem tw_130 : Jvm.Cond.laysFinal "QuireSigns$Book" "QuireSigns$Book" "signs" "LQuireSigns$Row;" ∈ gw := gw_at 130 rfl rfl
theorem tw_132 : Jvm.Cond.laysFinal "QuireSigns$Book" "QuireSigns$Book" "sizes" "LQuireSigns$Row;" ∈ gw := gw_at 132 rfl rfl
theorem tw_134 : Jvm.Cond.laysFinal "QuireSigns$Book" "QuireSigns$Book" "lost" "LQuireSigns$Row;" ∈ gw := gw_at 134 rfl rfl
theorem tw_136 : Jvm.Cond.laysFinal "QuireSigns$Book" "QuireSigns$Book" "pile" "LQuireSigns$Row;" ∈ gw := gw_at 136 rfl rfl
theorem tw_139 : Jvm.Cond.classLink "QuireSigns" (19 : Nat) "QuireSigns$History" ∈ gw := gw_at 139 rfl rfl
theorem tw_140 : Jvm.Cond.instantiable "QuireSigns$History" (2 : Nat) ∈ gw := gw_at 140 rfl rfl
theorem tw_141 : Jvm.Cond.methodLink "QuireSigns" (21 : Nat) ({ cls := "QuireSigns$History", name := "<init>", desc := "()V" } : Jvm.MethodName) ∈ gw := gw_at 141 rfl rfl
theorem tw_142 : Jvm.Cond.instanceMethod ({ cls := "QuireSigns$History", name := "<init>", desc := "()V" } : Jvm.MethodName) ∈ gw := gw_at 142 rfl rfl
theorem tw_143 : Jvm.Cond.code ({ cls := "QuireSigns$History", name := "<init>", desc := "()V" } : Jvm.MethodName) prog_4_method_1_code (2 : Nat) (Option.none : Option Jvm.ClassFile.FieldType) ∈ gw := gw_at 143 rfl rfl
theorem tw_144 : Jvm.Cond.methodLink "QuireSigns$History" (3 : Nat) ({ cls := "java/lang/Object", name := "<init>", desc := "()V" } : Jvm.MethodName) ∈ gw := gw_at 144 rfl rfl
theorem tw_145 : Jvm.Cond.classLink "QuireSigns$History" (9 : Nat) "QuireSigns$Book" ∈ gw := gw_at 145 rfl rfl
theorem tw_148 : Jvm.Cond.fieldLink "QuireSigns$History" (11 : Nat) "QuireSigns$History" "books" "[LQuireSigns$Book;" ∈ gw := gw_at 148 rfl rfl
theorem tw_149 : Jvm.Cond.fieldLink "QuireSigns$History" (18 : Nat) "QuireSigns$History" "states" "I" ∈ gw := gw_at 149 rfl rfl
theorem tw_150 : Jvm.Cond.laysFinal "QuireSigns$History" "QuireSigns$History" "books" "[LQuireSigns$Book;" ∈ gw := gw_at 150 rfl rfl
theorem tw_152 : Jvm.Cond.lays "QuireSigns$History" "QuireSigns$History" "states" "I" ∈ gw := gw_at 152 rfl rfl
theorem tw_155 : Jvm.Cond.classLink "QuireSigns" (26 : Nat) "QuireSigns$Text" ∈ gw := gw_at 155 rfl rfl
theorem tw_156 : Jvm.Cond.instantiable "QuireSigns$Text" (6 : Nat) ∈ gw := gw_at 156 rfl rfl
theorem tw_158 : Jvm.Cond.instanceMethod ({ cls := "QuireSigns$Text", name := "<init>", desc := "()V" } : Jvm.MethodName) ∈ gw := gw_at 158 rfl rfl
theorem tw_159 : Jvm.Cond.code ({ cls := "QuireSigns$Text", name := "<init>", desc := "()V" } : Jvm.MethodName) prog_8_method_1_code (1 : Nat) (Option.none : Option Jvm.ClassFile.FieldType) ∈ gw := gw_at 159 rfl rfl
theorem tw_160 : Jvm.Cond.methodLink "QuireSigns$Text" (3 : Nat) ({ cls := "java/lang/Object", name := "<init>", desc := "()V" } : Jvm.MethodName) ∈ gw := gw_at 160 rfl rfl
theorem tw_161 : Jvm.Cond.classLink "QuireSigns$Text" (9 : Nat) "QuireSigns$Row" ∈ gw := gw_at 161 rfl rfl
theorem tw_162 : Jvm.Cond.methodLink "QuireSigns$Text" (11 : Nat) ({ cls := "QuireSigns$Row", name := "<init>", desc := "(I)V" } : Jvm.MethodName) ∈ gw := gw_at 162 rfl rfl
theorem tw_163 : Jvm.Cond.classLink "QuireSigns$Text" (29 : Nat) "QuireSigns$Alphabet" ∈ gw := gw_at 163 rfl rfl
theorem tw_164 : Jvm.Cond.methodLink "QuireSigns$Text" (31 : Nat) ({ cls := "QuireSigns$Alphabet", name := "<init>", desc := "(I)V" } : Jvm.MethodName) ∈ gw := gw_at 164 rfl rfl
theorem tw_165 : Jvm.Cond.fieldLink "QuireSigns$Text" (14 : Nat) "QuireSigns$Text" "characters" "LQuireSigns$Row;" ∈ gw := gw_at 165 rfl rfl
theorem tw_166 : Jvm.Cond.fieldLink "QuireSigns$Text" (20 : Nat) "QuireSigns$Text" "firstSigns" "LQuireSigns$Row;" ∈ gw := gw_at 166 rfl rfl
theorem tw_167 : Jvm.Cond.fieldLink "QuireSigns$Text" (23 : Nat) "QuireSigns$Text" "lastSigns" "LQuireSigns$Row;" ∈ gw := gw_at 167 rfl rfl
theorem tw_168 : Jvm.Cond.fieldLink "QuireSigns$Text" (26 : Nat) "QuireSigns$Text" "numbers" "LQuireSigns$Row;" ∈ gw := gw_at 168 rfl rfl
theorem tw_169 : Jvm.Cond.fieldLink "QuireSigns$Text" (32 : Nat) "QuireSigns$Text" "allLetters" "LQuireSigns$Alphabet;" ∈ gw := gw_at 169 rfl rfl
theorem tw_170 : Jvm.Cond.fieldLink "QuireSigns$Text" (54 : Nat) "QuireSigns$Text" "at" "I" ∈ gw := gw_at 170 rfl rfl
theorem tw_171 : Jvm.Cond.laysFinal "QuireSigns$Text" "QuireSigns$Text" "characters" "LQuireSigns$Row;" ∈ gw := gw_at 171 rfl rfl
theorem tw_173 : Jvm.Cond.laysFinal "QuireSigns$Text" "QuireSigns$Text" "firstSigns" "LQuireSigns$Row;" ∈ gw := gw_at 173 rfl rfl
theorem tw_175 : Jvm.Cond.laysFinal "QuireSigns$Text" "QuireSigns$Text" "lastSigns" "LQuireSigns$Row;" ∈ gw := gw_at 175 rfl rfl
theorem tw_177 : Jvm.Cond.laysFinal "QuireSigns$Text" "QuireSigns$Text" "numbers" "LQuireSigns$Row;" ∈ gw := gw_at 177 rfl rfl
theorem tw_179 : Jvm.Cond.laysFinal "QuireSigns$Text" "QuireSigns$Text" "allLetters" "LQuireSigns$Alphabet;" ∈ gw := gw_at 179 rfl rfl
theorem tw_181 : Jvm.Cond.lays "QuireSigns$Text" "QuireSigns$Text" "at" "I" ∈ gw := gw_at 181 rfl rfl
theorem tw_184 : Jvm.Cond.classLink "QuireSigns" (33 : Nat) "QuireSigns$Writer" ∈ gw := gw_at 184 rfl rfl
theorem tw_185 : Jvm.Cond.instantiable "QuireSigns$Writer" (2 : Nat) ∈ gw := gw_at 185 rfl rfl
theorem tw_187 : Jvm.Cond.instanceMethod ({ cls := "QuireSigns$Writer", name := "<init>", desc := "()V" } : Jvm.MethodName) ∈ gw := gw_at 187 rfl rfl
theorem tw_188 : Jvm.Cond.code ({ cls := "QuireSigns$Writer", name := "<init>", desc := "()V" } : Jvm.MethodName) prog_9_method_1_code (1 : Nat) (Option.none : Option Jvm.ClassFile.FieldType) ∈ gw := gw_at 188 rfl rfl
theorem tw_189 : Jvm.Cond.methodLink "QuireSigns$Writer" (3 : Nat) ({ cls := "java/lang/Object", name := "<init>", desc := "()V" } : Jvm.MethodName) ∈ gw := gw_at 189 rfl rfl
theorem tw_190 : Jvm.Cond.classLink "QuireSigns$Writer" (9 : Nat) "QuireSigns$Row" ∈ gw := gw_at 190 rfl rfl
theorem tw_191 : Jvm.Cond.methodLink "QuireSigns$Writer" (11 : Nat) ({ cls := "QuireSigns$Row", name := "<init>", desc := "(I)V" } : Jvm.MethodName) ∈ gw := gw_at 191 rfl rfl
theorem tw_192 : Jvm.Cond.fieldLink "QuireSigns$Writer" (14 : Nat) "QuireSigns$Writer" "characters" "LQuireSigns$Row;" ∈ gw := gw_at 192 rfl rfl
theorem tw_193 : Jvm.Cond.fieldLink "QuireSigns$Writer" (28 : Nat) "QuireSigns$Writer" "entries" "I" ∈ gw := gw_at 193 rfl rfl
theorem tw_194 : Jvm.Cond.laysFinal "QuireSigns$Writer" "QuireSigns$Writer" "characters" "LQuireSigns$Row;" ∈ gw := gw_at 194 rfl rfl
theorem tw_196 : Jvm.Cond.lays "QuireSigns$Writer" "QuireSigns$Writer" "entries" "I" ∈ gw := gw_at 196 rfl rfl
theorem tw_199 : Jvm.Cond.classLink "QuireSigns" (40 : Nat) "QuireSigns$Row" ∈ gw := gw_at 199 rfl rfl
theorem tw_200 : Jvm.Cond.methodLink "QuireSigns" (42 : Nat) ({ cls := "QuireSigns$Row", name := "<init>", desc := "(I)V" } : Jvm.MethodName) ∈ gw := gw_at 200 rfl rfl
theorem tw_201 : Jvm.Cond.fieldLink "QuireSigns" (12 : Nat) "QuireSigns" "book" "LQuireSigns$Book;" ∈ gw := gw_at 201 rfl rfl
theorem tw_202 : Jvm.Cond.fieldLink "QuireSigns" (16 : Nat) "QuireSigns" "snapshot" "LQuireSigns$Book;" ∈ gw := gw_at 202 rfl rfl
theorem tw_203 : Jvm.Cond.fieldLink "QuireSigns" (173 : Nat) "QuireSigns" "snapshotTaken" "Z" ∈ gw := gw_at 203 rfl rfl
theorem tw_204 : Jvm.Cond.fieldLink "QuireSigns" (22 : Nat) "QuireSigns" "history" "LQuireSigns$History;" ∈ gw := gw_at 204 rfl rfl
theorem tw_205 : Jvm.Cond.fieldLink "QuireSigns" (29 : Nat) "QuireSigns" "text" "LQuireSigns$Text;" ∈ gw := gw_at 205 rfl rfl
theorem tw_206 : Jvm.Cond.fieldLink "QuireSigns" (36 : Nat) "QuireSigns" "writer" "LQuireSigns$Writer;" ∈ gw := gw_at 206 rfl rfl
theorem tw_207 : Jvm.Cond.fieldLink "QuireSigns" (45 : Nat) "QuireSigns" "found" "LQuireSigns$Row;" ∈ gw := gw_at 207 rfl rfl
theorem tw_208 : Jvm.Cond.laysFinal "QuireSigns" "QuireSigns" "book" "LQuireSigns$Book;" ∈ gw := gw_at 208 rfl rfl
theorem tw_210 : Jvm.Cond.laysFinal "QuireSigns" "QuireSigns" "snapshot" "LQuireSigns$Book;" ∈ gw := gw_at 210 rfl rfl
theorem tw_212 : Jvm.Cond.lays "QuireSigns" "QuireSigns" "snapshotTaken" "Z" ∈ gw := gw_at 212 rfl rfl
theorem tw_214 : Jvm.Cond.laysFinal "QuireSigns" "QuireSigns" "history" "LQuireSigns$History;" ∈ gw := gw_at 214 rfl rfl
theorem tw_216 : Jvm.Cond.laysFinal "QuireSigns" "QuireSigns" "text" "LQuireSigns$Text;" ∈ gw := gw_at 216 rfl rfl
theorem tw_218 : Jvm.Cond.laysFinal "QuireSigns" "QuireSigns" "writer" "LQuireSigns$Writer;" ∈ gw := gw_at 218 rfl rfl
theorem tw_220 : Jvm.Cond.laysFinal "QuireSigns" "QuireSigns" "found" "LQuireSigns$Row;" ∈ gw := gw_at 220 rfl rfl
theorem tw_223 : Jvm.Cond.methodLink "QuireSignsLaw" (13 : Nat) ({ cls := "QuireSigns", name := "leaveOut", desc := "(CZ)I" } : Jvm.MethodName) ∈ gw := gw_at 223 rfl rfl
theorem tw_224 : Jvm.Cond.instanceMethod ({ cls := "QuireSigns", name := "leaveOut", desc := "(CZ)I" } : Jvm.MethodName) ∈ gw := gw_at 224 rfl rfl
theorem tw_225 : Jvm.Cond.selects "QuireSigns" ({ cls := "QuireSigns", name := "leaveOut", desc := "(CZ)I" } : Jvm.MethodName) ({ cls := "QuireSigns", name := "leaveOut", desc := "(CZ)I" } : Jvm.MethodName) ∈ gw := gw_at 225 rfl rfl
theorem tw_226 : Jvm.Cond.code ({ cls := "QuireSigns", name := "leaveOut", desc := "(CZ)I" } : Jvm.MethodName) prog_1_method_2_code (5 : Nat) (Option.some Jvm.ClassFile.FieldType.int) ∈ gw := gw_at 226 rfl rfl
theorem tw_227 : Jvm.Cond.methodLink "QuireSigns" (55 : Nat) ({ cls := "QuireSigns$Alphabet", name := "has", desc := "(I)Z" } : Jvm.MethodName) ∈ gw := gw_at 227 rfl rfl
theorem tw_228 : Jvm.Cond.instanceMethod ({ cls := "QuireSigns$Alphabet", name := "has", desc := "(I)Z" } : Jvm.MethodName) ∈ gw := gw_at 228 rfl rfl
theorem tw_229 : Jvm.Cond.selects "QuireSigns$Alphabet" ({ cls := "QuireSigns$Alphabet", name := "has", desc := "(I)Z" } : Jvm.MethodName) ({ cls := "QuireSigns$Alphabet", name := "has", desc := "(I)Z" } : Jvm.MethodName) ∈ gw := gw_at 229 rfl rfl
theorem tw_230 : Jvm.Cond.code ({ cls := "QuireSigns$Alphabet", name := "has", desc := "(I)Z" } : Jvm.MethodName) prog_2_method_2_code (2 : Nat) (Option.some Jvm.ClassFile.FieldType.boolean) ∈ gw := gw_at 230 rfl rfl
theorem tw_231 : Jvm.Cond.methodLink "QuireSigns" (61 : Nat) ({ cls := "QuireSigns$Alphabet", name := "letters", desc := "()I" } : Jvm.MethodName) ∈ gw := gw_at 231 rfl rfl
theorem tw_232 : Jvm.Cond.instanceMethod ({ cls := "QuireSigns$Alphabet", name := "letters", desc := "()I" } : Jvm.MethodName) ∈ gw := gw_at 232 rfl rfl
theorem tw_233 : Jvm.Cond.selects "QuireSigns$Alphabet" ({ cls := "QuireSigns$Alphabet", name := "letters", desc := "()I" } : Jvm.MethodName) ({ cls := "QuireSigns$Alphabet", name := "letters", desc := "()I" } : Jvm.MethodName) ∈ gw := gw_at 233 rfl rfl
theorem tw_234 : Jvm.Cond.code ({ cls := "QuireSigns$Alphabet", name := "letters", desc := "()I" } : Jvm.MethodName) prog_2_method_3_code (1 : Nat) (Option.some Jvm.ClassFile.FieldType.int) ∈ gw := gw_at 234 rfl rfl
theorem tw_235 : Jvm.Cond.methodLink "QuireSigns$Alphabet" (15 : Nat) ({ cls := "java/lang/Integer", name := "bitCount", desc := "(I)I" } : Jvm.MethodName) ∈ gw := gw_at 235 rfl rfl
theorem tw_236 : Jvm.Cond.static ({ cls := "java/lang/Integer", name := "bitCount", desc := "(I)I" } : Jvm.MethodName) ∈ gw := gw_at 236 rfl rfl
theorem tw_237 : Jvm.Cond.code ({ cls := "java/lang/Integer", name := "bitCount", desc := "(I)I" } : Jvm.MethodName) prog_12_method_49_code (1 : Nat) (Option.some Jvm.ClassFile.FieldType.int) ∈ gw := gw_at 237 rfl rfl
theorem tw_238 : Jvm.Cond.constant "java/lang/Integer" (265 : Nat) (1431655765 : Int32) ∈ gw := gw_at 238 rfl rfl
theorem tw_239 : Jvm.Cond.constant "java/lang/Integer" (266 : Nat) (858993459 : Int32) ∈ gw := gw_at 239 rfl rfl
theorem tw_240 : Jvm.Cond.constant "java/lang/Integer" (267 : Nat) (252645135 : Int32) ∈ gw := gw_at 240 rfl rfl
theorem tw_241 : Jvm.Cond.methodLink "QuireSigns" (65 : Nat) ({ cls := "QuireSigns$History", name := "record", desc := "(LQuireSigns$Book;)V" } : Jvm.MethodName) ∈ gw := gw_at 241 rfl rfl
theorem tw_242 : Jvm.Cond.instanceMethod ({ cls := "QuireSigns$History", name := "record", desc := "(LQuireSigns$Book;)V" } : Jvm.MethodName) ∈ gw := gw_at 242 rfl rfl
theorem tw_243 : Jvm.Cond.selects "QuireSigns$History" ({ cls := "QuireSigns$History", name := "record", desc := "(LQuireSigns$Book;)V" } : Jvm.MethodName) ({ cls := "QuireSigns$History", name := "record", desc := "(LQuireSigns$Book;)V" } : Jvm.MethodName) ∈ gw := gw_at 243 rfl rfl
theorem tw_244 : Jvm.Cond.code ({ cls := "QuireSigns$History", name := "record", desc := "(LQuireSigns$Book;)V" } : Jvm.MethodName) prog_4_method_3_code (3 : Nat) (Option.none : Option Jvm.ClassFile.FieldType) ∈ gw := gw_at 244 rfl rfl
theorem tw_245 : Jvm.Cond.methodLink "QuireSigns$History" (22 : Nat) ({ cls := "QuireSigns$History", name := "dropOldest", desc := "()V" } : Jvm.MethodName) ∈ gw := gw_at 245 rfl rfl
theorem tw_247 : Jvm.Cond.instanceMethod ({ cls := "QuireSigns$History", name := "dropOldest", desc := "()V" } : Jvm.MethodName) ∈ gw := gw_at 247 rfl rfl
theorem tw_248 : Jvm.Cond.code ({ cls := "QuireSigns$History", name := "dropOldest", desc := "()V" } : Jvm.MethodName) prog_4_method_6_code (3 : Nat) (Option.none : Option Jvm.ClassFile.FieldType) ∈ gw := gw_at 248 rfl rfl
theorem tw_249 : Jvm.Cond.methodLink "QuireSigns$History" (25 : Nat) ({ cls := "QuireSigns$History", name := "bookAt", desc := "(I)LQuireSigns$Book;" } : Jvm.MethodName) ∈ gw := gw_at 249 rfl rfl
theorem tw_251 : Jvm.Cond.instanceMethod ({ cls := "QuireSigns$History", name := "bookAt", desc := "(I)LQuireSigns$Book;" } : Jvm.MethodName) ∈ gw := gw_at 251 rfl rfl
theorem tw_252 : Jvm.Cond.code ({ cls := "QuireSigns$History", name := "bookAt", desc := "(I)LQuireSigns$Book;" } : Jvm.MethodName) prog_4_method_5_code (2 : Nat) (Option.some (Jvm.ClassFile.FieldType.object "QuireSigns$Book")) ∈ gw := gw_at 252 rfl rfl
theorem tw_253 : Jvm.Cond.methodLink "QuireSigns$History" (29 : Nat) ({ cls := "QuireSigns$Book", name := "become", desc := "(LQuireSigns$Book;)V" } : Jvm.MethodName) ∈ gw := gw_at 253 rfl rfl
theorem tw_254 : Jvm.Cond.instanceMethod ({ cls := "QuireSigns$Book", name := "become", desc := "(LQuireSigns$Book;)V" } : Jvm.MethodName) ∈ gw := gw_at 254 rfl rfl
theorem tw_255 : Jvm.Cond.selects "QuireSigns$Book" ({ cls := "QuireSigns$Book", name := "become", desc := "(LQuireSigns$Book;)V" } : Jvm.MethodName) ({ cls := "QuireSigns$Book", name := "become", desc := "(LQuireSigns$Book;)V" } : Jvm.MethodName) ∈ gw := gw_at 255 rfl rfl
theorem tw_256 : Jvm.Cond.code ({ cls := "QuireSigns$Book", name := "become", desc := "(LQuireSigns$Book;)V" } : Jvm.MethodName) prog_3_method_2_code (2 : Nat) (Option.none : Option Jvm.ClassFile.FieldType) ∈ gw := gw_at 256 rfl rfl
theorem tw_257 : Jvm.Cond.methodLink "QuireSigns$Book" (41 : Nat) ({ cls := "QuireSigns$Alphabet", name := "become", desc := "(LQuireSigns$Alphabet;)V" } : Jvm.MethodName) ∈ gw := gw_at 257 rfl rfl
theorem tw_258 : Jvm.Cond.instanceMethod ({ cls := "QuireSigns$Alphabet", name := "become", desc := "(LQuireSigns$Alphabet;)V" } : Jvm.MethodName) ∈ gw := gw_at 258 rfl rfl
theorem tw_259 : Jvm.Cond.selects "QuireSigns$Alphabet" ({ cls := "QuireSigns$Alphabet", name := "become", desc := "(LQuireSigns$Alphabet;)V" } : Jvm.MethodName) ({ cls := "QuireSigns$Alphabet", name := "become", desc := "(LQuireSigns$Alphabet;)V" } : Jvm.MethodName) ∈ gw := gw_at 259 rfl rfl
theorem tw_260 : Jvm.Cond.code ({ cls := "QuireSigns$Alphabet", name := "become", desc := "(LQuireSigns$Alphabet;)V" } : Jvm.MethodName) prog_2_method_7_code (2 : Nat) (Option.none : Option Jvm.ClassFile.FieldType) ∈ gw := gw_at 260 rfl rfl
theorem tw_261 : Jvm.Cond.methodLink "QuireSigns$Book" (45 : Nat) ({ cls := "QuireSigns$Row", name := "become", desc := "(LQuireSigns$Row;)V" } : Jvm.MethodName) ∈ gw := gw_at 261 rfl rfl
theorem tw_262 : Jvm.Cond.instanceMethod ({ cls := "QuireSigns$Row", name := "become", desc := "(LQuireSigns$Row;)V" } : Jvm.MethodName) ∈ gw := gw_at 262 rfl rfl
theorem tw_263 : Jvm.Cond.selects "QuireSigns$Row" ({ cls := "QuireSigns$Row", name := "become", desc := "(LQuireSigns$Row;)V" } : Jvm.MethodName) ({ cls := "QuireSigns$Row", name := "become", desc := "(LQuireSigns$Row;)V" } : Jvm.MethodName) ∈ gw := gw_at 263 rfl rfl
theorem tw_264 : Jvm.Cond.code ({ cls := "QuireSigns$Row", name := "become", desc := "(LQuireSigns$Row;)V" } : Jvm.MethodName) prog_6_method_10_code (3 : Nat) (Option.none : Option Jvm.ClassFile.FieldType) ∈ gw := gw_at 264 rfl rfl
theorem tw_265 : Jvm.Cond.methodLink "QuireSigns$Row" (34 : Nat) ({ cls := "java/lang/Math", name := "min", desc := "(II)I" } : Jvm.MethodName) ∈ gw := gw_at 265 rfl rfl
theorem tw_266 : Jvm.Cond.static ({ cls := "java/lang/Math", name := "min", desc := "(II)I" } : Jvm.MethodName) ∈ gw := gw_at 266 rfl rfl
theorem tw_267 : Jvm.Cond.code ({ cls := "java/lang/Math", name := "min", desc := "(II)I" } : Jvm.MethodName) prog_13_method_69_code (2 : Nat) (Option.some Jvm.ClassFile.FieldType.int) ∈ gw := gw_at 267 rfl rfl
theorem tw_268 : Jvm.Cond.methodLink "QuireSigns$Row" (23 : Nat) ({ cls := "QuireSigns$Row", name := "at", desc := "(I)I" } : Jvm.MethodName) ∈ gw := gw_at 268 rfl rfl
theorem tw_269 : Jvm.Cond.instanceMethod ({ cls := "QuireSigns$Row", name := "at", desc := "(I)I" } : Jvm.MethodName) ∈ gw := gw_at 269 rfl rfl
theorem tw_270 : Jvm.Cond.selects "QuireSigns$Row" ({ cls := "QuireSigns$Row", name := "at", desc := "(I)I" } : Jvm.MethodName) ({ cls := "QuireSigns$Row", name := "at", desc := "(I)I" } : Jvm.MethodName) ∈ gw := gw_at 270 rfl rfl
theorem tw_271 : Jvm.Cond.code ({ cls := "QuireSigns$Row", name := "at", desc := "(I)I" } : Jvm.MethodName) prog_6_method_3_code (2 : Nat) (Option.some Jvm.ClassFile.FieldType.int) ∈ gw := gw_at 271 rfl rfl
theorem tw_272 : Jvm.Cond.methodLink "QuireSigns$Row" (31 : Nat) ({ cls := "QuireSigns$Row", name := "set", desc := "(II)V" } : Jvm.MethodName) ∈ gw := gw_at 272 rfl rfl
theorem tw_273 : Jvm.Cond.instanceMethod ({ cls := "QuireSigns$Row", name := "set", desc := "(II)V" } : Jvm.MethodName) ∈ gw := gw_at 273 rfl rfl
theorem tw_274 : Jvm.Cond.selects "QuireSigns$Row" ({ cls := "QuireSigns$Row", name := "set", desc := "(II)V" } : Jvm.MethodName) ({ cls := "QuireSigns$Row", name := "set", desc := "(II)V" } : Jvm.MethodName) ∈ gw := gw_at 274 rfl rfl
theorem tw_275 : Jvm.Cond.code ({ cls := "QuireSigns$Row", name := "set", desc := "(II)V" } : Jvm.MethodName) prog_6_method_5_code (3 : Nat) (Option.none : Option Jvm.ClassFile.FieldType) ∈ gw := gw_at 275 rfl rfl
theorem tw_276 : Jvm.Cond.methodLink "QuireSigns" (69 : Nat) ({ cls := "QuireSigns$Alphabet", name := "turn", desc := "(I)V" } : Jvm.MethodName) ∈ gw := gw_at 276 rfl rfl
theorem tw_277 : Jvm.Cond.instanceMethod ({ cls := "QuireSigns$Alphabet", name := "turn", desc := "(I)V" } : Jvm.MethodName) ∈ gw := gw_at 277 rfl rfl
theorem tw_278 : Jvm.Cond.selects "QuireSigns$Alphabet" ({ cls := "QuireSigns$Alphabet", name := "turn", desc := "(I)V" } : Jvm.MethodName) ({ cls := "QuireSigns$Alphabet", name := "turn", desc := "(I)V" } : Jvm.MethodName) ∈ gw := gw_at 278 rfl rfl
theorem tw_279 : Jvm.Cond.code ({ cls := "QuireSigns$Alphabet", name := "turn", desc := "(I)V" } : Jvm.MethodName) prog_2_method_4_code (2 : Nat) (Option.none : Option Jvm.ClassFile.FieldType) ∈ gw := gw_at 279 rfl rfl
theorem tw_280 : Jvm.Cond.methodLink "QuireSignsLaw" (18 : Nat) ({ cls := "QuireSigns", name := "setSigning", desc := "(I)I" } : Jvm.MethodName) ∈ gw := gw_at 280 rfl rfl
theorem tw_281 : Jvm.Cond.instanceMethod ({ cls := "QuireSigns", name := "setSigning", desc := "(I)I" } : Jvm.MethodName) ∈ gw := gw_at 281 rfl rfl
theorem tw_282 : Jvm.Cond.selects "QuireSigns" ({ cls := "QuireSigns", name := "setSigning", desc := "(I)I" } : Jvm.MethodName) ({ cls := "QuireSigns", name := "setSigning", desc := "(I)I" } : Jvm.MethodName) ∈ gw := gw_at 282 rfl rfl
theorem tw_283 : Jvm.Cond.code ({ cls := "QuireSigns", name := "setSigning", desc := "(I)I" } : Jvm.MethodName) prog_1_method_3_code (2 : Nat) (Option.some Jvm.ClassFile.FieldType.int) ∈ gw := gw_at 283 rfl rfl
theorem tw_284 : Jvm.Cond.methodLink "QuireSigns" (76 : Nat) ({ cls := "QuireSigns$Book", name := "signedLeaves", desc := "()I" } : Jvm.MethodName) ∈ gw := gw_at 284 rfl rfl
theorem tw_285 : Jvm.Cond.instanceMethod ({ cls := "QuireSigns$Book", name := "signedLeaves", desc := "()I" } : Jvm.MethodName) ∈ gw := gw_at 285 rfl rfl
theorem tw_286 : Jvm.Cond.selects "QuireSigns$Book" ({ cls := "QuireSigns$Book", name := "signedLeaves", desc := "()I" } : Jvm.MethodName) ({ cls := "QuireSigns$Book", name := "signedLeaves", desc := "()I" } : Jvm.MethodName) ∈ gw := gw_at 286 rfl rfl
theorem tw_287 : Jvm.Cond.code ({ cls := "QuireSigns$Book", name := "signedLeaves", desc := "()I" } : Jvm.MethodName) prog_3_method_16_code (3 : Nat) (Option.some Jvm.ClassFile.FieldType.int) ∈ gw := gw_at 287 rfl rfl
theorem tw_288 : Jvm.Cond.methodLink "QuireSigns$Book" (52 : Nat) ({ cls := "QuireSigns$Book", name := "quires", desc := "()I" } : Jvm.MethodName) ∈ gw := gw_at 288 rfl rfl
theorem tw_289 : Jvm.Cond.instanceMethod ({ cls := "QuireSigns$Book", name := "quires", desc := "()I" } : Jvm.MethodName) ∈ gw := gw_at 289 rfl rfl
theorem tw_290 : Jvm.Cond.selects "QuireSigns$Book" ({ cls := "QuireSigns$Book", name := "quires", desc := "()I" } : Jvm.MethodName) ({ cls := "QuireSigns$Book", name := "quires", desc := "()I" } : Jvm.MethodName) ∈ gw := gw_at 290 rfl rfl
theorem tw_291 : Jvm.Cond.code ({ cls := "QuireSigns$Book", name := "quires", desc := "()I" } : Jvm.MethodName) prog_3_method_3_code (1 : Nat) (Option.some Jvm.ClassFile.FieldType.int) ∈ gw := gw_at 291 rfl rfl
theorem tw_292 : Jvm.Cond.methodLink "QuireSigns$Book" (48 : Nat) ({ cls := "QuireSigns$Row", name := "length", desc := "()I" } : Jvm.MethodName) ∈ gw := gw_at 292 rfl rfl
theorem tw_293 : Jvm.Cond.instanceMethod ({ cls := "QuireSigns$Row", name := "length", desc := "()I" } : Jvm.MethodName) ∈ gw := gw_at 293 rfl rfl
theorem tw_294 : Jvm.Cond.selects "QuireSigns$Row" ({ cls := "QuireSigns$Row", name := "length", desc := "()I" } : Jvm.MethodName) ({ cls := "QuireSigns$Row", name := "length", desc := "()I" } : Jvm.MethodName) ∈ gw := gw_at 294 rfl rfl
theorem tw_295 : Jvm.Cond.code ({ cls := "QuireSigns$Row", name := "length", desc := "()I" } : Jvm.MethodName) prog_6_method_2_code (1 : Nat) (Option.some Jvm.ClassFile.FieldType.int) ∈ gw := gw_at 295 rfl rfl
theorem tw_296 : Jvm.Cond.methodLink "QuireSigns$Book" (90 : Nat) ({ cls := "QuireSigns$Book", name := "signedIn", desc := "(I)I" } : Jvm.MethodName) ∈ gw := gw_at 296 rfl rfl
theorem tw_297 : Jvm.Cond.instanceMethod ({ cls := "QuireSigns$Book", name := "signedIn", desc := "(I)I" } : Jvm.MethodName) ∈ gw := gw_at 297 rfl rfl
theorem tw_298 : Jvm.Cond.selects "QuireSigns$Book" ({ cls := "QuireSigns$Book", name := "signedIn", desc := "(I)I" } : Jvm.MethodName) ({ cls := "QuireSigns$Book", name := "signedIn", desc := "(I)I" } : Jvm.MethodName) ∈ gw := gw_at 298 rfl rfl
theorem tw_299 : Jvm.Cond.code ({ cls := "QuireSigns$Book", name := "signedIn", desc := "(I)I" } : Jvm.MethodName) prog_3_method_15_code (4 : Nat) (Option.some Jvm.ClassFile.FieldType.int) ∈ gw := gw_at 299 rfl rfl
theorem tw_300 : Jvm.Cond.methodLink "QuireSigns$Book" (65 : Nat) ({ cls := "QuireSigns$Row", name := "at", desc := "(I)I" } : Jvm.MethodName) ∈ gw := gw_at 300 rfl rfl
theorem tw_301 : Jvm.Cond.methodLink "QuireSigns$Book" (84 : Nat) ({ cls := "java/lang/Math", name := "min", desc := "(II)I" } : Jvm.MethodName) ∈ gw := gw_at 301 rfl rfl
theorem tw_302 : Jvm.Cond.methodLink "QuireSignsLaw" (23 : Nat) ({ cls := "QuireSigns", name := "readFormula", desc := "()I" } : Jvm.MethodName) ∈ gw := gw_at 302 rfl rfl
theorem tw_303 : Jvm.Cond.instanceMethod ({ cls := "QuireSigns", name := "readFormula", desc := "()I" } : Jvm.MethodName) ∈ gw := gw_at 303 rfl rfl
theorem tw_304 : Jvm.Cond.selects "QuireSigns" ({ cls := "QuireSigns", name := "readFormula", desc := "()I" } : Jvm.MethodName) ({ cls := "QuireSigns", name := "readFormula", desc := "()I" } : Jvm.MethodName) ∈ gw := gw_at 304 rfl rfl
theorem tw_305 : Jvm.Cond.code ({ cls := "QuireSigns", name := "readFormula", desc := "()I" } : Jvm.MethodName) prog_1_method_4_code (3 : Nat) (Option.some Jvm.ClassFile.FieldType.int) ∈ gw := gw_at 305 rfl rfl
theorem tw_306 : Jvm.Cond.methodLink "QuireSigns" (79 : Nat) ({ cls := "QuireSigns$Text", name := "readAsFormula", desc := "(LQuireSigns$Alphabet;)I" } : Jvm.MethodName) ∈ gw := gw_at 306 rfl rfl
theorem tw_307 : Jvm.Cond.instanceMethod ({ cls := "QuireSigns$Text", name := "readAsFormula", desc := "(LQuireSigns$Alphabet;)I" } : Jvm.MethodName) ∈ gw := gw_at 307 rfl rfl
theorem tw_308 : Jvm.Cond.selects "QuireSigns$Text" ({ cls := "QuireSigns$Text", name := "readAsFormula", desc := "(LQuireSigns$Alphabet;)I" } : Jvm.MethodName) ({ cls := "QuireSigns$Text", name := "readAsFormula", desc := "(LQuireSigns$Alphabet;)I" } : Jvm.MethodName) ∈ gw := gw_at 308 rfl rfl
theorem tw_309 : Jvm.Cond.code ({ cls := "QuireSigns$Text", name := "readAsFormula", desc := "(LQuireSigns$Alphabet;)I" } : Jvm.MethodName) prog_8_method_9_code (2 : Nat) (Option.some Jvm.ClassFile.FieldType.int) ∈ gw := gw_at 309 rfl rfl
theorem tw_310 : Jvm.Cond.methodLink "QuireSigns$Text" (50 : Nat) ({ cls := "QuireSigns$Text", name := "readEntries", desc := "(LQuireSigns$Alphabet;Z)I" } : Jvm.MethodName) ∈ gw := gw_at 310 rfl rfl
theorem tw_312 : Jvm.Cond.instanceMethod ({ cls := "QuireSigns$Text", name := "readEntries", desc := "(LQuireSigns$Alphabet;Z)I" } : Jvm.MethodName) ∈ gw := gw_at 312 rfl rfl
theorem tw_313 : Jvm.Cond.code ({ cls := "QuireSigns$Text", name := "readEntries", desc := "(LQuireSigns$Alphabet;Z)I" } : Jvm.MethodName) prog_8_method_11_code (4 : Nat) (Option.some Jvm.ClassFile.FieldType.int) ∈ gw := gw_at 313 rfl rfl
theorem tw_314 : Jvm.Cond.methodLink "QuireSigns$Text" (43 : Nat) ({ cls := "QuireSigns$Row", name := "empty", desc := "()V" } : Jvm.MethodName) ∈ gw := gw_at 314 rfl rfl
theorem tw_315 : Jvm.Cond.instanceMethod ({ cls := "QuireSigns$Row", name := "empty", desc := "()V" } : Jvm.MethodName) ∈ gw := gw_at 315 rfl rfl
theorem tw_316 : Jvm.Cond.selects "QuireSigns$Row" ({ cls := "QuireSigns$Row", name := "empty", desc := "()V" } : Jvm.MethodName) ({ cls := "QuireSigns$Row", name := "empty", desc := "()V" } : Jvm.MethodName) ∈ gw := gw_at 316 rfl rfl
theorem tw_317 : Jvm.Cond.code ({ cls := "QuireSigns$Row", name := "empty", desc := "()V" } : Jvm.MethodName) prog_6_method_9_code (1 : Nat) (Option.none : Option Jvm.ClassFile.FieldType) ∈ gw := gw_at 317 rfl rfl
theorem tw_318 : Jvm.Cond.methodLink "QuireSigns$Text" (36 : Nat) ({ cls := "QuireSigns$Row", name := "length", desc := "()I" } : Jvm.MethodName) ∈ gw := gw_at 318 rfl rfl
theorem tw_319 : Jvm.Cond.methodLink "QuireSigns$Text" (57 : Nat) ({ cls := "QuireSigns$Text", name := "readEntry", desc := "(LQuireSigns$Alphabet;Z)Z" } : Jvm.MethodName) ∈ gw := gw_at 319 rfl rfl
theorem tw_321 : Jvm.Cond.instanceMethod ({ cls := "QuireSigns$Text", name := "readEntry", desc := "(LQuireSigns$Alphabet;Z)Z" } : Jvm.MethodName) ∈ gw := gw_at 321 rfl rfl
theorem tw_322 : Jvm.Cond.code ({ cls := "QuireSigns$Text", name := "readEntry", desc := "(LQuireSigns$Alphabet;Z)Z" } : Jvm.MethodName) prog_8_method_12_code (6 : Nat) (Option.some Jvm.ClassFile.FieldType.boolean) ∈ gw := gw_at 322 rfl rfl
theorem tw_323 : Jvm.Cond.methodLink "QuireSigns$Text" (61 : Nat) ({ cls := "QuireSigns$Text", name := "readSign", desc := "(LQuireSigns$Alphabet;)I" } : Jvm.MethodName) ∈ gw := gw_at 323 rfl rfl
theorem tw_325 : Jvm.Cond.instanceMethod ({ cls := "QuireSigns$Text", name := "readSign", desc := "(LQuireSigns$Alphabet;)I" } : Jvm.MethodName) ∈ gw := gw_at 325 rfl rfl
theorem tw_326 : Jvm.Cond.code ({ cls := "QuireSigns$Text", name := "readSign", desc := "(LQuireSigns$Alphabet;)I" } : Jvm.MethodName) prog_8_method_13_code (2 : Nat) (Option.some Jvm.ClassFile.FieldType.int) ∈ gw := gw_at 326 rfl rfl
theorem tw_327 : Jvm.Cond.methodLink "QuireSigns$Text" (46 : Nat) ({ cls := "QuireSigns$Row", name := "at", desc := "(I)I" } : Jvm.MethodName) ∈ gw := gw_at 327 rfl rfl
theorem tw_328 : Jvm.Cond.methodLink "QuireSigns$Text" (78 : Nat) ({ cls := "QuireSigns$Text", name := "readStars", desc := "()I" } : Jvm.MethodName) ∈ gw := gw_at 328 rfl rfl
theorem tw_330 : Jvm.Cond.instanceMethod ({ cls := "QuireSigns$Text", name := "readStars", desc := "()I" } : Jvm.MethodName) ∈ gw := gw_at 330 rfl rfl
theorem tw_331 : Jvm.Cond.code ({ cls := "QuireSigns$Text", name := "readStars", desc := "()I" } : Jvm.MethodName) prog_8_method_14_code (2 : Nat) (Option.some Jvm.ClassFile.FieldType.int) ∈ gw := gw_at 331 rfl rfl
theorem tw_332 : Jvm.Cond.methodLink "QuireSigns$Text" (84 : Nat) ({ cls := "QuireSigns$Sign", name := "ofStars", desc := "(I)I" } : Jvm.MethodName) ∈ gw := gw_at 332 rfl rfl
theorem tw_333 : Jvm.Cond.static ({ cls := "QuireSigns$Sign", name := "ofStars", desc := "(I)I" } : Jvm.MethodName) ∈ gw := gw_at 333 rfl rfl
theorem tw_334 : Jvm.Cond.code ({ cls := "QuireSigns$Sign", name := "ofStars", desc := "(I)I" } : Jvm.MethodName) prog_7_method_3_code (1 : Nat) (Option.some Jvm.ClassFile.FieldType.int) ∈ gw := gw_at 334 rfl rfl
theorem tw_335 : Jvm.Cond.methodLink "QuireSigns$Text" (81 : Nat) ({ cls := "QuireSigns$Text", name := "readLetters", desc := "(LQuireSigns$Alphabet;)I" } : Jvm.MethodName) ∈ gw := gw_at 335 rfl rfl
theorem tw_337 : Jvm.Cond.instanceMethod ({ cls := "QuireSigns$Text", name := "readLetters", desc := "(LQuireSigns$Alphabet;)I" } : Jvm.MethodName) ∈ gw := gw_at 337 rfl rfl
theorem tw_338 : Jvm.Cond.code ({ cls := "QuireSigns$Text", name := "readLetters", desc := "(LQuireSigns$Alphabet;)I" } : Jvm.MethodName) prog_8_method_15_code (4 : Nat) (Option.some Jvm.ClassFile.FieldType.int) ∈ gw := gw_at 338 rfl rfl
theorem tw_339 : Jvm.Cond.methodLink "QuireSigns$Text" (87 : Nat) ({ cls := "QuireSigns$Alphabet", name := "has", desc := "(I)Z" } : Jvm.MethodName) ∈ gw := gw_at 339 rfl rfl
theorem tw_340 : Jvm.Cond.methodLink "QuireSigns$Text" (90 : Nat) ({ cls := "QuireSigns$Sign", name := "ofLetters", desc := "(II)I" } : Jvm.MethodName) ∈ gw := gw_at 340 rfl rfl
theorem tw_341 : Jvm.Cond.static ({ cls := "QuireSigns$Sign", name := "ofLetters", desc := "(II)I" } : Jvm.MethodName) ∈ gw := gw_at 341 rfl rfl
theorem tw_342 : Jvm.Cond.code ({ cls := "QuireSigns$Sign", name := "ofLetters", desc := "(II)I" } : Jvm.MethodName) prog_7_method_2_code (2 : Nat) (Option.some Jvm.ClassFile.FieldType.int) ∈ gw := gw_at 342 rfl rfl
theorem tw_343 : Jvm.Cond.methodLink "QuireSigns$Text" (67 : Nat) ({ cls := "QuireSigns$Sign", name := "isStarred", desc := "(I)Z" } : Jvm.MethodName) ∈ gw := gw_at 343 rfl rfl
theorem tw_344 : Jvm.Cond.static ({ cls := "QuireSigns$Sign", name := "isStarred", desc := "(I)Z" } : Jvm.MethodName) ∈ gw := gw_at 344 rfl rfl
theorem tw_345 : Jvm.Cond.code ({ cls := "QuireSigns$Sign", name := "isStarred", desc := "(I)Z" } : Jvm.MethodName) prog_7_method_4_code (1 : Nat) (Option.some Jvm.ClassFile.FieldType.boolean) ∈ gw := gw_at 345 rfl rfl
theorem tw_346 : Jvm.Cond.methodLink "QuireSigns$Text" (71 : Nat) ({ cls := "QuireSigns$Text", name := "readLastSign", desc := "(LQuireSigns$Alphabet;I)I" } : Jvm.MethodName) ∈ gw := gw_at 346 rfl rfl
theorem tw_348 : Jvm.Cond.instanceMethod ({ cls := "QuireSigns$Text", name := "readLastSign", desc := "(LQuireSigns$Alphabet;I)I" } : Jvm.MethodName) ∈ gw := gw_at 348 rfl rfl
theorem tw_349 : Jvm.Cond.code ({ cls := "QuireSigns$Text", name := "readLastSign", desc := "(LQuireSigns$Alphabet;I)I" } : Jvm.MethodName) prog_8_method_16_code (4 : Nat) (Option.some Jvm.ClassFile.FieldType.int) ∈ gw := gw_at 349 rfl rfl
theorem tw_350 : Jvm.Cond.methodLink "QuireSigns$Text" (94 : Nat) ({ cls := "QuireSigns$Sign", name := "times", desc := "(I)I" } : Jvm.MethodName) ∈ gw := gw_at 350 rfl rfl
theorem tw_351 : Jvm.Cond.static ({ cls := "QuireSigns$Sign", name := "times", desc := "(I)I" } : Jvm.MethodName) ∈ gw := gw_at 351 rfl rfl
theorem tw_352 : Jvm.Cond.code ({ cls := "QuireSigns$Sign", name := "times", desc := "(I)I" } : Jvm.MethodName) prog_7_method_6_code (1 : Nat) (Option.some Jvm.ClassFile.FieldType.int) ∈ gw := gw_at 352 rfl rfl
theorem tw_353 : Jvm.Cond.methodLink "QuireSigns$Sign" (9 : Nat) ({ cls := "QuireSigns$Sign", name := "isStarred", desc := "(I)Z" } : Jvm.MethodName) ∈ gw := gw_at 353 rfl rfl
theorem tw_354 : Jvm.Cond.methodLink "QuireSigns$Text" (75 : Nat) ({ cls := "QuireSigns$Text", name := "readNumber", desc := "()I" } : Jvm.MethodName) ∈ gw := gw_at 354 rfl rfl
theorem tw_356 : Jvm.Cond.instanceMethod ({ cls := "QuireSigns$Text", name := "readNumber", desc := "()I" } : Jvm.MethodName) ∈ gw := gw_at 356 rfl rfl
theorem tw_357 : Jvm.Cond.code ({ cls := "QuireSigns$Text", name := "readNumber", desc := "()I" } : Jvm.MethodName) prog_8_method_17_code (3 : Nat) (Option.some Jvm.ClassFile.FieldType.int) ∈ gw := gw_at 357 rfl rfl
theorem tw_358 : Jvm.Cond.methodLink "QuireSigns$Text" (97 : Nat) ({ cls := "QuireSigns$Text", name := "digitAt", desc := "(I)I" } : Jvm.MethodName) ∈ gw := gw_at 358 rfl rfl
theorem tw_360 : Jvm.Cond.instanceMethod ({ cls := "QuireSigns$Text", name := "digitAt", desc := "(I)I" } : Jvm.MethodName) ∈ gw := gw_at 360 rfl rfl
theorem tw_361 : Jvm.Cond.code ({ cls := "QuireSigns$Text", name := "digitAt", desc := "(I)I" } : Jvm.MethodName) prog_8_method_18_code (3 : Nat) (Option.some Jvm.ClassFile.FieldType.int) ∈ gw := gw_at 361 rfl rfl
theorem tw_362 : Jvm.Cond.methodLink "QuireSigns$Text" (40 : Nat) ({ cls := "QuireSigns$Row", name := "add", desc := "(I)V" } : Jvm.MethodName) ∈ gw := gw_at 362 rfl rfl
theorem tw_363 : Jvm.Cond.instanceMethod ({ cls := "QuireSigns$Row", name := "add", desc := "(I)V" } : Jvm.MethodName) ∈ gw := gw_at 363 rfl rfl
theorem tw_364 : Jvm.Cond.selects "QuireSigns$Row" ({ cls := "QuireSigns$Row", name := "add", desc := "(I)V" } : Jvm.MethodName) ({ cls := "QuireSigns$Row", name := "add", desc := "(I)V" } : Jvm.MethodName) ∈ gw := gw_at 364 rfl rfl
theorem tw_365 : Jvm.Cond.code ({ cls := "QuireSigns$Row", name := "add", desc := "(I)V" } : Jvm.MethodName) prog_6_method_6_code (2 : Nat) (Option.none : Option Jvm.ClassFile.FieldType) ∈ gw := gw_at 365 rfl rfl
theorem tw_366 : Jvm.Cond.methodLink "QuireSigns$Row" (27 : Nat) ({ cls := "QuireSigns$Row", name := "addAt", desc := "(II)V" } : Jvm.MethodName) ∈ gw := gw_at 366 rfl rfl
theorem tw_367 : Jvm.Cond.instanceMethod ({ cls := "QuireSigns$Row", name := "addAt", desc := "(II)V" } : Jvm.MethodName) ∈ gw := gw_at 367 rfl rfl
theorem tw_368 : Jvm.Cond.selects "QuireSigns$Row" ({ cls := "QuireSigns$Row", name := "addAt", desc := "(II)V" } : Jvm.MethodName) ({ cls := "QuireSigns$Row", name := "addAt", desc := "(II)V" } : Jvm.MethodName) ∈ gw := gw_at 368 rfl rfl
theorem tw_369 : Jvm.Cond.code ({ cls := "QuireSigns$Row", name := "addAt", desc := "(II)V" } : Jvm.MethodName) prog_6_method_7_code (4 : Nat) (Option.none : Option Jvm.ClassFile.FieldType) ∈ gw := gw_at 369 rfl rfl
theorem tw_370 : Jvm.Cond.methodLink "QuireSigns" (83 : Nat) ({ cls := "QuireSigns$Book", name := "quires", desc := "()I" } : Jvm.MethodName) ∈ gw := gw_at 370 rfl rfl
theorem tw_371 : Jvm.Cond.methodLink "QuireSigns" (86 : Nat) ({ cls := "QuireSigns", name := "quiresOfText", desc := "()I" } : Jvm.MethodName) ∈ gw := gw_at 371 rfl rfl
theorem tw_373 : Jvm.Cond.instanceMethod ({ cls := "QuireSigns", name := "quiresOfText", desc := "()I" } : Jvm.MethodName) ∈ gw := gw_at 373 rfl rfl
theorem tw_374 : Jvm.Cond.code ({ cls := "QuireSigns", name := "quiresOfText", desc := "()I" } : Jvm.MethodName) prog_1_method_24_code (5 : Nat) (Option.some Jvm.ClassFile.FieldType.int) ∈ gw := gw_at 374 rfl rfl
theorem tw_375 : Jvm.Cond.methodLink "QuireSigns" (89 : Nat) ({ cls := "QuireSigns$Text", name := "entries", desc := "()I" } : Jvm.MethodName) ∈ gw := gw_at 375 rfl rfl
theorem tw_376 : Jvm.Cond.instanceMethod ({ cls := "QuireSigns$Text", name := "entries", desc := "()I" } : Jvm.MethodName) ∈ gw := gw_at 376 rfl rfl
theorem tw_377 : Jvm.Cond.selects "QuireSigns$Text" ({ cls := "QuireSigns$Text", name := "entries", desc := "()I" } : Jvm.MethodName) ({ cls := "QuireSigns$Text", name := "entries", desc := "()I" } : Jvm.MethodName) ∈ gw := gw_at 377 rfl rfl
theorem tw_378 : Jvm.Cond.code ({ cls := "QuireSigns$Text", name := "entries", desc := "()I" } : Jvm.MethodName) prog_8_method_5_code (1 : Nat) (Option.some Jvm.ClassFile.FieldType.int) ∈ gw := gw_at 378 rfl rfl
theorem tw_379 : Jvm.Cond.methodLink "QuireSigns" (216 : Nat) ({ cls := "QuireSigns$Text", name := "firstSign", desc := "(I)I" } : Jvm.MethodName) ∈ gw := gw_at 379 rfl rfl
theorem tw_380 : Jvm.Cond.instanceMethod ({ cls := "QuireSigns$Text", name := "firstSign", desc := "(I)I" } : Jvm.MethodName) ∈ gw := gw_at 380 rfl rfl
theorem tw_381 : Jvm.Cond.selects "QuireSigns$Text" ({ cls := "QuireSigns$Text", name := "firstSign", desc := "(I)I" } : Jvm.MethodName) ({ cls := "QuireSigns$Text", name := "firstSign", desc := "(I)I" } : Jvm.MethodName) ∈ gw := gw_at 381 rfl rfl
theorem tw_382 : Jvm.Cond.code ({ cls := "QuireSigns$Text", name := "firstSign", desc := "(I)I" } : Jvm.MethodName) prog_8_method_6_code (2 : Nat) (Option.some Jvm.ClassFile.FieldType.int) ∈ gw := gw_at 382 rfl rfl
theorem tw_383 : Jvm.Cond.methodLink "QuireSigns" (252 : Nat) ({ cls := "QuireSigns$Text", name := "lastSign", desc := "(I)I" } : Jvm.MethodName) ∈ gw := gw_at 383 rfl rfl
theorem tw_384 : Jvm.Cond.instanceMethod ({ cls := "QuireSigns$Text", name := "lastSign", desc := "(I)I" } : Jvm.MethodName) ∈ gw := gw_at 384 rfl rfl
theorem tw_385 : Jvm.Cond.selects "QuireSigns$Text" ({ cls := "QuireSigns$Text", name := "lastSign", desc := "(I)I" } : Jvm.MethodName) ({ cls := "QuireSigns$Text", name := "lastSign", desc := "(I)I" } : Jvm.MethodName) ∈ gw := gw_at 385 rfl rfl
theorem tw_386 : Jvm.Cond.code ({ cls := "QuireSigns$Text", name := "lastSign", desc := "(I)I" } : Jvm.MethodName) prog_8_method_7_code (2 : Nat) (Option.some Jvm.ClassFile.FieldType.int) ∈ gw := gw_at 386 rfl rfl
theorem tw_387 : Jvm.Cond.methodLink "QuireSigns" (255 : Nat) ({ cls := "QuireSigns$Alphabet", name := "signsBetween", desc := "(II)I" } : Jvm.MethodName) ∈ gw := gw_at 387 rfl rfl
theorem tw_388 : Jvm.Cond.instanceMethod ({ cls := "QuireSigns$Alphabet", name := "signsBetween", desc := "(II)I" } : Jvm.MethodName) ∈ gw := gw_at 388 rfl rfl
theorem tw_389 : Jvm.Cond.selects "QuireSigns$Alphabet" ({ cls := "QuireSigns$Alphabet", name := "signsBetween", desc := "(II)I" } : Jvm.MethodName) ({ cls := "QuireSigns$Alphabet", name := "signsBetween", desc := "(II)I" } : Jvm.MethodName) ∈ gw := gw_at 389 rfl rfl
theorem tw_390 : Jvm.Cond.code ({ cls := "QuireSigns$Alphabet", name := "signsBetween", desc := "(II)I" } : Jvm.MethodName) prog_2_method_6_code (5 : Nat) (Option.some Jvm.ClassFile.FieldType.int) ∈ gw := gw_at 390 rfl rfl
theorem tw_391 : Jvm.Cond.methodLink "QuireSigns$Alphabet" (21 : Nat) ({ cls := "QuireSigns$Sign", name := "letter", desc := "(I)I" } : Jvm.MethodName) ∈ gw := gw_at 391 rfl rfl
theorem tw_392 : Jvm.Cond.static ({ cls := "QuireSigns$Sign", name := "letter", desc := "(I)I" } : Jvm.MethodName) ∈ gw := gw_at 392 rfl rfl
theorem tw_393 : Jvm.Cond.code ({ cls := "QuireSigns$Sign", name := "letter", desc := "(I)I" } : Jvm.MethodName) prog_7_method_5_code (1 : Nat) (Option.some Jvm.ClassFile.FieldType.int) ∈ gw := gw_at 393 rfl rfl
theorem tw_394 : Jvm.Cond.methodLink "QuireSigns$Alphabet" (24 : Nat) ({ cls := "QuireSigns$Alphabet", name := "has", desc := "(I)Z" } : Jvm.MethodName) ∈ gw := gw_at 394 rfl rfl
theorem tw_395 : Jvm.Cond.methodLink "QuireSigns" (92 : Nat) ({ cls := "QuireSigns", name := "addEntry", desc := "(I)V" } : Jvm.MethodName) ∈ gw := gw_at 395 rfl rfl
theorem tw_397 : Jvm.Cond.instanceMethod ({ cls := "QuireSigns", name := "addEntry", desc := "(I)V" } : Jvm.MethodName) ∈ gw := gw_at 397 rfl rfl
theorem tw_398 : Jvm.Cond.code ({ cls := "QuireSigns", name := "addEntry", desc := "(I)V" } : Jvm.MethodName) prog_1_method_25_code (5 : Nat) (Option.none : Option Jvm.ClassFile.FieldType) ∈ gw := gw_at 398 rfl rfl
theorem tw_399 : Jvm.Cond.methodLink "QuireSigns" (219 : Nat) ({ cls := "QuireSigns$Text", name := "number", desc := "(I)I" } : Jvm.MethodName) ∈ gw := gw_at 399 rfl rfl
theorem tw_400 : Jvm.Cond.instanceMethod ({ cls := "QuireSigns$Text", name := "number", desc := "(I)I" } : Jvm.MethodName) ∈ gw := gw_at 400 rfl rfl
set_option maxRecDepth 100000 in
theorem tw_401 : Jvm.Cond.selects "QuireSigns$Text" ({ cls := "QuireSigns$Text", name := "number", desc := "(I)I" } : Jvm.MethodName) ({ cls := "QuireSigns$Text", name := "number", desc := "(I)I" } : Jvm.MethodName) ∈ gw := gw_at 401 rfl rfl
set_option maxRecDepth 100000 in
theorem tw_402 : Jvm.Cond.code ({ cls := "QuireSigns$Text", name := "number", desc := "(I)I" } : Jvm.MethodName) prog_8_method_8_code (2 : Nat) (Option.some Jvm.ClassFile.FieldType.int) ∈ gw := gw_at 402 rfl rfl
set_option maxRecDepth 100000 in
theorem tw_403 : Jvm.Cond.methodLink "QuireSigns" (105 : Nat) ({ cls := "QuireSigns$Book", name := "addQuire", desc := "(III)V" } : Jvm.MethodName) ∈ gw := gw_at 403 rfl rfl
set_option maxRecDepth 100000 in
theorem tw_404 : Jvm.Cond.instanceMethod ({ cls := "QuireSigns$Book", name := "addQuire", desc := "(III)V" } : Jvm.MethodName) ∈ gw := gw_at 404 rfl rfl
set_option maxRecDepth 100000 in
theorem tw_405 : Jvm.Cond.selects "QuireSigns$Book" ({ cls := "QuireSigns$Book", name := "addQuire", desc := "(III)V" } : Jvm.MethodName) ({ cls := "QuireSigns$Book", name := "addQuire", desc := "(III)V" } : Jvm.MethodName) ∈ gw := gw_at 405 rfl rfl
set_option maxRecDepth 100000 in
theorem tw_406 : Jvm.Cond.code ({ cls := "QuireSigns$Book", name := "addQuire", desc := "(III)V" } : Jvm.MethodName) prog_3_method_5_code (4 : Nat) (Option.none : Option Jvm.ClassFile.FieldType) ∈ gw := gw_at 406 rfl rfl
set_option maxRecDepth 100000 in
theorem tw_407 : Jvm.Cond.methodLink "QuireSigns$Book" (55 : Nat) ({ cls := "QuireSigns$Row", name := "addAt", desc := "(II)V" } : Jvm.MethodName) ∈ gw := gw_at 407 rfl rfl
set_option maxRecDepth 100000 in
theorem tw_408 : Jvm.Cond.methodLink "QuireSigns$Book" (59 : Nat) ({ cls := "QuireSigns$Row", name := "empty", desc := "()V" } : Jvm.MethodName) ∈ gw := gw_at 408 rfl rfl
set_option maxRecDepth 100000 in
theorem tw_409 : Jvm.Cond.methodLink "QuireSigns" (186 : Nat) ({ cls := "QuireSigns$Sign", name := "letter", desc := "(I)I" } : Jvm.MethodName) ∈ gw := gw_at 409 rfl rfl
set_option maxRecDepth 100000 in
theorem tw_410 : Jvm.Cond.methodLink "QuireSignsLaw" (28 : Nat) ({ cls := "QuireSigns", name := "signNext", desc := "(I)I" } : Jvm.MethodName) ∈ gw := gw_at 410 rfl rfl
set_option maxRecDepth 100000 in
theorem tw_411 : Jvm.Cond.instanceMethod ({ cls := "QuireSigns", name := "signNext", desc := "(I)I" } : Jvm.MethodName) ∈ gw := gw_at 411 rfl rfl
set_option maxRecDepth 100000 in
theorem tw_412 : Jvm.Cond.selects "QuireSigns" ({ cls := "QuireSigns", name := "signNext", desc := "(I)I" } : Jvm.MethodName) ({ cls := "QuireSigns", name := "signNext", desc := "(I)I" } : Jvm.MethodName) ∈ gw := gw_at 412 rfl rfl
set_option maxRecDepth 100000 in
theorem tw_413 : Jvm.Cond.code ({ cls := "QuireSigns", name := "signNext", desc := "(I)I" } : Jvm.MethodName) prog_1_method_5_code (3 : Nat) (Option.some Jvm.ClassFile.FieldType.int) ∈ gw := gw_at 413 rfl rfl
set_option maxRecDepth 100000 in
theorem tw_414 : Jvm.Cond.methodLink "QuireSigns" (95 : Nat) ({ cls := "QuireSigns", name := "isQuireSize", desc := "(I)Z" } : Jvm.MethodName) ∈ gw := gw_at 414 rfl rfl
set_option maxRecDepth 100000 in
theorem tw_415 : Jvm.Cond.static ({ cls := "QuireSigns", name := "isQuireSize", desc := "(I)Z" } : Jvm.MethodName) ∈ gw := gw_at 415 rfl rfl
set_option maxRecDepth 100000 in
theorem tw_416 : Jvm.Cond.code ({ cls := "QuireSigns", name := "isQuireSize", desc := "(I)Z" } : Jvm.MethodName) prog_1_method_23_code (1 : Nat) (Option.some Jvm.ClassFile.FieldType.boolean) ∈ gw := gw_at 416 rfl rfl
set_option maxRecDepth 100000 in
theorem tw_417 : Jvm.Cond.methodLink "QuireSigns" (98 : Nat) ({ cls := "QuireSigns$Book", name := "lastLettersAhead", desc := "(I)I" } : Jvm.MethodName) ∈ gw := gw_at 417 rfl rfl
set_option maxRecDepth 100000 in
theorem tw_418 : Jvm.Cond.instanceMethod ({ cls := "QuireSigns$Book", name := "lastLettersAhead", desc := "(I)I" } : Jvm.MethodName) ∈ gw := gw_at 418 rfl rfl
set_option maxRecDepth 100000 in
theorem tw_419 : Jvm.Cond.selects "QuireSigns$Book" ({ cls := "QuireSigns$Book", name := "lastLettersAhead", desc := "(I)I" } : Jvm.MethodName) ({ cls := "QuireSigns$Book", name := "lastLettersAhead", desc := "(I)I" } : Jvm.MethodName) ∈ gw := gw_at 419 rfl rfl
set_option maxRecDepth 100000 in
theorem tw_420 : Jvm.Cond.code ({ cls := "QuireSigns$Book", name := "lastLettersAhead", desc := "(I)I" } : Jvm.MethodName) prog_3_method_9_code (3 : Nat) (Option.some Jvm.ClassFile.FieldType.int) ∈ gw := gw_at 420 rfl rfl
set_option maxRecDepth 100000 in
theorem tw_421 : Jvm.Cond.methodLink "QuireSigns$Book" (69 : Nat) ({ cls := "QuireSigns$Sign", name := "isStarred", desc := "(I)Z" } : Jvm.MethodName) ∈ gw := gw_at 421 rfl rfl
set_option maxRecDepth 100000 in
theorem tw_422 : Jvm.Cond.methodLink "QuireSigns" (102 : Nat) ({ cls := "QuireSigns$Alphabet", name := "nextSign", desc := "(I)I" } : Jvm.MethodName) ∈ gw := gw_at 422 rfl rfl
set_option maxRecDepth 100000 in
theorem tw_423 : Jvm.Cond.instanceMethod ({ cls := "QuireSigns$Alphabet", name := "nextSign", desc := "(I)I" } : Jvm.MethodName) ∈ gw := gw_at 423 rfl rfl
set_option maxRecDepth 100000 in
theorem tw_424 : Jvm.Cond.selects "QuireSigns$Alphabet" ({ cls := "QuireSigns$Alphabet", name := "nextSign", desc := "(I)I" } : Jvm.MethodName) ({ cls := "QuireSigns$Alphabet", name := "nextSign", desc := "(I)I" } : Jvm.MethodName) ∈ gw := gw_at 424 rfl rfl
set_option maxRecDepth 100000 in
theorem tw_425 : Jvm.Cond.code ({ cls := "QuireSigns$Alphabet", name := "nextSign", desc := "(I)I" } : Jvm.MethodName) prog_2_method_5_code (3 : Nat) (Option.some Jvm.ClassFile.FieldType.int) ∈ gw := gw_at 425 rfl rfl
set_option maxRecDepth 100000 in
theorem tw_426 : Jvm.Cond.methodLink "QuireSignsLaw" (32 : Nat) ({ cls := "QuireSigns", name := "insert", desc := "(III)I" } : Jvm.MethodName) ∈ gw := gw_at 426 rfl rfl
set_option maxRecDepth 100000 in
theorem tw_427 : Jvm.Cond.instanceMethod ({ cls := "QuireSigns", name := "insert", desc := "(III)I" } : Jvm.MethodName) ∈ gw := gw_at 427 rfl rfl
set_option maxRecDepth 100000 in
theorem tw_428 : Jvm.Cond.selects "QuireSigns" ({ cls := "QuireSigns", name := "insert", desc := "(III)I" } : Jvm.MethodName) ({ cls := "QuireSigns", name := "insert", desc := "(III)I" } : Jvm.MethodName) ∈ gw := gw_at 428 rfl rfl
set_option maxRecDepth 100000 in
theorem tw_429 : Jvm.Cond.code ({ cls := "QuireSigns", name := "insert", desc := "(III)I" } : Jvm.MethodName) prog_1_method_6_code (4 : Nat) (Option.some Jvm.ClassFile.FieldType.int) ∈ gw := gw_at 429 rfl rfl
set_option maxRecDepth 100000 in
theorem tw_430 : Jvm.Cond.methodLink "QuireSigns" (109 : Nat) ({ cls := "QuireSigns$Sign", name := "ofStars", desc := "(I)I" } : Jvm.MethodName) ∈ gw := gw_at 430 rfl rfl
set_option maxRecDepth 100000 in
theorem tw_431 : Jvm.Cond.methodLink "QuireSigns" (112 : Nat) ({ cls := "QuireSigns$Book", name := "leaves", desc := "()I" } : Jvm.MethodName) ∈ gw := gw_at 431 rfl rfl
set_option maxRecDepth 100000 in
theorem tw_432 : Jvm.Cond.instanceMethod ({ cls := "QuireSigns$Book", name := "leaves", desc := "()I" } : Jvm.MethodName) ∈ gw := gw_at 432 rfl rfl
set_option maxRecDepth 100000 in
theorem tw_433 : Jvm.Cond.selects "QuireSigns$Book" ({ cls := "QuireSigns$Book", name := "leaves", desc := "()I" } : Jvm.MethodName) ({ cls := "QuireSigns$Book", name := "leaves", desc := "()I" } : Jvm.MethodName) ∈ gw := gw_at 433 rfl rfl
set_option maxRecDepth 100000 in
theorem tw_434 : Jvm.Cond.code ({ cls := "QuireSigns$Book", name := "leaves", desc := "()I" } : Jvm.MethodName) prog_3_method_11_code (1 : Nat) (Option.some Jvm.ClassFile.FieldType.int) ∈ gw := gw_at 434 rfl rfl
set_option maxRecDepth 100000 in
theorem tw_435 : Jvm.Cond.methodLink "QuireSigns$Book" (75 : Nat) ({ cls := "QuireSigns$Book", name := "firstLeaf", desc := "(I)I" } : Jvm.MethodName) ∈ gw := gw_at 435 rfl rfl
set_option maxRecDepth 100000 in
theorem tw_436 : Jvm.Cond.instanceMethod ({ cls := "QuireSigns$Book", name := "firstLeaf", desc := "(I)I" } : Jvm.MethodName) ∈ gw := gw_at 436 rfl rfl
set_option maxRecDepth 100000 in
theorem tw_437 : Jvm.Cond.selects "QuireSigns$Book" ({ cls := "QuireSigns$Book", name := "firstLeaf", desc := "(I)I" } : Jvm.MethodName) ({ cls := "QuireSigns$Book", name := "firstLeaf", desc := "(I)I" } : Jvm.MethodName) ∈ gw := gw_at 437 rfl rfl
set_option maxRecDepth 100000 in
theorem tw_438 : Jvm.Cond.code ({ cls := "QuireSigns$Book", name := "firstLeaf", desc := "(I)I" } : Jvm.MethodName) prog_3_method_10_code (4 : Nat) (Option.some Jvm.ClassFile.FieldType.int) ∈ gw := gw_at 438 rfl rfl
set_option maxRecDepth 100000 in
theorem tw_439 : Jvm.Cond.methodLink "QuireSignsLaw" (37 : Nat) ({ cls := "QuireSigns", name := "remove", desc := "(I)I" } : Jvm.MethodName) ∈ gw := gw_at 439 rfl rfl
set_option maxRecDepth 100000 in
theorem tw_440 : Jvm.Cond.instanceMethod ({ cls := "QuireSigns", name := "remove", desc := "(I)I" } : Jvm.MethodName) ∈ gw := gw_at 440 rfl rfl
set_option maxRecDepth 100000 in
theorem tw_441 : Jvm.Cond.selects "QuireSigns" ({ cls := "QuireSigns", name := "remove", desc := "(I)I" } : Jvm.MethodName) ({ cls := "QuireSigns", name := "remove", desc := "(I)I" } : Jvm.MethodName) ∈ gw := gw_at 441 rfl rfl
set_option maxRecDepth 100000 in
theorem tw_442 : Jvm.Cond.code ({ cls := "QuireSigns", name := "remove", desc := "(I)I" } : Jvm.MethodName) prog_1_method_7_code (2 : Nat) (Option.some Jvm.ClassFile.FieldType.int) ∈ gw := gw_at 442 rfl rfl
set_option maxRecDepth 100000 in
theorem tw_443 : Jvm.Cond.methodLink "QuireSigns" (115 : Nat) ({ cls := "QuireSigns$Book", name := "hasQuire", desc := "(I)Z" } : Jvm.MethodName) ∈ gw := gw_at 443 rfl rfl
set_option maxRecDepth 100000 in
theorem tw_444 : Jvm.Cond.instanceMethod ({ cls := "QuireSigns$Book", name := "hasQuire", desc := "(I)Z" } : Jvm.MethodName) ∈ gw := gw_at 444 rfl rfl
set_option maxRecDepth 100000 in
theorem tw_445 : Jvm.Cond.selects "QuireSigns$Book" ({ cls := "QuireSigns$Book", name := "hasQuire", desc := "(I)Z" } : Jvm.MethodName) ({ cls := "QuireSigns$Book", name := "hasQuire", desc := "(I)Z" } : Jvm.MethodName) ∈ gw := gw_at 445 rfl rfl
set_option maxRecDepth 100000 in
theorem tw_446 : Jvm.Cond.code ({ cls := "QuireSigns$Book", name := "hasQuire", desc := "(I)Z" } : Jvm.MethodName) prog_3_method_4_code (2 : Nat) (Option.some Jvm.ClassFile.FieldType.boolean) ∈ gw := gw_at 446 rfl rfl
set_option maxRecDepth 100000 in
theorem tw_447 : Jvm.Cond.methodLink "QuireSigns" (118 : Nat) ({ cls := "QuireSigns$Book", name := "dropQuire", desc := "(I)V" } : Jvm.MethodName) ∈ gw := gw_at 447 rfl rfl
set_option maxRecDepth 100000 in
theorem tw_448 : Jvm.Cond.instanceMethod ({ cls := "QuireSigns$Book", name := "dropQuire", desc := "(I)V" } : Jvm.MethodName) ∈ gw := gw_at 448 rfl rfl
set_option maxRecDepth 100000 in
theorem tw_449 : Jvm.Cond.selects "QuireSigns$Book" ({ cls := "QuireSigns$Book", name := "dropQuire", desc := "(I)V" } : Jvm.MethodName) ({ cls := "QuireSigns$Book", name := "dropQuire", desc := "(I)V" } : Jvm.MethodName) ∈ gw := gw_at 449 rfl rfl
set_option maxRecDepth 100000 in
theorem tw_450 : Jvm.Cond.code ({ cls := "QuireSigns$Book", name := "dropQuire", desc := "(I)V" } : Jvm.MethodName) prog_3_method_6_code (2 : Nat) (Option.none : Option Jvm.ClassFile.FieldType) ∈ gw := gw_at 450 rfl rfl
set_option maxRecDepth 100000 in
theorem tw_451 : Jvm.Cond.methodLink "QuireSigns$Book" (62 : Nat) ({ cls := "QuireSigns$Row", name := "drop", desc := "(I)V" } : Jvm.MethodName) ∈ gw := gw_at 451 rfl rfl
set_option maxRecDepth 100000 in
theorem tw_452 : Jvm.Cond.instanceMethod ({ cls := "QuireSigns$Row", name := "drop", desc := "(I)V" } : Jvm.MethodName) ∈ gw := gw_at 452 rfl rfl
set_option maxRecDepth 100000 in
theorem tw_453 : Jvm.Cond.selects "QuireSigns$Row" ({ cls := "QuireSigns$Row", name := "drop", desc := "(I)V" } : Jvm.MethodName) ({ cls := "QuireSigns$Row", name := "drop", desc := "(I)V" } : Jvm.MethodName) ∈ gw := gw_at 453 rfl rfl
set_option maxRecDepth 100000 in
theorem tw_454 : Jvm.Cond.code ({ cls := "QuireSigns$Row", name := "drop", desc := "(I)V" } : Jvm.MethodName) prog_6_method_8_code (3 : Nat) (Option.none : Option Jvm.ClassFile.FieldType) ∈ gw := gw_at 454 rfl rfl
set_option maxRecDepth 100000 in
theorem tw_455 : Jvm.Cond.methodLink "QuireSignsLaw" (41 : Nat) ({ cls := "QuireSigns", name := "lose", desc := "(IZ)I" } : Jvm.MethodName) ∈ gw := gw_at 455 rfl rfl
set_option maxRecDepth 100000 in
theorem tw_456 : Jvm.Cond.instanceMethod ({ cls := "QuireSigns", name := "lose", desc := "(IZ)I" } : Jvm.MethodName) ∈ gw := gw_at 456 rfl rfl
set_option maxRecDepth 100000 in
theorem tw_457 : Jvm.Cond.selects "QuireSigns" ({ cls := "QuireSigns", name := "lose", desc := "(IZ)I" } : Jvm.MethodName) ({ cls := "QuireSigns", name := "lose", desc := "(IZ)I" } : Jvm.MethodName) ∈ gw := gw_at 457 rfl rfl
set_option maxRecDepth 100000 in
theorem tw_458 : Jvm.Cond.code ({ cls := "QuireSigns", name := "lose", desc := "(IZ)I" } : Jvm.MethodName) prog_1_method_8_code (3 : Nat) (Option.some Jvm.ClassFile.FieldType.int) ∈ gw := gw_at 458 rfl rfl
set_option maxRecDepth 100000 in
theorem tw_459 : Jvm.Cond.methodLink "QuireSigns" (121 : Nat) ({ cls := "QuireSigns$Book", name := "hasLeaf", desc := "(I)Z" } : Jvm.MethodName) ∈ gw := gw_at 459 rfl rfl
set_option maxRecDepth 100000 in
theorem tw_460 : Jvm.Cond.instanceMethod ({ cls := "QuireSigns$Book", name := "hasLeaf", desc := "(I)Z" } : Jvm.MethodName) ∈ gw := gw_at 460 rfl rfl
set_option maxRecDepth 100000 in
theorem tw_461 : Jvm.Cond.selects "QuireSigns$Book" ({ cls := "QuireSigns$Book", name := "hasLeaf", desc := "(I)Z" } : Jvm.MethodName) ({ cls := "QuireSigns$Book", name := "hasLeaf", desc := "(I)Z" } : Jvm.MethodName) ∈ gw := gw_at 461 rfl rfl
set_option maxRecDepth 100000 in
theorem tw_462 : Jvm.Cond.code ({ cls := "QuireSigns$Book", name := "hasLeaf", desc := "(I)Z" } : Jvm.MethodName) prog_3_method_12_code (2 : Nat) (Option.some Jvm.ClassFile.FieldType.boolean) ∈ gw := gw_at 462 rfl rfl
set_option maxRecDepth 100000 in
theorem tw_463 : Jvm.Cond.methodLink "QuireSigns$Book" (78 : Nat) ({ cls := "QuireSigns$Book", name := "leaves", desc := "()I" } : Jvm.MethodName) ∈ gw := gw_at 463 rfl rfl
set_option maxRecDepth 100000 in
theorem tw_464 : Jvm.Cond.methodLink "QuireSigns" (124 : Nat) ({ cls := "QuireSigns$Book", name := "isLost", desc := "(I)Z" } : Jvm.MethodName) ∈ gw := gw_at 464 rfl rfl
set_option maxRecDepth 100000 in
theorem tw_465 : Jvm.Cond.instanceMethod ({ cls := "QuireSigns$Book", name := "isLost", desc := "(I)Z" } : Jvm.MethodName) ∈ gw := gw_at 465 rfl rfl
set_option maxRecDepth 100000 in
theorem tw_466 : Jvm.Cond.selects "QuireSigns$Book" ({ cls := "QuireSigns$Book", name := "isLost", desc := "(I)Z" } : Jvm.MethodName) ({ cls := "QuireSigns$Book", name := "isLost", desc := "(I)Z" } : Jvm.MethodName) ∈ gw := gw_at 466 rfl rfl
set_option maxRecDepth 100000 in
theorem tw_467 : Jvm.Cond.code ({ cls := "QuireSigns$Book", name := "isLost", desc := "(I)Z" } : Jvm.MethodName) prog_3_method_17_code (2 : Nat) (Option.some Jvm.ClassFile.FieldType.boolean) ∈ gw := gw_at 467 rfl rfl
set_option maxRecDepth 100000 in
theorem tw_468 : Jvm.Cond.methodLink "QuireSigns$Book" (81 : Nat) ({ cls := "QuireSigns$Book", name := "quireOf", desc := "(I)I" } : Jvm.MethodName) ∈ gw := gw_at 468 rfl rfl
set_option maxRecDepth 100000 in
theorem tw_469 : Jvm.Cond.instanceMethod ({ cls := "QuireSigns$Book", name := "quireOf", desc := "(I)I" } : Jvm.MethodName) ∈ gw := gw_at 469 rfl rfl
set_option maxRecDepth 100000 in
theorem tw_470 : Jvm.Cond.selects "QuireSigns$Book" ({ cls := "QuireSigns$Book", name := "quireOf", desc := "(I)I" } : Jvm.MethodName) ({ cls := "QuireSigns$Book", name := "quireOf", desc := "(I)I" } : Jvm.MethodName) ∈ gw := gw_at 470 rfl rfl
set_option maxRecDepth 100000 in
theorem tw_471 : Jvm.Cond.code ({ cls := "QuireSigns$Book", name := "quireOf", desc := "(I)I" } : Jvm.MethodName) prog_3_method_13_code (4 : Nat) (Option.some Jvm.ClassFile.FieldType.int) ∈ gw := gw_at 471 rfl rfl
set_option maxRecDepth 100000 in
theorem tw_472 : Jvm.Cond.methodLink "QuireSigns$Book" (93 : Nat) ({ cls := "QuireSigns$Book", name := "numberOf", desc := "(I)I" } : Jvm.MethodName) ∈ gw := gw_at 472 rfl rfl
set_option maxRecDepth 100000 in
theorem tw_473 : Jvm.Cond.instanceMethod ({ cls := "QuireSigns$Book", name := "numberOf", desc := "(I)I" } : Jvm.MethodName) ∈ gw := gw_at 473 rfl rfl
set_option maxRecDepth 100000 in
theorem tw_474 : Jvm.Cond.selects "QuireSigns$Book" ({ cls := "QuireSigns$Book", name := "numberOf", desc := "(I)I" } : Jvm.MethodName) ({ cls := "QuireSigns$Book", name := "numberOf", desc := "(I)I" } : Jvm.MethodName) ∈ gw := gw_at 474 rfl rfl
set_option maxRecDepth 100000 in
theorem tw_475 : Jvm.Cond.code ({ cls := "QuireSigns$Book", name := "numberOf", desc := "(I)I" } : Jvm.MethodName) prog_3_method_14_code (2 : Nat) (Option.some Jvm.ClassFile.FieldType.int) ∈ gw := gw_at 475 rfl rfl
set_option maxRecDepth 100000 in
theorem tw_476 : Jvm.Cond.methodLink "QuireSigns" (127 : Nat) ({ cls := "QuireSigns$Book", name := "turnLost", desc := "(I)V" } : Jvm.MethodName) ∈ gw := gw_at 476 rfl rfl
set_option maxRecDepth 100000 in
theorem tw_477 : Jvm.Cond.instanceMethod ({ cls := "QuireSigns$Book", name := "turnLost", desc := "(I)V" } : Jvm.MethodName) ∈ gw := gw_at 477 rfl rfl
set_option maxRecDepth 100000 in
theorem tw_478 : Jvm.Cond.selects "QuireSigns$Book" ({ cls := "QuireSigns$Book", name := "turnLost", desc := "(I)V" } : Jvm.MethodName) ({ cls := "QuireSigns$Book", name := "turnLost", desc := "(I)V" } : Jvm.MethodName) ∈ gw := gw_at 478 rfl rfl
set_option maxRecDepth 100000 in
theorem tw_479 : Jvm.Cond.code ({ cls := "QuireSigns$Book", name := "turnLost", desc := "(I)V" } : Jvm.MethodName) prog_3_method_18_code (3 : Nat) (Option.none : Option Jvm.ClassFile.FieldType) ∈ gw := gw_at 479 rfl rfl
set_option maxRecDepth 100000 in
theorem tw_480 : Jvm.Cond.methodLink "QuireSigns$Book" (96 : Nat) ({ cls := "QuireSigns$Row", name := "set", desc := "(II)V" } : Jvm.MethodName) ∈ gw := gw_at 480 rfl rfl
set_option maxRecDepth 100000 in
theorem tw_481 : Jvm.Cond.methodLink "QuireSigns" (130 : Nat) ({ cls := "QuireSigns$Book", name := "leavesThere", desc := "()I" } : Jvm.MethodName) ∈ gw := gw_at 481 rfl rfl
set_option maxRecDepth 100000 in
theorem tw_482 : Jvm.Cond.instanceMethod ({ cls := "QuireSigns$Book", name := "leavesThere", desc := "()I" } : Jvm.MethodName) ∈ gw := gw_at 482 rfl rfl
set_option maxRecDepth 100000 in
theorem tw_483 : Jvm.Cond.selects "QuireSigns$Book" ({ cls := "QuireSigns$Book", name := "leavesThere", desc := "()I" } : Jvm.MethodName) ({ cls := "QuireSigns$Book", name := "leavesThere", desc := "()I" } : Jvm.MethodName) ∈ gw := gw_at 483 rfl rfl
set_option maxRecDepth 100000 in
theorem tw_484 : Jvm.Cond.code ({ cls := "QuireSigns$Book", name := "leavesThere", desc := "()I" } : Jvm.MethodName) prog_3_method_21_code (1 : Nat) (Option.some Jvm.ClassFile.FieldType.int) ∈ gw := gw_at 484 rfl rfl
set_option maxRecDepth 100000 in
theorem tw_485 : Jvm.Cond.methodLink "QuireSigns$Book" (107 : Nat) ({ cls := "QuireSigns$Book", name := "thereAhead", desc := "(I)I" } : Jvm.MethodName) ∈ gw := gw_at 485 rfl rfl
set_option maxRecDepth 100000 in
theorem tw_486 : Jvm.Cond.instanceMethod ({ cls := "QuireSigns$Book", name := "thereAhead", desc := "(I)I" } : Jvm.MethodName) ∈ gw := gw_at 486 rfl rfl
set_option maxRecDepth 100000 in
theorem tw_487 : Jvm.Cond.selects "QuireSigns$Book" ({ cls := "QuireSigns$Book", name := "thereAhead", desc := "(I)I" } : Jvm.MethodName) ({ cls := "QuireSigns$Book", name := "thereAhead", desc := "(I)I" } : Jvm.MethodName) ∈ gw := gw_at 487 rfl rfl
set_option maxRecDepth 100000 in
theorem tw_488 : Jvm.Cond.code ({ cls := "QuireSigns$Book", name := "thereAhead", desc := "(I)I" } : Jvm.MethodName) prog_3_method_20_code (7 : Nat) (Option.some Jvm.ClassFile.FieldType.int) ∈ gw := gw_at 488 rfl rfl
set_option maxRecDepth 100000 in
theorem tw_489 : Jvm.Cond.methodLink "QuireSigns$Book" (104 : Nat) ({ cls := "java/lang/Math", name := "max", desc := "(II)I" } : Jvm.MethodName) ∈ gw := gw_at 489 rfl rfl
set_option maxRecDepth 100000 in
theorem tw_490 : Jvm.Cond.methodLink "QuireSigns$Book" (99 : Nat) ({ cls := "java/lang/Integer", name := "bitCount", desc := "(I)I" } : Jvm.MethodName) ∈ gw := gw_at 490 rfl rfl
set_option maxRecDepth 100000 in
theorem tw_491 : Jvm.Cond.methodLink "QuireSignsLaw" (46 : Nat) ({ cls := "QuireSigns", name := "readPile", desc := "()I" } : Jvm.MethodName) ∈ gw := gw_at 491 rfl rfl
set_option maxRecDepth 100000 in
theorem tw_492 : Jvm.Cond.instanceMethod ({ cls := "QuireSigns", name := "readPile", desc := "()I" } : Jvm.MethodName) ∈ gw := gw_at 492 rfl rfl
set_option maxRecDepth 100000 in
theorem tw_493 : Jvm.Cond.selects "QuireSigns" ({ cls := "QuireSigns", name := "readPile", desc := "()I" } : Jvm.MethodName) ({ cls := "QuireSigns", name := "readPile", desc := "()I" } : Jvm.MethodName) ∈ gw := gw_at 493 rfl rfl
set_option maxRecDepth 100000 in
theorem tw_494 : Jvm.Cond.code ({ cls := "QuireSigns", name := "readPile", desc := "()I" } : Jvm.MethodName) prog_1_method_9_code (3 : Nat) (Option.some Jvm.ClassFile.FieldType.int) ∈ gw := gw_at 494 rfl rfl
set_option maxRecDepth 100000 in
theorem tw_495 : Jvm.Cond.methodLink "QuireSigns" (133 : Nat) ({ cls := "QuireSigns$Text", name := "readAsPile", desc := "()I" } : Jvm.MethodName) ∈ gw := gw_at 495 rfl rfl
set_option maxRecDepth 100000 in
theorem tw_496 : Jvm.Cond.instanceMethod ({ cls := "QuireSigns$Text", name := "readAsPile", desc := "()I" } : Jvm.MethodName) ∈ gw := gw_at 496 rfl rfl
set_option maxRecDepth 100000 in
theorem tw_497 : Jvm.Cond.selects "QuireSigns$Text" ({ cls := "QuireSigns$Text", name := "readAsPile", desc := "()I" } : Jvm.MethodName) ({ cls := "QuireSigns$Text", name := "readAsPile", desc := "()I" } : Jvm.MethodName) ∈ gw := gw_at 497 rfl rfl
set_option maxRecDepth 100000 in
theorem tw_498 : Jvm.Cond.code ({ cls := "QuireSigns$Text", name := "readAsPile", desc := "()I" } : Jvm.MethodName) prog_8_method_10_code (1 : Nat) (Option.some Jvm.ClassFile.FieldType.int) ∈ gw := gw_at 498 rfl rfl
set_option maxRecDepth 100000 in
theorem tw_499 : Jvm.Cond.methodLink "QuireSigns" (136 : Nat) ({ cls := "QuireSigns", name := "findLeavesOfText", desc := "()Z" } : Jvm.MethodName) ∈ gw := gw_at 499 rfl rfl
set_option maxRecDepth 100000 in
theorem tw_501 : Jvm.Cond.instanceMethod ({ cls := "QuireSigns", name := "findLeavesOfText", desc := "()Z" } : Jvm.MethodName) ∈ gw := gw_at 501 rfl rfl
set_option maxRecDepth 100000 in
theorem tw_502 : Jvm.Cond.code ({ cls := "QuireSigns", name := "findLeavesOfText", desc := "()Z" } : Jvm.MethodName) prog_1_method_26_code (3 : Nat) (Option.some Jvm.ClassFile.FieldType.boolean) ∈ gw := gw_at 502 rfl rfl
set_option maxRecDepth 100000 in
theorem tw_503 : Jvm.Cond.methodLink "QuireSigns" (149 : Nat) ({ cls := "QuireSigns$Row", name := "empty", desc := "()V" } : Jvm.MethodName) ∈ gw := gw_at 503 rfl rfl
set_option maxRecDepth 100000 in
theorem tw_504 : Jvm.Cond.methodLink "QuireSigns" (222 : Nat) ({ cls := "QuireSigns$Book", name := "leafSigned", desc := "(II)I" } : Jvm.MethodName) ∈ gw := gw_at 504 rfl rfl
set_option maxRecDepth 100000 in
theorem tw_505 : Jvm.Cond.instanceMethod ({ cls := "QuireSigns$Book", name := "leafSigned", desc := "(II)I" } : Jvm.MethodName) ∈ gw := gw_at 505 rfl rfl
set_option maxRecDepth 100000 in
theorem tw_506 : Jvm.Cond.selects "QuireSigns$Book" ({ cls := "QuireSigns$Book", name := "leafSigned", desc := "(II)I" } : Jvm.MethodName) ({ cls := "QuireSigns$Book", name := "leafSigned", desc := "(II)I" } : Jvm.MethodName) ∈ gw := gw_at 506 rfl rfl
set_option maxRecDepth 100000 in
theorem tw_507 : Jvm.Cond.code ({ cls := "QuireSigns$Book", name := "leafSigned", desc := "(II)I" } : Jvm.MethodName) prog_3_method_22_code (4 : Nat) (Option.some Jvm.ClassFile.FieldType.int) ∈ gw := gw_at 507 rfl rfl
set_option maxRecDepth 100000 in
theorem tw_508 : Jvm.Cond.methodLink "QuireSigns" (258 : Nat) ({ cls := "QuireSigns$Row", name := "add", desc := "(I)V" } : Jvm.MethodName) ∈ gw := gw_at 508 rfl rfl
set_option maxRecDepth 100000 in
theorem tw_509 : Jvm.Cond.methodLink "QuireSigns" (140 : Nat) ({ cls := "QuireSigns", name := "allFoundThereOnce", desc := "()Z" } : Jvm.MethodName) ∈ gw := gw_at 509 rfl rfl
set_option maxRecDepth 100000 in
theorem tw_511 : Jvm.Cond.instanceMethod ({ cls := "QuireSigns", name := "allFoundThereOnce", desc := "()Z" } : Jvm.MethodName) ∈ gw := gw_at 511 rfl rfl
set_option maxRecDepth 100000 in
theorem tw_512 : Jvm.Cond.code ({ cls := "QuireSigns", name := "allFoundThereOnce", desc := "()Z" } : Jvm.MethodName) prog_1_method_27_code (3 : Nat) (Option.some Jvm.ClassFile.FieldType.boolean) ∈ gw := gw_at 512 rfl rfl
set_option maxRecDepth 100000 in
theorem tw_513 : Jvm.Cond.methodLink "QuireSigns" (143 : Nat) ({ cls := "QuireSigns$Row", name := "length", desc := "()I" } : Jvm.MethodName) ∈ gw := gw_at 513 rfl rfl
set_option maxRecDepth 100000 in
theorem tw_514 : Jvm.Cond.methodLink "QuireSigns" (152 : Nat) ({ cls := "QuireSigns$Row", name := "at", desc := "(I)I" } : Jvm.MethodName) ∈ gw := gw_at 514 rfl rfl
set_option maxRecDepth 100000 in
theorem tw_515 : Jvm.Cond.methodLink "QuireSigns" (260 : Nat) ({ cls := "QuireSigns$Row", name := "firstIndexOf", desc := "(I)I" } : Jvm.MethodName) ∈ gw := gw_at 515 rfl rfl
set_option maxRecDepth 100000 in
theorem tw_516 : Jvm.Cond.instanceMethod ({ cls := "QuireSigns$Row", name := "firstIndexOf", desc := "(I)I" } : Jvm.MethodName) ∈ gw := gw_at 516 rfl rfl
set_option maxRecDepth 100000 in
theorem tw_517 : Jvm.Cond.selects "QuireSigns$Row" ({ cls := "QuireSigns$Row", name := "firstIndexOf", desc := "(I)I" } : Jvm.MethodName) ({ cls := "QuireSigns$Row", name := "firstIndexOf", desc := "(I)I" } : Jvm.MethodName) ∈ gw := gw_at 517 rfl rfl
set_option maxRecDepth 100000 in
theorem tw_518 : Jvm.Cond.code ({ cls := "QuireSigns$Row", name := "firstIndexOf", desc := "(I)I" } : Jvm.MethodName) prog_6_method_4_code (3 : Nat) (Option.some Jvm.ClassFile.FieldType.int) ∈ gw := gw_at 518 rfl rfl
set_option maxRecDepth 100000 in
theorem tw_519 : Jvm.Cond.methodLink "QuireSigns" (155 : Nat) ({ cls := "QuireSigns$Book", name := "addToPile", desc := "(I)V" } : Jvm.MethodName) ∈ gw := gw_at 519 rfl rfl
set_option maxRecDepth 100000 in
theorem tw_520 : Jvm.Cond.instanceMethod ({ cls := "QuireSigns$Book", name := "addToPile", desc := "(I)V" } : Jvm.MethodName) ∈ gw := gw_at 520 rfl rfl
set_option maxRecDepth 100000 in
theorem tw_521 : Jvm.Cond.selects "QuireSigns$Book" ({ cls := "QuireSigns$Book", name := "addToPile", desc := "(I)V" } : Jvm.MethodName) ({ cls := "QuireSigns$Book", name := "addToPile", desc := "(I)V" } : Jvm.MethodName) ∈ gw := gw_at 521 rfl rfl
set_option maxRecDepth 100000 in
theorem tw_522 : Jvm.Cond.code ({ cls := "QuireSigns$Book", name := "addToPile", desc := "(I)V" } : Jvm.MethodName) prog_3_method_23_code (3 : Nat) (Option.none : Option Jvm.ClassFile.FieldType) ∈ gw := gw_at 522 rfl rfl
set_option maxRecDepth 100000 in
theorem tw_523 : Jvm.Cond.methodLink "QuireSignsLaw" (50 : Nat) ({ cls := "QuireSigns", name := "type", desc := "(C)I" } : Jvm.MethodName) ∈ gw := gw_at 523 rfl rfl
set_option maxRecDepth 100000 in
theorem tw_524 : Jvm.Cond.instanceMethod ({ cls := "QuireSigns", name := "type", desc := "(C)I" } : Jvm.MethodName) ∈ gw := gw_at 524 rfl rfl
set_option maxRecDepth 100000 in
theorem tw_525 : Jvm.Cond.selects "QuireSigns" ({ cls := "QuireSigns", name := "type", desc := "(C)I" } : Jvm.MethodName) ({ cls := "QuireSigns", name := "type", desc := "(C)I" } : Jvm.MethodName) ∈ gw := gw_at 525 rfl rfl
set_option maxRecDepth 100000 in
theorem tw_526 : Jvm.Cond.code ({ cls := "QuireSigns", name := "type", desc := "(C)I" } : Jvm.MethodName) prog_1_method_10_code (2 : Nat) (Option.some Jvm.ClassFile.FieldType.int) ∈ gw := gw_at 526 rfl rfl
set_option maxRecDepth 100000 in
theorem tw_527 : Jvm.Cond.methodLink "QuireSigns" (158 : Nat) ({ cls := "QuireSigns$Text", name := "length", desc := "()I" } : Jvm.MethodName) ∈ gw := gw_at 527 rfl rfl
set_option maxRecDepth 100000 in
theorem tw_528 : Jvm.Cond.instanceMethod ({ cls := "QuireSigns$Text", name := "length", desc := "()I" } : Jvm.MethodName) ∈ gw := gw_at 528 rfl rfl
set_option maxRecDepth 100000 in
theorem tw_529 : Jvm.Cond.selects "QuireSigns$Text" ({ cls := "QuireSigns$Text", name := "length", desc := "()I" } : Jvm.MethodName) ({ cls := "QuireSigns$Text", name := "length", desc := "()I" } : Jvm.MethodName) ∈ gw := gw_at 529 rfl rfl
set_option maxRecDepth 100000 in
theorem tw_530 : Jvm.Cond.code ({ cls := "QuireSigns$Text", name := "length", desc := "()I" } : Jvm.MethodName) prog_8_method_2_code (1 : Nat) (Option.some Jvm.ClassFile.FieldType.int) ∈ gw := gw_at 530 rfl rfl
set_option maxRecDepth 100000 in
theorem tw_531 : Jvm.Cond.methodLink "QuireSigns" (159 : Nat) ({ cls := "QuireSigns$Text", name := "add", desc := "(C)V" } : Jvm.MethodName) ∈ gw := gw_at 531 rfl rfl
set_option maxRecDepth 100000 in
theorem tw_532 : Jvm.Cond.instanceMethod ({ cls := "QuireSigns$Text", name := "add", desc := "(C)V" } : Jvm.MethodName) ∈ gw := gw_at 532 rfl rfl
set_option maxRecDepth 100000 in
theorem tw_533 : Jvm.Cond.selects "QuireSigns$Text" ({ cls := "QuireSigns$Text", name := "add", desc := "(C)V" } : Jvm.MethodName) ({ cls := "QuireSigns$Text", name := "add", desc := "(C)V" } : Jvm.MethodName) ∈ gw := gw_at 533 rfl rfl
set_option maxRecDepth 100000 in
theorem tw_534 : Jvm.Cond.code ({ cls := "QuireSigns$Text", name := "add", desc := "(C)V" } : Jvm.MethodName) prog_8_method_3_code (2 : Nat) (Option.none : Option Jvm.ClassFile.FieldType) ∈ gw := gw_at 534 rfl rfl
set_option maxRecDepth 100000 in
theorem tw_535 : Jvm.Cond.methodLink "QuireSignsLaw" (55 : Nat) ({ cls := "QuireSigns", name := "clearText", desc := "()I" } : Jvm.MethodName) ∈ gw := gw_at 535 rfl rfl
set_option maxRecDepth 100000 in
theorem tw_536 : Jvm.Cond.instanceMethod ({ cls := "QuireSigns", name := "clearText", desc := "()I" } : Jvm.MethodName) ∈ gw := gw_at 536 rfl rfl
set_option maxRecDepth 100000 in
theorem tw_537 : Jvm.Cond.selects "QuireSigns" ({ cls := "QuireSigns", name := "clearText", desc := "()I" } : Jvm.MethodName) ({ cls := "QuireSigns", name := "clearText", desc := "()I" } : Jvm.MethodName) ∈ gw := gw_at 537 rfl rfl
set_option maxRecDepth 100000 in
theorem tw_538 : Jvm.Cond.code ({ cls := "QuireSigns", name := "clearText", desc := "()I" } : Jvm.MethodName) prog_1_method_11_code (2 : Nat) (Option.some Jvm.ClassFile.FieldType.int) ∈ gw := gw_at 538 rfl rfl
set_option maxRecDepth 100000 in
theorem tw_539 : Jvm.Cond.methodLink "QuireSigns" (163 : Nat) ({ cls := "QuireSigns$Text", name := "empty", desc := "()V" } : Jvm.MethodName) ∈ gw := gw_at 539 rfl rfl
set_option maxRecDepth 100000 in
theorem tw_540 : Jvm.Cond.instanceMethod ({ cls := "QuireSigns$Text", name := "empty", desc := "()V" } : Jvm.MethodName) ∈ gw := gw_at 540 rfl rfl
set_option maxRecDepth 100000 in
theorem tw_541 : Jvm.Cond.selects "QuireSigns$Text" ({ cls := "QuireSigns$Text", name := "empty", desc := "()V" } : Jvm.MethodName) ({ cls := "QuireSigns$Text", name := "empty", desc := "()V" } : Jvm.MethodName) ∈ gw := gw_at 541 rfl rfl
set_option maxRecDepth 100000 in
theorem tw_542 : Jvm.Cond.code ({ cls := "QuireSigns$Text", name := "empty", desc := "()V" } : Jvm.MethodName) prog_8_method_4_code (1 : Nat) (Option.none : Option Jvm.ClassFile.FieldType) ∈ gw := gw_at 542 rfl rfl
set_option maxRecDepth 100000 in
theorem tw_543 : Jvm.Cond.methodLink "QuireSignsLaw" (59 : Nat) ({ cls := "QuireSigns", name := "undo", desc := "()I" } : Jvm.MethodName) ∈ gw := gw_at 543 rfl rfl
set_option maxRecDepth 100000 in
theorem tw_544 : Jvm.Cond.instanceMethod ({ cls := "QuireSigns", name := "undo", desc := "()I" } : Jvm.MethodName) ∈ gw := gw_at 544 rfl rfl
set_option maxRecDepth 100000 in
theorem tw_545 : Jvm.Cond.selects "QuireSigns" ({ cls := "QuireSigns", name := "undo", desc := "()I" } : Jvm.MethodName) ({ cls := "QuireSigns", name := "undo", desc := "()I" } : Jvm.MethodName) ∈ gw := gw_at 545 rfl rfl
set_option maxRecDepth 100000 in
theorem tw_546 : Jvm.Cond.code ({ cls := "QuireSigns", name := "undo", desc := "()I" } : Jvm.MethodName) prog_1_method_12_code (1 : Nat) (Option.some Jvm.ClassFile.FieldType.int) ∈ gw := gw_at 546 rfl rfl
set_option maxRecDepth 100000 in
theorem tw_547 : Jvm.Cond.methodLink "QuireSigns" (164 : Nat) ({ cls := "QuireSigns$History", name := "states", desc := "()I" } : Jvm.MethodName) ∈ gw := gw_at 547 rfl rfl
set_option maxRecDepth 100000 in
theorem tw_548 : Jvm.Cond.instanceMethod ({ cls := "QuireSigns$History", name := "states", desc := "()I" } : Jvm.MethodName) ∈ gw := gw_at 548 rfl rfl
set_option maxRecDepth 100000 in
theorem tw_549 : Jvm.Cond.selects "QuireSigns$History" ({ cls := "QuireSigns$History", name := "states", desc := "()I" } : Jvm.MethodName) ({ cls := "QuireSigns$History", name := "states", desc := "()I" } : Jvm.MethodName) ∈ gw := gw_at 549 rfl rfl
set_option maxRecDepth 100000 in
theorem tw_550 : Jvm.Cond.code ({ cls := "QuireSigns$History", name := "states", desc := "()I" } : Jvm.MethodName) prog_4_method_2_code (1 : Nat) (Option.some Jvm.ClassFile.FieldType.int) ∈ gw := gw_at 550 rfl rfl
set_option maxRecDepth 100000 in
theorem tw_551 : Jvm.Cond.methodLink "QuireSigns" (167 : Nat) ({ cls := "QuireSigns$History", name := "takeBack", desc := "(LQuireSigns$Book;)V" } : Jvm.MethodName) ∈ gw := gw_at 551 rfl rfl
set_option maxRecDepth 100000 in
theorem tw_552 : Jvm.Cond.instanceMethod ({ cls := "QuireSigns$History", name := "takeBack", desc := "(LQuireSigns$Book;)V" } : Jvm.MethodName) ∈ gw := gw_at 552 rfl rfl
set_option maxRecDepth 100000 in
theorem tw_553 : Jvm.Cond.selects "QuireSigns$History" ({ cls := "QuireSigns$History", name := "takeBack", desc := "(LQuireSigns$Book;)V" } : Jvm.MethodName) ({ cls := "QuireSigns$History", name := "takeBack", desc := "(LQuireSigns$Book;)V" } : Jvm.MethodName) ∈ gw := gw_at 553 rfl rfl
set_option maxRecDepth 100000 in
theorem tw_554 : Jvm.Cond.code ({ cls := "QuireSigns$History", name := "takeBack", desc := "(LQuireSigns$Book;)V" } : Jvm.MethodName) prog_4_method_4_code (3 : Nat) (Option.none : Option Jvm.ClassFile.FieldType) ∈ gw := gw_at 554 rfl rfl
set_option maxRecDepth 100000 in
theorem tw_555 : Jvm.Cond.methodLink "QuireSignsLaw" (63 : Nat) ({ cls := "QuireSigns", name := "keep", desc := "()I" } : Jvm.MethodName) ∈ gw := gw_at 555 rfl rfl
set_option maxRecDepth 100000 in
theorem tw_556 : Jvm.Cond.instanceMethod ({ cls := "QuireSigns", name := "keep", desc := "()I" } : Jvm.MethodName) ∈ gw := gw_at 556 rfl rfl
set_option maxRecDepth 100000 in
theorem tw_557 : Jvm.Cond.selects "QuireSigns" ({ cls := "QuireSigns", name := "keep", desc := "()I" } : Jvm.MethodName) ({ cls := "QuireSigns", name := "keep", desc := "()I" } : Jvm.MethodName) ∈ gw := gw_at 557 rfl rfl
set_option maxRecDepth 100000 in
theorem tw_558 : Jvm.Cond.code ({ cls := "QuireSigns", name := "keep", desc := "()I" } : Jvm.MethodName) prog_1_method_13_code (1 : Nat) (Option.some Jvm.ClassFile.FieldType.int) ∈ gw := gw_at 558 rfl rfl
set_option maxRecDepth 100000 in
theorem tw_559 : Jvm.Cond.methodLink "QuireSigns" (170 : Nat) ({ cls := "QuireSigns$Book", name := "become", desc := "(LQuireSigns$Book;)V" } : Jvm.MethodName) ∈ gw := gw_at 559 rfl rfl
set_option maxRecDepth 100000 in
theorem tw_560 : Jvm.Cond.methodLink "QuireSignsLaw" (67 : Nat) ({ cls := "QuireSigns", name := "restore", desc := "()I" } : Jvm.MethodName) ∈ gw := gw_at 560 rfl rfl
set_option maxRecDepth 100000 in
theorem tw_561 : Jvm.Cond.instanceMethod ({ cls := "QuireSigns", name := "restore", desc := "()I" } : Jvm.MethodName) ∈ gw := gw_at 561 rfl rfl
set_option maxRecDepth 100000 in
theorem tw_562 : Jvm.Cond.selects "QuireSigns" ({ cls := "QuireSigns", name := "restore", desc := "()I" } : Jvm.MethodName) ({ cls := "QuireSigns", name := "restore", desc := "()I" } : Jvm.MethodName) ∈ gw := gw_at 562 rfl rfl
set_option maxRecDepth 100000 in
theorem tw_563 : Jvm.Cond.code ({ cls := "QuireSigns", name := "restore", desc := "()I" } : Jvm.MethodName) prog_1_method_14_code (1 : Nat) (Option.some Jvm.ClassFile.FieldType.int) ∈ gw := gw_at 563 rfl rfl
set_option maxRecDepth 100000 in
theorem tw_564 : Jvm.Cond.methodLink "QuireSignsLaw" (71 : Nat) ({ cls := "QuireSigns", name := "quire", desc := "(II)I" } : Jvm.MethodName) ∈ gw := gw_at 564 rfl rfl
set_option maxRecDepth 100000 in
theorem tw_565 : Jvm.Cond.instanceMethod ({ cls := "QuireSigns", name := "quire", desc := "(II)I" } : Jvm.MethodName) ∈ gw := gw_at 565 rfl rfl
set_option maxRecDepth 100000 in
theorem tw_566 : Jvm.Cond.selects "QuireSigns" ({ cls := "QuireSigns", name := "quire", desc := "(II)I" } : Jvm.MethodName) ({ cls := "QuireSigns", name := "quire", desc := "(II)I" } : Jvm.MethodName) ∈ gw := gw_at 566 rfl rfl
set_option maxRecDepth 100000 in
theorem tw_567 : Jvm.Cond.code ({ cls := "QuireSigns", name := "quire", desc := "(II)I" } : Jvm.MethodName) prog_1_method_15_code (4 : Nat) (Option.some Jvm.ClassFile.FieldType.int) ∈ gw := gw_at 567 rfl rfl
set_option maxRecDepth 100000 in
theorem tw_568 : Jvm.Cond.methodLink "QuireSigns" (180 : Nat) ({ cls := "QuireSigns$Sign", name := "times", desc := "(I)I" } : Jvm.MethodName) ∈ gw := gw_at 568 rfl rfl
set_option maxRecDepth 100000 in
theorem tw_569 : Jvm.Cond.methodLink "QuireSigns" (183 : Nat) ({ cls := "QuireSigns$Sign", name := "isStarred", desc := "(I)Z" } : Jvm.MethodName) ∈ gw := gw_at 569 rfl rfl
set_option maxRecDepth 100000 in
theorem tw_570 : Jvm.Cond.methodLink "QuireSigns" (192 : Nat) ({ cls := "QuireSigns$Book", name := "firstLeaf", desc := "(I)I" } : Jvm.MethodName) ∈ gw := gw_at 570 rfl rfl
set_option maxRecDepth 100000 in
theorem tw_571 : Jvm.Cond.methodLink "QuireSigns" (195 : Nat) ({ cls := "QuireSigns$Book", name := "signedIn", desc := "(I)I" } : Jvm.MethodName) ∈ gw := gw_at 571 rfl rfl
set_option maxRecDepth 100000 in
theorem tw_572 : Jvm.Cond.methodLink "QuireSigns" (198 : Nat) ({ cls := "QuireSigns$Book", name := "thereIn", desc := "(I)I" } : Jvm.MethodName) ∈ gw := gw_at 572 rfl rfl
set_option maxRecDepth 100000 in
theorem tw_573 : Jvm.Cond.instanceMethod ({ cls := "QuireSigns$Book", name := "thereIn", desc := "(I)I" } : Jvm.MethodName) ∈ gw := gw_at 573 rfl rfl
set_option maxRecDepth 100000 in
theorem tw_574 : Jvm.Cond.selects "QuireSigns$Book" ({ cls := "QuireSigns$Book", name := "thereIn", desc := "(I)I" } : Jvm.MethodName) ({ cls := "QuireSigns$Book", name := "thereIn", desc := "(I)I" } : Jvm.MethodName) ∈ gw := gw_at 574 rfl rfl
set_option maxRecDepth 100000 in
theorem tw_575 : Jvm.Cond.code ({ cls := "QuireSigns$Book", name := "thereIn", desc := "(I)I" } : Jvm.MethodName) prog_3_method_19_code (2 : Nat) (Option.some Jvm.ClassFile.FieldType.int) ∈ gw := gw_at 575 rfl rfl
set_option maxRecDepth 100000 in
theorem tw_576 : Jvm.Cond.methodLink "QuireSigns" (201 : Nat) ({ cls := "QuireSigns$Book", name := "sameAhead", desc := "(I)I" } : Jvm.MethodName) ∈ gw := gw_at 576 rfl rfl
set_option maxRecDepth 100000 in
theorem tw_577 : Jvm.Cond.instanceMethod ({ cls := "QuireSigns$Book", name := "sameAhead", desc := "(I)I" } : Jvm.MethodName) ∈ gw := gw_at 577 rfl rfl
set_option maxRecDepth 100000 in
theorem tw_578 : Jvm.Cond.selects "QuireSigns$Book" ({ cls := "QuireSigns$Book", name := "sameAhead", desc := "(I)I" } : Jvm.MethodName) ({ cls := "QuireSigns$Book", name := "sameAhead", desc := "(I)I" } : Jvm.MethodName) ∈ gw := gw_at 578 rfl rfl
set_option maxRecDepth 100000 in
theorem tw_579 : Jvm.Cond.code ({ cls := "QuireSigns$Book", name := "sameAhead", desc := "(I)I" } : Jvm.MethodName) prog_3_method_8_code (4 : Nat) (Option.some Jvm.ClassFile.FieldType.int) ∈ gw := gw_at 579 rfl rfl
set_option maxRecDepth 100000 in
theorem tw_580 : Jvm.Cond.methodLink "QuireSignsLaw" (76 : Nat) ({ cls := "QuireSigns", name := "leaf", desc := "(II)I" } : Jvm.MethodName) ∈ gw := gw_at 580 rfl rfl
set_option maxRecDepth 100000 in
theorem tw_581 : Jvm.Cond.instanceMethod ({ cls := "QuireSigns", name := "leaf", desc := "(II)I" } : Jvm.MethodName) ∈ gw := gw_at 581 rfl rfl
set_option maxRecDepth 100000 in
theorem tw_582 : Jvm.Cond.selects "QuireSigns" ({ cls := "QuireSigns", name := "leaf", desc := "(II)I" } : Jvm.MethodName) ({ cls := "QuireSigns", name := "leaf", desc := "(II)I" } : Jvm.MethodName) ∈ gw := gw_at 582 rfl rfl
set_option maxRecDepth 100000 in
theorem tw_583 : Jvm.Cond.code ({ cls := "QuireSigns", name := "leaf", desc := "(II)I" } : Jvm.MethodName) prog_1_method_16_code (5 : Nat) (Option.some Jvm.ClassFile.FieldType.int) ∈ gw := gw_at 583 rfl rfl
set_option maxRecDepth 100000 in
theorem tw_584 : Jvm.Cond.methodLink "QuireSigns" (204 : Nat) ({ cls := "QuireSigns$Book", name := "quireOf", desc := "(I)I" } : Jvm.MethodName) ∈ gw := gw_at 584 rfl rfl
set_option maxRecDepth 100000 in
theorem tw_585 : Jvm.Cond.methodLink "QuireSigns" (207 : Nat) ({ cls := "QuireSigns$Book", name := "numberOf", desc := "(I)I" } : Jvm.MethodName) ∈ gw := gw_at 585 rfl rfl
set_option maxRecDepth 100000 in
theorem tw_586 : Jvm.Cond.methodLink "QuireSigns" (210 : Nat) ({ cls := "QuireSigns", name := "leafHangingWith", desc := "(I)I" } : Jvm.MethodName) ∈ gw := gw_at 586 rfl rfl
set_option maxRecDepth 100000 in
theorem tw_588 : Jvm.Cond.instanceMethod ({ cls := "QuireSigns", name := "leafHangingWith", desc := "(I)I" } : Jvm.MethodName) ∈ gw := gw_at 588 rfl rfl
set_option maxRecDepth 100000 in
theorem tw_589 : Jvm.Cond.code ({ cls := "QuireSigns", name := "leafHangingWith", desc := "(I)I" } : Jvm.MethodName) prog_1_method_28_code (5 : Nat) (Option.some Jvm.ClassFile.FieldType.int) ∈ gw := gw_at 589 rfl rfl
set_option maxRecDepth 100000 in
theorem tw_590 : Jvm.Cond.methodLink "QuireSigns" (213 : Nat) ({ cls := "QuireSigns$Book", name := "thereAhead", desc := "(I)I" } : Jvm.MethodName) ∈ gw := gw_at 590 rfl rfl
set_option maxRecDepth 100000 in
theorem tw_591 : Jvm.Cond.methodLink "QuireSignsLaw" (80 : Nat) ({ cls := "QuireSigns", name := "find", desc := "()I" } : Jvm.MethodName) ∈ gw := gw_at 591 rfl rfl
set_option maxRecDepth 100000 in
theorem tw_592 : Jvm.Cond.instanceMethod ({ cls := "QuireSigns", name := "find", desc := "()I" } : Jvm.MethodName) ∈ gw := gw_at 592 rfl rfl
set_option maxRecDepth 100000 in
theorem tw_593 : Jvm.Cond.selects "QuireSigns" ({ cls := "QuireSigns", name := "find", desc := "()I" } : Jvm.MethodName) ({ cls := "QuireSigns", name := "find", desc := "()I" } : Jvm.MethodName) ∈ gw := gw_at 593 rfl rfl
set_option maxRecDepth 100000 in
theorem tw_594 : Jvm.Cond.code ({ cls := "QuireSigns", name := "find", desc := "()I" } : Jvm.MethodName) prog_1_method_17_code (3 : Nat) (Option.some Jvm.ClassFile.FieldType.int) ∈ gw := gw_at 594 rfl rfl
set_option maxRecDepth 100000 in
theorem tw_595 : Jvm.Cond.methodLink "QuireSignsLaw" (84 : Nat) ({ cls := "QuireSigns", name := "lapse", desc := "(II)I" } : Jvm.MethodName) ∈ gw := gw_at 595 rfl rfl
set_option maxRecDepth 100000 in
theorem tw_596 : Jvm.Cond.instanceMethod ({ cls := "QuireSigns", name := "lapse", desc := "(II)I" } : Jvm.MethodName) ∈ gw := gw_at 596 rfl rfl
set_option maxRecDepth 100000 in
theorem tw_597 : Jvm.Cond.selects "QuireSigns" ({ cls := "QuireSigns", name := "lapse", desc := "(II)I" } : Jvm.MethodName) ({ cls := "QuireSigns", name := "lapse", desc := "(II)I" } : Jvm.MethodName) ∈ gw := gw_at 597 rfl rfl
set_option maxRecDepth 100000 in
theorem tw_598 : Jvm.Cond.code ({ cls := "QuireSigns", name := "lapse", desc := "(II)I" } : Jvm.MethodName) prog_1_method_18_code (4 : Nat) (Option.some Jvm.ClassFile.FieldType.int) ∈ gw := gw_at 598 rfl rfl
set_option maxRecDepth 100000 in
theorem tw_599 : Jvm.Cond.methodLink "QuireSigns" (226 : Nat) ({ cls := "QuireSigns$Lapses", name := "quireAt", desc := "(LQuireSigns$Book;I)I" } : Jvm.MethodName) ∈ gw := gw_at 599 rfl rfl
set_option maxRecDepth 100000 in
theorem tw_600 : Jvm.Cond.static ({ cls := "QuireSigns$Lapses", name := "quireAt", desc := "(LQuireSigns$Book;I)I" } : Jvm.MethodName) ∈ gw := gw_at 600 rfl rfl
set_option maxRecDepth 100000 in
theorem tw_601 : Jvm.Cond.code ({ cls := "QuireSigns$Lapses", name := "quireAt", desc := "(LQuireSigns$Book;I)I" } : Jvm.MethodName) prog_5_method_5_code (4 : Nat) (Option.some Jvm.ClassFile.FieldType.int) ∈ gw := gw_at 601 rfl rfl
set_option maxRecDepth 100000 in
theorem tw_602 : Jvm.Cond.methodLink "QuireSigns$Lapses" (47 : Nat) ({ cls := "QuireSigns$Book", name := "quires", desc := "()I" } : Jvm.MethodName) ∈ gw := gw_at 602 rfl rfl
set_option maxRecDepth 100000 in
theorem tw_603 : Jvm.Cond.methodLink "QuireSigns$Lapses" (39 : Nat) ({ cls := "QuireSigns$Lapses", name := "kind", desc := "(LQuireSigns$Book;I)I" } : Jvm.MethodName) ∈ gw := gw_at 603 rfl rfl
set_option maxRecDepth 100000 in
theorem tw_604 : Jvm.Cond.static ({ cls := "QuireSigns$Lapses", name := "kind", desc := "(LQuireSigns$Book;I)I" } : Jvm.MethodName) ∈ gw := gw_at 604 rfl rfl
set_option maxRecDepth 100000 in
theorem tw_605 : Jvm.Cond.code ({ cls := "QuireSigns$Lapses", name := "kind", desc := "(LQuireSigns$Book;I)I" } : Jvm.MethodName) prog_5_method_2_code (4 : Nat) (Option.some Jvm.ClassFile.FieldType.int) ∈ gw := gw_at 605 rfl rfl
set_option maxRecDepth 100000 in
theorem tw_606 : Jvm.Cond.methodLink "QuireSigns$Lapses" (13 : Nat) ({ cls := "QuireSigns$Row", name := "at", desc := "(I)I" } : Jvm.MethodName) ∈ gw := gw_at 606 rfl rfl
set_option maxRecDepth 100000 in
theorem tw_607 : Jvm.Cond.methodLink "QuireSigns$Lapses" (19 : Nat) ({ cls := "QuireSigns$Book", name := "lastLettersAhead", desc := "(I)I" } : Jvm.MethodName) ∈ gw := gw_at 607 rfl rfl
set_option maxRecDepth 100000 in
theorem tw_608 : Jvm.Cond.methodLink "QuireSigns$Lapses" (22 : Nat) ({ cls := "QuireSigns$Sign", name := "isStarred", desc := "(I)Z" } : Jvm.MethodName) ∈ gw := gw_at 608 rfl rfl
set_option maxRecDepth 100000 in
theorem tw_609 : Jvm.Cond.methodLink "QuireSigns$Lapses" (34 : Nat) ({ cls := "QuireSigns$Alphabet", name := "nextSign", desc := "(I)I" } : Jvm.MethodName) ∈ gw := gw_at 609 rfl rfl
set_option maxRecDepth 100000 in
theorem tw_610 : Jvm.Cond.methodLink "QuireSigns" (232 : Nat) ({ cls := "QuireSigns$Lapses", name := "kind", desc := "(LQuireSigns$Book;I)I" } : Jvm.MethodName) ∈ gw := gw_at 610 rfl rfl
set_option maxRecDepth 100000 in
theorem tw_611 : Jvm.Cond.methodLink "QuireSigns" (235 : Nat) ({ cls := "QuireSigns$Lapses", name := "width", desc := "(LQuireSigns$Book;I)I" } : Jvm.MethodName) ∈ gw := gw_at 611 rfl rfl
set_option maxRecDepth 100000 in
theorem tw_612 : Jvm.Cond.static ({ cls := "QuireSigns$Lapses", name := "width", desc := "(LQuireSigns$Book;I)I" } : Jvm.MethodName) ∈ gw := gw_at 612 rfl rfl
set_option maxRecDepth 100000 in
theorem tw_613 : Jvm.Cond.code ({ cls := "QuireSigns$Lapses", name := "width", desc := "(LQuireSigns$Book;I)I" } : Jvm.MethodName) prog_5_method_3_code (2 : Nat) (Option.some Jvm.ClassFile.FieldType.int) ∈ gw := gw_at 613 rfl rfl
set_option maxRecDepth 100000 in
theorem tw_614 : Jvm.Cond.methodLink "QuireSigns$Lapses" (43 : Nat) ({ cls := "QuireSigns$Alphabet", name := "signsBetween", desc := "(II)I" } : Jvm.MethodName) ∈ gw := gw_at 614 rfl rfl
set_option maxRecDepth 100000 in
theorem tw_615 : Jvm.Cond.methodLink "QuireSignsLaw" (88 : Nat) ({ cls := "QuireSigns", name := "piled", desc := "(II)I" } : Jvm.MethodName) ∈ gw := gw_at 615 rfl rfl
set_option maxRecDepth 100000 in
theorem tw_616 : Jvm.Cond.instanceMethod ({ cls := "QuireSigns", name := "piled", desc := "(II)I" } : Jvm.MethodName) ∈ gw := gw_at 616 rfl rfl
set_option maxRecDepth 100000 in
theorem tw_617 : Jvm.Cond.selects "QuireSigns" ({ cls := "QuireSigns", name := "piled", desc := "(II)I" } : Jvm.MethodName) ({ cls := "QuireSigns", name := "piled", desc := "(II)I" } : Jvm.MethodName) ∈ gw := gw_at 617 rfl rfl
set_option maxRecDepth 100000 in
theorem tw_618 : Jvm.Cond.code ({ cls := "QuireSigns", name := "piled", desc := "(II)I" } : Jvm.MethodName) prog_1_method_19_code (4 : Nat) (Option.some Jvm.ClassFile.FieldType.int) ∈ gw := gw_at 618 rfl rfl
set_option maxRecDepth 100000 in
theorem tw_619 : Jvm.Cond.methodLink "QuireSignsLaw" (92 : Nat) ({ cls := "QuireSigns", name := "sheets", desc := "(I)I" } : Jvm.MethodName) ∈ gw := gw_at 619 rfl rfl
set_option maxRecDepth 100000 in
theorem tw_620 : Jvm.Cond.instanceMethod ({ cls := "QuireSigns", name := "sheets", desc := "(I)I" } : Jvm.MethodName) ∈ gw := gw_at 620 rfl rfl
set_option maxRecDepth 100000 in
theorem tw_621 : Jvm.Cond.selects "QuireSigns" ({ cls := "QuireSigns", name := "sheets", desc := "(I)I" } : Jvm.MethodName) ({ cls := "QuireSigns", name := "sheets", desc := "(I)I" } : Jvm.MethodName) ∈ gw := gw_at 621 rfl rfl
set_option maxRecDepth 100000 in
theorem tw_622 : Jvm.Cond.code ({ cls := "QuireSigns", name := "sheets", desc := "(I)I" } : Jvm.MethodName) prog_1_method_20_code (4 : Nat) (Option.some Jvm.ClassFile.FieldType.int) ∈ gw := gw_at 622 rfl rfl
set_option maxRecDepth 100000 in
theorem tw_623 : Jvm.Cond.methodLink "QuireSignsLaw" (96 : Nat) ({ cls := "QuireSigns", name := "formula", desc := "(I)I" } : Jvm.MethodName) ∈ gw := gw_at 623 rfl rfl
set_option maxRecDepth 100000 in
theorem tw_624 : Jvm.Cond.instanceMethod ({ cls := "QuireSigns", name := "formula", desc := "(I)I" } : Jvm.MethodName) ∈ gw := gw_at 624 rfl rfl
set_option maxRecDepth 100000 in
theorem tw_625 : Jvm.Cond.selects "QuireSigns" ({ cls := "QuireSigns", name := "formula", desc := "(I)I" } : Jvm.MethodName) ({ cls := "QuireSigns", name := "formula", desc := "(I)I" } : Jvm.MethodName) ∈ gw := gw_at 625 rfl rfl
set_option maxRecDepth 100000 in
theorem tw_626 : Jvm.Cond.code ({ cls := "QuireSigns", name := "formula", desc := "(I)I" } : Jvm.MethodName) prog_1_method_21_code (2 : Nat) (Option.some Jvm.ClassFile.FieldType.int) ∈ gw := gw_at 626 rfl rfl
set_option maxRecDepth 100000 in
theorem tw_627 : Jvm.Cond.methodLink "QuireSigns" (238 : Nat) ({ cls := "QuireSigns$Writer", name := "write", desc := "(LQuireSigns$Book;)V" } : Jvm.MethodName) ∈ gw := gw_at 627 rfl rfl
set_option maxRecDepth 100000 in
theorem tw_628 : Jvm.Cond.instanceMethod ({ cls := "QuireSigns$Writer", name := "write", desc := "(LQuireSigns$Book;)V" } : Jvm.MethodName) ∈ gw := gw_at 628 rfl rfl
set_option maxRecDepth 100000 in
theorem tw_629 : Jvm.Cond.selects "QuireSigns$Writer" ({ cls := "QuireSigns$Writer", name := "write", desc := "(LQuireSigns$Book;)V" } : Jvm.MethodName) ({ cls := "QuireSigns$Writer", name := "write", desc := "(LQuireSigns$Book;)V" } : Jvm.MethodName) ∈ gw := gw_at 629 rfl rfl
set_option maxRecDepth 100000 in
theorem tw_630 : Jvm.Cond.code ({ cls := "QuireSigns$Writer", name := "write", desc := "(LQuireSigns$Book;)V" } : Jvm.MethodName) prog_9_method_5_code (4 : Nat) (Option.none : Option Jvm.ClassFile.FieldType) ∈ gw := gw_at 630 rfl rfl
set_option maxRecDepth 100000 in
theorem tw_631 : Jvm.Cond.methodLink "QuireSigns$Writer" (32 : Nat) ({ cls := "QuireSigns$Row", name := "empty", desc := "()V" } : Jvm.MethodName) ∈ gw := gw_at 631 rfl rfl
set_option maxRecDepth 100000 in
theorem tw_632 : Jvm.Cond.methodLink "QuireSigns$Writer" (35 : Nat) ({ cls := "QuireSigns$Book", name := "quires", desc := "()I" } : Jvm.MethodName) ∈ gw := gw_at 632 rfl rfl
set_option maxRecDepth 100000 in
theorem tw_633 : Jvm.Cond.methodLink "QuireSigns$Writer" (40 : Nat) ({ cls := "QuireSigns$Writer", name := "goesOn", desc := "(LQuireSigns$Book;I)Z" } : Jvm.MethodName) ∈ gw := gw_at 633 rfl rfl
set_option maxRecDepth 100000 in
theorem tw_634 : Jvm.Cond.static ({ cls := "QuireSigns$Writer", name := "goesOn", desc := "(LQuireSigns$Book;I)Z" } : Jvm.MethodName) ∈ gw := gw_at 634 rfl rfl
set_option maxRecDepth 100000 in
theorem tw_635 : Jvm.Cond.code ({ cls := "QuireSigns$Writer", name := "goesOn", desc := "(LQuireSigns$Book;I)Z" } : Jvm.MethodName) prog_9_method_6_code (4 : Nat) (Option.some Jvm.ClassFile.FieldType.boolean) ∈ gw := gw_at 635 rfl rfl
set_option maxRecDepth 100000 in
theorem tw_636 : Jvm.Cond.methodLink "QuireSigns$Writer" (24 : Nat) ({ cls := "QuireSigns$Row", name := "at", desc := "(I)I" } : Jvm.MethodName) ∈ gw := gw_at 636 rfl rfl
set_option maxRecDepth 100000 in
theorem tw_637 : Jvm.Cond.methodLink "QuireSigns$Writer" (66 : Nat) ({ cls := "QuireSigns$Alphabet", name := "nextSign", desc := "(I)I" } : Jvm.MethodName) ∈ gw := gw_at 637 rfl rfl
set_option maxRecDepth 100000 in
theorem tw_638 : Jvm.Cond.methodLink "QuireSigns$Writer" (71 : Nat) ({ cls := "QuireSigns$Sign", name := "times", desc := "(I)I" } : Jvm.MethodName) ∈ gw := gw_at 638 rfl rfl
set_option maxRecDepth 100000 in
theorem tw_639 : Jvm.Cond.methodLink "QuireSigns$Writer" (47 : Nat) ({ cls := "QuireSigns$Writer", name := "beginEntry", desc := "(I)V" } : Jvm.MethodName) ∈ gw := gw_at 639 rfl rfl
set_option maxRecDepth 100000 in
theorem tw_641 : Jvm.Cond.instanceMethod ({ cls := "QuireSigns$Writer", name := "beginEntry", desc := "(I)V" } : Jvm.MethodName) ∈ gw := gw_at 641 rfl rfl
set_option maxRecDepth 100000 in
theorem tw_642 : Jvm.Cond.code ({ cls := "QuireSigns$Writer", name := "beginEntry", desc := "(I)V" } : Jvm.MethodName) prog_9_method_7_code (2 : Nat) (Option.none : Option Jvm.ClassFile.FieldType) ∈ gw := gw_at 642 rfl rfl
set_option maxRecDepth 100000 in
theorem tw_643 : Jvm.Cond.methodLink "QuireSigns$Writer" (50 : Nat) ({ cls := "QuireSigns$Row", name := "add", desc := "(I)V" } : Jvm.MethodName) ∈ gw := gw_at 643 rfl rfl
set_option maxRecDepth 100000 in
theorem tw_644 : Jvm.Cond.methodLink "QuireSigns$Writer" (53 : Nat) ({ cls := "QuireSigns$Writer", name := "writeSign", desc := "(I)V" } : Jvm.MethodName) ∈ gw := gw_at 644 rfl rfl
set_option maxRecDepth 100000 in
theorem tw_646 : Jvm.Cond.instanceMethod ({ cls := "QuireSigns$Writer", name := "writeSign", desc := "(I)V" } : Jvm.MethodName) ∈ gw := gw_at 646 rfl rfl
set_option maxRecDepth 100000 in
theorem tw_647 : Jvm.Cond.code ({ cls := "QuireSigns$Writer", name := "writeSign", desc := "(I)V" } : Jvm.MethodName) prog_9_method_8_code (4 : Nat) (Option.none : Option Jvm.ClassFile.FieldType) ∈ gw := gw_at 647 rfl rfl
set_option maxRecDepth 100000 in
theorem tw_648 : Jvm.Cond.methodLink "QuireSigns$Writer" (76 : Nat) ({ cls := "QuireSigns$Sign", name := "isStarred", desc := "(I)Z" } : Jvm.MethodName) ∈ gw := gw_at 648 rfl rfl
set_option maxRecDepth 100000 in
theorem tw_649 : Jvm.Cond.methodLink "QuireSigns$Writer" (80 : Nat) ({ cls := "QuireSigns$Sign", name := "letter", desc := "(I)I" } : Jvm.MethodName) ∈ gw := gw_at 649 rfl rfl
set_option maxRecDepth 100000 in
theorem tw_650 : Jvm.Cond.methodLink "QuireSigns$Writer" (59 : Nat) ({ cls := "QuireSigns$Writer", name := "writeNumber", desc := "(I)V" } : Jvm.MethodName) ∈ gw := gw_at 650 rfl rfl
set_option maxRecDepth 100000 in
theorem tw_652 : Jvm.Cond.instanceMethod ({ cls := "QuireSigns$Writer", name := "writeNumber", desc := "(I)V" } : Jvm.MethodName) ∈ gw := gw_at 652 rfl rfl
set_option maxRecDepth 100000 in
theorem tw_653 : Jvm.Cond.code ({ cls := "QuireSigns$Writer", name := "writeNumber", desc := "(I)V" } : Jvm.MethodName) prog_9_method_9_code (2 : Nat) (Option.none : Option Jvm.ClassFile.FieldType) ∈ gw := gw_at 653 rfl rfl
set_option maxRecDepth 100000 in
theorem tw_654 : Jvm.Cond.methodLink "QuireSigns" (241 : Nat) ({ cls := "QuireSigns$Writer", name := "length", desc := "()I" } : Jvm.MethodName) ∈ gw := gw_at 654 rfl rfl
set_option maxRecDepth 100000 in
theorem tw_655 : Jvm.Cond.instanceMethod ({ cls := "QuireSigns$Writer", name := "length", desc := "()I" } : Jvm.MethodName) ∈ gw := gw_at 655 rfl rfl
set_option maxRecDepth 100000 in
theorem tw_656 : Jvm.Cond.selects "QuireSigns$Writer" ({ cls := "QuireSigns$Writer", name := "length", desc := "()I" } : Jvm.MethodName) ({ cls := "QuireSigns$Writer", name := "length", desc := "()I" } : Jvm.MethodName) ∈ gw := gw_at 656 rfl rfl
set_option maxRecDepth 100000 in
theorem tw_657 : Jvm.Cond.code ({ cls := "QuireSigns$Writer", name := "length", desc := "()I" } : Jvm.MethodName) prog_9_method_2_code (1 : Nat) (Option.some Jvm.ClassFile.FieldType.int) ∈ gw := gw_at 657 rfl rfl
set_option maxRecDepth 100000 in
theorem tw_658 : Jvm.Cond.methodLink "QuireSigns$Writer" (20 : Nat) ({ cls := "QuireSigns$Row", name := "length", desc := "()I" } : Jvm.MethodName) ∈ gw := gw_at 658 rfl rfl
set_option maxRecDepth 100000 in
theorem tw_659 : Jvm.Cond.methodLink "QuireSigns" (242 : Nat) ({ cls := "QuireSigns$Writer", name := "characterAt", desc := "(I)I" } : Jvm.MethodName) ∈ gw := gw_at 659 rfl rfl
set_option maxRecDepth 100000 in
theorem tw_660 : Jvm.Cond.instanceMethod ({ cls := "QuireSigns$Writer", name := "characterAt", desc := "(I)I" } : Jvm.MethodName) ∈ gw := gw_at 660 rfl rfl
set_option maxRecDepth 100000 in
theorem tw_661 : Jvm.Cond.selects "QuireSigns$Writer" ({ cls := "QuireSigns$Writer", name := "characterAt", desc := "(I)I" } : Jvm.MethodName) ({ cls := "QuireSigns$Writer", name := "characterAt", desc := "(I)I" } : Jvm.MethodName) ∈ gw := gw_at 661 rfl rfl
set_option maxRecDepth 100000 in
theorem tw_662 : Jvm.Cond.code ({ cls := "QuireSigns$Writer", name := "characterAt", desc := "(I)I" } : Jvm.MethodName) prog_9_method_3_code (2 : Nat) (Option.some Jvm.ClassFile.FieldType.int) ∈ gw := gw_at 662 rfl rfl
set_option maxRecDepth 100000 in
theorem tw_663 : Jvm.Cond.methodLink "QuireSignsLaw" (100 : Nat) ({ cls := "QuireSigns", name := "count", desc := "(I)I" } : Jvm.MethodName) ∈ gw := gw_at 663 rfl rfl
set_option maxRecDepth 100000 in
theorem tw_664 : Jvm.Cond.instanceMethod ({ cls := "QuireSigns", name := "count", desc := "(I)I" } : Jvm.MethodName) ∈ gw := gw_at 664 rfl rfl
set_option maxRecDepth 100000 in
theorem tw_665 : Jvm.Cond.selects "QuireSigns" ({ cls := "QuireSigns", name := "count", desc := "(I)I" } : Jvm.MethodName) ({ cls := "QuireSigns", name := "count", desc := "(I)I" } : Jvm.MethodName) ∈ gw := gw_at 665 rfl rfl
set_option maxRecDepth 100000 in
theorem tw_666 : Jvm.Cond.code ({ cls := "QuireSigns", name := "count", desc := "(I)I" } : Jvm.MethodName) prog_1_method_22_code (2 : Nat) (Option.some Jvm.ClassFile.FieldType.int) ∈ gw := gw_at 666 rfl rfl
set_option maxRecDepth 100000 in
theorem tw_667 : Jvm.Cond.methodLink "QuireSigns" (245 : Nat) ({ cls := "QuireSigns$Book", name := "starredQuires", desc := "()I" } : Jvm.MethodName) ∈ gw := gw_at 667 rfl rfl
set_option maxRecDepth 100000 in
theorem tw_668 : Jvm.Cond.instanceMethod ({ cls := "QuireSigns$Book", name := "starredQuires", desc := "()I" } : Jvm.MethodName) ∈ gw := gw_at 668 rfl rfl
set_option maxRecDepth 100000 in
theorem tw_669 : Jvm.Cond.selects "QuireSigns$Book" ({ cls := "QuireSigns$Book", name := "starredQuires", desc := "()I" } : Jvm.MethodName) ({ cls := "QuireSigns$Book", name := "starredQuires", desc := "()I" } : Jvm.MethodName) ∈ gw := gw_at 669 rfl rfl
set_option maxRecDepth 100000 in
theorem tw_670 : Jvm.Cond.code ({ cls := "QuireSigns$Book", name := "starredQuires", desc := "()I" } : Jvm.MethodName) prog_3_method_7_code (3 : Nat) (Option.some Jvm.ClassFile.FieldType.int) ∈ gw := gw_at 670 rfl rfl
set_option maxRecDepth 100000 in
theorem tw_671 : Jvm.Cond.methodLink "QuireSigns" (248 : Nat) ({ cls := "QuireSigns$Lapses", name := "number", desc := "(LQuireSigns$Book;)I" } : Jvm.MethodName) ∈ gw := gw_at 671 rfl rfl
set_option maxRecDepth 100000 in
theorem tw_672 : Jvm.Cond.static ({ cls := "QuireSigns$Lapses", name := "number", desc := "(LQuireSigns$Book;)I" } : Jvm.MethodName) ∈ gw := gw_at 672 rfl rfl
set_option maxRecDepth 100000 in
theorem tw_673 : Jvm.Cond.code ({ cls := "QuireSigns$Lapses", name := "number", desc := "(LQuireSigns$Book;)I" } : Jvm.MethodName) prog_5_method_4_code (3 : Nat) (Option.some Jvm.ClassFile.FieldType.int) ∈ gw := gw_at 673 rfl rfl
set_option maxRecDepth 100000 in
theorem tw_674 : Jvm.Cond.methodLink "QuireSigns" (251 : Nat) ({ cls := "QuireSigns$Writer", name := "entries", desc := "()I" } : Jvm.MethodName) ∈ gw := gw_at 674 rfl rfl
set_option maxRecDepth 100000 in
theorem tw_675 : Jvm.Cond.instanceMethod ({ cls := "QuireSigns$Writer", name := "entries", desc := "()I" } : Jvm.MethodName) ∈ gw := gw_at 675 rfl rfl
set_option maxRecDepth 100000 in
theorem tw_676 : Jvm.Cond.selects "QuireSigns$Writer" ({ cls := "QuireSigns$Writer", name := "entries", desc := "()I" } : Jvm.MethodName) ({ cls := "QuireSigns$Writer", name := "entries", desc := "()I" } : Jvm.MethodName) ∈ gw := gw_at 676 rfl rfl
set_option maxRecDepth 100000 in
theorem tw_677 : Jvm.Cond.code ({ cls := "QuireSigns$Writer", name := "entries", desc := "()I" } : Jvm.MethodName) prog_9_method_4_code (1 : Nat) (Option.some Jvm.ClassFile.FieldType.int) ∈ gw := gw_at 677 rfl rfl
set_option maxRecDepth 100000 in
theorem tw_678 : Jvm.Cond.classLink "QuireSignsLaw" (10 : Nat) "QuireSignsModel" ∈ gw := gw_at 678 rfl rfl
set_option maxRecDepth 100000 in
theorem tw_679 : Jvm.Cond.instantiable "QuireSignsModel" (14 : Nat) ∈ gw := gw_at 679 rfl rfl
set_option maxRecDepth 100000 in
theorem tw_680 : Jvm.Cond.methodLink "QuireSignsLaw" (12 : Nat) ({ cls := "QuireSignsModel", name := "<init>", desc := "()V" } : Jvm.MethodName) ∈ gw := gw_at 680 rfl rfl
set_option maxRecDepth 100000 in
theorem tw_681 : Jvm.Cond.instanceMethod ({ cls := "QuireSignsModel", name := "<init>", desc := "()V" } : Jvm.MethodName) ∈ gw := gw_at 681 rfl rfl
set_option maxRecDepth 100000 in
theorem tw_682 : Jvm.Cond.code ({ cls := "QuireSignsModel", name := "<init>", desc := "()V" } : Jvm.MethodName) prog_11_method_1_code (1 : Nat) (Option.none : Option Jvm.ClassFile.FieldType) ∈ gw := gw_at 682 rfl rfl
set_option maxRecDepth 100000 in
theorem tw_683 : Jvm.Cond.methodLink "QuireSignsModel" (1 : Nat) ({ cls := "java/lang/Object", name := "<init>", desc := "()V" } : Jvm.MethodName) ∈ gw := gw_at 683 rfl rfl
set_option maxRecDepth 100000 in
theorem tw_684 : Jvm.Cond.constant "QuireSignsModel" (23 : Nat) (6291968 : Int32) ∈ gw := gw_at 684 rfl rfl
set_option maxRecDepth 100000 in
theorem tw_685 : Jvm.Cond.fieldLink "QuireSignsModel" (7 : Nat) "QuireSignsModel" "s" "[I" ∈ gw := gw_at 685 rfl rfl
set_option maxRecDepth 100000 in
theorem tw_686 : Jvm.Cond.fieldLink "QuireSignsModel" (24 : Nat) "QuireSignsModel" "states" "I" ∈ gw := gw_at 686 rfl rfl
set_option maxRecDepth 100000 in
theorem tw_687 : Jvm.Cond.fieldLink "QuireSignsModel" (135 : Nat) "QuireSignsModel" "isKept" "Z" ∈ gw := gw_at 687 rfl rfl
set_option maxRecDepth 100000 in
theorem tw_688 : Jvm.Cond.fieldLink "QuireSignsModel" (13 : Nat) "QuireSignsModel" "text" "[C" ∈ gw := gw_at 688 rfl rfl
set_option maxRecDepth 100000 in
theorem tw_689 : Jvm.Cond.fieldLink "QuireSignsModel" (77 : Nat) "QuireSignsModel" "typed" "I" ∈ gw := gw_at 689 rfl rfl
set_option maxRecDepth 100000 in
theorem tw_690 : Jvm.Cond.fieldLink "QuireSignsModel" (74 : Nat) "QuireSignsModel" "at" "I" ∈ gw := gw_at 690 rfl rfl
set_option maxRecDepth 100000 in
theorem tw_691 : Jvm.Cond.fieldLink "QuireSignsModel" (70 : Nat) "QuireSignsModel" "isRight" "Z" ∈ gw := gw_at 691 rfl rfl
set_option maxRecDepth 100000 in
theorem tw_692 : Jvm.Cond.fieldLink "QuireSignsModel" (80 : Nat) "QuireSignsModel" "times" "I" ∈ gw := gw_at 692 rfl rfl
set_option maxRecDepth 100000 in
theorem tw_693 : Jvm.Cond.fieldLink "QuireSignsModel" (83 : Nat) "QuireSignsModel" "letter" "I" ∈ gw := gw_at 693 rfl rfl
set_option maxRecDepth 100000 in
theorem tw_694 : Jvm.Cond.fieldLink "QuireSignsModel" (17 : Nat) "QuireSignsModel" "told" "[I" ∈ gw := gw_at 694 rfl rfl
set_option maxRecDepth 100000 in
theorem tw_695 : Jvm.Cond.fieldLink "QuireSignsModel" (94 : Nat) "QuireSignsModel" "items" "I" ∈ gw := gw_at 695 rfl rfl
set_option maxRecDepth 100000 in
theorem tw_696 : Jvm.Cond.fieldLink "QuireSignsModel" (20 : Nat) "QuireSignsModel" "formula" "[C" ∈ gw := gw_at 696 rfl rfl
set_option maxRecDepth 100000 in
theorem tw_697 : Jvm.Cond.fieldLink "QuireSignsModel" (159 : Nat) "QuireSignsModel" "length" "I" ∈ gw := gw_at 697 rfl rfl
set_option maxRecDepth 100000 in
theorem tw_698 : Jvm.Cond.fieldLink "QuireSignsModel" (166 : Nat) "QuireSignsModel" "entries" "I" ∈ gw := gw_at 698 rfl rfl
set_option maxRecDepth 100000 in
theorem tw_699 : Jvm.Cond.laysFinal "QuireSignsModel" "QuireSignsModel" "s" "[I" ∈ gw := gw_at 699 rfl rfl
set_option maxRecDepth 100000 in
theorem tw_701 : Jvm.Cond.lays "QuireSignsModel" "QuireSignsModel" "states" "I" ∈ gw := gw_at 701 rfl rfl
set_option maxRecDepth 100000 in
theorem tw_703 : Jvm.Cond.lays "QuireSignsModel" "QuireSignsModel" "isKept" "Z" ∈ gw := gw_at 703 rfl rfl
set_option maxRecDepth 100000 in
theorem tw_705 : Jvm.Cond.laysFinal "QuireSignsModel" "QuireSignsModel" "text" "[C" ∈ gw := gw_at 705 rfl rfl
set_option maxRecDepth 100000 in
theorem tw_707 : Jvm.Cond.lays "QuireSignsModel" "QuireSignsModel" "typed" "I" ∈ gw := gw_at 707 rfl rfl
set_option maxRecDepth 100000 in
theorem tw_709 : Jvm.Cond.lays "QuireSignsModel" "QuireSignsModel" "at" "I" ∈ gw := gw_at 709 rfl rfl
set_option maxRecDepth 100000 in
theorem tw_711 : Jvm.Cond.lays "QuireSignsModel" "QuireSignsModel" "isRight" "Z" ∈ gw := gw_at 711 rfl rfl
set_option maxRecDepth 100000 in
theorem tw_713 : Jvm.Cond.lays "QuireSignsModel" "QuireSignsModel" "times" "I" ∈ gw := gw_at 713 rfl rfl
set_option maxRecDepth 100000 in
theorem tw_715 : Jvm.Cond.lays "QuireSignsModel" "QuireSignsModel" "letter" "I" ∈ gw := gw_at 715 rfl rfl
set_option maxRecDepth 100000 in
theorem tw_717 : Jvm.Cond.laysFinal "QuireSignsModel" "QuireSignsModel" "told" "[I" ∈ gw := gw_at 717 rfl rfl
set_option maxRecDepth 100000 in
theorem tw_719 : Jvm.Cond.lays "QuireSignsModel" "QuireSignsModel" "items" "I" ∈ gw := gw_at 719 rfl rfl
set_option maxRecDepth 100000 in
theorem tw_721 : Jvm.Cond.laysFinal "QuireSignsModel" "QuireSignsModel" "formula" "[C" ∈ gw := gw_at 721 rfl rfl
set_option maxRecDepth 100000 in
theorem tw_723 : Jvm.Cond.lays "QuireSignsModel" "QuireSignsModel" "length" "I" ∈ gw := gw_at 723 rfl rfl
set_option maxRecDepth 100000 in
theorem tw_725 : Jvm.Cond.lays "QuireSignsModel" "QuireSignsModel" "entries" "I" ∈ gw := gw_at 725 rfl rfl
set_option maxRecDepth 100000 in
theorem tw_728 : Jvm.Cond.arrayClass Jvm.ClassFile.FieldType.char ∈ gw := gw_at 728 rfl rfl
set_option maxRecDepth 100000 in
theorem tw_729 : Jvm.Cond.methodLink "QuireSignsLaw" (17 : Nat) ({ cls := "QuireSignsModel", name := "leaveOut", desc := "(CZ)I" } : Jvm.MethodName) ∈ gw := gw_at 729 rfl rfl
set_option maxRecDepth 100000 in
theorem tw_730 : Jvm.Cond.instanceMethod ({ cls := "QuireSignsModel", name := "leaveOut", desc := "(CZ)I" } : Jvm.MethodName) ∈ gw := gw_at 730 rfl rfl
set_option maxRecDepth 100000 in
theorem tw_731 : Jvm.Cond.selects "QuireSignsModel" ({ cls := "QuireSignsModel", name := "leaveOut", desc := "(CZ)I" } : Jvm.MethodName) ({ cls := "QuireSignsModel", name := "leaveOut", desc := "(CZ)I" } : Jvm.MethodName) ∈ gw := gw_at 731 rfl rfl
set_option maxRecDepth 100000 in
theorem tw_732 : Jvm.Cond.code ({ cls := "QuireSignsModel", name := "leaveOut", desc := "(CZ)I" } : Jvm.MethodName) prog_11_method_23_code (3 : Nat) (Option.some Jvm.ClassFile.FieldType.int) ∈ gw := gw_at 732 rfl rfl
set_option maxRecDepth 100000 in
theorem tw_733 : Jvm.Cond.methodLink "QuireSignsModel" (40 : Nat) ({ cls := "QuireSignsModel", name := "in", desc := "(III)Z" } : Jvm.MethodName) ∈ gw := gw_at 733 rfl rfl
set_option maxRecDepth 100000 in
theorem tw_734 : Jvm.Cond.static ({ cls := "QuireSignsModel", name := "in", desc := "(III)Z" } : Jvm.MethodName) ∈ gw := gw_at 734 rfl rfl
set_option maxRecDepth 100000 in
theorem tw_735 : Jvm.Cond.code ({ cls := "QuireSignsModel", name := "in", desc := "(III)Z" } : Jvm.MethodName) prog_11_method_2_code (3 : Nat) (Option.some Jvm.ClassFile.FieldType.boolean) ∈ gw := gw_at 735 rfl rfl
set_option maxRecDepth 100000 in
theorem tw_736 : Jvm.Cond.methodLink "QuireSignsModel" (32 : Nat) ({ cls := "QuireSignsModel", name := "isOut", desc := "(I)Z" } : Jvm.MethodName) ∈ gw := gw_at 736 rfl rfl
set_option maxRecDepth 100000 in
theorem tw_738 : Jvm.Cond.instanceMethod ({ cls := "QuireSignsModel", name := "isOut", desc := "(I)Z" } : Jvm.MethodName) ∈ gw := gw_at 738 rfl rfl
set_option maxRecDepth 100000 in
theorem tw_739 : Jvm.Cond.code ({ cls := "QuireSignsModel", name := "isOut", desc := "(I)Z" } : Jvm.MethodName) prog_11_method_5_code (2 : Nat) (Option.some Jvm.ClassFile.FieldType.boolean) ∈ gw := gw_at 739 rfl rfl
set_option maxRecDepth 100000 in
theorem tw_740 : Jvm.Cond.methodLink "QuireSignsModel" (61 : Nat) ({ cls := "QuireSignsModel", name := "letters", desc := "()I" } : Jvm.MethodName) ∈ gw := gw_at 740 rfl rfl
set_option maxRecDepth 100000 in
theorem tw_742 : Jvm.Cond.instanceMethod ({ cls := "QuireSignsModel", name := "letters", desc := "()I" } : Jvm.MethodName) ∈ gw := gw_at 742 rfl rfl
set_option maxRecDepth 100000 in
theorem tw_743 : Jvm.Cond.code ({ cls := "QuireSignsModel", name := "letters", desc := "()I" } : Jvm.MethodName) prog_11_method_6_code (3 : Nat) (Option.some Jvm.ClassFile.FieldType.int) ∈ gw := gw_at 743 rfl rfl
set_option maxRecDepth 100000 in
theorem tw_744 : Jvm.Cond.methodLink "QuireSignsModel" (64 : Nat) ({ cls := "QuireSignsModel", name := "records", desc := "()V" } : Jvm.MethodName) ∈ gw := gw_at 744 rfl rfl
set_option maxRecDepth 100000 in
theorem tw_746 : Jvm.Cond.instanceMethod ({ cls := "QuireSignsModel", name := "records", desc := "()V" } : Jvm.MethodName) ∈ gw := gw_at 746 rfl rfl
set_option maxRecDepth 100000 in
theorem tw_747 : Jvm.Cond.code ({ cls := "QuireSignsModel", name := "records", desc := "()V" } : Jvm.MethodName) prog_11_method_4_code (2 : Nat) (Option.none : Option Jvm.ClassFile.FieldType) ∈ gw := gw_at 747 rfl rfl
set_option maxRecDepth 100000 in
theorem tw_748 : Jvm.Cond.methodLink "QuireSignsModel" (28 : Nat) ({ cls := "QuireSignsModel", name := "copies", desc := "(II)V" } : Jvm.MethodName) ∈ gw := gw_at 748 rfl rfl
set_option maxRecDepth 100000 in
theorem tw_750 : Jvm.Cond.instanceMethod ({ cls := "QuireSignsModel", name := "copies", desc := "(II)V" } : Jvm.MethodName) ∈ gw := gw_at 750 rfl rfl
set_option maxRecDepth 100000 in
theorem tw_751 : Jvm.Cond.code ({ cls := "QuireSignsModel", name := "copies", desc := "(II)V" } : Jvm.MethodName) prog_11_method_3_code (4 : Nat) (Option.none : Option Jvm.ClassFile.FieldType) ∈ gw := gw_at 751 rfl rfl
set_option maxRecDepth 100000 in
theorem tw_752 : Jvm.Cond.methodLink "QuireSignsLaw" (22 : Nat) ({ cls := "QuireSignsModel", name := "setSigning", desc := "(I)I" } : Jvm.MethodName) ∈ gw := gw_at 752 rfl rfl
set_option maxRecDepth 100000 in
theorem tw_753 : Jvm.Cond.instanceMethod ({ cls := "QuireSignsModel", name := "setSigning", desc := "(I)I" } : Jvm.MethodName) ∈ gw := gw_at 753 rfl rfl
set_option maxRecDepth 100000 in
theorem tw_754 : Jvm.Cond.selects "QuireSignsModel" ({ cls := "QuireSignsModel", name := "setSigning", desc := "(I)I" } : Jvm.MethodName) ({ cls := "QuireSignsModel", name := "setSigning", desc := "(I)I" } : Jvm.MethodName) ∈ gw := gw_at 754 rfl rfl
set_option maxRecDepth 100000 in
theorem tw_755 : Jvm.Cond.code ({ cls := "QuireSignsModel", name := "setSigning", desc := "(I)I" } : Jvm.MethodName) prog_11_method_24_code (2 : Nat) (Option.some Jvm.ClassFile.FieldType.int) ∈ gw := gw_at 755 rfl rfl
set_option maxRecDepth 100000 in
theorem tw_756 : Jvm.Cond.methodLink "QuireSignsModel" (67 : Nat) ({ cls := "QuireSignsModel", name := "signedOfAll", desc := "()I" } : Jvm.MethodName) ∈ gw := gw_at 756 rfl rfl
set_option maxRecDepth 100000 in
theorem tw_758 : Jvm.Cond.instanceMethod ({ cls := "QuireSignsModel", name := "signedOfAll", desc := "()I" } : Jvm.MethodName) ∈ gw := gw_at 758 rfl rfl
set_option maxRecDepth 100000 in
theorem tw_759 : Jvm.Cond.code ({ cls := "QuireSignsModel", name := "signedOfAll", desc := "()I" } : Jvm.MethodName) prog_11_method_16_code (3 : Nat) (Option.some Jvm.ClassFile.FieldType.int) ∈ gw := gw_at 759 rfl rfl
set_option maxRecDepth 100000 in
theorem tw_760 : Jvm.Cond.methodLink "QuireSignsModel" (44 : Nat) ({ cls := "QuireSignsModel", name := "signed", desc := "(I)I" } : Jvm.MethodName) ∈ gw := gw_at 760 rfl rfl
set_option maxRecDepth 100000 in
theorem tw_762 : Jvm.Cond.instanceMethod ({ cls := "QuireSignsModel", name := "signed", desc := "(I)I" } : Jvm.MethodName) ∈ gw := gw_at 762 rfl rfl
set_option maxRecDepth 100000 in
theorem tw_763 : Jvm.Cond.code ({ cls := "QuireSignsModel", name := "signed", desc := "(I)I" } : Jvm.MethodName) prog_11_method_15_code (4 : Nat) (Option.some Jvm.ClassFile.FieldType.int) ∈ gw := gw_at 763 rfl rfl
set_option maxRecDepth 100000 in
theorem tw_764 : Jvm.Cond.methodLink "QuireSignsModel" (36 : Nat) ({ cls := "QuireSignsModel", name := "of", desc := "(II)I" } : Jvm.MethodName) ∈ gw := gw_at 764 rfl rfl
set_option maxRecDepth 100000 in
theorem tw_765 : Jvm.Cond.static ({ cls := "QuireSignsModel", name := "of", desc := "(II)I" } : Jvm.MethodName) ∈ gw := gw_at 765 rfl rfl
set_option maxRecDepth 100000 in
theorem tw_766 : Jvm.Cond.code ({ cls := "QuireSignsModel", name := "of", desc := "(II)I" } : Jvm.MethodName) prog_11_method_8_code (2 : Nat) (Option.some Jvm.ClassFile.FieldType.int) ∈ gw := gw_at 766 rfl rfl
set_option maxRecDepth 100000 in
theorem tw_767 : Jvm.Cond.methodLink "QuireSignsLaw" (27 : Nat) ({ cls := "QuireSignsModel", name := "readFormula", desc := "()I" } : Jvm.MethodName) ∈ gw := gw_at 767 rfl rfl
set_option maxRecDepth 100000 in
theorem tw_768 : Jvm.Cond.instanceMethod ({ cls := "QuireSignsModel", name := "readFormula", desc := "()I" } : Jvm.MethodName) ∈ gw := gw_at 768 rfl rfl
set_option maxRecDepth 100000 in
theorem tw_769 : Jvm.Cond.selects "QuireSignsModel" ({ cls := "QuireSignsModel", name := "readFormula", desc := "()I" } : Jvm.MethodName) ({ cls := "QuireSignsModel", name := "readFormula", desc := "()I" } : Jvm.MethodName) ∈ gw := gw_at 769 rfl rfl
set_option maxRecDepth 100000 in
theorem tw_770 : Jvm.Cond.code ({ cls := "QuireSignsModel", name := "readFormula", desc := "()I" } : Jvm.MethodName) prog_11_method_30_code (5 : Nat) (Option.some Jvm.ClassFile.FieldType.int) ∈ gw := gw_at 770 rfl rfl
set_option maxRecDepth 100000 in
theorem tw_771 : Jvm.Cond.methodLink "QuireSignsModel" (103 : Nat) ({ cls := "QuireSignsModel", name := "fault", desc := "(Z)I" } : Jvm.MethodName) ∈ gw := gw_at 771 rfl rfl
set_option maxRecDepth 100000 in
theorem tw_773 : Jvm.Cond.instanceMethod ({ cls := "QuireSignsModel", name := "fault", desc := "(Z)I" } : Jvm.MethodName) ∈ gw := gw_at 773 rfl rfl
set_option maxRecDepth 100000 in
theorem tw_774 : Jvm.Cond.code ({ cls := "QuireSignsModel", name := "fault", desc := "(Z)I" } : Jvm.MethodName) prog_11_method_29_code (3 : Nat) (Option.some Jvm.ClassFile.FieldType.int) ∈ gw := gw_at 774 rfl rfl
set_option maxRecDepth 100000 in
theorem tw_775 : Jvm.Cond.methodLink "QuireSignsModel" (100 : Nat) ({ cls := "QuireSignsModel", name := "item", desc := "(Z)V" } : Jvm.MethodName) ∈ gw := gw_at 775 rfl rfl
set_option maxRecDepth 100000 in
theorem tw_777 : Jvm.Cond.instanceMethod ({ cls := "QuireSignsModel", name := "item", desc := "(Z)V" } : Jvm.MethodName) ∈ gw := gw_at 777 rfl rfl
set_option maxRecDepth 100000 in
theorem tw_778 : Jvm.Cond.code ({ cls := "QuireSignsModel", name := "item", desc := "(Z)V" } : Jvm.MethodName) prog_11_method_28_code (3 : Nat) (Option.none : Option Jvm.ClassFile.FieldType) ∈ gw := gw_at 778 rfl rfl
set_option maxRecDepth 100000 in
theorem tw_779 : Jvm.Cond.methodLink "QuireSignsModel" (90 : Nat) ({ cls := "QuireSignsModel", name := "reads", desc := "(Z)V" } : Jvm.MethodName) ∈ gw := gw_at 779 rfl rfl
set_option maxRecDepth 100000 in
theorem tw_781 : Jvm.Cond.instanceMethod ({ cls := "QuireSignsModel", name := "reads", desc := "(Z)V" } : Jvm.MethodName) ∈ gw := gw_at 781 rfl rfl
set_option maxRecDepth 100000 in
theorem tw_782 : Jvm.Cond.code ({ cls := "QuireSignsModel", name := "reads", desc := "(Z)V" } : Jvm.MethodName) prog_11_method_26_code (2 : Nat) (Option.none : Option Jvm.ClassFile.FieldType) ∈ gw := gw_at 782 rfl rfl
set_option maxRecDepth 100000 in
theorem tw_783 : Jvm.Cond.methodLink "QuireSignsModel" (86 : Nat) ({ cls := "QuireSignsModel", name := "isNext", desc := "(II)Z" } : Jvm.MethodName) ∈ gw := gw_at 783 rfl rfl
set_option maxRecDepth 100000 in
theorem tw_785 : Jvm.Cond.instanceMethod ({ cls := "QuireSignsModel", name := "isNext", desc := "(II)Z" } : Jvm.MethodName) ∈ gw := gw_at 785 rfl rfl
set_option maxRecDepth 100000 in
theorem tw_786 : Jvm.Cond.code ({ cls := "QuireSignsModel", name := "isNext", desc := "(II)Z" } : Jvm.MethodName) prog_11_method_25_code (3 : Nat) (Option.some Jvm.ClassFile.FieldType.boolean) ∈ gw := gw_at 786 rfl rfl
set_option maxRecDepth 100000 in
theorem tw_787 : Jvm.Cond.methodLink "QuireSignsModel" (97 : Nat) ({ cls := "QuireSignsModel", name := "number", desc := "()I" } : Jvm.MethodName) ∈ gw := gw_at 787 rfl rfl
set_option maxRecDepth 100000 in
theorem tw_789 : Jvm.Cond.instanceMethod ({ cls := "QuireSignsModel", name := "number", desc := "()I" } : Jvm.MethodName) ∈ gw := gw_at 789 rfl rfl
set_option maxRecDepth 100000 in
theorem tw_790 : Jvm.Cond.code ({ cls := "QuireSignsModel", name := "number", desc := "()I" } : Jvm.MethodName) prog_11_method_27_code (2 : Nat) (Option.some Jvm.ClassFile.FieldType.int) ∈ gw := gw_at 790 rfl rfl
set_option maxRecDepth 100000 in
theorem tw_791 : Jvm.Cond.methodLink "QuireSignsModel" (107 : Nat) ({ cls := "QuireSignsModel", name := "puts", desc := "(IIII)V" } : Jvm.MethodName) ∈ gw := gw_at 791 rfl rfl
set_option maxRecDepth 100000 in
theorem tw_793 : Jvm.Cond.instanceMethod ({ cls := "QuireSignsModel", name := "puts", desc := "(IIII)V" } : Jvm.MethodName) ∈ gw := gw_at 793 rfl rfl
set_option maxRecDepth 100000 in
theorem tw_794 : Jvm.Cond.code ({ cls := "QuireSignsModel", name := "puts", desc := "(IIII)V" } : Jvm.MethodName) prog_11_method_22_code (7 : Nat) (Option.none : Option Jvm.ClassFile.FieldType) ∈ gw := gw_at 794 rfl rfl
set_option maxRecDepth 100000 in
theorem tw_795 : Jvm.Cond.methodLink "QuireSignsLaw" (31 : Nat) ({ cls := "QuireSignsModel", name := "signNext", desc := "(I)I" } : Jvm.MethodName) ∈ gw := gw_at 795 rfl rfl
set_option maxRecDepth 100000 in
theorem tw_796 : Jvm.Cond.instanceMethod ({ cls := "QuireSignsModel", name := "signNext", desc := "(I)I" } : Jvm.MethodName) ∈ gw := gw_at 796 rfl rfl
set_option maxRecDepth 100000 in
theorem tw_797 : Jvm.Cond.selects "QuireSignsModel" ({ cls := "QuireSignsModel", name := "signNext", desc := "(I)I" } : Jvm.MethodName) ({ cls := "QuireSignsModel", name := "signNext", desc := "(I)I" } : Jvm.MethodName) ∈ gw := gw_at 797 rfl rfl
set_option maxRecDepth 100000 in
theorem tw_798 : Jvm.Cond.code ({ cls := "QuireSignsModel", name := "signNext", desc := "(I)I" } : Jvm.MethodName) prog_11_method_31_code (4 : Nat) (Option.some Jvm.ClassFile.FieldType.int) ∈ gw := gw_at 798 rfl rfl
set_option maxRecDepth 100000 in
theorem tw_799 : Jvm.Cond.methodLink "QuireSignsModel" (111 : Nat) ({ cls := "QuireSignsModel", name := "isStarred", desc := "(I)Z" } : Jvm.MethodName) ∈ gw := gw_at 799 rfl rfl
set_option maxRecDepth 100000 in
theorem tw_801 : Jvm.Cond.instanceMethod ({ cls := "QuireSignsModel", name := "isStarred", desc := "(I)Z" } : Jvm.MethodName) ∈ gw := gw_at 801 rfl rfl
set_option maxRecDepth 100000 in
theorem tw_802 : Jvm.Cond.code ({ cls := "QuireSignsModel", name := "isStarred", desc := "(I)Z" } : Jvm.MethodName) prog_11_method_9_code (2 : Nat) (Option.some Jvm.ClassFile.FieldType.boolean) ∈ gw := gw_at 802 rfl rfl
set_option maxRecDepth 100000 in
theorem tw_803 : Jvm.Cond.methodLink "QuireSignsModel" (114 : Nat) ({ cls := "QuireSignsModel", name := "sign", desc := "(I)I" } : Jvm.MethodName) ∈ gw := gw_at 803 rfl rfl
set_option maxRecDepth 100000 in
theorem tw_805 : Jvm.Cond.instanceMethod ({ cls := "QuireSignsModel", name := "sign", desc := "(I)I" } : Jvm.MethodName) ∈ gw := gw_at 805 rfl rfl
set_option maxRecDepth 100000 in
theorem tw_806 : Jvm.Cond.code ({ cls := "QuireSignsModel", name := "sign", desc := "(I)I" } : Jvm.MethodName) prog_11_method_10_code (2 : Nat) (Option.some Jvm.ClassFile.FieldType.int) ∈ gw := gw_at 806 rfl rfl
set_option maxRecDepth 100000 in
theorem tw_807 : Jvm.Cond.methodLink "QuireSignsModel" (117 : Nat) ({ cls := "QuireSignsModel", name := "next", desc := "(I)I" } : Jvm.MethodName) ∈ gw := gw_at 807 rfl rfl
set_option maxRecDepth 100000 in
theorem tw_809 : Jvm.Cond.instanceMethod ({ cls := "QuireSignsModel", name := "next", desc := "(I)I" } : Jvm.MethodName) ∈ gw := gw_at 809 rfl rfl
set_option maxRecDepth 100000 in
theorem tw_810 : Jvm.Cond.code ({ cls := "QuireSignsModel", name := "next", desc := "(I)I" } : Jvm.MethodName) prog_11_method_7_code (3 : Nat) (Option.some Jvm.ClassFile.FieldType.int) ∈ gw := gw_at 810 rfl rfl
set_option maxRecDepth 100000 in
theorem tw_811 : Jvm.Cond.methodLink "QuireSignsLaw" (36 : Nat) ({ cls := "QuireSignsModel", name := "insert", desc := "(III)I" } : Jvm.MethodName) ∈ gw := gw_at 811 rfl rfl
set_option maxRecDepth 100000 in
theorem tw_812 : Jvm.Cond.instanceMethod ({ cls := "QuireSignsModel", name := "insert", desc := "(III)I" } : Jvm.MethodName) ∈ gw := gw_at 812 rfl rfl
set_option maxRecDepth 100000 in
theorem tw_813 : Jvm.Cond.selects "QuireSignsModel" ({ cls := "QuireSignsModel", name := "insert", desc := "(III)I" } : Jvm.MethodName) ({ cls := "QuireSignsModel", name := "insert", desc := "(III)I" } : Jvm.MethodName) ∈ gw := gw_at 813 rfl rfl
set_option maxRecDepth 100000 in
theorem tw_814 : Jvm.Cond.code ({ cls := "QuireSignsModel", name := "insert", desc := "(III)I" } : Jvm.MethodName) prog_11_method_32_code (4 : Nat) (Option.some Jvm.ClassFile.FieldType.int) ∈ gw := gw_at 814 rfl rfl
set_option maxRecDepth 100000 in
theorem tw_815 : Jvm.Cond.methodLink "QuireSignsModel" (48 : Nat) ({ cls := "QuireSignsModel", name := "leaves", desc := "()I" } : Jvm.MethodName) ∈ gw := gw_at 815 rfl rfl
set_option maxRecDepth 100000 in
theorem tw_817 : Jvm.Cond.instanceMethod ({ cls := "QuireSignsModel", name := "leaves", desc := "()I" } : Jvm.MethodName) ∈ gw := gw_at 817 rfl rfl
set_option maxRecDepth 100000 in
theorem tw_818 : Jvm.Cond.code ({ cls := "QuireSignsModel", name := "leaves", desc := "()I" } : Jvm.MethodName) prog_11_method_13_code (3 : Nat) (Option.some Jvm.ClassFile.FieldType.int) ∈ gw := gw_at 818 rfl rfl
set_option maxRecDepth 100000 in
theorem tw_819 : Jvm.Cond.methodLink "QuireSignsLaw" (40 : Nat) ({ cls := "QuireSignsModel", name := "remove", desc := "(I)I" } : Jvm.MethodName) ∈ gw := gw_at 819 rfl rfl
set_option maxRecDepth 100000 in
theorem tw_820 : Jvm.Cond.instanceMethod ({ cls := "QuireSignsModel", name := "remove", desc := "(I)I" } : Jvm.MethodName) ∈ gw := gw_at 820 rfl rfl
set_option maxRecDepth 100000 in
theorem tw_821 : Jvm.Cond.selects "QuireSignsModel" ({ cls := "QuireSignsModel", name := "remove", desc := "(I)I" } : Jvm.MethodName) ({ cls := "QuireSignsModel", name := "remove", desc := "(I)I" } : Jvm.MethodName) ∈ gw := gw_at 821 rfl rfl
set_option maxRecDepth 100000 in
theorem tw_822 : Jvm.Cond.code ({ cls := "QuireSignsModel", name := "remove", desc := "(I)I" } : Jvm.MethodName) prog_11_method_33_code (4 : Nat) (Option.some Jvm.ClassFile.FieldType.int) ∈ gw := gw_at 822 rfl rfl
set_option maxRecDepth 100000 in
theorem tw_823 : Jvm.Cond.methodLink "QuireSignsModel" (120 : Nat) ({ cls := "QuireSignsModel", name := "isQuire", desc := "(I)Z" } : Jvm.MethodName) ∈ gw := gw_at 823 rfl rfl
set_option maxRecDepth 100000 in
theorem tw_825 : Jvm.Cond.instanceMethod ({ cls := "QuireSignsModel", name := "isQuire", desc := "(I)Z" } : Jvm.MethodName) ∈ gw := gw_at 825 rfl rfl
set_option maxRecDepth 100000 in
theorem tw_826 : Jvm.Cond.code ({ cls := "QuireSignsModel", name := "isQuire", desc := "(I)Z" } : Jvm.MethodName) prog_11_method_12_code (2 : Nat) (Option.some Jvm.ClassFile.FieldType.boolean) ∈ gw := gw_at 826 rfl rfl
set_option maxRecDepth 100000 in
theorem tw_827 : Jvm.Cond.methodLink "QuireSignsLaw" (45 : Nat) ({ cls := "QuireSignsModel", name := "lose", desc := "(IZ)I" } : Jvm.MethodName) ∈ gw := gw_at 827 rfl rfl
set_option maxRecDepth 100000 in
theorem tw_828 : Jvm.Cond.instanceMethod ({ cls := "QuireSignsModel", name := "lose", desc := "(IZ)I" } : Jvm.MethodName) ∈ gw := gw_at 828 rfl rfl
set_option maxRecDepth 100000 in
theorem tw_829 : Jvm.Cond.selects "QuireSignsModel" ({ cls := "QuireSignsModel", name := "lose", desc := "(IZ)I" } : Jvm.MethodName) ({ cls := "QuireSignsModel", name := "lose", desc := "(IZ)I" } : Jvm.MethodName) ∈ gw := gw_at 829 rfl rfl
set_option maxRecDepth 100000 in
theorem tw_830 : Jvm.Cond.code ({ cls := "QuireSignsModel", name := "lose", desc := "(IZ)I" } : Jvm.MethodName) prog_11_method_34_code (4 : Nat) (Option.some Jvm.ClassFile.FieldType.int) ∈ gw := gw_at 830 rfl rfl
set_option maxRecDepth 100000 in
theorem tw_831 : Jvm.Cond.methodLink "QuireSignsModel" (123 : Nat) ({ cls := "QuireSignsModel", name := "isLeaf", desc := "(I)Z" } : Jvm.MethodName) ∈ gw := gw_at 831 rfl rfl
set_option maxRecDepth 100000 in
theorem tw_833 : Jvm.Cond.instanceMethod ({ cls := "QuireSignsModel", name := "isLeaf", desc := "(I)Z" } : Jvm.MethodName) ∈ gw := gw_at 833 rfl rfl
set_option maxRecDepth 100000 in
theorem tw_834 : Jvm.Cond.code ({ cls := "QuireSignsModel", name := "isLeaf", desc := "(I)Z" } : Jvm.MethodName) prog_11_method_17_code (2 : Nat) (Option.some Jvm.ClassFile.FieldType.boolean) ∈ gw := gw_at 834 rfl rfl
set_option maxRecDepth 100000 in
theorem tw_835 : Jvm.Cond.methodLink "QuireSignsModel" (126 : Nat) ({ cls := "QuireSignsModel", name := "isLost", desc := "(I)Z" } : Jvm.MethodName) ∈ gw := gw_at 835 rfl rfl
set_option maxRecDepth 100000 in
theorem tw_837 : Jvm.Cond.instanceMethod ({ cls := "QuireSignsModel", name := "isLost", desc := "(I)Z" } : Jvm.MethodName) ∈ gw := gw_at 837 rfl rfl
set_option maxRecDepth 100000 in
theorem tw_838 : Jvm.Cond.code ({ cls := "QuireSignsModel", name := "isLost", desc := "(I)Z" } : Jvm.MethodName) prog_11_method_19_code (3 : Nat) (Option.some Jvm.ClassFile.FieldType.boolean) ∈ gw := gw_at 838 rfl rfl
set_option maxRecDepth 100000 in
theorem tw_839 : Jvm.Cond.methodLink "QuireSignsModel" (55 : Nat) ({ cls := "QuireSignsModel", name := "quireOf", desc := "(I)I" } : Jvm.MethodName) ∈ gw := gw_at 839 rfl rfl
set_option maxRecDepth 100000 in
theorem tw_841 : Jvm.Cond.instanceMethod ({ cls := "QuireSignsModel", name := "quireOf", desc := "(I)I" } : Jvm.MethodName) ∈ gw := gw_at 841 rfl rfl
set_option maxRecDepth 100000 in
theorem tw_842 : Jvm.Cond.code ({ cls := "QuireSignsModel", name := "quireOf", desc := "(I)I" } : Jvm.MethodName) prog_11_method_18_code (3 : Nat) (Option.some Jvm.ClassFile.FieldType.int) ∈ gw := gw_at 842 rfl rfl
set_option maxRecDepth 100000 in
theorem tw_843 : Jvm.Cond.methodLink "QuireSignsModel" (52 : Nat) ({ cls := "QuireSignsModel", name := "first", desc := "(I)I" } : Jvm.MethodName) ∈ gw := gw_at 843 rfl rfl
set_option maxRecDepth 100000 in
theorem tw_845 : Jvm.Cond.instanceMethod ({ cls := "QuireSignsModel", name := "first", desc := "(I)I" } : Jvm.MethodName) ∈ gw := gw_at 845 rfl rfl
set_option maxRecDepth 100000 in
theorem tw_846 : Jvm.Cond.code ({ cls := "QuireSignsModel", name := "first", desc := "(I)I" } : Jvm.MethodName) prog_11_method_14_code (4 : Nat) (Option.some Jvm.ClassFile.FieldType.int) ∈ gw := gw_at 846 rfl rfl
set_option maxRecDepth 100000 in
theorem tw_847 : Jvm.Cond.methodLink "QuireSignsModel" (129 : Nat) ({ cls := "QuireSignsModel", name := "thereOfAll", desc := "()I" } : Jvm.MethodName) ∈ gw := gw_at 847 rfl rfl
set_option maxRecDepth 100000 in
theorem tw_849 : Jvm.Cond.instanceMethod ({ cls := "QuireSignsModel", name := "thereOfAll", desc := "()I" } : Jvm.MethodName) ∈ gw := gw_at 849 rfl rfl
set_option maxRecDepth 100000 in
theorem tw_850 : Jvm.Cond.code ({ cls := "QuireSignsModel", name := "thereOfAll", desc := "()I" } : Jvm.MethodName) prog_11_method_21_code (3 : Nat) (Option.some Jvm.ClassFile.FieldType.int) ∈ gw := gw_at 850 rfl rfl
set_option maxRecDepth 100000 in
theorem tw_851 : Jvm.Cond.methodLink "QuireSignsModel" (58 : Nat) ({ cls := "QuireSignsModel", name := "there", desc := "(I)I" } : Jvm.MethodName) ∈ gw := gw_at 851 rfl rfl
set_option maxRecDepth 100000 in
theorem tw_853 : Jvm.Cond.instanceMethod ({ cls := "QuireSignsModel", name := "there", desc := "(I)I" } : Jvm.MethodName) ∈ gw := gw_at 853 rfl rfl
set_option maxRecDepth 100000 in
theorem tw_854 : Jvm.Cond.code ({ cls := "QuireSignsModel", name := "there", desc := "(I)I" } : Jvm.MethodName) prog_11_method_20_code (4 : Nat) (Option.some Jvm.ClassFile.FieldType.int) ∈ gw := gw_at 854 rfl rfl
set_option maxRecDepth 100000 in
theorem tw_855 : Jvm.Cond.methodLink "QuireSignsLaw" (49 : Nat) ({ cls := "QuireSignsModel", name := "readPile", desc := "()I" } : Jvm.MethodName) ∈ gw := gw_at 855 rfl rfl
set_option maxRecDepth 100000 in
theorem tw_856 : Jvm.Cond.instanceMethod ({ cls := "QuireSignsModel", name := "readPile", desc := "()I" } : Jvm.MethodName) ∈ gw := gw_at 856 rfl rfl
set_option maxRecDepth 100000 in
theorem tw_857 : Jvm.Cond.selects "QuireSignsModel" ({ cls := "QuireSignsModel", name := "readPile", desc := "()I" } : Jvm.MethodName) ({ cls := "QuireSignsModel", name := "readPile", desc := "()I" } : Jvm.MethodName) ∈ gw := gw_at 857 rfl rfl
set_option maxRecDepth 100000 in
theorem tw_858 : Jvm.Cond.code ({ cls := "QuireSignsModel", name := "readPile", desc := "()I" } : Jvm.MethodName) prog_11_method_36_code (5 : Nat) (Option.some Jvm.ClassFile.FieldType.int) ∈ gw := gw_at 858 rfl rfl
set_option maxRecDepth 100000 in
theorem tw_859 : Jvm.Cond.methodLink "QuireSignsModel" (132 : Nat) ({ cls := "QuireSignsModel", name := "found", desc := "(I)I" } : Jvm.MethodName) ∈ gw := gw_at 859 rfl rfl
set_option maxRecDepth 100000 in
theorem tw_861 : Jvm.Cond.instanceMethod ({ cls := "QuireSignsModel", name := "found", desc := "(I)I" } : Jvm.MethodName) ∈ gw := gw_at 861 rfl rfl
set_option maxRecDepth 100000 in
theorem tw_862 : Jvm.Cond.code ({ cls := "QuireSignsModel", name := "found", desc := "(I)I" } : Jvm.MethodName) prog_11_method_35_code (4 : Nat) (Option.some Jvm.ClassFile.FieldType.int) ∈ gw := gw_at 862 rfl rfl
set_option maxRecDepth 100000 in
theorem tw_863 : Jvm.Cond.methodLink "QuireSignsLaw" (54 : Nat) ({ cls := "QuireSignsModel", name := "type", desc := "(C)I" } : Jvm.MethodName) ∈ gw := gw_at 863 rfl rfl
set_option maxRecDepth 100000 in
theorem tw_864 : Jvm.Cond.instanceMethod ({ cls := "QuireSignsModel", name := "type", desc := "(C)I" } : Jvm.MethodName) ∈ gw := gw_at 864 rfl rfl
set_option maxRecDepth 100000 in
theorem tw_865 : Jvm.Cond.selects "QuireSignsModel" ({ cls := "QuireSignsModel", name := "type", desc := "(C)I" } : Jvm.MethodName) ({ cls := "QuireSignsModel", name := "type", desc := "(C)I" } : Jvm.MethodName) ∈ gw := gw_at 865 rfl rfl
set_option maxRecDepth 100000 in
theorem tw_866 : Jvm.Cond.code ({ cls := "QuireSignsModel", name := "type", desc := "(C)I" } : Jvm.MethodName) prog_11_method_37_code (2 : Nat) (Option.some Jvm.ClassFile.FieldType.int) ∈ gw := gw_at 866 rfl rfl
set_option maxRecDepth 100000 in
theorem tw_867 : Jvm.Cond.methodLink "QuireSignsLaw" (58 : Nat) ({ cls := "QuireSignsModel", name := "clearText", desc := "()I" } : Jvm.MethodName) ∈ gw := gw_at 867 rfl rfl
set_option maxRecDepth 100000 in
theorem tw_868 : Jvm.Cond.instanceMethod ({ cls := "QuireSignsModel", name := "clearText", desc := "()I" } : Jvm.MethodName) ∈ gw := gw_at 868 rfl rfl
set_option maxRecDepth 100000 in
theorem tw_869 : Jvm.Cond.selects "QuireSignsModel" ({ cls := "QuireSignsModel", name := "clearText", desc := "()I" } : Jvm.MethodName) ({ cls := "QuireSignsModel", name := "clearText", desc := "()I" } : Jvm.MethodName) ∈ gw := gw_at 869 rfl rfl
set_option maxRecDepth 100000 in
theorem tw_870 : Jvm.Cond.code ({ cls := "QuireSignsModel", name := "clearText", desc := "()I" } : Jvm.MethodName) prog_11_method_38_code (2 : Nat) (Option.some Jvm.ClassFile.FieldType.int) ∈ gw := gw_at 870 rfl rfl
set_option maxRecDepth 100000 in
theorem tw_871 : Jvm.Cond.methodLink "QuireSignsLaw" (62 : Nat) ({ cls := "QuireSignsModel", name := "undo", desc := "()I" } : Jvm.MethodName) ∈ gw := gw_at 871 rfl rfl
set_option maxRecDepth 100000 in
theorem tw_872 : Jvm.Cond.instanceMethod ({ cls := "QuireSignsModel", name := "undo", desc := "()I" } : Jvm.MethodName) ∈ gw := gw_at 872 rfl rfl
set_option maxRecDepth 100000 in
theorem tw_873 : Jvm.Cond.selects "QuireSignsModel" ({ cls := "QuireSignsModel", name := "undo", desc := "()I" } : Jvm.MethodName) ({ cls := "QuireSignsModel", name := "undo", desc := "()I" } : Jvm.MethodName) ∈ gw := gw_at 873 rfl rfl
set_option maxRecDepth 100000 in
theorem tw_874 : Jvm.Cond.code ({ cls := "QuireSignsModel", name := "undo", desc := "()I" } : Jvm.MethodName) prog_11_method_39_code (1 : Nat) (Option.some Jvm.ClassFile.FieldType.int) ∈ gw := gw_at 874 rfl rfl
set_option maxRecDepth 100000 in
theorem tw_875 : Jvm.Cond.methodLink "QuireSignsLaw" (66 : Nat) ({ cls := "QuireSignsModel", name := "keep", desc := "()I" } : Jvm.MethodName) ∈ gw := gw_at 875 rfl rfl
set_option maxRecDepth 100000 in
theorem tw_876 : Jvm.Cond.instanceMethod ({ cls := "QuireSignsModel", name := "keep", desc := "()I" } : Jvm.MethodName) ∈ gw := gw_at 876 rfl rfl
set_option maxRecDepth 100000 in
theorem tw_877 : Jvm.Cond.selects "QuireSignsModel" ({ cls := "QuireSignsModel", name := "keep", desc := "()I" } : Jvm.MethodName) ({ cls := "QuireSignsModel", name := "keep", desc := "()I" } : Jvm.MethodName) ∈ gw := gw_at 877 rfl rfl
set_option maxRecDepth 100000 in
theorem tw_878 : Jvm.Cond.code ({ cls := "QuireSignsModel", name := "keep", desc := "()I" } : Jvm.MethodName) prog_11_method_40_code (1 : Nat) (Option.some Jvm.ClassFile.FieldType.int) ∈ gw := gw_at 878 rfl rfl
set_option maxRecDepth 100000 in
theorem tw_879 : Jvm.Cond.methodLink "QuireSignsLaw" (70 : Nat) ({ cls := "QuireSignsModel", name := "restore", desc := "()I" } : Jvm.MethodName) ∈ gw := gw_at 879 rfl rfl
set_option maxRecDepth 100000 in
theorem tw_880 : Jvm.Cond.instanceMethod ({ cls := "QuireSignsModel", name := "restore", desc := "()I" } : Jvm.MethodName) ∈ gw := gw_at 880 rfl rfl
set_option maxRecDepth 100000 in
theorem tw_881 : Jvm.Cond.selects "QuireSignsModel" ({ cls := "QuireSignsModel", name := "restore", desc := "()I" } : Jvm.MethodName) ({ cls := "QuireSignsModel", name := "restore", desc := "()I" } : Jvm.MethodName) ∈ gw := gw_at 881 rfl rfl
set_option maxRecDepth 100000 in
theorem tw_882 : Jvm.Cond.code ({ cls := "QuireSignsModel", name := "restore", desc := "()I" } : Jvm.MethodName) prog_11_method_41_code (1 : Nat) (Option.some Jvm.ClassFile.FieldType.int) ∈ gw := gw_at 882 rfl rfl
set_option maxRecDepth 100000 in
theorem tw_883 : Jvm.Cond.methodLink "QuireSignsLaw" (75 : Nat) ({ cls := "QuireSignsModel", name := "quire", desc := "(II)I" } : Jvm.MethodName) ∈ gw := gw_at 883 rfl rfl
set_option maxRecDepth 100000 in
theorem tw_884 : Jvm.Cond.instanceMethod ({ cls := "QuireSignsModel", name := "quire", desc := "(II)I" } : Jvm.MethodName) ∈ gw := gw_at 884 rfl rfl
set_option maxRecDepth 100000 in
theorem tw_885 : Jvm.Cond.selects "QuireSignsModel" ({ cls := "QuireSignsModel", name := "quire", desc := "(II)I" } : Jvm.MethodName) ({ cls := "QuireSignsModel", name := "quire", desc := "(II)I" } : Jvm.MethodName) ∈ gw := gw_at 885 rfl rfl
set_option maxRecDepth 100000 in
theorem tw_886 : Jvm.Cond.code ({ cls := "QuireSignsModel", name := "quire", desc := "(II)I" } : Jvm.MethodName) prog_11_method_43_code (3 : Nat) (Option.some Jvm.ClassFile.FieldType.int) ∈ gw := gw_at 886 rfl rfl
set_option maxRecDepth 100000 in
theorem tw_887 : Jvm.Cond.methodLink "QuireSignsModel" (141 : Nat) ({ cls := "QuireSignsModel", name := "sameAhead", desc := "(I)I" } : Jvm.MethodName) ∈ gw := gw_at 887 rfl rfl
set_option maxRecDepth 100000 in
theorem tw_889 : Jvm.Cond.instanceMethod ({ cls := "QuireSignsModel", name := "sameAhead", desc := "(I)I" } : Jvm.MethodName) ∈ gw := gw_at 889 rfl rfl
set_option maxRecDepth 100000 in
theorem tw_890 : Jvm.Cond.code ({ cls := "QuireSignsModel", name := "sameAhead", desc := "(I)I" } : Jvm.MethodName) prog_11_method_42_code (4 : Nat) (Option.some Jvm.ClassFile.FieldType.int) ∈ gw := gw_at 890 rfl rfl
set_option maxRecDepth 100000 in
theorem tw_891 : Jvm.Cond.methodLink "QuireSignsModel" (138 : Nat) ({ cls := "QuireSignsModel", name := "areSame", desc := "(II)Z" } : Jvm.MethodName) ∈ gw := gw_at 891 rfl rfl
set_option maxRecDepth 100000 in
theorem tw_893 : Jvm.Cond.instanceMethod ({ cls := "QuireSignsModel", name := "areSame", desc := "(II)Z" } : Jvm.MethodName) ∈ gw := gw_at 893 rfl rfl
set_option maxRecDepth 100000 in
theorem tw_894 : Jvm.Cond.code ({ cls := "QuireSignsModel", name := "areSame", desc := "(II)Z" } : Jvm.MethodName) prog_11_method_11_code (3 : Nat) (Option.some Jvm.ClassFile.FieldType.boolean) ∈ gw := gw_at 894 rfl rfl
set_option maxRecDepth 100000 in
theorem tw_895 : Jvm.Cond.methodLink "QuireSignsLaw" (79 : Nat) ({ cls := "QuireSignsModel", name := "leaf", desc := "(II)I" } : Jvm.MethodName) ∈ gw := gw_at 895 rfl rfl
set_option maxRecDepth 100000 in
theorem tw_896 : Jvm.Cond.instanceMethod ({ cls := "QuireSignsModel", name := "leaf", desc := "(II)I" } : Jvm.MethodName) ∈ gw := gw_at 896 rfl rfl
set_option maxRecDepth 100000 in
theorem tw_897 : Jvm.Cond.selects "QuireSignsModel" ({ cls := "QuireSignsModel", name := "leaf", desc := "(II)I" } : Jvm.MethodName) ({ cls := "QuireSignsModel", name := "leaf", desc := "(II)I" } : Jvm.MethodName) ∈ gw := gw_at 897 rfl rfl
set_option maxRecDepth 100000 in
theorem tw_898 : Jvm.Cond.code ({ cls := "QuireSignsModel", name := "leaf", desc := "(II)I" } : Jvm.MethodName) prog_11_method_45_code (6 : Nat) (Option.some Jvm.ClassFile.FieldType.int) ∈ gw := gw_at 898 rfl rfl
set_option maxRecDepth 100000 in
theorem tw_899 : Jvm.Cond.methodLink "QuireSignsModel" (144 : Nat) ({ cls := "QuireSignsModel", name := "thereAhead", desc := "(I)I" } : Jvm.MethodName) ∈ gw := gw_at 899 rfl rfl
set_option maxRecDepth 100000 in
theorem tw_901 : Jvm.Cond.instanceMethod ({ cls := "QuireSignsModel", name := "thereAhead", desc := "(I)I" } : Jvm.MethodName) ∈ gw := gw_at 901 rfl rfl
set_option maxRecDepth 100000 in
theorem tw_902 : Jvm.Cond.code ({ cls := "QuireSignsModel", name := "thereAhead", desc := "(I)I" } : Jvm.MethodName) prog_11_method_44_code (4 : Nat) (Option.some Jvm.ClassFile.FieldType.int) ∈ gw := gw_at 902 rfl rfl
set_option maxRecDepth 100000 in
theorem tw_903 : Jvm.Cond.methodLink "QuireSignsLaw" (83 : Nat) ({ cls := "QuireSignsModel", name := "find", desc := "()I" } : Jvm.MethodName) ∈ gw := gw_at 903 rfl rfl
set_option maxRecDepth 100000 in
theorem tw_904 : Jvm.Cond.instanceMethod ({ cls := "QuireSignsModel", name := "find", desc := "()I" } : Jvm.MethodName) ∈ gw := gw_at 904 rfl rfl
set_option maxRecDepth 100000 in
theorem tw_905 : Jvm.Cond.selects "QuireSignsModel" ({ cls := "QuireSignsModel", name := "find", desc := "()I" } : Jvm.MethodName) ({ cls := "QuireSignsModel", name := "find", desc := "()I" } : Jvm.MethodName) ∈ gw := gw_at 905 rfl rfl
set_option maxRecDepth 100000 in
theorem tw_906 : Jvm.Cond.code ({ cls := "QuireSignsModel", name := "find", desc := "()I" } : Jvm.MethodName) prog_11_method_46_code (3 : Nat) (Option.some Jvm.ClassFile.FieldType.int) ∈ gw := gw_at 906 rfl rfl
set_option maxRecDepth 100000 in
theorem tw_907 : Jvm.Cond.methodLink "QuireSignsLaw" (87 : Nat) ({ cls := "QuireSignsModel", name := "lapse", desc := "(II)I" } : Jvm.MethodName) ∈ gw := gw_at 907 rfl rfl
set_option maxRecDepth 100000 in
theorem tw_908 : Jvm.Cond.instanceMethod ({ cls := "QuireSignsModel", name := "lapse", desc := "(II)I" } : Jvm.MethodName) ∈ gw := gw_at 908 rfl rfl
set_option maxRecDepth 100000 in
theorem tw_909 : Jvm.Cond.selects "QuireSignsModel" ({ cls := "QuireSignsModel", name := "lapse", desc := "(II)I" } : Jvm.MethodName) ({ cls := "QuireSignsModel", name := "lapse", desc := "(II)I" } : Jvm.MethodName) ∈ gw := gw_at 909 rfl rfl
set_option maxRecDepth 100000 in
theorem tw_910 : Jvm.Cond.code ({ cls := "QuireSignsModel", name := "lapse", desc := "(II)I" } : Jvm.MethodName) prog_11_method_50_code (8 : Nat) (Option.some Jvm.ClassFile.FieldType.int) ∈ gw := gw_at 910 rfl rfl
set_option maxRecDepth 100000 in
theorem tw_911 : Jvm.Cond.methodLink "QuireSignsModel" (150 : Nat) ({ cls := "QuireSignsModel", name := "isLapse", desc := "(I)Z" } : Jvm.MethodName) ∈ gw := gw_at 911 rfl rfl
set_option maxRecDepth 100000 in
theorem tw_913 : Jvm.Cond.instanceMethod ({ cls := "QuireSignsModel", name := "isLapse", desc := "(I)Z" } : Jvm.MethodName) ∈ gw := gw_at 913 rfl rfl
set_option maxRecDepth 100000 in
theorem tw_914 : Jvm.Cond.code ({ cls := "QuireSignsModel", name := "isLapse", desc := "(I)Z" } : Jvm.MethodName) prog_11_method_48_code (3 : Nat) (Option.some Jvm.ClassFile.FieldType.boolean) ∈ gw := gw_at 914 rfl rfl
set_option maxRecDepth 100000 in
theorem tw_915 : Jvm.Cond.methodLink "QuireSignsModel" (147 : Nat) ({ cls := "QuireSignsModel", name := "before", desc := "(I)I" } : Jvm.MethodName) ∈ gw := gw_at 915 rfl rfl
set_option maxRecDepth 100000 in
theorem tw_917 : Jvm.Cond.instanceMethod ({ cls := "QuireSignsModel", name := "before", desc := "(I)I" } : Jvm.MethodName) ∈ gw := gw_at 917 rfl rfl
set_option maxRecDepth 100000 in
theorem tw_918 : Jvm.Cond.code ({ cls := "QuireSignsModel", name := "before", desc := "(I)I" } : Jvm.MethodName) prog_11_method_47_code (4 : Nat) (Option.some Jvm.ClassFile.FieldType.int) ∈ gw := gw_at 918 rfl rfl
set_option maxRecDepth 100000 in
theorem tw_919 : Jvm.Cond.methodLink "QuireSignsModel" (153 : Nat) ({ cls := "QuireSignsModel", name := "between", desc := "(II)I" } : Jvm.MethodName) ∈ gw := gw_at 919 rfl rfl
set_option maxRecDepth 100000 in
theorem tw_921 : Jvm.Cond.instanceMethod ({ cls := "QuireSignsModel", name := "between", desc := "(II)I" } : Jvm.MethodName) ∈ gw := gw_at 921 rfl rfl
set_option maxRecDepth 100000 in
theorem tw_922 : Jvm.Cond.code ({ cls := "QuireSignsModel", name := "between", desc := "(II)I" } : Jvm.MethodName) prog_11_method_49_code (5 : Nat) (Option.some Jvm.ClassFile.FieldType.int) ∈ gw := gw_at 922 rfl rfl
set_option maxRecDepth 100000 in
theorem tw_923 : Jvm.Cond.methodLink "QuireSignsLaw" (91 : Nat) ({ cls := "QuireSignsModel", name := "piled", desc := "(II)I" } : Jvm.MethodName) ∈ gw := gw_at 923 rfl rfl
set_option maxRecDepth 100000 in
theorem tw_924 : Jvm.Cond.instanceMethod ({ cls := "QuireSignsModel", name := "piled", desc := "(II)I" } : Jvm.MethodName) ∈ gw := gw_at 924 rfl rfl
set_option maxRecDepth 100000 in
theorem tw_925 : Jvm.Cond.selects "QuireSignsModel" ({ cls := "QuireSignsModel", name := "piled", desc := "(II)I" } : Jvm.MethodName) ({ cls := "QuireSignsModel", name := "piled", desc := "(II)I" } : Jvm.MethodName) ∈ gw := gw_at 925 rfl rfl
set_option maxRecDepth 100000 in
theorem tw_926 : Jvm.Cond.code ({ cls := "QuireSignsModel", name := "piled", desc := "(II)I" } : Jvm.MethodName) prog_11_method_52_code (7 : Nat) (Option.some Jvm.ClassFile.FieldType.int) ∈ gw := gw_at 926 rfl rfl
set_option maxRecDepth 100000 in
theorem tw_927 : Jvm.Cond.methodLink "QuireSignsModel" (156 : Nat) ({ cls := "QuireSignsModel", name := "isPiled", desc := "(I)Z" } : Jvm.MethodName) ∈ gw := gw_at 927 rfl rfl
set_option maxRecDepth 100000 in
theorem tw_929 : Jvm.Cond.instanceMethod ({ cls := "QuireSignsModel", name := "isPiled", desc := "(I)Z" } : Jvm.MethodName) ∈ gw := gw_at 929 rfl rfl
set_option maxRecDepth 100000 in
theorem tw_930 : Jvm.Cond.code ({ cls := "QuireSignsModel", name := "isPiled", desc := "(I)Z" } : Jvm.MethodName) prog_11_method_51_code (4 : Nat) (Option.some Jvm.ClassFile.FieldType.boolean) ∈ gw := gw_at 930 rfl rfl
set_option maxRecDepth 100000 in
theorem tw_931 : Jvm.Cond.methodLink "QuireSignsLaw" (95 : Nat) ({ cls := "QuireSignsModel", name := "sheets", desc := "(I)I" } : Jvm.MethodName) ∈ gw := gw_at 931 rfl rfl
set_option maxRecDepth 100000 in
theorem tw_932 : Jvm.Cond.instanceMethod ({ cls := "QuireSignsModel", name := "sheets", desc := "(I)I" } : Jvm.MethodName) ∈ gw := gw_at 932 rfl rfl
set_option maxRecDepth 100000 in
theorem tw_933 : Jvm.Cond.selects "QuireSignsModel" ({ cls := "QuireSignsModel", name := "sheets", desc := "(I)I" } : Jvm.MethodName) ({ cls := "QuireSignsModel", name := "sheets", desc := "(I)I" } : Jvm.MethodName) ∈ gw := gw_at 933 rfl rfl
set_option maxRecDepth 100000 in
theorem tw_934 : Jvm.Cond.code ({ cls := "QuireSignsModel", name := "sheets", desc := "(I)I" } : Jvm.MethodName) prog_11_method_53_code (4 : Nat) (Option.some Jvm.ClassFile.FieldType.int) ∈ gw := gw_at 934 rfl rfl
set_option maxRecDepth 100000 in
theorem tw_935 : Jvm.Cond.methodLink "QuireSignsLaw" (99 : Nat) ({ cls := "QuireSignsModel", name := "formula", desc := "(I)I" } : Jvm.MethodName) ∈ gw := gw_at 935 rfl rfl
set_option maxRecDepth 100000 in
theorem tw_936 : Jvm.Cond.instanceMethod ({ cls := "QuireSignsModel", name := "formula", desc := "(I)I" } : Jvm.MethodName) ∈ gw := gw_at 936 rfl rfl
set_option maxRecDepth 100000 in
theorem tw_937 : Jvm.Cond.selects "QuireSignsModel" ({ cls := "QuireSignsModel", name := "formula", desc := "(I)I" } : Jvm.MethodName) ({ cls := "QuireSignsModel", name := "formula", desc := "(I)I" } : Jvm.MethodName) ∈ gw := gw_at 937 rfl rfl
set_option maxRecDepth 100000 in
theorem tw_938 : Jvm.Cond.code ({ cls := "QuireSignsModel", name := "formula", desc := "(I)I" } : Jvm.MethodName) prog_11_method_58_code (2 : Nat) (Option.some Jvm.ClassFile.FieldType.int) ∈ gw := gw_at 938 rfl rfl
set_option maxRecDepth 100000 in
theorem tw_939 : Jvm.Cond.methodLink "QuireSignsModel" (175 : Nat) ({ cls := "QuireSignsModel", name := "lays", desc := "()V" } : Jvm.MethodName) ∈ gw := gw_at 939 rfl rfl
set_option maxRecDepth 100000 in
theorem tw_941 : Jvm.Cond.instanceMethod ({ cls := "QuireSignsModel", name := "lays", desc := "()V" } : Jvm.MethodName) ∈ gw := gw_at 941 rfl rfl
set_option maxRecDepth 100000 in
theorem tw_942 : Jvm.Cond.code ({ cls := "QuireSignsModel", name := "lays", desc := "()V" } : Jvm.MethodName) prog_11_method_57_code (4 : Nat) (Option.none : Option Jvm.ClassFile.FieldType) ∈ gw := gw_at 942 rfl rfl
set_option maxRecDepth 100000 in
theorem tw_943 : Jvm.Cond.methodLink "QuireSignsModel" (169 : Nat) ({ cls := "QuireSignsModel", name := "goesOn", desc := "(I)Z" } : Jvm.MethodName) ∈ gw := gw_at 943 rfl rfl
set_option maxRecDepth 100000 in
theorem tw_945 : Jvm.Cond.instanceMethod ({ cls := "QuireSignsModel", name := "goesOn", desc := "(I)Z" } : Jvm.MethodName) ∈ gw := gw_at 945 rfl rfl
set_option maxRecDepth 100000 in
theorem tw_946 : Jvm.Cond.code ({ cls := "QuireSignsModel", name := "goesOn", desc := "(I)Z" } : Jvm.MethodName) prog_11_method_56_code (3 : Nat) (Option.some Jvm.ClassFile.FieldType.boolean) ∈ gw := gw_at 946 rfl rfl
set_option maxRecDepth 100000 in
theorem tw_947 : Jvm.Cond.methodLink "QuireSignsModel" (162 : Nat) ({ cls := "QuireSignsModel", name := "writes", desc := "(I)V" } : Jvm.MethodName) ∈ gw := gw_at 947 rfl rfl
set_option maxRecDepth 100000 in
theorem tw_949 : Jvm.Cond.instanceMethod ({ cls := "QuireSignsModel", name := "writes", desc := "(I)V" } : Jvm.MethodName) ∈ gw := gw_at 949 rfl rfl
set_option maxRecDepth 100000 in
theorem tw_950 : Jvm.Cond.code ({ cls := "QuireSignsModel", name := "writes", desc := "(I)V" } : Jvm.MethodName) prog_11_method_54_code (2 : Nat) (Option.none : Option Jvm.ClassFile.FieldType) ∈ gw := gw_at 950 rfl rfl
set_option maxRecDepth 100000 in
theorem tw_951 : Jvm.Cond.methodLink "QuireSignsModel" (172 : Nat) ({ cls := "QuireSignsModel", name := "writesSign", desc := "(I)V" } : Jvm.MethodName) ∈ gw := gw_at 951 rfl rfl
set_option maxRecDepth 100000 in
theorem tw_953 : Jvm.Cond.instanceMethod ({ cls := "QuireSignsModel", name := "writesSign", desc := "(I)V" } : Jvm.MethodName) ∈ gw := gw_at 953 rfl rfl
set_option maxRecDepth 100000 in
theorem tw_954 : Jvm.Cond.code ({ cls := "QuireSignsModel", name := "writesSign", desc := "(I)V" } : Jvm.MethodName) prog_11_method_55_code (3 : Nat) (Option.none : Option Jvm.ClassFile.FieldType) ∈ gw := gw_at 954 rfl rfl
set_option maxRecDepth 100000 in
theorem tw_955 : Jvm.Cond.methodLink "QuireSignsLaw" (103 : Nat) ({ cls := "QuireSignsModel", name := "count", desc := "(I)I" } : Jvm.MethodName) ∈ gw := gw_at 955 rfl rfl
set_option maxRecDepth 100000 in
theorem tw_956 : Jvm.Cond.instanceMethod ({ cls := "QuireSignsModel", name := "count", desc := "(I)I" } : Jvm.MethodName) ∈ gw := gw_at 956 rfl rfl
set_option maxRecDepth 100000 in
theorem tw_957 : Jvm.Cond.selects "QuireSignsModel" ({ cls := "QuireSignsModel", name := "count", desc := "(I)I" } : Jvm.MethodName) ({ cls := "QuireSignsModel", name := "count", desc := "(I)I" } : Jvm.MethodName) ∈ gw := gw_at 957 rfl rfl
set_option maxRecDepth 100000 in
theorem tw_958 : Jvm.Cond.code ({ cls := "QuireSignsModel", name := "count", desc := "(I)I" } : Jvm.MethodName) prog_11_method_61_code (2 : Nat) (Option.some Jvm.ClassFile.FieldType.int) ∈ gw := gw_at 958 rfl rfl
set_option maxRecDepth 100000 in
theorem tw_959 : Jvm.Cond.methodLink "QuireSignsModel" (178 : Nat) ({ cls := "QuireSignsModel", name := "starred", desc := "()I" } : Jvm.MethodName) ∈ gw := gw_at 959 rfl rfl
set_option maxRecDepth 100000 in
theorem tw_961 : Jvm.Cond.instanceMethod ({ cls := "QuireSignsModel", name := "starred", desc := "()I" } : Jvm.MethodName) ∈ gw := gw_at 961 rfl rfl
set_option maxRecDepth 100000 in
theorem tw_962 : Jvm.Cond.code ({ cls := "QuireSignsModel", name := "starred", desc := "()I" } : Jvm.MethodName) prog_11_method_59_code (3 : Nat) (Option.some Jvm.ClassFile.FieldType.int) ∈ gw := gw_at 962 rfl rfl
set_option maxRecDepth 100000 in
theorem tw_963 : Jvm.Cond.methodLink "QuireSignsModel" (181 : Nat) ({ cls := "QuireSignsModel", name := "lapses", desc := "()I" } : Jvm.MethodName) ∈ gw := gw_at 963 rfl rfl
set_option maxRecDepth 100000 in
theorem tw_965 : Jvm.Cond.instanceMethod ({ cls := "QuireSignsModel", name := "lapses", desc := "()I" } : Jvm.MethodName) ∈ gw := gw_at 965 rfl rfl
set_option maxRecDepth 100000 in
theorem tw_966 : Jvm.Cond.code ({ cls := "QuireSignsModel", name := "lapses", desc := "()I" } : Jvm.MethodName) prog_11_method_60_code (3 : Nat) (Option.some Jvm.ClassFile.FieldType.int) ∈ gw := gw_at 966 rfl rfl
def nwl : List Cond := [Jvm.Cond.methodLinkNest "QuireSigns" (11 : Nat) ({ cls := "QuireSigns$Book", name := "<init>", desc := "()V" } : Jvm.MethodName) "QuireSigns", Jvm.Cond.fieldLinkNest "QuireSigns" (51 : Nat) "QuireSigns$Book" "alphabet" "LQuireSigns$Alphabet;" "QuireSigns", Jvm.Cond.fieldLinkNest "QuireSigns$Lapses" (30 : Nat) "QuireSigns$Book" "alphabet" "LQuireSigns$Alphabet;" "QuireSigns", Jvm.Cond.fieldLinkNest "QuireSigns$Writer" (62 : Nat) "QuireSigns$Book" "alphabet" "LQuireSigns$Alphabet;" "QuireSigns", Jvm.Cond.fieldLinkNest "QuireSigns" (72 : Nat) "QuireSigns$Book" "signing" "I" "QuireSigns", Jvm.Cond.fieldLinkNest "QuireSigns$Lapses" (7 : Nat) "QuireSigns$Book" "signs" "LQuireSigns$Row;" "QuireSigns", Jvm.Cond.fieldLinkNest "QuireSigns$Writer" (44 : Nat) "QuireSigns$Book" "signs" "LQuireSigns$Row;" "QuireSigns", Jvm.Cond.fieldLinkNest "QuireSigns" (177 : Nat) "QuireSigns$Book" "signs" "LQuireSigns$Row;" "QuireSigns", Jvm.Cond.fieldLinkNest "QuireSigns$Writer" (56 : Nat) "QuireSigns$Book" "sizes" "LQuireSigns$Row;" "QuireSigns", Jvm.Cond.fieldLinkNest "QuireSigns" (189 : Nat) "QuireSigns$Book" "sizes" "LQuireSigns$Row;" "QuireSigns", Jvm.Cond.fieldLinkNest "QuireSigns" (146 : Nat) "QuireSigns$Book" "pile" "LQuireSigns$Row;" "QuireSigns", Jvm.Cond.methodLinkNest "QuireSigns$History" (17 : Nat) ({ cls := "QuireSigns$Book", name := "<init>", desc := "()V" } : Jvm.MethodName) "QuireSigns", Jvm.Cond.methodLinkNest "QuireSigns" (28 : Nat) ({ cls := "QuireSigns$Text", name := "<init>", desc := "()V" } : Jvm.MethodName) "QuireSigns", Jvm.Cond.methodLinkNest "QuireSigns" (35 : Nat) ({ cls := "QuireSigns$Writer", name := "<init>", desc := "()V" } : Jvm.MethodName) "QuireSigns"]
theorem nw_78 : Jvm.Cond.methodLinkNest "QuireSigns" (11 : Nat) ({ cls := "QuireSigns$Book", name := "<init>", desc := "()V" } : Jvm.MethodName) "QuireSigns" ∈ nwl := List.mem_of_getElem? (i := 0) rfl
theorem nw_111 : Jvm.Cond.fieldLinkNest "QuireSigns" (51 : Nat) "QuireSigns$Book" "alphabet" "LQuireSigns$Alphabet;" "QuireSigns" ∈ nwl := List.mem_of_getElem? (i := 1) rfl
theorem nw_112 : Jvm.Cond.fieldLinkNest "QuireSigns$Lapses" (30 : Nat) "QuireSigns$Book" "alphabet" "LQuireSigns$Alphabet;" "QuireSigns" ∈ nwl := List.mem_of_getElem? (i := 2) rfl
theorem nw_113 : Jvm.Cond.fieldLinkNest "QuireSigns$Writer" (62 : Nat) "QuireSigns$Book" "alphabet" "LQuireSigns$Alphabet;" "QuireSigns" ∈ nwl := List.mem_of_getElem? (i := 3) rfl
theorem nw_115 : Jvm.Cond.fieldLinkNest "QuireSigns" (72 : Nat) "QuireSigns$Book" "signing" "I" "QuireSigns" ∈ nwl := List.mem_of_getElem? (i := 4) rfl
theorem nw_117 : Jvm.Cond.fieldLinkNest "QuireSigns$Lapses" (7 : Nat) "QuireSigns$Book" "signs" "LQuireSigns$Row;" "QuireSigns" ∈ nwl := List.mem_of_getElem? (i := 5) rfl
theorem nw_118 : Jvm.Cond.fieldLinkNest "QuireSigns$Writer" (44 : Nat) "QuireSigns$Book" "signs" "LQuireSigns$Row;" "QuireSigns" ∈ nwl := List.mem_of_getElem? (i := 6) rfl
theorem nw_119 : Jvm.Cond.fieldLinkNest "QuireSigns" (177 : Nat) "QuireSigns$Book" "signs" "LQuireSigns$Row;" "QuireSigns" ∈ nwl := List.mem_of_getElem? (i := 7) rfl
theorem nw_121 : Jvm.Cond.fieldLinkNest "QuireSigns$Writer" (56 : Nat) "QuireSigns$Book" "sizes" "LQuireSigns$Row;" "QuireSigns" ∈ nwl := List.mem_of_getElem? (i := 8) rfl
theorem nw_122 : Jvm.Cond.fieldLinkNest "QuireSigns" (189 : Nat) "QuireSigns$Book" "sizes" "LQuireSigns$Row;" "QuireSigns" ∈ nwl := List.mem_of_getElem? (i := 9) rfl
theorem nw_125 : Jvm.Cond.fieldLinkNest "QuireSigns" (146 : Nat) "QuireSigns$Book" "pile" "LQuireSigns$Row;" "QuireSigns" ∈ nwl := List.mem_of_getElem? (i := 10) rfl
theorem nw_147 : Jvm.Cond.methodLinkNest "QuireSigns$History" (17 : Nat) ({ cls := "QuireSigns$Book", name := "<init>", desc := "()V" } : Jvm.MethodName) "QuireSigns" ∈ nwl := List.mem_of_getElem? (i := 11) rfl
theorem nw_157 : Jvm.Cond.methodLinkNest "QuireSigns" (28 : Nat) ({ cls := "QuireSigns$Text", name := "<init>", desc := "()V" } : Jvm.MethodName) "QuireSigns" ∈ nwl := List.mem_of_getElem? (i := 12) rfl
theorem nw_186 : Jvm.Cond.methodLinkNest "QuireSigns" (35 : Nat) ({ cls := "QuireSigns$Writer", name := "<init>", desc := "()V" } : Jvm.MethodName) "QuireSigns" ∈ nwl := List.mem_of_getElem? (i := 13) rfl
theorem nwl_in : ∀ w ∈ nwl, w ∈ lw_tbl := List.forall_mem_cons.mpr ⟨List.mem_of_getElem? (i := 78) rfl, List.forall_mem_cons.mpr ⟨List.mem_of_getElem? (i := 111) rfl, List.forall_mem_cons.mpr ⟨List.mem_of_getElem? (i := 112) rfl, List.forall_mem_cons.mpr ⟨List.mem_of_getElem? (i := 113) rfl, List.forall_mem_cons.mpr ⟨List.mem_of_getElem? (i := 115) rfl, List.forall_mem_cons.mpr ⟨List.mem_of_getElem? (i := 117) rfl, List.forall_mem_cons.mpr ⟨List.mem_of_getElem? (i := 118) rfl, List.forall_mem_cons.mpr ⟨List.mem_of_getElem? (i := 119) rfl, List.forall_mem_cons.mpr ⟨List.mem_of_getElem? (i := 121) rfl, List.forall_mem_cons.mpr ⟨List.mem_of_getElem? (i := 122) rfl, List.forall_mem_cons.mpr ⟨List.mem_of_getElem? (i := 125) rfl, List.forall_mem_cons.mpr ⟨List.mem_of_getElem? (i := 147) rfl, List.forall_mem_cons.mpr ⟨List.mem_of_getElem? (i := 157) rfl, List.forall_mem_cons.mpr ⟨List.mem_of_getElem? (i := 186) rfl, fun _ h => absurd h List.not_mem_nil⟩⟩⟩⟩⟩⟩⟩⟩⟩⟩⟩⟩⟩⟩
theorem nwl_tab : ∀ w ∈ nwl, w.onTables = true := List.forall_mem_cons.mpr ⟨rfl, List.forall_mem_cons.mpr ⟨rfl, List.forall_mem_cons.mpr ⟨rfl, List.forall_mem_cons.mpr ⟨rfl, List.forall_mem_cons.mpr ⟨rfl, List.forall_mem_cons.mpr ⟨rfl, List.forall_mem_cons.mpr ⟨rfl, List.forall_mem_cons.mpr ⟨rfl, List.forall_mem_cons.mpr ⟨rfl, List.forall_mem_cons.mpr ⟨rfl, List.forall_mem_cons.mpr ⟨rfl, List.forall_mem_cons.mpr ⟨rfl, List.forall_mem_cons.mpr ⟨rfl, List.forall_mem_cons.mpr ⟨rfl, fun _ h => absurd h List.not_mem_nil⟩⟩⟩⟩⟩⟩⟩⟩⟩⟩⟩⟩⟩⟩
/-- the words of nest mates, of a state -/
def nst (U : State) : Prop := ∀ w ∈ nwl, va_Nw w U
theorem nst_warm {s U : State} (hW : s.WarmedH U.vm) (h : nst s) : nst U := List.forall_mem_cons.mpr ⟨va_Nw.warmM hW (h _ nw_78), List.forall_mem_cons.mpr ⟨va_Nw.warmF hW (h _ nw_111), List.forall_mem_cons.mpr ⟨va_Nw.warmF hW (h _ nw_112), List.forall_mem_cons.mpr ⟨va_Nw.warmF hW (h _ nw_113), List.forall_mem_cons.mpr ⟨va_Nw.warmF hW (h _ nw_115), List.forall_mem_cons.mpr ⟨va_Nw.warmF hW (h _ nw_117), List.forall_mem_cons.mpr ⟨va_Nw.warmF hW (h _ nw_118), List.forall_mem_cons.mpr ⟨va_Nw.warmF hW (h _ nw_119), List.forall_mem_cons.mpr ⟨va_Nw.warmF hW (h _ nw_121), List.forall_mem_cons.mpr ⟨va_Nw.warmF hW (h _ nw_122), List.forall_mem_cons.mpr ⟨va_Nw.warmF hW (h _ nw_125), List.forall_mem_cons.mpr ⟨va_Nw.warmM hW (h _ nw_147), List.forall_mem_cons.mpr ⟨va_Nw.warmM hW (h _ nw_157), List.forall_mem_cons.mpr ⟨va_Nw.warmM hW (h _ nw_186), fun _ h => absurd h List.not_mem_nil⟩⟩⟩⟩⟩⟩⟩⟩⟩⟩⟩⟩⟩⟩
theorem nst_same {u U : State} (e : u.vm = U.vm) (h : nst u) : nst U := fun w hw => va_Nw.same (nwl_tab w hw) e (h w hw)
theorem inX0 : ∀ w ∈ u_ws RX0 TX0 1, w ∈ gw := List.forall_mem_cons.mpr ⟨tw_90, fun _ h => absurd h List.not_mem_nil⟩
theorem inX1 : ∀ w ∈ u_ws RX1 TX1 6, w ∈ gw := List.forall_mem_cons.mpr ⟨tw_126, List.forall_mem_cons.mpr ⟨tw_128, List.forall_mem_cons.mpr ⟨tw_130, List.forall_mem_cons.mpr ⟨tw_132, List.forall_mem_cons.mpr ⟨tw_134, List.forall_mem_cons.mpr ⟨tw_136, fun _ h => absurd h List.not_mem_nil⟩⟩⟩⟩⟩⟩
theorem inX2 : ∀ w ∈ u_ws RX2 TX2 2, w ∈ gw := List.forall_mem_cons.mpr ⟨tw_150, List.forall_mem_cons.mpr ⟨tw_152, fun _ h => absurd h List.not_mem_nil⟩⟩
theorem inX4 : ∀ w ∈ u_ws RX4 TX4 2, w ∈ gw := List.forall_mem_cons.mpr ⟨tw_104, List.forall_mem_cons.mpr ⟨tw_106, fun _ h => absurd h List.not_mem_nil⟩⟩
theorem inX6 : ∀ w ∈ u_ws RX6 TX6 6, w ∈ gw := List.forall_mem_cons.mpr ⟨tw_171, List.forall_mem_cons.mpr ⟨tw_173, List.forall_mem_cons.mpr ⟨tw_175, List.forall_mem_cons.mpr ⟨tw_177, List.forall_mem_cons.mpr ⟨tw_179, List.forall_mem_cons.mpr ⟨tw_181, fun _ h => absurd h List.not_mem_nil⟩⟩⟩⟩⟩⟩
theorem inX7 : ∀ w ∈ u_ws RX7 TX7 2, w ∈ gw := List.forall_mem_cons.mpr ⟨tw_194, List.forall_mem_cons.mpr ⟨tw_196, fun _ h => absurd h List.not_mem_nil⟩⟩
theorem inX8 : ∀ w ∈ u_ws RX8 TX8 7, w ∈ gw := List.forall_mem_cons.mpr ⟨tw_208, List.forall_mem_cons.mpr ⟨tw_210, List.forall_mem_cons.mpr ⟨tw_212, List.forall_mem_cons.mpr ⟨tw_214, List.forall_mem_cons.mpr ⟨tw_216, List.forall_mem_cons.mpr ⟨tw_218, List.forall_mem_cons.mpr ⟨tw_220, fun _ h => absurd h List.not_mem_nil⟩⟩⟩⟩⟩⟩⟩
theorem inX9 : ∀ w ∈ u_ws RX9 TX9 14, w ∈ gw := List.forall_mem_cons.mpr ⟨tw_699, List.forall_mem_cons.mpr ⟨tw_701, List.forall_mem_cons.mpr ⟨tw_703, List.forall_mem_cons.mpr ⟨tw_705, List.forall_mem_cons.mpr ⟨tw_707, List.forall_mem_cons.mpr ⟨tw_709, List.forall_mem_cons.mpr ⟨tw_711, List.forall_mem_cons.mpr ⟨tw_713, List.forall_mem_cons.mpr ⟨tw_715, List.forall_mem_cons.mpr ⟨tw_717, List.forall_mem_cons.mpr ⟨tw_719, List.forall_mem_cons.mpr ⟨tw_721, List.forall_mem_cons.mpr ⟨tw_723, List.forall_mem_cons.mpr ⟨tw_725, fun _ h => absurd h List.not_mem_nil⟩⟩⟩⟩⟩⟩⟩⟩⟩⟩⟩⟩⟩⟩
abbrev vwCl : List vw_C := [(RX0, TX0, 1), (RX1, TX1, 6), (RX2, TX2, 2), (RX4, TX4, 2), (RX6, TX6, 6), (RX7, TX7, 2), (RX8, TX8, 7), (RX9, TX9, 14)]
