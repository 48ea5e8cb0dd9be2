theorem dX0_init_0 : decode cX0_init 0 = .ok (.aload_n 0, 1) := by decide +kernel
theorem dX0_init_1 : decode cX0_init 1 = .ok (.invokespecial 1, 3) := by decide +kernel
theorem dX0_init_4 : decode cX0_init 4 = .ok (.aload_n 0, 1) := by decide +kernel
theorem dX0_init_5 : decode cX0_init 5 = .ok (.iload_n 1, 1) := by decide +kernel
theorem dX0_init_6 : decode cX0_init 6 = .ok (.putfield 7, 3) := by decide +kernel
theorem dX0_init_9 : decode cX0_init 9 = .ok (.return_, 1) := by decide +kernel
theorem dX0_has_0 : decode cX0_has 0 = .ok (.iload_n 1, 1) := by decide +kernel
theorem dX0_has_1 : decode cX0_has 1 = .ok (.ifCond .lt 24, 3) := by decide +kernel
theorem dX0_has_4 : decode cX0_has 4 = .ok (.iload_n 1, 1) := by decide +kernel
theorem dX0_has_5 : decode cX0_has 5 = .ok (.bipush 26, 2) := by decide +kernel
theorem dX0_has_7 : decode cX0_has 7 = .ok (.if_icmp .ge 18, 3) := by decide +kernel
theorem dX0_has_10 : decode cX0_has 10 = .ok (.aload_n 0, 1) := by decide +kernel
theorem dX0_has_11 : decode cX0_has 11 = .ok (.getfield 7, 3) := by decide +kernel
theorem dX0_has_14 : decode cX0_has 14 = .ok (.iload_n 1, 1) := by decide +kernel
theorem dX0_has_15 : decode cX0_has 15 = .ok (.ishr, 1) := by decide +kernel
theorem dX0_has_16 : decode cX0_has 16 = .ok (.iconst 1, 1) := by decide +kernel
theorem dX0_has_17 : decode cX0_has 17 = .ok (.iand, 1) := by decide +kernel
theorem dX0_has_18 : decode cX0_has 18 = .ok (.ifCond .ne 7, 3) := by decide +kernel
theorem dX0_has_21 : decode cX0_has 21 = .ok (.iconst 1, 1) := by decide +kernel
theorem dX0_has_22 : decode cX0_has 22 = .ok (.goto 4, 3) := by decide +kernel
theorem dX0_has_25 : decode cX0_has 25 = .ok (.iconst 0, 1) := by decide +kernel
theorem dX0_has_26 : decode cX0_has 26 = .ok (.ireturn, 1) := by decide +kernel
theorem dX0_letters_0 : decode cX0_letters 0 = .ok (.bipush 26, 2) := by decide +kernel
theorem dX0_letters_2 : decode cX0_letters 2 = .ok (.aload_n 0, 1) := by decide +kernel
theorem dX0_letters_3 : decode cX0_letters 3 = .ok (.getfield 7, 3) := by decide +kernel
theorem dX0_letters_6 : decode cX0_letters 6 = .ok (.invokestatic 15, 3) := by decide +kernel
theorem dX0_letters_9 : decode cX0_letters 9 = .ok (.isub, 1) := by decide +kernel
theorem dX0_letters_10 : decode cX0_letters 10 = .ok (.ireturn, 1) := by decide +kernel
theorem dX0_turn_0 : decode cX0_turn 0 = .ok (.aload_n 0, 1) := by decide +kernel
theorem dX0_turn_1 : decode cX0_turn 1 = .ok (.dup, 1) := by decide +kernel
theorem dX0_turn_2 : decode cX0_turn 2 = .ok (.getfield 7, 3) := by decide +kernel
theorem dX0_turn_5 : decode cX0_turn 5 = .ok (.iconst 1, 1) := by decide +kernel
theorem dX0_turn_6 : decode cX0_turn 6 = .ok (.iload_n 1, 1) := by decide +kernel
theorem dX0_turn_7 : decode cX0_turn 7 = .ok (.ishl, 1) := by decide +kernel
theorem dX0_turn_8 : decode cX0_turn 8 = .ok (.ixor, 1) := by decide +kernel
theorem dX0_turn_9 : decode cX0_turn 9 = .ok (.putfield 7, 3) := by decide +kernel
theorem dX0_turn_12 : decode cX0_turn 12 = .ok (.return_, 1) := by decide +kernel
theorem dX0_nextSign_0 : decode cX0_nextSign 0 = .ok (.iload_n 1, 1) := by decide +kernel
theorem dX0_nextSign_1 : decode cX0_nextSign 1 = .ok (.iconst 1, 1) := by decide +kernel
theorem dX0_nextSign_2 : decode cX0_nextSign 2 = .ok (.iadd, 1) := by decide +kernel
theorem dX0_nextSign_3 : decode cX0_nextSign 3 = .ok (.istore_n 2, 1) := by decide +kernel
theorem dX0_nextSign_4 : decode cX0_nextSign 4 = .ok (.iload_n 2, 1) := by decide +kernel
theorem dX0_nextSign_5 : decode cX0_nextSign 5 = .ok (.bipush 78, 2) := by decide +kernel
theorem dX0_nextSign_7 : decode cX0_nextSign 7 = .ok (.if_icmp .ge 22, 3) := by decide +kernel
theorem dX0_nextSign_10 : decode cX0_nextSign 10 = .ok (.aload_n 0, 1) := by decide +kernel
theorem dX0_nextSign_11 : decode cX0_nextSign 11 = .ok (.iload_n 2, 1) := by decide +kernel
theorem dX0_nextSign_12 : decode cX0_nextSign 12 = .ok (.invokestatic 21, 3) := by decide +kernel
theorem dX0_nextSign_15 : decode cX0_nextSign 15 = .ok (.invokevirtual 24, 3) := by decide +kernel
theorem dX0_nextSign_18 : decode cX0_nextSign 18 = .ok (.ifCond .eq 5, 3) := by decide +kernel
theorem dX0_nextSign_21 : decode cX0_nextSign 21 = .ok (.iload_n 2, 1) := by decide +kernel
theorem dX0_nextSign_22 : decode cX0_nextSign 22 = .ok (.ireturn, 1) := by decide +kernel
theorem dX0_nextSign_23 : decode cX0_nextSign 23 = .ok (.iinc 2 1, 3) := by decide +kernel
theorem dX0_nextSign_26 : decode cX0_nextSign 26 = .ok (.goto (-22), 3) := by decide +kernel
theorem dX0_nextSign_29 : decode cX0_nextSign 29 = .ok (.iconst (-1), 1) := by decide +kernel
theorem dX0_nextSign_30 : decode cX0_nextSign 30 = .ok (.ireturn, 1) := by decide +kernel
theorem dX0_signsBetween_0 : decode cX0_signsBetween 0 = .ok (.iconst 0, 1) := by decide +kernel
theorem dX0_signsBetween_1 : decode cX0_signsBetween 1 = .ok (.istore_n 3, 1) := by decide +kernel
theorem dX0_signsBetween_2 : decode cX0_signsBetween 2 = .ok (.iload_n 1, 1) := by decide +kernel
theorem dX0_signsBetween_3 : decode cX0_signsBetween 3 = .ok (.iconst 1, 1) := by decide +kernel
theorem dX0_signsBetween_4 : decode cX0_signsBetween 4 = .ok (.iadd, 1) := by decide +kernel
theorem dX0_signsBetween_5 : decode cX0_signsBetween 5 = .ok (.istore 4, 2) := by decide +kernel
theorem dX0_signsBetween_7 : decode cX0_signsBetween 7 = .ok (.iload 4, 2) := by decide +kernel
theorem dX0_signsBetween_9 : decode cX0_signsBetween 9 = .ok (.iload_n 2, 1) := by decide +kernel
theorem dX0_signsBetween_10 : decode cX0_signsBetween 10 = .ok (.if_icmp .ge 31, 3) := by decide +kernel
theorem dX0_signsBetween_13 : decode cX0_signsBetween 13 = .ok (.iload 4, 2) := by decide +kernel
theorem dX0_signsBetween_15 : decode cX0_signsBetween 15 = .ok (.bipush 78, 2) := by decide +kernel
theorem dX0_signsBetween_17 : decode cX0_signsBetween 17 = .ok (.if_icmp .ge 24, 3) := by decide +kernel
theorem dX0_signsBetween_20 : decode cX0_signsBetween 20 = .ok (.aload_n 0, 1) := by decide +kernel
theorem dX0_signsBetween_21 : decode cX0_signsBetween 21 = .ok (.iload 4, 2) := by decide +kernel
theorem dX0_signsBetween_23 : decode cX0_signsBetween 23 = .ok (.invokestatic 21, 3) := by decide +kernel
theorem dX0_signsBetween_26 : decode cX0_signsBetween 26 = .ok (.invokevirtual 24, 3) := by decide +kernel
theorem dX0_signsBetween_29 : decode cX0_signsBetween 29 = .ok (.ifCond .eq 6, 3) := by decide +kernel
theorem dX0_signsBetween_32 : decode cX0_signsBetween 32 = .ok (.iinc 3 1, 3) := by decide +kernel
theorem dX0_signsBetween_35 : decode cX0_signsBetween 35 = .ok (.iinc 4 1, 3) := by decide +kernel
theorem dX0_signsBetween_38 : decode cX0_signsBetween 38 = .ok (.goto (-31), 3) := by decide +kernel
theorem dX0_signsBetween_41 : decode cX0_signsBetween 41 = .ok (.iload_n 3, 1) := by decide +kernel
theorem dX0_signsBetween_42 : decode cX0_signsBetween 42 = .ok (.ireturn, 1) := by decide +kernel
theorem dX0_become_0 : decode cX0_become 0 = .ok (.aload_n 0, 1) := by decide +kernel
theorem dX0_become_1 : decode cX0_become 1 = .ok (.aload_n 1, 1) := by decide +kernel
theorem dX0_become_2 : decode cX0_become 2 = .ok (.getfield 7, 3) := by decide +kernel
theorem dX0_become_5 : decode cX0_become 5 = .ok (.putfield 7, 3) := by decide +kernel
theorem dX0_become_8 : decode cX0_become 8 = .ok (.return_, 1) := by decide +kernel
theorem dX1_init_0 : decode cX1_init 0 = .ok (.aload_n 0, 1) := by decide +kernel
theorem dX1_init_1 : decode cX1_init 1 = .ok (.invokespecial 3, 3) := by decide +kernel
theorem dX1_init_4 : decode cX1_init 4 = .ok (.aload_n 0, 1) := by decide +kernel
theorem dX1_init_5 : decode cX1_init 5 = .ok (.new 9, 3) := by decide +kernel
theorem dX1_init_8 : decode cX1_init 8 = .ok (.dup, 1) := by decide +kernel
theorem dX1_init_9 : decode cX1_init 9 = .ok (.ldc 11, 2) := by decide +kernel
theorem dX1_init_11 : decode cX1_init 11 = .ok (.invokespecial 12, 3) := by decide +kernel
theorem dX1_init_14 : decode cX1_init 14 = .ok (.putfield 15, 3) := by decide +kernel
theorem dX1_init_17 : decode cX1_init 17 = .ok (.aload_n 0, 1) := by decide +kernel
theorem dX1_init_18 : decode cX1_init 18 = .ok (.iconst 1, 1) := by decide +kernel
theorem dX1_init_19 : decode cX1_init 19 = .ok (.putfield 21, 3) := by decide +kernel
theorem dX1_init_22 : decode cX1_init 22 = .ok (.aload_n 0, 1) := by decide +kernel
theorem dX1_init_23 : decode cX1_init 23 = .ok (.new 25, 3) := by decide +kernel
theorem dX1_init_26 : decode cX1_init 26 = .ok (.dup, 1) := by decide +kernel
theorem dX1_init_27 : decode cX1_init 27 = .ok (.bipush 40, 2) := by decide +kernel
theorem dX1_init_29 : decode cX1_init 29 = .ok (.invokespecial 27, 3) := by decide +kernel
theorem dX1_init_32 : decode cX1_init 32 = .ok (.putfield 28, 3) := by decide +kernel
theorem dX1_init_35 : decode cX1_init 35 = .ok (.aload_n 0, 1) := by decide +kernel
theorem dX1_init_36 : decode cX1_init 36 = .ok (.new 25, 3) := by decide +kernel
theorem dX1_init_39 : decode cX1_init 39 = .ok (.dup, 1) := by decide +kernel
theorem dX1_init_40 : decode cX1_init 40 = .ok (.bipush 40, 2) := by decide +kernel
theorem dX1_init_42 : decode cX1_init 42 = .ok (.invokespecial 27, 3) := by decide +kernel
theorem dX1_init_45 : decode cX1_init 45 = .ok (.putfield 32, 3) := by decide +kernel
theorem dX1_init_48 : decode cX1_init 48 = .ok (.aload_n 0, 1) := by decide +kernel
theorem dX1_init_49 : decode cX1_init 49 = .ok (.new 25, 3) := by decide +kernel
theorem dX1_init_52 : decode cX1_init 52 = .ok (.dup, 1) := by decide +kernel
theorem dX1_init_53 : decode cX1_init 53 = .ok (.bipush 40, 2) := by decide +kernel
theorem dX1_init_55 : decode cX1_init 55 = .ok (.invokespecial 27, 3) := by decide +kernel
theorem dX1_init_58 : decode cX1_init 58 = .ok (.putfield 35, 3) := by decide +kernel
theorem dX1_init_61 : decode cX1_init 61 = .ok (.aload_n 0, 1) := by decide +kernel
theorem dX1_init_62 : decode cX1_init 62 = .ok (.new 25, 3) := by decide +kernel
theorem dX1_init_65 : decode cX1_init 65 = .ok (.dup, 1) := by decide +kernel
theorem dX1_init_66 : decode cX1_init 66 = .ok (.bipush 12, 2) := by decide +kernel
theorem dX1_init_68 : decode cX1_init 68 = .ok (.invokespecial 27, 3) := by decide +kernel
theorem dX1_init_71 : decode cX1_init 71 = .ok (.putfield 38, 3) := by decide +kernel
theorem dX1_init_74 : decode cX1_init 74 = .ok (.return_, 1) := by decide +kernel
theorem dX1_become_0 : decode cX1_become 0 = .ok (.aload_n 0, 1) := by decide +kernel
theorem dX1_become_1 : decode cX1_become 1 = .ok (.getfield 15, 3) := by decide +kernel
theorem dX1_become_4 : decode cX1_become 4 = .ok (.aload_n 1, 1) := by decide +kernel
theorem dX1_become_5 : decode cX1_become 5 = .ok (.getfield 15, 3) := by decide +kernel
theorem dX1_become_8 : decode cX1_become 8 = .ok (.invokevirtual 41, 3) := by decide +kernel
theorem dX1_become_11 : decode cX1_become 11 = .ok (.aload_n 0, 1) := by decide +kernel
theorem dX1_become_12 : decode cX1_become 12 = .ok (.aload_n 1, 1) := by decide +kernel
theorem dX1_become_13 : decode cX1_become 13 = .ok (.getfield 21, 3) := by decide +kernel
theorem dX1_become_16 : decode cX1_become 16 = .ok (.putfield 21, 3) := by decide +kernel
theorem dX1_become_19 : decode cX1_become 19 = .ok (.aload_n 0, 1) := by decide +kernel
theorem dX1_become_20 : decode cX1_become 20 = .ok (.getfield 28, 3) := by decide +kernel
theorem dX1_become_23 : decode cX1_become 23 = .ok (.aload_n 1, 1) := by decide +kernel
theorem dX1_become_24 : decode cX1_become 24 = .ok (.getfield 28, 3) := by decide +kernel
theorem dX1_become_27 : decode cX1_become 27 = .ok (.invokevirtual 45, 3) := by decide +kernel
theorem dX1_become_30 : decode cX1_become 30 = .ok (.aload_n 0, 1) := by decide +kernel
theorem dX1_become_31 : decode cX1_become 31 = .ok (.getfield 32, 3) := by decide +kernel
theorem dX1_become_34 : decode cX1_become 34 = .ok (.aload_n 1, 1) := by decide +kernel
theorem dX1_become_35 : decode cX1_become 35 = .ok (.getfield 32, 3) := by decide +kernel
theorem dX1_become_38 : decode cX1_become 38 = .ok (.invokevirtual 45, 3) := by decide +kernel
theorem dX1_become_41 : decode cX1_become 41 = .ok (.aload_n 0, 1) := by decide +kernel
theorem dX1_become_42 : decode cX1_become 42 = .ok (.getfield 35, 3) := by decide +kernel
theorem dX1_become_45 : decode cX1_become 45 = .ok (.aload_n 1, 1) := by decide +kernel
theorem dX1_become_46 : decode cX1_become 46 = .ok (.getfield 35, 3) := by decide +kernel
theorem dX1_become_49 : decode cX1_become 49 = .ok (.invokevirtual 45, 3) := by decide +kernel
theorem dX1_become_52 : decode cX1_become 52 = .ok (.aload_n 0, 1) := by decide +kernel
theorem dX1_become_53 : decode cX1_become 53 = .ok (.getfield 38, 3) := by decide +kernel
theorem dX1_become_56 : decode cX1_become 56 = .ok (.aload_n 1, 1) := by decide +kernel
theorem dX1_become_57 : decode cX1_become 57 = .ok (.getfield 38, 3) := by decide +kernel
theorem dX1_become_60 : decode cX1_become 60 = .ok (.invokevirtual 45, 3) := by decide +kernel
theorem dX1_become_63 : decode cX1_become 63 = .ok (.return_, 1) := by decide +kernel
theorem dX1_quires_0 : decode cX1_quires 0 = .ok (.aload_n 0, 1) := by decide +kernel
theorem dX1_quires_1 : decode cX1_quires 1 = .ok (.getfield 28, 3) := by decide +kernel
theorem dX1_quires_4 : decode cX1_quires 4 = .ok (.invokevirtual 48, 3) := by decide +kernel
theorem dX1_quires_7 : decode cX1_quires 7 = .ok (.ireturn, 1) := by decide +kernel
theorem dX1_hasQuire_0 : decode cX1_hasQuire 0 = .ok (.iload_n 1, 1) := by decide +kernel
theorem dX1_hasQuire_1 : decode cX1_hasQuire 1 = .ok (.ifCond .lt 15, 3) := by decide +kernel
theorem dX1_hasQuire_4 : decode cX1_hasQuire 4 = .ok (.iload_n 1, 1) := by decide +kernel
theorem dX1_hasQuire_5 : decode cX1_hasQuire 5 = .ok (.aload_n 0, 1) := by decide +kernel
theorem dX1_hasQuire_6 : decode cX1_hasQuire 6 = .ok (.invokevirtual 52, 3) := by decide +kernel
theorem dX1_hasQuire_9 : decode cX1_hasQuire 9 = .ok (.if_icmp .ge 7, 3) := by decide +kernel
theorem dX1_hasQuire_12 : decode cX1_hasQuire 12 = .ok (.iconst 1, 1) := by decide +kernel
theorem dX1_hasQuire_13 : decode cX1_hasQuire 13 = .ok (.goto 4, 3) := by decide +kernel
theorem dX1_hasQuire_16 : decode cX1_hasQuire 16 = .ok (.iconst 0, 1) := by decide +kernel
theorem dX1_hasQuire_17 : decode cX1_hasQuire 17 = .ok (.ireturn, 1) := by decide +kernel
theorem dX1_addQuire_0 : decode cX1_addQuire 0 = .ok (.aload_n 0, 1) := by decide +kernel
theorem dX1_addQuire_1 : decode cX1_addQuire 1 = .ok (.getfield 28, 3) := by decide +kernel
theorem dX1_addQuire_4 : decode cX1_addQuire 4 = .ok (.iload_n 1, 1) := by decide +kernel
theorem dX1_addQuire_5 : decode cX1_addQuire 5 = .ok (.iload_n 2, 1) := by decide +kernel
theorem dX1_addQuire_6 : decode cX1_addQuire 6 = .ok (.invokevirtual 55, 3) := by decide +kernel
theorem dX1_addQuire_9 : decode cX1_addQuire 9 = .ok (.aload_n 0, 1) := by decide +kernel
theorem dX1_addQuire_10 : decode cX1_addQuire 10 = .ok (.getfield 32, 3) := by decide +kernel
theorem dX1_addQuire_13 : decode cX1_addQuire 13 = .ok (.iload_n 1, 1) := by decide +kernel
theorem dX1_addQuire_14 : decode cX1_addQuire 14 = .ok (.iload_n 3, 1) := by decide +kernel
theorem dX1_addQuire_15 : decode cX1_addQuire 15 = .ok (.invokevirtual 55, 3) := by decide +kernel
theorem dX1_addQuire_18 : decode cX1_addQuire 18 = .ok (.aload_n 0, 1) := by decide +kernel
theorem dX1_addQuire_19 : decode cX1_addQuire 19 = .ok (.getfield 35, 3) := by decide +kernel
theorem dX1_addQuire_22 : decode cX1_addQuire 22 = .ok (.iload_n 1, 1) := by decide +kernel
theorem dX1_addQuire_23 : decode cX1_addQuire 23 = .ok (.iconst 0, 1) := by decide +kernel
theorem dX1_addQuire_24 : decode cX1_addQuire 24 = .ok (.invokevirtual 55, 3) := by decide +kernel
theorem dX1_addQuire_27 : decode cX1_addQuire 27 = .ok (.aload_n 0, 1) := by decide +kernel
theorem dX1_addQuire_28 : decode cX1_addQuire 28 = .ok (.getfield 38, 3) := by decide +kernel
theorem dX1_addQuire_31 : decode cX1_addQuire 31 = .ok (.invokevirtual 59, 3) := by decide +kernel
theorem dX1_addQuire_34 : decode cX1_addQuire 34 = .ok (.return_, 1) := by decide +kernel
theorem dX1_dropQuire_0 : decode cX1_dropQuire 0 = .ok (.aload_n 0, 1) := by decide +kernel
theorem dX1_dropQuire_1 : decode cX1_dropQuire 1 = .ok (.getfield 28, 3) := by decide +kernel
theorem dX1_dropQuire_4 : decode cX1_dropQuire 4 = .ok (.iload_n 1, 1) := by decide +kernel
theorem dX1_dropQuire_5 : decode cX1_dropQuire 5 = .ok (.invokevirtual 62, 3) := by decide +kernel
theorem dX1_dropQuire_8 : decode cX1_dropQuire 8 = .ok (.aload_n 0, 1) := by decide +kernel
theorem dX1_dropQuire_9 : decode cX1_dropQuire 9 = .ok (.getfield 32, 3) := by decide +kernel
theorem dX1_dropQuire_12 : decode cX1_dropQuire 12 = .ok (.iload_n 1, 1) := by decide +kernel
theorem dX1_dropQuire_13 : decode cX1_dropQuire 13 = .ok (.invokevirtual 62, 3) := by decide +kernel
theorem dX1_dropQuire_16 : decode cX1_dropQuire 16 = .ok (.aload_n 0, 1) := by decide +kernel
theorem dX1_dropQuire_17 : decode cX1_dropQuire 17 = .ok (.getfield 35, 3) := by decide +kernel
theorem dX1_dropQuire_20 : decode cX1_dropQuire 20 = .ok (.iload_n 1, 1) := by decide +kernel
theorem dX1_dropQuire_21 : decode cX1_dropQuire 21 = .ok (.invokevirtual 62, 3) := by decide +kernel
theorem dX1_dropQuire_24 : decode cX1_dropQuire 24 = .ok (.aload_n 0, 1) := by decide +kernel
theorem dX1_dropQuire_25 : decode cX1_dropQuire 25 = .ok (.getfield 38, 3) := by decide +kernel
theorem dX1_dropQuire_28 : decode cX1_dropQuire 28 = .ok (.invokevirtual 59, 3) := by decide +kernel
theorem dX1_dropQuire_31 : decode cX1_dropQuire 31 = .ok (.return_, 1) := by decide +kernel
theorem dX1_starredQuires_0 : decode cX1_starredQuires 0 = .ok (.iconst 0, 1) := by decide +kernel
theorem dX1_starredQuires_1 : decode cX1_starredQuires 1 = .ok (.istore_n 1, 1) := by decide +kernel
theorem dX1_starredQuires_2 : decode cX1_starredQuires 2 = .ok (.iconst 0, 1) := by decide +kernel
theorem dX1_starredQuires_3 : decode cX1_starredQuires 3 = .ok (.istore_n 2, 1) := by decide +kernel
theorem dX1_starredQuires_4 : decode cX1_starredQuires 4 = .ok (.iload_n 2, 1) := by decide +kernel
theorem dX1_starredQuires_5 : decode cX1_starredQuires 5 = .ok (.aload_n 0, 1) := by decide +kernel
theorem dX1_starredQuires_6 : decode cX1_starredQuires 6 = .ok (.invokevirtual 52, 3) := by decide +kernel
theorem dX1_starredQuires_9 : decode cX1_starredQuires 9 = .ok (.if_icmp .ge 26, 3) := by decide +kernel
theorem dX1_starredQuires_12 : decode cX1_starredQuires 12 = .ok (.aload_n 0, 1) := by decide +kernel
theorem dX1_starredQuires_13 : decode cX1_starredQuires 13 = .ok (.getfield 28, 3) := by decide +kernel
theorem dX1_starredQuires_16 : decode cX1_starredQuires 16 = .ok (.iload_n 2, 1) := by decide +kernel
theorem dX1_starredQuires_17 : decode cX1_starredQuires 17 = .ok (.invokevirtual 65, 3) := by decide +kernel
theorem dX1_starredQuires_20 : decode cX1_starredQuires 20 = .ok (.invokestatic 69, 3) := by decide +kernel
theorem dX1_starredQuires_23 : decode cX1_starredQuires 23 = .ok (.ifCond .eq 6, 3) := by decide +kernel
theorem dX1_starredQuires_26 : decode cX1_starredQuires 26 = .ok (.iinc 1 1, 3) := by decide +kernel
theorem dX1_starredQuires_29 : decode cX1_starredQuires 29 = .ok (.iinc 2 1, 3) := by decide +kernel
theorem dX1_starredQuires_32 : decode cX1_starredQuires 32 = .ok (.goto (-28), 3) := by decide +kernel
theorem dX1_starredQuires_35 : decode cX1_starredQuires 35 = .ok (.iload_n 1, 1) := by decide +kernel
theorem dX1_starredQuires_36 : decode cX1_starredQuires 36 = .ok (.ireturn, 1) := by decide +kernel
theorem dX1_sameAhead_0 : decode cX1_sameAhead 0 = .ok (.iconst 0, 1) := by decide +kernel
theorem dX1_sameAhead_1 : decode cX1_sameAhead 1 = .ok (.istore_n 2, 1) := by decide +kernel
theorem dX1_sameAhead_2 : decode cX1_sameAhead 2 = .ok (.iconst 0, 1) := by decide +kernel
theorem dX1_sameAhead_3 : decode cX1_sameAhead 3 = .ok (.istore_n 3, 1) := by decide +kernel
theorem dX1_sameAhead_4 : decode cX1_sameAhead 4 = .ok (.iload_n 3, 1) := by decide +kernel
theorem dX1_sameAhead_5 : decode cX1_sameAhead 5 = .ok (.iload_n 1, 1) := by decide +kernel
theorem dX1_sameAhead_6 : decode cX1_sameAhead 6 = .ok (.if_icmp .ge 31, 3) := by decide +kernel
theorem dX1_sameAhead_9 : decode cX1_sameAhead 9 = .ok (.aload_n 0, 1) := by decide +kernel
theorem dX1_sameAhead_10 : decode cX1_sameAhead 10 = .ok (.getfield 28, 3) := by decide +kernel
theorem dX1_sameAhead_13 : decode cX1_sameAhead 13 = .ok (.iload_n 3, 1) := by decide +kernel
theorem dX1_sameAhead_14 : decode cX1_sameAhead 14 = .ok (.invokevirtual 65, 3) := by decide +kernel
theorem dX1_sameAhead_17 : decode cX1_sameAhead 17 = .ok (.aload_n 0, 1) := by decide +kernel
theorem dX1_sameAhead_18 : decode cX1_sameAhead 18 = .ok (.getfield 28, 3) := by decide +kernel
theorem dX1_sameAhead_21 : decode cX1_sameAhead 21 = .ok (.iload_n 1, 1) := by decide +kernel
theorem dX1_sameAhead_22 : decode cX1_sameAhead 22 = .ok (.invokevirtual 65, 3) := by decide +kernel
theorem dX1_sameAhead_25 : decode cX1_sameAhead 25 = .ok (.if_icmp .ne 6, 3) := by decide +kernel
theorem dX1_sameAhead_28 : decode cX1_sameAhead 28 = .ok (.iinc 2 1, 3) := by decide +kernel
theorem dX1_sameAhead_31 : decode cX1_sameAhead 31 = .ok (.iinc 3 1, 3) := by decide +kernel
theorem dX1_sameAhead_34 : decode cX1_sameAhead 34 = .ok (.goto (-30), 3) := by decide +kernel
theorem dX1_sameAhead_37 : decode cX1_sameAhead 37 = .ok (.iload_n 2, 1) := by decide +kernel
theorem dX1_sameAhead_38 : decode cX1_sameAhead 38 = .ok (.ireturn, 1) := by decide +kernel
theorem dX1_lastLettersAhead_0 : decode cX1_lastLettersAhead 0 = .ok (.iload_n 1, 1) := by decide +kernel
theorem dX1_lastLettersAhead_1 : decode cX1_lastLettersAhead 1 = .ok (.iconst 1, 1) := by decide +kernel
theorem dX1_lastLettersAhead_2 : decode cX1_lastLettersAhead 2 = .ok (.isub, 1) := by decide +kernel
theorem dX1_lastLettersAhead_3 : decode cX1_lastLettersAhead 3 = .ok (.istore_n 2, 1) := by decide +kernel
theorem dX1_lastLettersAhead_4 : decode cX1_lastLettersAhead 4 = .ok (.iload_n 2, 1) := by decide +kernel
theorem dX1_lastLettersAhead_5 : decode cX1_lastLettersAhead 5 = .ok (.ifCond .lt 32, 3) := by decide +kernel
theorem dX1_lastLettersAhead_8 : decode cX1_lastLettersAhead 8 = .ok (.aload_n 0, 1) := by decide +kernel
theorem dX1_lastLettersAhead_9 : decode cX1_lastLettersAhead 9 = .ok (.getfield 28, 3) := by decide +kernel
theorem dX1_lastLettersAhead_12 : decode cX1_lastLettersAhead 12 = .ok (.iload_n 2, 1) := by decide +kernel
theorem dX1_lastLettersAhead_13 : decode cX1_lastLettersAhead 13 = .ok (.invokevirtual 65, 3) := by decide +kernel
theorem dX1_lastLettersAhead_16 : decode cX1_lastLettersAhead 16 = .ok (.invokestatic 69, 3) := by decide +kernel
theorem dX1_lastLettersAhead_19 : decode cX1_lastLettersAhead 19 = .ok (.ifCond .ne 12, 3) := by decide +kernel
theorem dX1_lastLettersAhead_22 : decode cX1_lastLettersAhead 22 = .ok (.aload_n 0, 1) := by decide +kernel
theorem dX1_lastLettersAhead_23 : decode cX1_lastLettersAhead 23 = .ok (.getfield 28, 3) := by decide +kernel
theorem dX1_lastLettersAhead_26 : decode cX1_lastLettersAhead 26 = .ok (.iload_n 2, 1) := by decide +kernel
theorem dX1_lastLettersAhead_27 : decode cX1_lastLettersAhead 27 = .ok (.invokevirtual 65, 3) := by decide +kernel
theorem dX1_lastLettersAhead_30 : decode cX1_lastLettersAhead 30 = .ok (.ireturn, 1) := by decide +kernel
theorem dX1_lastLettersAhead_31 : decode cX1_lastLettersAhead 31 = .ok (.iinc 2 (-1), 3) := by decide +kernel
theorem dX1_lastLettersAhead_34 : decode cX1_lastLettersAhead 34 = .ok (.goto (-30), 3) := by decide +kernel
theorem dX1_lastLettersAhead_37 : decode cX1_lastLettersAhead 37 = .ok (.iconst (-1), 1) := by decide +kernel
theorem dX1_lastLettersAhead_38 : decode cX1_lastLettersAhead 38 = .ok (.ireturn, 1) := by decide +kernel
theorem dX1_firstLeaf_0 : decode cX1_firstLeaf 0 = .ok (.iconst 0, 1) := by decide +kernel
theorem dX1_firstLeaf_1 : decode cX1_firstLeaf 1 = .ok (.istore_n 2, 1) := by decide +kernel
theorem dX1_firstLeaf_2 : decode cX1_firstLeaf 2 = .ok (.iconst 0, 1) := by decide +kernel
theorem dX1_firstLeaf_3 : decode cX1_firstLeaf 3 = .ok (.istore_n 3, 1) := by decide +kernel
theorem dX1_firstLeaf_4 : decode cX1_firstLeaf 4 = .ok (.iload_n 3, 1) := by decide +kernel
theorem dX1_firstLeaf_5 : decode cX1_firstLeaf 5 = .ok (.iload_n 1, 1) := by decide +kernel
theorem dX1_firstLeaf_6 : decode cX1_firstLeaf 6 = .ok (.if_icmp .ge 20, 3) := by decide +kernel
theorem dX1_firstLeaf_9 : decode cX1_firstLeaf 9 = .ok (.iload_n 2, 1) := by decide +kernel
theorem dX1_firstLeaf_10 : decode cX1_firstLeaf 10 = .ok (.aload_n 0, 1) := by decide +kernel
theorem dX1_firstLeaf_11 : decode cX1_firstLeaf 11 = .ok (.getfield 32, 3) := by decide +kernel
theorem dX1_firstLeaf_14 : decode cX1_firstLeaf 14 = .ok (.iload_n 3, 1) := by decide +kernel
theorem dX1_firstLeaf_15 : decode cX1_firstLeaf 15 = .ok (.invokevirtual 65, 3) := by decide +kernel
theorem dX1_firstLeaf_18 : decode cX1_firstLeaf 18 = .ok (.iadd, 1) := by decide +kernel
theorem dX1_firstLeaf_19 : decode cX1_firstLeaf 19 = .ok (.istore_n 2, 1) := by decide +kernel
theorem dX1_firstLeaf_20 : decode cX1_firstLeaf 20 = .ok (.iinc 3 1, 3) := by decide +kernel
theorem dX1_firstLeaf_23 : decode cX1_firstLeaf 23 = .ok (.goto (-19), 3) := by decide +kernel
theorem dX1_firstLeaf_26 : decode cX1_firstLeaf 26 = .ok (.iload_n 2, 1) := by decide +kernel
theorem dX1_firstLeaf_27 : decode cX1_firstLeaf 27 = .ok (.ireturn, 1) := by decide +kernel
theorem dX1_leaves_0 : decode cX1_leaves 0 = .ok (.aload_n 0, 1) := by decide +kernel
theorem dX1_leaves_1 : decode cX1_leaves 1 = .ok (.aload_n 0, 1) := by decide +kernel
theorem dX1_leaves_2 : decode cX1_leaves 2 = .ok (.invokevirtual 52, 3) := by decide +kernel
theorem dX1_leaves_5 : decode cX1_leaves 5 = .ok (.invokevirtual 75, 3) := by decide +kernel
theorem dX1_leaves_8 : decode cX1_leaves 8 = .ok (.ireturn, 1) := by decide +kernel
theorem dX1_hasLeaf_0 : decode cX1_hasLeaf 0 = .ok (.iload_n 1, 1) := by decide +kernel
theorem dX1_hasLeaf_1 : decode cX1_hasLeaf 1 = .ok (.ifCond .lt 15, 3) := by decide +kernel
theorem dX1_hasLeaf_4 : decode cX1_hasLeaf 4 = .ok (.iload_n 1, 1) := by decide +kernel
theorem dX1_hasLeaf_5 : decode cX1_hasLeaf 5 = .ok (.aload_n 0, 1) := by decide +kernel
theorem dX1_hasLeaf_6 : decode cX1_hasLeaf 6 = .ok (.invokevirtual 78, 3) := by decide +kernel
theorem dX1_hasLeaf_9 : decode cX1_hasLeaf 9 = .ok (.if_icmp .ge 7, 3) := by decide +kernel
theorem dX1_hasLeaf_12 : decode cX1_hasLeaf 12 = .ok (.iconst 1, 1) := by decide +kernel
theorem dX1_hasLeaf_13 : decode cX1_hasLeaf 13 = .ok (.goto 4, 3) := by decide +kernel
theorem dX1_hasLeaf_16 : decode cX1_hasLeaf 16 = .ok (.iconst 0, 1) := by decide +kernel
theorem dX1_hasLeaf_17 : decode cX1_hasLeaf 17 = .ok (.ireturn, 1) := by decide +kernel
theorem dX1_quireOf_0 : decode cX1_quireOf 0 = .ok (.iconst 0, 1) := by decide +kernel
theorem dX1_quireOf_1 : decode cX1_quireOf 1 = .ok (.istore_n 2, 1) := by decide +kernel
theorem dX1_quireOf_2 : decode cX1_quireOf 2 = .ok (.aload_n 0, 1) := by decide +kernel
theorem dX1_quireOf_3 : decode cX1_quireOf 3 = .ok (.getfield 32, 3) := by decide +kernel
theorem dX1_quireOf_6 : decode cX1_quireOf 6 = .ok (.iconst 0, 1) := by decide +kernel
theorem dX1_quireOf_7 : decode cX1_quireOf 7 = .ok (.invokevirtual 65, 3) := by decide +kernel
theorem dX1_quireOf_10 : decode cX1_quireOf 10 = .ok (.istore_n 3, 1) := by decide +kernel
theorem dX1_quireOf_11 : decode cX1_quireOf 11 = .ok (.iload_n 2, 1) := by decide +kernel
theorem dX1_quireOf_12 : decode cX1_quireOf 12 = .ok (.aload_n 0, 1) := by decide +kernel
theorem dX1_quireOf_13 : decode cX1_quireOf 13 = .ok (.invokevirtual 52, 3) := by decide +kernel
theorem dX1_quireOf_16 : decode cX1_quireOf 16 = .ok (.iconst 1, 1) := by decide +kernel
theorem dX1_quireOf_17 : decode cX1_quireOf 17 = .ok (.isub, 1) := by decide +kernel
theorem dX1_quireOf_18 : decode cX1_quireOf 18 = .ok (.if_icmp .ge 25, 3) := by decide +kernel
theorem dX1_quireOf_21 : decode cX1_quireOf 21 = .ok (.iload_n 1, 1) := by decide +kernel
theorem dX1_quireOf_22 : decode cX1_quireOf 22 = .ok (.iload_n 3, 1) := by decide +kernel
theorem dX1_quireOf_23 : decode cX1_quireOf 23 = .ok (.if_icmp .lt 20, 3) := by decide +kernel
theorem dX1_quireOf_26 : decode cX1_quireOf 26 = .ok (.iinc 2 1, 3) := by decide +kernel
theorem dX1_quireOf_29 : decode cX1_quireOf 29 = .ok (.iload_n 3, 1) := by decide +kernel
theorem dX1_quireOf_30 : decode cX1_quireOf 30 = .ok (.aload_n 0, 1) := by decide +kernel
theorem dX1_quireOf_31 : decode cX1_quireOf 31 = .ok (.getfield 32, 3) := by decide +kernel
theorem dX1_quireOf_34 : decode cX1_quireOf 34 = .ok (.iload_n 2, 1) := by decide +kernel
theorem dX1_quireOf_35 : decode cX1_quireOf 35 = .ok (.invokevirtual 65, 3) := by decide +kernel
theorem dX1_quireOf_38 : decode cX1_quireOf 38 = .ok (.iadd, 1) := by decide +kernel
theorem dX1_quireOf_39 : decode cX1_quireOf 39 = .ok (.istore_n 3, 1) := by decide +kernel
theorem dX1_quireOf_40 : decode cX1_quireOf 40 = .ok (.goto (-29), 3) := by decide +kernel
theorem dX1_quireOf_43 : decode cX1_quireOf 43 = .ok (.iload_n 2, 1) := by decide +kernel
theorem dX1_quireOf_44 : decode cX1_quireOf 44 = .ok (.ireturn, 1) := by decide +kernel
theorem dX1_numberOf_0 : decode cX1_numberOf 0 = .ok (.iload_n 1, 1) := by decide +kernel
theorem dX1_numberOf_1 : decode cX1_numberOf 1 = .ok (.aload_n 0, 1) := by decide +kernel
theorem dX1_numberOf_2 : decode cX1_numberOf 2 = .ok (.aload_n 0, 1) := by decide +kernel
theorem dX1_numberOf_3 : decode cX1_numberOf 3 = .ok (.iload_n 1, 1) := by decide +kernel
theorem dX1_numberOf_4 : decode cX1_numberOf 4 = .ok (.invokevirtual 81, 3) := by decide +kernel
theorem dX1_numberOf_7 : decode cX1_numberOf 7 = .ok (.invokevirtual 75, 3) := by decide +kernel
theorem dX1_numberOf_10 : decode cX1_numberOf 10 = .ok (.isub, 1) := by decide +kernel
theorem dX1_numberOf_11 : decode cX1_numberOf 11 = .ok (.iconst 1, 1) := by decide +kernel
theorem dX1_numberOf_12 : decode cX1_numberOf 12 = .ok (.iadd, 1) := by decide +kernel
theorem dX1_numberOf_13 : decode cX1_numberOf 13 = .ok (.ireturn, 1) := by decide +kernel
theorem dX1_signedIn_0 : decode cX1_signedIn 0 = .ok (.aload_n 0, 1) := by decide +kernel
theorem dX1_signedIn_1 : decode cX1_signedIn 1 = .ok (.getfield 32, 3) := by decide +kernel
theorem dX1_signedIn_4 : decode cX1_signedIn 4 = .ok (.iload_n 1, 1) := by decide +kernel
theorem dX1_signedIn_5 : decode cX1_signedIn 5 = .ok (.invokevirtual 65, 3) := by decide +kernel
theorem dX1_signedIn_8 : decode cX1_signedIn 8 = .ok (.istore_n 2, 1) := by decide +kernel
theorem dX1_signedIn_9 : decode cX1_signedIn 9 = .ok (.iload_n 2, 1) := by decide +kernel
theorem dX1_signedIn_10 : decode cX1_signedIn 10 = .ok (.iconst 1, 1) := by decide +kernel
theorem dX1_signedIn_11 : decode cX1_signedIn 11 = .ok (.iadd, 1) := by decide +kernel
theorem dX1_signedIn_12 : decode cX1_signedIn 12 = .ok (.iconst 2, 1) := by decide +kernel
theorem dX1_signedIn_13 : decode cX1_signedIn 13 = .ok (.idiv, 1) := by decide +kernel
theorem dX1_signedIn_14 : decode cX1_signedIn 14 = .ok (.istore_n 3, 1) := by decide +kernel
theorem dX1_signedIn_15 : decode cX1_signedIn 15 = .ok (.aload_n 0, 1) := by decide +kernel
theorem dX1_signedIn_16 : decode cX1_signedIn 16 = .ok (.getfield 21, 3) := by decide +kernel
theorem dX1_signedIn_19 : decode cX1_signedIn 19 = .ok (.lookupswitch 35 #[(0, 25), (1, 27)], 25) := by decide +kernel
theorem dX1_signedIn_44 : decode cX1_signedIn 44 = .ok (.iload_n 3, 1) := by decide +kernel
theorem dX1_signedIn_45 : decode cX1_signedIn 45 = .ok (.ireturn, 1) := by decide +kernel
theorem dX1_signedIn_46 : decode cX1_signedIn 46 = .ok (.iload_n 3, 1) := by decide +kernel
theorem dX1_signedIn_47 : decode cX1_signedIn 47 = .ok (.iconst 1, 1) := by decide +kernel
theorem dX1_signedIn_48 : decode cX1_signedIn 48 = .ok (.iadd, 1) := by decide +kernel
theorem dX1_signedIn_49 : decode cX1_signedIn 49 = .ok (.iload_n 2, 1) := by decide +kernel
theorem dX1_signedIn_50 : decode cX1_signedIn 50 = .ok (.invokestatic 84, 3) := by decide +kernel
theorem dX1_signedIn_53 : decode cX1_signedIn 53 = .ok (.ireturn, 1) := by decide +kernel
theorem dX1_signedIn_54 : decode cX1_signedIn 54 = .ok (.iload_n 2, 1) := by decide +kernel
theorem dX1_signedIn_55 : decode cX1_signedIn 55 = .ok (.ireturn, 1) := by decide +kernel
theorem dX1_signedLeaves_0 : decode cX1_signedLeaves 0 = .ok (.iconst 0, 1) := by decide +kernel
theorem dX1_signedLeaves_1 : decode cX1_signedLeaves 1 = .ok (.istore_n 1, 1) := by decide +kernel
theorem dX1_signedLeaves_2 : decode cX1_signedLeaves 2 = .ok (.iconst 0, 1) := by decide +kernel
theorem dX1_signedLeaves_3 : decode cX1_signedLeaves 3 = .ok (.istore_n 2, 1) := by decide +kernel
theorem dX1_signedLeaves_4 : decode cX1_signedLeaves 4 = .ok (.iload_n 2, 1) := by decide +kernel
theorem dX1_signedLeaves_5 : decode cX1_signedLeaves 5 = .ok (.aload_n 0, 1) := by decide +kernel
theorem dX1_signedLeaves_6 : decode cX1_signedLeaves 6 = .ok (.invokevirtual 52, 3) := by decide +kernel
theorem dX1_signedLeaves_9 : decode cX1_signedLeaves 9 = .ok (.if_icmp .ge 17, 3) := by decide +kernel
theorem dX1_signedLeaves_12 : decode cX1_signedLeaves 12 = .ok (.iload_n 1, 1) := by decide +kernel
theorem dX1_signedLeaves_13 : decode cX1_signedLeaves 13 = .ok (.aload_n 0, 1) := by decide +kernel
theorem dX1_signedLeaves_14 : decode cX1_signedLeaves 14 = .ok (.iload_n 2, 1) := by decide +kernel
theorem dX1_signedLeaves_15 : decode cX1_signedLeaves 15 = .ok (.invokevirtual 90, 3) := by decide +kernel
theorem dX1_signedLeaves_18 : decode cX1_signedLeaves 18 = .ok (.iadd, 1) := by decide +kernel
theorem dX1_signedLeaves_19 : decode cX1_signedLeaves 19 = .ok (.istore_n 1, 1) := by decide +kernel
theorem dX1_signedLeaves_20 : decode cX1_signedLeaves 20 = .ok (.iinc 2 1, 3) := by decide +kernel
theorem dX1_signedLeaves_23 : decode cX1_signedLeaves 23 = .ok (.goto (-19), 3) := by decide +kernel
theorem dX1_signedLeaves_26 : decode cX1_signedLeaves 26 = .ok (.iload_n 1, 1) := by decide +kernel
theorem dX1_signedLeaves_27 : decode cX1_signedLeaves 27 = .ok (.ireturn, 1) := by decide +kernel
theorem dX1_isLost_0 : decode cX1_isLost 0 = .ok (.aload_n 0, 1) := by decide +kernel
theorem dX1_isLost_1 : decode cX1_isLost 1 = .ok (.getfield 35, 3) := by decide +kernel
theorem dX1_isLost_4 : decode cX1_isLost 4 = .ok (.aload_n 0, 1) := by decide +kernel
theorem dX1_isLost_5 : decode cX1_isLost 5 = .ok (.iload_n 1, 1) := by decide +kernel
theorem dX1_isLost_6 : decode cX1_isLost 6 = .ok (.invokevirtual 81, 3) := by decide +kernel
theorem dX1_isLost_9 : decode cX1_isLost 9 = .ok (.invokevirtual 65, 3) := by decide +kernel
theorem dX1_isLost_12 : decode cX1_isLost 12 = .ok (.aload_n 0, 1) := by decide +kernel
theorem dX1_isLost_13 : decode cX1_isLost 13 = .ok (.iload_n 1, 1) := by decide +kernel
theorem dX1_isLost_14 : decode cX1_isLost 14 = .ok (.invokevirtual 93, 3) := by decide +kernel
theorem dX1_isLost_17 : decode cX1_isLost 17 = .ok (.iconst 1, 1) := by decide +kernel
theorem dX1_isLost_18 : decode cX1_isLost 18 = .ok (.isub, 1) := by decide +kernel
theorem dX1_isLost_19 : decode cX1_isLost 19 = .ok (.ishr, 1) := by decide +kernel
theorem dX1_isLost_20 : decode cX1_isLost 20 = .ok (.iconst 1, 1) := by decide +kernel
theorem dX1_isLost_21 : decode cX1_isLost 21 = .ok (.iand, 1) := by decide +kernel
theorem dX1_isLost_22 : decode cX1_isLost 22 = .ok (.iconst 1, 1) := by decide +kernel
theorem dX1_isLost_23 : decode cX1_isLost 23 = .ok (.if_icmp .ne 7, 3) := by decide +kernel
theorem dX1_isLost_26 : decode cX1_isLost 26 = .ok (.iconst 1, 1) := by decide +kernel
theorem dX1_isLost_27 : decode cX1_isLost 27 = .ok (.goto 4, 3) := by decide +kernel
theorem dX1_isLost_30 : decode cX1_isLost 30 = .ok (.iconst 0, 1) := by decide +kernel
theorem dX1_isLost_31 : decode cX1_isLost 31 = .ok (.ireturn, 1) := by decide +kernel
theorem dX1_turnLost_0 : decode cX1_turnLost 0 = .ok (.aload_n 0, 1) := by decide +kernel
theorem dX1_turnLost_1 : decode cX1_turnLost 1 = .ok (.iload_n 1, 1) := by decide +kernel
theorem dX1_turnLost_2 : decode cX1_turnLost 2 = .ok (.invokevirtual 81, 3) := by decide +kernel
theorem dX1_turnLost_5 : decode cX1_turnLost 5 = .ok (.istore_n 2, 1) := by decide +kernel
theorem dX1_turnLost_6 : decode cX1_turnLost 6 = .ok (.aload_n 0, 1) := by decide +kernel
theorem dX1_turnLost_7 : decode cX1_turnLost 7 = .ok (.getfield 35, 3) := by decide +kernel
theorem dX1_turnLost_10 : decode cX1_turnLost 10 = .ok (.iload_n 2, 1) := by decide +kernel
theorem dX1_turnLost_11 : decode cX1_turnLost 11 = .ok (.aload_n 0, 1) := by decide +kernel
theorem dX1_turnLost_12 : decode cX1_turnLost 12 = .ok (.getfield 35, 3) := by decide +kernel
theorem dX1_turnLost_15 : decode cX1_turnLost 15 = .ok (.iload_n 2, 1) := by decide +kernel
theorem dX1_turnLost_16 : decode cX1_turnLost 16 = .ok (.invokevirtual 65, 3) := by decide +kernel
theorem dX1_turnLost_19 : decode cX1_turnLost 19 = .ok (.iconst 1, 1) := by decide +kernel
theorem dX1_turnLost_20 : decode cX1_turnLost 20 = .ok (.aload_n 0, 1) := by decide +kernel
theorem dX1_turnLost_21 : decode cX1_turnLost 21 = .ok (.iload_n 1, 1) := by decide +kernel
theorem dX1_turnLost_22 : decode cX1_turnLost 22 = .ok (.invokevirtual 93, 3) := by decide +kernel
theorem dX1_turnLost_25 : decode cX1_turnLost 25 = .ok (.iconst 1, 1) := by decide +kernel
theorem dX1_turnLost_26 : decode cX1_turnLost 26 = .ok (.isub, 1) := by decide +kernel
theorem dX1_turnLost_27 : decode cX1_turnLost 27 = .ok (.ishl, 1) := by decide +kernel
theorem dX1_turnLost_28 : decode cX1_turnLost 28 = .ok (.ixor, 1) := by decide +kernel
theorem dX1_turnLost_29 : decode cX1_turnLost 29 = .ok (.invokevirtual 96, 3) := by decide +kernel
theorem dX1_turnLost_32 : decode cX1_turnLost 32 = .ok (.aload_n 0, 1) := by decide +kernel
theorem dX1_turnLost_33 : decode cX1_turnLost 33 = .ok (.getfield 38, 3) := by decide +kernel
theorem dX1_turnLost_36 : decode cX1_turnLost 36 = .ok (.invokevirtual 59, 3) := by decide +kernel
theorem dX1_turnLost_39 : decode cX1_turnLost 39 = .ok (.return_, 1) := by decide +kernel
theorem dX1_thereIn_0 : decode cX1_thereIn 0 = .ok (.aload_n 0, 1) := by decide +kernel
theorem dX1_thereIn_1 : decode cX1_thereIn 1 = .ok (.getfield 32, 3) := by decide +kernel
theorem dX1_thereIn_4 : decode cX1_thereIn 4 = .ok (.iload_n 1, 1) := by decide +kernel
theorem dX1_thereIn_5 : decode cX1_thereIn 5 = .ok (.invokevirtual 65, 3) := by decide +kernel
theorem dX1_thereIn_8 : decode cX1_thereIn 8 = .ok (.aload_n 0, 1) := by decide +kernel
theorem dX1_thereIn_9 : decode cX1_thereIn 9 = .ok (.getfield 35, 3) := by decide +kernel
theorem dX1_thereIn_12 : decode cX1_thereIn 12 = .ok (.iload_n 1, 1) := by decide +kernel
theorem dX1_thereIn_13 : decode cX1_thereIn 13 = .ok (.invokevirtual 65, 3) := by decide +kernel
theorem dX1_thereIn_16 : decode cX1_thereIn 16 = .ok (.invokestatic 99, 3) := by decide +kernel
theorem dX1_thereIn_19 : decode cX1_thereIn 19 = .ok (.isub, 1) := by decide +kernel
theorem dX1_thereIn_20 : decode cX1_thereIn 20 = .ok (.ireturn, 1) := by decide +kernel
theorem dX1_thereAhead_0 : decode cX1_thereAhead 0 = .ok (.iconst 0, 1) := by decide +kernel
theorem dX1_thereAhead_1 : decode cX1_thereAhead 1 = .ok (.istore_n 2, 1) := by decide +kernel
theorem dX1_thereAhead_2 : decode cX1_thereAhead 2 = .ok (.iconst 0, 1) := by decide +kernel
theorem dX1_thereAhead_3 : decode cX1_thereAhead 3 = .ok (.istore_n 3, 1) := by decide +kernel
theorem dX1_thereAhead_4 : decode cX1_thereAhead 4 = .ok (.iconst 0, 1) := by decide +kernel
theorem dX1_thereAhead_5 : decode cX1_thereAhead 5 = .ok (.istore 4, 2) := by decide +kernel
theorem dX1_thereAhead_7 : decode cX1_thereAhead 7 = .ok (.iload 4, 2) := by decide +kernel
theorem dX1_thereAhead_9 : decode cX1_thereAhead 9 = .ok (.aload_n 0, 1) := by decide +kernel
theorem dX1_thereAhead_10 : decode cX1_thereAhead 10 = .ok (.invokevirtual 52, 3) := by decide +kernel
theorem dX1_thereAhead_13 : decode cX1_thereAhead 13 = .ok (.if_icmp .ge 64, 3) := by decide +kernel
theorem dX1_thereAhead_16 : decode cX1_thereAhead 16 = .ok (.aload_n 0, 1) := by decide +kernel
theorem dX1_thereAhead_17 : decode cX1_thereAhead 17 = .ok (.getfield 32, 3) := by decide +kernel
theorem dX1_thereAhead_20 : decode cX1_thereAhead 20 = .ok (.iload 4, 2) := by decide +kernel
theorem dX1_thereAhead_22 : decode cX1_thereAhead 22 = .ok (.invokevirtual 65, 3) := by decide +kernel
theorem dX1_thereAhead_25 : decode cX1_thereAhead 25 = .ok (.istore 5, 2) := by decide +kernel
theorem dX1_thereAhead_27 : decode cX1_thereAhead 27 = .ok (.iload 5, 2) := by decide +kernel
theorem dX1_thereAhead_29 : decode cX1_thereAhead 29 = .ok (.iload_n 1, 1) := by decide +kernel
theorem dX1_thereAhead_30 : decode cX1_thereAhead 30 = .ok (.iload_n 3, 1) := by decide +kernel
theorem dX1_thereAhead_31 : decode cX1_thereAhead 31 = .ok (.isub, 1) := by decide +kernel
theorem dX1_thereAhead_32 : decode cX1_thereAhead 32 = .ok (.iconst 0, 1) := by decide +kernel
theorem dX1_thereAhead_33 : decode cX1_thereAhead 33 = .ok (.invokestatic 104, 3) := by decide +kernel
theorem dX1_thereAhead_36 : decode cX1_thereAhead 36 = .ok (.invokestatic 84, 3) := by decide +kernel
theorem dX1_thereAhead_39 : decode cX1_thereAhead 39 = .ok (.istore 6, 2) := by decide +kernel
theorem dX1_thereAhead_41 : decode cX1_thereAhead 41 = .ok (.iload_n 2, 1) := by decide +kernel
theorem dX1_thereAhead_42 : decode cX1_thereAhead 42 = .ok (.iload 6, 2) := by decide +kernel
theorem dX1_thereAhead_44 : decode cX1_thereAhead 44 = .ok (.aload_n 0, 1) := by decide +kernel
theorem dX1_thereAhead_45 : decode cX1_thereAhead 45 = .ok (.getfield 35, 3) := by decide +kernel
theorem dX1_thereAhead_48 : decode cX1_thereAhead 48 = .ok (.iload 4, 2) := by decide +kernel
theorem dX1_thereAhead_50 : decode cX1_thereAhead 50 = .ok (.invokevirtual 65, 3) := by decide +kernel
theorem dX1_thereAhead_53 : decode cX1_thereAhead 53 = .ok (.iconst 1, 1) := by decide +kernel
theorem dX1_thereAhead_54 : decode cX1_thereAhead 54 = .ok (.iload 6, 2) := by decide +kernel
theorem dX1_thereAhead_56 : decode cX1_thereAhead 56 = .ok (.ishl, 1) := by decide +kernel
theorem dX1_thereAhead_57 : decode cX1_thereAhead 57 = .ok (.iconst 1, 1) := by decide +kernel
theorem dX1_thereAhead_58 : decode cX1_thereAhead 58 = .ok (.isub, 1) := by decide +kernel
theorem dX1_thereAhead_59 : decode cX1_thereAhead 59 = .ok (.iand, 1) := by decide +kernel
theorem dX1_thereAhead_60 : decode cX1_thereAhead 60 = .ok (.invokestatic 99, 3) := by decide +kernel
theorem dX1_thereAhead_63 : decode cX1_thereAhead 63 = .ok (.isub, 1) := by decide +kernel
theorem dX1_thereAhead_64 : decode cX1_thereAhead 64 = .ok (.iadd, 1) := by decide +kernel
theorem dX1_thereAhead_65 : decode cX1_thereAhead 65 = .ok (.istore_n 2, 1) := by decide +kernel
theorem dX1_thereAhead_66 : decode cX1_thereAhead 66 = .ok (.iload_n 3, 1) := by decide +kernel
theorem dX1_thereAhead_67 : decode cX1_thereAhead 67 = .ok (.iload 5, 2) := by decide +kernel
theorem dX1_thereAhead_69 : decode cX1_thereAhead 69 = .ok (.iadd, 1) := by decide +kernel
theorem dX1_thereAhead_70 : decode cX1_thereAhead 70 = .ok (.istore_n 3, 1) := by decide +kernel
theorem dX1_thereAhead_71 : decode cX1_thereAhead 71 = .ok (.iinc 4 1, 3) := by decide +kernel
theorem dX1_thereAhead_74 : decode cX1_thereAhead 74 = .ok (.goto (-67), 3) := by decide +kernel
theorem dX1_thereAhead_77 : decode cX1_thereAhead 77 = .ok (.iload_n 2, 1) := by decide +kernel
theorem dX1_thereAhead_78 : decode cX1_thereAhead 78 = .ok (.ireturn, 1) := by decide +kernel
theorem dX1_leavesThere_0 : decode cX1_leavesThere 0 = .ok (.aload_n 0, 1) := by decide +kernel
theorem dX1_leavesThere_1 : decode cX1_leavesThere 1 = .ok (.aload_n 0, 1) := by decide +kernel
theorem dX1_leavesThere_2 : decode cX1_leavesThere 2 = .ok (.invokevirtual 78, 3) := by decide +kernel
theorem dX1_leavesThere_5 : decode cX1_leavesThere 5 = .ok (.invokevirtual 107, 3) := by decide +kernel
theorem dX1_leavesThere_8 : decode cX1_leavesThere 8 = .ok (.ireturn, 1) := by decide +kernel
theorem dX1_leafSigned_0 : decode cX1_leafSigned 0 = .ok (.iconst 0, 1) := by decide +kernel
theorem dX1_leafSigned_1 : decode cX1_leafSigned 1 = .ok (.istore_n 3, 1) := by decide +kernel
theorem dX1_leafSigned_2 : decode cX1_leafSigned 2 = .ok (.iload_n 3, 1) := by decide +kernel
theorem dX1_leafSigned_3 : decode cX1_leafSigned 3 = .ok (.aload_n 0, 1) := by decide +kernel
theorem dX1_leafSigned_4 : decode cX1_leafSigned 4 = .ok (.invokevirtual 52, 3) := by decide +kernel
theorem dX1_leafSigned_7 : decode cX1_leafSigned 7 = .ok (.if_icmp .ge 43, 3) := by decide +kernel
theorem dX1_leafSigned_10 : decode cX1_leafSigned 10 = .ok (.aload_n 0, 1) := by decide +kernel
theorem dX1_leafSigned_11 : decode cX1_leafSigned 11 = .ok (.getfield 28, 3) := by decide +kernel
theorem dX1_leafSigned_14 : decode cX1_leafSigned 14 = .ok (.iload_n 3, 1) := by decide +kernel
theorem dX1_leafSigned_15 : decode cX1_leafSigned 15 = .ok (.invokevirtual 65, 3) := by decide +kernel
theorem dX1_leafSigned_18 : decode cX1_leafSigned 18 = .ok (.iload_n 1, 1) := by decide +kernel
theorem dX1_leafSigned_19 : decode cX1_leafSigned 19 = .ok (.if_icmp .ne 25, 3) := by decide +kernel
theorem dX1_leafSigned_22 : decode cX1_leafSigned 22 = .ok (.iload_n 2, 1) := by decide +kernel
theorem dX1_leafSigned_23 : decode cX1_leafSigned 23 = .ok (.aload_n 0, 1) := by decide +kernel
theorem dX1_leafSigned_24 : decode cX1_leafSigned 24 = .ok (.getfield 32, 3) := by decide +kernel
theorem dX1_leafSigned_27 : decode cX1_leafSigned 27 = .ok (.iload_n 3, 1) := by decide +kernel
theorem dX1_leafSigned_28 : decode cX1_leafSigned 28 = .ok (.invokevirtual 65, 3) := by decide +kernel
theorem dX1_leafSigned_31 : decode cX1_leafSigned 31 = .ok (.if_icmp .gt 13, 3) := by decide +kernel
theorem dX1_leafSigned_34 : decode cX1_leafSigned 34 = .ok (.aload_n 0, 1) := by decide +kernel
theorem dX1_leafSigned_35 : decode cX1_leafSigned 35 = .ok (.iload_n 3, 1) := by decide +kernel
theorem dX1_leafSigned_36 : decode cX1_leafSigned 36 = .ok (.invokevirtual 75, 3) := by decide +kernel
theorem dX1_leafSigned_39 : decode cX1_leafSigned 39 = .ok (.iload_n 2, 1) := by decide +kernel
theorem dX1_leafSigned_40 : decode cX1_leafSigned 40 = .ok (.iadd, 1) := by decide +kernel
theorem dX1_leafSigned_41 : decode cX1_leafSigned 41 = .ok (.iconst 1, 1) := by decide +kernel
theorem dX1_leafSigned_42 : decode cX1_leafSigned 42 = .ok (.isub, 1) := by decide +kernel
theorem dX1_leafSigned_43 : decode cX1_leafSigned 43 = .ok (.ireturn, 1) := by decide +kernel
theorem dX1_leafSigned_44 : decode cX1_leafSigned 44 = .ok (.iinc 3 1, 3) := by decide +kernel
theorem dX1_leafSigned_47 : decode cX1_leafSigned 47 = .ok (.goto (-45), 3) := by decide +kernel
theorem dX1_leafSigned_50 : decode cX1_leafSigned 50 = .ok (.iconst (-1), 1) := by decide +kernel
theorem dX1_leafSigned_51 : decode cX1_leafSigned 51 = .ok (.ireturn, 1) := by decide +kernel
theorem dX2_init_0 : decode cX2_init 0 = .ok (.aload_n 0, 1) := by decide +kernel
theorem dX2_init_1 : decode cX2_init 1 = .ok (.invokespecial 3, 3) := by decide +kernel
theorem dX2_init_4 : decode cX2_init 4 = .ok (.aload_n 0, 1) := by decide +kernel
theorem dX2_init_5 : decode cX2_init 5 = .ok (.iconst 4, 1) := by decide +kernel
theorem dX2_init_6 : decode cX2_init 6 = .ok (.anewarray 9, 3) := by decide +kernel
theorem dX2_init_9 : decode cX2_init 9 = .ok (.putfield 11, 3) := by decide +kernel
theorem dX2_init_12 : decode cX2_init 12 = .ok (.iconst 0, 1) := by decide +kernel
theorem dX2_init_13 : decode cX2_init 13 = .ok (.istore_n 1, 1) := by decide +kernel
theorem dX2_init_14 : decode cX2_init 14 = .ok (.iload_n 1, 1) := by decide +kernel
theorem dX2_init_15 : decode cX2_init 15 = .ok (.aload_n 0, 1) := by decide +kernel
theorem dX2_init_16 : decode cX2_init 16 = .ok (.getfield 11, 3) := by decide +kernel
theorem dX2_init_19 : decode cX2_init 19 = .ok (.arraylength, 1) := by decide +kernel
theorem dX2_init_20 : decode cX2_init 20 = .ok (.if_icmp .ge 22, 3) := by decide +kernel
theorem dX2_init_23 : decode cX2_init 23 = .ok (.aload_n 0, 1) := by decide +kernel
theorem dX2_init_24 : decode cX2_init 24 = .ok (.getfield 11, 3) := by decide +kernel
theorem dX2_init_27 : decode cX2_init 27 = .ok (.iload_n 1, 1) := by decide +kernel
theorem dX2_init_28 : decode cX2_init 28 = .ok (.new 9, 3) := by decide +kernel
theorem dX2_init_31 : decode cX2_init 31 = .ok (.dup, 1) := by decide +kernel
theorem dX2_init_32 : decode cX2_init 32 = .ok (.invokespecial 17, 3) := by decide +kernel
theorem dX2_init_35 : decode cX2_init 35 = .ok (.aastore, 1) := by decide +kernel
theorem dX2_init_36 : decode cX2_init 36 = .ok (.iinc 1 1, 3) := by decide +kernel
theorem dX2_init_39 : decode cX2_init 39 = .ok (.goto (-25), 3) := by decide +kernel
theorem dX2_init_42 : decode cX2_init 42 = .ok (.return_, 1) := by decide +kernel
theorem dX2_states_0 : decode cX2_states 0 = .ok (.aload_n 0, 1) := by decide +kernel
theorem dX2_states_1 : decode cX2_states 1 = .ok (.getfield 18, 3) := by decide +kernel
theorem dX2_states_4 : decode cX2_states 4 = .ok (.ireturn, 1) := by decide +kernel
theorem dX2_record_0 : decode cX2_record 0 = .ok (.aload_n 0, 1) := by decide +kernel
theorem dX2_record_1 : decode cX2_record 1 = .ok (.getfield 18, 3) := by decide +kernel
theorem dX2_record_4 : decode cX2_record 4 = .ok (.aload_n 0, 1) := by decide +kernel
theorem dX2_record_5 : decode cX2_record 5 = .ok (.getfield 11, 3) := by decide +kernel
theorem dX2_record_8 : decode cX2_record 8 = .ok (.arraylength, 1) := by decide +kernel
theorem dX2_record_9 : decode cX2_record 9 = .ok (.if_icmp .lt 7, 3) := by decide +kernel
theorem dX2_record_12 : decode cX2_record 12 = .ok (.aload_n 0, 1) := by decide +kernel
theorem dX2_record_13 : decode cX2_record 13 = .ok (.invokevirtual 22, 3) := by decide +kernel
theorem dX2_record_16 : decode cX2_record 16 = .ok (.aload_n 0, 1) := by decide +kernel
theorem dX2_record_17 : decode cX2_record 17 = .ok (.aload_n 0, 1) := by decide +kernel
theorem dX2_record_18 : decode cX2_record 18 = .ok (.getfield 18, 3) := by decide +kernel
theorem dX2_record_21 : decode cX2_record 21 = .ok (.invokevirtual 25, 3) := by decide +kernel
theorem dX2_record_24 : decode cX2_record 24 = .ok (.astore_n 2, 1) := by decide +kernel
theorem dX2_record_25 : decode cX2_record 25 = .ok (.aload_n 2, 1) := by decide +kernel
theorem dX2_record_26 : decode cX2_record 26 = .ok (.ifnull 18, 3) := by decide +kernel
theorem dX2_record_29 : decode cX2_record 29 = .ok (.aload_n 2, 1) := by decide +kernel
theorem dX2_record_30 : decode cX2_record 30 = .ok (.aload_n 1, 1) := by decide +kernel
theorem dX2_record_31 : decode cX2_record 31 = .ok (.invokevirtual 29, 3) := by decide +kernel
theorem dX2_record_34 : decode cX2_record 34 = .ok (.aload_n 0, 1) := by decide +kernel
theorem dX2_record_35 : decode cX2_record 35 = .ok (.dup, 1) := by decide +kernel
theorem dX2_record_36 : decode cX2_record 36 = .ok (.getfield 18, 3) := by decide +kernel
theorem dX2_record_39 : decode cX2_record 39 = .ok (.iconst 1, 1) := by decide +kernel
theorem dX2_record_40 : decode cX2_record 40 = .ok (.iadd, 1) := by decide +kernel
theorem dX2_record_41 : decode cX2_record 41 = .ok (.putfield 18, 3) := by decide +kernel
theorem dX2_record_44 : decode cX2_record 44 = .ok (.return_, 1) := by decide +kernel
theorem dX2_takeBack_0 : decode cX2_takeBack 0 = .ok (.aload_n 0, 1) := by decide +kernel
theorem dX2_takeBack_1 : decode cX2_takeBack 1 = .ok (.aload_n 0, 1) := by decide +kernel
theorem dX2_takeBack_2 : decode cX2_takeBack 2 = .ok (.getfield 18, 3) := by decide +kernel
theorem dX2_takeBack_5 : decode cX2_takeBack 5 = .ok (.iconst 1, 1) := by decide +kernel
theorem dX2_takeBack_6 : decode cX2_takeBack 6 = .ok (.isub, 1) := by decide +kernel
theorem dX2_takeBack_7 : decode cX2_takeBack 7 = .ok (.invokevirtual 25, 3) := by decide +kernel
theorem dX2_takeBack_10 : decode cX2_takeBack 10 = .ok (.astore_n 2, 1) := by decide +kernel
theorem dX2_takeBack_11 : decode cX2_takeBack 11 = .ok (.aload_n 2, 1) := by decide +kernel
theorem dX2_takeBack_12 : decode cX2_takeBack 12 = .ok (.ifnull 18, 3) := by decide +kernel
theorem dX2_takeBack_15 : decode cX2_takeBack 15 = .ok (.aload_n 1, 1) := by decide +kernel
theorem dX2_takeBack_16 : decode cX2_takeBack 16 = .ok (.aload_n 2, 1) := by decide +kernel
theorem dX2_takeBack_17 : decode cX2_takeBack 17 = .ok (.invokevirtual 29, 3) := by decide +kernel
theorem dX2_takeBack_20 : decode cX2_takeBack 20 = .ok (.aload_n 0, 1) := by decide +kernel
theorem dX2_takeBack_21 : decode cX2_takeBack 21 = .ok (.dup, 1) := by decide +kernel
theorem dX2_takeBack_22 : decode cX2_takeBack 22 = .ok (.getfield 18, 3) := by decide +kernel
theorem dX2_takeBack_25 : decode cX2_takeBack 25 = .ok (.iconst 1, 1) := by decide +kernel
theorem dX2_takeBack_26 : decode cX2_takeBack 26 = .ok (.isub, 1) := by decide +kernel
theorem dX2_takeBack_27 : decode cX2_takeBack 27 = .ok (.putfield 18, 3) := by decide +kernel
theorem dX2_takeBack_30 : decode cX2_takeBack 30 = .ok (.return_, 1) := by decide +kernel
theorem dX2_bookAt_0 : decode cX2_bookAt 0 = .ok (.iload_n 1, 1) := by decide +kernel
theorem dX2_bookAt_1 : decode cX2_bookAt 1 = .ok (.ifCond .lt 21, 3) := by decide +kernel
theorem dX2_bookAt_4 : decode cX2_bookAt 4 = .ok (.iload_n 1, 1) := by decide +kernel
theorem dX2_bookAt_5 : decode cX2_bookAt 5 = .ok (.aload_n 0, 1) := by decide +kernel
theorem dX2_bookAt_6 : decode cX2_bookAt 6 = .ok (.getfield 11, 3) := by decide +kernel
theorem dX2_bookAt_9 : decode cX2_bookAt 9 = .ok (.arraylength, 1) := by decide +kernel
theorem dX2_bookAt_10 : decode cX2_bookAt 10 = .ok (.if_icmp .ge 12, 3) := by decide +kernel
theorem dX2_bookAt_13 : decode cX2_bookAt 13 = .ok (.aload_n 0, 1) := by decide +kernel
theorem dX2_bookAt_14 : decode cX2_bookAt 14 = .ok (.getfield 11, 3) := by decide +kernel
theorem dX2_bookAt_17 : decode cX2_bookAt 17 = .ok (.iload_n 1, 1) := by decide +kernel
theorem dX2_bookAt_18 : decode cX2_bookAt 18 = .ok (.aaload, 1) := by decide +kernel
theorem dX2_bookAt_19 : decode cX2_bookAt 19 = .ok (.goto 4, 3) := by decide +kernel
theorem dX2_bookAt_22 : decode cX2_bookAt 22 = .ok (.aconst_null, 1) := by decide +kernel
theorem dX2_bookAt_23 : decode cX2_bookAt 23 = .ok (.areturn, 1) := by decide +kernel
theorem dX2_dropOldest_0 : decode cX2_dropOldest 0 = .ok (.iconst 1, 1) := by decide +kernel
theorem dX2_dropOldest_1 : decode cX2_dropOldest 1 = .ok (.istore_n 1, 1) := by decide +kernel
theorem dX2_dropOldest_2 : decode cX2_dropOldest 2 = .ok (.iload_n 1, 1) := by decide +kernel
theorem dX2_dropOldest_3 : decode cX2_dropOldest 3 = .ok (.aload_n 0, 1) := by decide +kernel
theorem dX2_dropOldest_4 : decode cX2_dropOldest 4 = .ok (.getfield 11, 3) := by decide +kernel
theorem dX2_dropOldest_7 : decode cX2_dropOldest 7 = .ok (.arraylength, 1) := by decide +kernel
theorem dX2_dropOldest_8 : decode cX2_dropOldest 8 = .ok (.if_icmp .ge 39, 3) := by decide +kernel
theorem dX2_dropOldest_11 : decode cX2_dropOldest 11 = .ok (.aload_n 0, 1) := by decide +kernel
theorem dX2_dropOldest_12 : decode cX2_dropOldest 12 = .ok (.getfield 11, 3) := by decide +kernel
theorem dX2_dropOldest_15 : decode cX2_dropOldest 15 = .ok (.iload_n 1, 1) := by decide +kernel
theorem dX2_dropOldest_16 : decode cX2_dropOldest 16 = .ok (.iconst 1, 1) := by decide +kernel
theorem dX2_dropOldest_17 : decode cX2_dropOldest 17 = .ok (.isub, 1) := by decide +kernel
theorem dX2_dropOldest_18 : decode cX2_dropOldest 18 = .ok (.aaload, 1) := by decide +kernel
theorem dX2_dropOldest_19 : decode cX2_dropOldest 19 = .ok (.astore_n 2, 1) := by decide +kernel
theorem dX2_dropOldest_20 : decode cX2_dropOldest 20 = .ok (.aload_n 0, 1) := by decide +kernel
theorem dX2_dropOldest_21 : decode cX2_dropOldest 21 = .ok (.getfield 11, 3) := by decide +kernel
theorem dX2_dropOldest_24 : decode cX2_dropOldest 24 = .ok (.iload_n 1, 1) := by decide +kernel
theorem dX2_dropOldest_25 : decode cX2_dropOldest 25 = .ok (.iconst 1, 1) := by decide +kernel
theorem dX2_dropOldest_26 : decode cX2_dropOldest 26 = .ok (.isub, 1) := by decide +kernel
theorem dX2_dropOldest_27 : decode cX2_dropOldest 27 = .ok (.aload_n 0, 1) := by decide +kernel
theorem dX2_dropOldest_28 : decode cX2_dropOldest 28 = .ok (.getfield 11, 3) := by decide +kernel
theorem dX2_dropOldest_31 : decode cX2_dropOldest 31 = .ok (.iload_n 1, 1) := by decide +kernel
theorem dX2_dropOldest_32 : decode cX2_dropOldest 32 = .ok (.aaload, 1) := by decide +kernel
theorem dX2_dropOldest_33 : decode cX2_dropOldest 33 = .ok (.aastore, 1) := by decide +kernel
theorem dX2_dropOldest_34 : decode cX2_dropOldest 34 = .ok (.aload_n 0, 1) := by decide +kernel
theorem dX2_dropOldest_35 : decode cX2_dropOldest 35 = .ok (.getfield 11, 3) := by decide +kernel
theorem dX2_dropOldest_38 : decode cX2_dropOldest 38 = .ok (.iload_n 1, 1) := by decide +kernel
theorem dX2_dropOldest_39 : decode cX2_dropOldest 39 = .ok (.aload_n 2, 1) := by decide +kernel
theorem dX2_dropOldest_40 : decode cX2_dropOldest 40 = .ok (.aastore, 1) := by decide +kernel
theorem dX2_dropOldest_41 : decode cX2_dropOldest 41 = .ok (.iinc 1 1, 3) := by decide +kernel
theorem dX2_dropOldest_44 : decode cX2_dropOldest 44 = .ok (.goto (-42), 3) := by decide +kernel
theorem dX2_dropOldest_47 : decode cX2_dropOldest 47 = .ok (.aload_n 0, 1) := by decide +kernel
theorem dX2_dropOldest_48 : decode cX2_dropOldest 48 = .ok (.dup, 1) := by decide +kernel
theorem dX2_dropOldest_49 : decode cX2_dropOldest 49 = .ok (.getfield 18, 3) := by decide +kernel
theorem dX2_dropOldest_52 : decode cX2_dropOldest 52 = .ok (.iconst 1, 1) := by decide +kernel
theorem dX2_dropOldest_53 : decode cX2_dropOldest 53 = .ok (.isub, 1) := by decide +kernel
theorem dX2_dropOldest_54 : decode cX2_dropOldest 54 = .ok (.putfield 18, 3) := by decide +kernel
theorem dX2_dropOldest_57 : decode cX2_dropOldest 57 = .ok (.return_, 1) := by decide +kernel
theorem dX3_kind_0 : decode cX3_kind 0 = .ok (.aload_n 0, 1) := by decide +kernel
theorem dX3_kind_1 : decode cX3_kind 1 = .ok (.getfield 7, 3) := by decide +kernel
theorem dX3_kind_4 : decode cX3_kind 4 = .ok (.iload_n 1, 1) := by decide +kernel
theorem dX3_kind_5 : decode cX3_kind 5 = .ok (.invokevirtual 13, 3) := by decide +kernel
theorem dX3_kind_8 : decode cX3_kind 8 = .ok (.istore_n 2, 1) := by decide +kernel
theorem dX3_kind_9 : decode cX3_kind 9 = .ok (.aload_n 0, 1) := by decide +kernel
theorem dX3_kind_10 : decode cX3_kind 10 = .ok (.iload_n 1, 1) := by decide +kernel
theorem dX3_kind_11 : decode cX3_kind 11 = .ok (.invokevirtual 19, 3) := by decide +kernel
theorem dX3_kind_14 : decode cX3_kind 14 = .ok (.istore_n 3, 1) := by decide +kernel
theorem dX3_kind_15 : decode cX3_kind 15 = .ok (.iload_n 2, 1) := by decide +kernel
theorem dX3_kind_16 : decode cX3_kind 16 = .ok (.invokestatic 22, 3) := by decide +kernel
theorem dX3_kind_19 : decode cX3_kind 19 = .ok (.ifCond .ne 8, 3) := by decide +kernel
theorem dX3_kind_22 : decode cX3_kind 22 = .ok (.iload_n 3, 1) := by decide +kernel
theorem dX3_kind_23 : decode cX3_kind 23 = .ok (.iconst (-1), 1) := by decide +kernel
theorem dX3_kind_24 : decode cX3_kind 24 = .ok (.if_icmp .ne 5, 3) := by decide +kernel
theorem dX3_kind_27 : decode cX3_kind 27 = .ok (.iconst (-1), 1) := by decide +kernel
theorem dX3_kind_28 : decode cX3_kind 28 = .ok (.ireturn, 1) := by decide +kernel
theorem dX3_kind_29 : decode cX3_kind 29 = .ok (.iload_n 2, 1) := by decide +kernel
theorem dX3_kind_30 : decode cX3_kind 30 = .ok (.aload_n 0, 1) := by decide +kernel
theorem dX3_kind_31 : decode cX3_kind 31 = .ok (.getfield 30, 3) := by decide +kernel
theorem dX3_kind_34 : decode cX3_kind 34 = .ok (.iload_n 3, 1) := by decide +kernel
theorem dX3_kind_35 : decode cX3_kind 35 = .ok (.invokevirtual 34, 3) := by decide +kernel
theorem dX3_kind_38 : decode cX3_kind 38 = .ok (.if_icmp .ne 5, 3) := by decide +kernel
theorem dX3_kind_41 : decode cX3_kind 41 = .ok (.iconst (-1), 1) := by decide +kernel
theorem dX3_kind_42 : decode cX3_kind 42 = .ok (.ireturn, 1) := by decide +kernel
theorem dX3_kind_43 : decode cX3_kind 43 = .ok (.iload_n 2, 1) := by decide +kernel
theorem dX3_kind_44 : decode cX3_kind 44 = .ok (.iload_n 3, 1) := by decide +kernel
theorem dX3_kind_45 : decode cX3_kind 45 = .ok (.if_icmp .ne 5, 3) := by decide +kernel
theorem dX3_kind_48 : decode cX3_kind 48 = .ok (.iconst 0, 1) := by decide +kernel
theorem dX3_kind_49 : decode cX3_kind 49 = .ok (.ireturn, 1) := by decide +kernel
theorem dX3_kind_50 : decode cX3_kind 50 = .ok (.iload_n 2, 1) := by decide +kernel
theorem dX3_kind_51 : decode cX3_kind 51 = .ok (.iload_n 3, 1) := by decide +kernel
theorem dX3_kind_52 : decode cX3_kind 52 = .ok (.if_icmp .ge 7, 3) := by decide +kernel
theorem dX3_kind_55 : decode cX3_kind 55 = .ok (.iconst 1, 1) := by decide +kernel
theorem dX3_kind_56 : decode cX3_kind 56 = .ok (.goto 4, 3) := by decide +kernel
theorem dX3_kind_59 : decode cX3_kind 59 = .ok (.iconst 2, 1) := by decide +kernel
theorem dX3_kind_60 : decode cX3_kind 60 = .ok (.ireturn, 1) := by decide +kernel
theorem dX3_width_0 : decode cX3_width 0 = .ok (.aload_n 0, 1) := by decide +kernel
theorem dX3_width_1 : decode cX3_width 1 = .ok (.iload_n 1, 1) := by decide +kernel
theorem dX3_width_2 : decode cX3_width 2 = .ok (.invokestatic 39, 3) := by decide +kernel
theorem dX3_width_5 : decode cX3_width 5 = .ok (.iconst 2, 1) := by decide +kernel
theorem dX3_width_6 : decode cX3_width 6 = .ok (.if_icmp .eq 5, 3) := by decide +kernel
theorem dX3_width_9 : decode cX3_width 9 = .ok (.iconst 0, 1) := by decide +kernel
theorem dX3_width_10 : decode cX3_width 10 = .ok (.ireturn, 1) := by decide +kernel
theorem dX3_width_11 : decode cX3_width 11 = .ok (.aload_n 0, 1) := by decide +kernel
theorem dX3_width_12 : decode cX3_width 12 = .ok (.getfield 30, 3) := by decide +kernel
theorem dX3_width_15 : decode cX3_width 15 = .ok (.aload_n 0, 1) := by decide +kernel
theorem dX3_width_16 : decode cX3_width 16 = .ok (.iload_n 1, 1) := by decide +kernel
theorem dX3_width_17 : decode cX3_width 17 = .ok (.invokevirtual 19, 3) := by decide +kernel
theorem dX3_width_20 : decode cX3_width 20 = .ok (.aload_n 0, 1) := by decide +kernel
theorem dX3_width_21 : decode cX3_width 21 = .ok (.getfield 7, 3) := by decide +kernel
theorem dX3_width_24 : decode cX3_width 24 = .ok (.iload_n 1, 1) := by decide +kernel
theorem dX3_width_25 : decode cX3_width 25 = .ok (.invokevirtual 13, 3) := by decide +kernel
theorem dX3_width_28 : decode cX3_width 28 = .ok (.invokevirtual 43, 3) := by decide +kernel
theorem dX3_width_31 : decode cX3_width 31 = .ok (.ireturn, 1) := by decide +kernel
theorem dX3_number_0 : decode cX3_number 0 = .ok (.iconst 0, 1) := by decide +kernel
theorem dX3_number_1 : decode cX3_number 1 = .ok (.istore_n 1, 1) := by decide +kernel
theorem dX3_number_2 : decode cX3_number 2 = .ok (.iconst 0, 1) := by decide +kernel
theorem dX3_number_3 : decode cX3_number 3 = .ok (.istore_n 2, 1) := by decide +kernel
theorem dX3_number_4 : decode cX3_number 4 = .ok (.iload_n 2, 1) := by decide +kernel
theorem dX3_number_5 : decode cX3_number 5 = .ok (.aload_n 0, 1) := by decide +kernel
theorem dX3_number_6 : decode cX3_number 6 = .ok (.invokevirtual 47, 3) := by decide +kernel
theorem dX3_number_9 : decode cX3_number 9 = .ok (.if_icmp .ge 21, 3) := by decide +kernel
theorem dX3_number_12 : decode cX3_number 12 = .ok (.aload_n 0, 1) := by decide +kernel
theorem dX3_number_13 : decode cX3_number 13 = .ok (.iload_n 2, 1) := by decide +kernel
theorem dX3_number_14 : decode cX3_number 14 = .ok (.invokestatic 39, 3) := by decide +kernel
theorem dX3_number_17 : decode cX3_number 17 = .ok (.iconst (-1), 1) := by decide +kernel
theorem dX3_number_18 : decode cX3_number 18 = .ok (.if_icmp .eq 6, 3) := by decide +kernel
theorem dX3_number_21 : decode cX3_number 21 = .ok (.iinc 1 1, 3) := by decide +kernel
theorem dX3_number_24 : decode cX3_number 24 = .ok (.iinc 2 1, 3) := by decide +kernel
theorem dX3_number_27 : decode cX3_number 27 = .ok (.goto (-23), 3) := by decide +kernel
theorem dX3_number_30 : decode cX3_number 30 = .ok (.iload_n 1, 1) := by decide +kernel
theorem dX3_number_31 : decode cX3_number 31 = .ok (.ireturn, 1) := by decide +kernel
theorem dX3_quireAt_0 : decode cX3_quireAt 0 = .ok (.iconst 0, 1) := by decide +kernel
theorem dX3_quireAt_1 : decode cX3_quireAt 1 = .ok (.istore_n 2, 1) := by decide +kernel
theorem dX3_quireAt_2 : decode cX3_quireAt 2 = .ok (.iconst 0, 1) := by decide +kernel
theorem dX3_quireAt_3 : decode cX3_quireAt 3 = .ok (.istore_n 3, 1) := by decide +kernel
theorem dX3_quireAt_4 : decode cX3_quireAt 4 = .ok (.iload_n 3, 1) := by decide +kernel
theorem dX3_quireAt_5 : decode cX3_quireAt 5 = .ok (.aload_n 0, 1) := by decide +kernel
theorem dX3_quireAt_6 : decode cX3_quireAt 6 = .ok (.invokevirtual 47, 3) := by decide +kernel
theorem dX3_quireAt_9 : decode cX3_quireAt 9 = .ok (.if_icmp .ge 28, 3) := by decide +kernel
theorem dX3_quireAt_12 : decode cX3_quireAt 12 = .ok (.aload_n 0, 1) := by decide +kernel
theorem dX3_quireAt_13 : decode cX3_quireAt 13 = .ok (.iload_n 3, 1) := by decide +kernel
theorem dX3_quireAt_14 : decode cX3_quireAt 14 = .ok (.invokestatic 39, 3) := by decide +kernel
theorem dX3_quireAt_17 : decode cX3_quireAt 17 = .ok (.iconst (-1), 1) := by decide +kernel
theorem dX3_quireAt_18 : decode cX3_quireAt 18 = .ok (.if_icmp .eq 13, 3) := by decide +kernel
theorem dX3_quireAt_21 : decode cX3_quireAt 21 = .ok (.iload_n 2, 1) := by decide +kernel
theorem dX3_quireAt_22 : decode cX3_quireAt 22 = .ok (.iload_n 1, 1) := by decide +kernel
theorem dX3_quireAt_23 : decode cX3_quireAt 23 = .ok (.if_icmp .ne 5, 3) := by decide +kernel
theorem dX3_quireAt_26 : decode cX3_quireAt 26 = .ok (.iload_n 3, 1) := by decide +kernel
theorem dX3_quireAt_27 : decode cX3_quireAt 27 = .ok (.ireturn, 1) := by decide +kernel
theorem dX3_quireAt_28 : decode cX3_quireAt 28 = .ok (.iinc 2 1, 3) := by decide +kernel
theorem dX3_quireAt_31 : decode cX3_quireAt 31 = .ok (.iinc 3 1, 3) := by decide +kernel
theorem dX3_quireAt_34 : decode cX3_quireAt 34 = .ok (.goto (-30), 3) := by decide +kernel
theorem dX3_quireAt_37 : decode cX3_quireAt 37 = .ok (.iconst (-1), 1) := by decide +kernel
theorem dX3_quireAt_38 : decode cX3_quireAt 38 = .ok (.ireturn, 1) := by decide +kernel
theorem dX4_init_0 : decode cX4_init 0 = .ok (.aload_n 0, 1) := by decide +kernel
theorem dX4_init_1 : decode cX4_init 1 = .ok (.invokespecial 1, 3) := by decide +kernel
theorem dX4_init_4 : decode cX4_init 4 = .ok (.aload_n 0, 1) := by decide +kernel
theorem dX4_init_5 : decode cX4_init 5 = .ok (.iload_n 1, 1) := by decide +kernel
theorem dX4_init_6 : decode cX4_init 6 = .ok (.iconst 0, 1) := by decide +kernel
theorem dX4_init_7 : decode cX4_init 7 = .ok (.invokestatic 7, 3) := by decide +kernel
theorem dX4_init_10 : decode cX4_init 10 = .ok (.newarray .int, 2) := by decide +kernel
theorem dX4_init_12 : decode cX4_init 12 = .ok (.putfield 13, 3) := by decide +kernel
theorem dX4_init_15 : decode cX4_init 15 = .ok (.return_, 1) := by decide +kernel
theorem dX4_length_0 : decode cX4_length 0 = .ok (.aload_n 0, 1) := by decide +kernel
theorem dX4_length_1 : decode cX4_length 1 = .ok (.getfield 19, 3) := by decide +kernel
theorem dX4_length_4 : decode cX4_length 4 = .ok (.ireturn, 1) := by decide +kernel
theorem dX4_at_0 : decode cX4_at 0 = .ok (.iload_n 1, 1) := by decide +kernel
theorem dX4_at_1 : decode cX4_at 1 = .ok (.ifCond .lt 29, 3) := by decide +kernel
theorem dX4_at_4 : decode cX4_at 4 = .ok (.iload_n 1, 1) := by decide +kernel
theorem dX4_at_5 : decode cX4_at 5 = .ok (.aload_n 0, 1) := by decide +kernel
theorem dX4_at_6 : decode cX4_at 6 = .ok (.getfield 19, 3) := by decide +kernel
theorem dX4_at_9 : decode cX4_at 9 = .ok (.if_icmp .ge 21, 3) := by decide +kernel
theorem dX4_at_12 : decode cX4_at 12 = .ok (.iload_n 1, 1) := by decide +kernel
theorem dX4_at_13 : decode cX4_at 13 = .ok (.aload_n 0, 1) := by decide +kernel
theorem dX4_at_14 : decode cX4_at 14 = .ok (.getfield 13, 3) := by decide +kernel
theorem dX4_at_17 : decode cX4_at 17 = .ok (.arraylength, 1) := by decide +kernel
theorem dX4_at_18 : decode cX4_at 18 = .ok (.if_icmp .ge 12, 3) := by decide +kernel
theorem dX4_at_21 : decode cX4_at 21 = .ok (.aload_n 0, 1) := by decide +kernel
theorem dX4_at_22 : decode cX4_at 22 = .ok (.getfield 13, 3) := by decide +kernel
theorem dX4_at_25 : decode cX4_at 25 = .ok (.iload_n 1, 1) := by decide +kernel
theorem dX4_at_26 : decode cX4_at 26 = .ok (.iaload, 1) := by decide +kernel
theorem dX4_at_27 : decode cX4_at 27 = .ok (.goto 4, 3) := by decide +kernel
theorem dX4_at_30 : decode cX4_at 30 = .ok (.iconst (-1), 1) := by decide +kernel
theorem dX4_at_31 : decode cX4_at 31 = .ok (.ireturn, 1) := by decide +kernel
theorem dX4_set_0 : decode cX4_set 0 = .ok (.iload_n 1, 1) := by decide +kernel
theorem dX4_set_1 : decode cX4_set 1 = .ok (.ifCond .lt 27, 3) := by decide +kernel
theorem dX4_set_4 : decode cX4_set 4 = .ok (.iload_n 1, 1) := by decide +kernel
theorem dX4_set_5 : decode cX4_set 5 = .ok (.aload_n 0, 1) := by decide +kernel
theorem dX4_set_6 : decode cX4_set 6 = .ok (.getfield 19, 3) := by decide +kernel
theorem dX4_set_9 : decode cX4_set 9 = .ok (.if_icmp .ge 19, 3) := by decide +kernel
theorem dX4_set_12 : decode cX4_set 12 = .ok (.iload_n 1, 1) := by decide +kernel
theorem dX4_set_13 : decode cX4_set 13 = .ok (.aload_n 0, 1) := by decide +kernel
theorem dX4_set_14 : decode cX4_set 14 = .ok (.getfield 13, 3) := by decide +kernel
theorem dX4_set_17 : decode cX4_set 17 = .ok (.arraylength, 1) := by decide +kernel
theorem dX4_set_18 : decode cX4_set 18 = .ok (.if_icmp .ge 10, 3) := by decide +kernel
theorem dX4_set_21 : decode cX4_set 21 = .ok (.aload_n 0, 1) := by decide +kernel
theorem dX4_set_22 : decode cX4_set 22 = .ok (.getfield 13, 3) := by decide +kernel
theorem dX4_set_25 : decode cX4_set 25 = .ok (.iload_n 1, 1) := by decide +kernel
theorem dX4_set_26 : decode cX4_set 26 = .ok (.iload_n 2, 1) := by decide +kernel
theorem dX4_set_27 : decode cX4_set 27 = .ok (.iastore, 1) := by decide +kernel
theorem dX4_set_28 : decode cX4_set 28 = .ok (.return_, 1) := by decide +kernel
theorem dX4_add_0 : decode cX4_add 0 = .ok (.aload_n 0, 1) := by decide +kernel
theorem dX4_add_1 : decode cX4_add 1 = .ok (.aload_n 0, 1) := by decide +kernel
theorem dX4_add_2 : decode cX4_add 2 = .ok (.getfield 19, 3) := by decide +kernel
theorem dX4_add_5 : decode cX4_add 5 = .ok (.iload_n 1, 1) := by decide +kernel
theorem dX4_add_6 : decode cX4_add 6 = .ok (.invokevirtual 27, 3) := by decide +kernel
theorem dX4_add_9 : decode cX4_add 9 = .ok (.return_, 1) := by decide +kernel
theorem dX4_addAt_0 : decode cX4_addAt 0 = .ok (.iload_n 1, 1) := by decide +kernel
theorem dX4_addAt_1 : decode cX4_addAt 1 = .ok (.ifCond .lt 23, 3) := by decide +kernel
theorem dX4_addAt_4 : decode cX4_addAt 4 = .ok (.iload_n 1, 1) := by decide +kernel
theorem dX4_addAt_5 : decode cX4_addAt 5 = .ok (.aload_n 0, 1) := by decide +kernel
theorem dX4_addAt_6 : decode cX4_addAt 6 = .ok (.getfield 19, 3) := by decide +kernel
theorem dX4_addAt_9 : decode cX4_addAt 9 = .ok (.if_icmp .gt 15, 3) := by decide +kernel
theorem dX4_addAt_12 : decode cX4_addAt 12 = .ok (.aload_n 0, 1) := by decide +kernel
theorem dX4_addAt_13 : decode cX4_addAt 13 = .ok (.getfield 19, 3) := by decide +kernel
theorem dX4_addAt_16 : decode cX4_addAt 16 = .ok (.aload_n 0, 1) := by decide +kernel
theorem dX4_addAt_17 : decode cX4_addAt 17 = .ok (.getfield 13, 3) := by decide +kernel
theorem dX4_addAt_20 : decode cX4_addAt 20 = .ok (.arraylength, 1) := by decide +kernel
theorem dX4_addAt_21 : decode cX4_addAt 21 = .ok (.if_icmp .lt 4, 3) := by decide +kernel
theorem dX4_addAt_24 : decode cX4_addAt 24 = .ok (.return_, 1) := by decide +kernel
theorem dX4_addAt_25 : decode cX4_addAt 25 = .ok (.aload_n 0, 1) := by decide +kernel
theorem dX4_addAt_26 : decode cX4_addAt 26 = .ok (.dup, 1) := by decide +kernel
theorem dX4_addAt_27 : decode cX4_addAt 27 = .ok (.getfield 19, 3) := by decide +kernel
theorem dX4_addAt_30 : decode cX4_addAt 30 = .ok (.iconst 1, 1) := by decide +kernel
theorem dX4_addAt_31 : decode cX4_addAt 31 = .ok (.iadd, 1) := by decide +kernel
theorem dX4_addAt_32 : decode cX4_addAt 32 = .ok (.putfield 19, 3) := by decide +kernel
theorem dX4_addAt_35 : decode cX4_addAt 35 = .ok (.aload_n 0, 1) := by decide +kernel
theorem dX4_addAt_36 : decode cX4_addAt 36 = .ok (.getfield 19, 3) := by decide +kernel
theorem dX4_addAt_39 : decode cX4_addAt 39 = .ok (.iconst 1, 1) := by decide +kernel
theorem dX4_addAt_40 : decode cX4_addAt 40 = .ok (.isub, 1) := by decide +kernel
theorem dX4_addAt_41 : decode cX4_addAt 41 = .ok (.istore_n 3, 1) := by decide +kernel
theorem dX4_addAt_42 : decode cX4_addAt 42 = .ok (.iload_n 3, 1) := by decide +kernel
theorem dX4_addAt_43 : decode cX4_addAt 43 = .ok (.iload_n 1, 1) := by decide +kernel
theorem dX4_addAt_44 : decode cX4_addAt 44 = .ok (.if_icmp .le 21, 3) := by decide +kernel
theorem dX4_addAt_47 : decode cX4_addAt 47 = .ok (.aload_n 0, 1) := by decide +kernel
theorem dX4_addAt_48 : decode cX4_addAt 48 = .ok (.iload_n 3, 1) := by decide +kernel
theorem dX4_addAt_49 : decode cX4_addAt 49 = .ok (.aload_n 0, 1) := by decide +kernel
theorem dX4_addAt_50 : decode cX4_addAt 50 = .ok (.iload_n 3, 1) := by decide +kernel
theorem dX4_addAt_51 : decode cX4_addAt 51 = .ok (.iconst 1, 1) := by decide +kernel
theorem dX4_addAt_52 : decode cX4_addAt 52 = .ok (.isub, 1) := by decide +kernel
theorem dX4_addAt_53 : decode cX4_addAt 53 = .ok (.invokevirtual 23, 3) := by decide +kernel
theorem dX4_addAt_56 : decode cX4_addAt 56 = .ok (.invokevirtual 31, 3) := by decide +kernel
theorem dX4_addAt_59 : decode cX4_addAt 59 = .ok (.iinc 3 (-1), 3) := by decide +kernel
theorem dX4_addAt_62 : decode cX4_addAt 62 = .ok (.goto (-20), 3) := by decide +kernel
theorem dX4_addAt_65 : decode cX4_addAt 65 = .ok (.aload_n 0, 1) := by decide +kernel
theorem dX4_addAt_66 : decode cX4_addAt 66 = .ok (.iload_n 1, 1) := by decide +kernel
theorem dX4_addAt_67 : decode cX4_addAt 67 = .ok (.iload_n 2, 1) := by decide +kernel
theorem dX4_addAt_68 : decode cX4_addAt 68 = .ok (.invokevirtual 31, 3) := by decide +kernel
theorem dX4_addAt_71 : decode cX4_addAt 71 = .ok (.return_, 1) := by decide +kernel
theorem dX4_drop_0 : decode cX4_drop 0 = .ok (.iload_n 1, 1) := by decide +kernel
theorem dX4_drop_1 : decode cX4_drop 1 = .ok (.ifCond .lt 11, 3) := by decide +kernel
theorem dX4_drop_4 : decode cX4_drop 4 = .ok (.iload_n 1, 1) := by decide +kernel
theorem dX4_drop_5 : decode cX4_drop 5 = .ok (.aload_n 0, 1) := by decide +kernel
theorem dX4_drop_6 : decode cX4_drop 6 = .ok (.getfield 19, 3) := by decide +kernel
theorem dX4_drop_9 : decode cX4_drop 9 = .ok (.if_icmp .lt 4, 3) := by decide +kernel
theorem dX4_drop_12 : decode cX4_drop 12 = .ok (.return_, 1) := by decide +kernel
theorem dX4_drop_13 : decode cX4_drop 13 = .ok (.iload_n 1, 1) := by decide +kernel
theorem dX4_drop_14 : decode cX4_drop 14 = .ok (.istore_n 2, 1) := by decide +kernel
theorem dX4_drop_15 : decode cX4_drop 15 = .ok (.iload_n 2, 1) := by decide +kernel
theorem dX4_drop_16 : decode cX4_drop 16 = .ok (.aload_n 0, 1) := by decide +kernel
theorem dX4_drop_17 : decode cX4_drop 17 = .ok (.getfield 19, 3) := by decide +kernel
theorem dX4_drop_20 : decode cX4_drop 20 = .ok (.iconst 1, 1) := by decide +kernel
theorem dX4_drop_21 : decode cX4_drop 21 = .ok (.isub, 1) := by decide +kernel
theorem dX4_drop_22 : decode cX4_drop 22 = .ok (.if_icmp .ge 21, 3) := by decide +kernel
theorem dX4_drop_25 : decode cX4_drop 25 = .ok (.aload_n 0, 1) := by decide +kernel
theorem dX4_drop_26 : decode cX4_drop 26 = .ok (.iload_n 2, 1) := by decide +kernel
theorem dX4_drop_27 : decode cX4_drop 27 = .ok (.aload_n 0, 1) := by decide +kernel
theorem dX4_drop_28 : decode cX4_drop 28 = .ok (.iload_n 2, 1) := by decide +kernel
theorem dX4_drop_29 : decode cX4_drop 29 = .ok (.iconst 1, 1) := by decide +kernel
theorem dX4_drop_30 : decode cX4_drop 30 = .ok (.iadd, 1) := by decide +kernel
theorem dX4_drop_31 : decode cX4_drop 31 = .ok (.invokevirtual 23, 3) := by decide +kernel
theorem dX4_drop_34 : decode cX4_drop 34 = .ok (.invokevirtual 31, 3) := by decide +kernel
theorem dX4_drop_37 : decode cX4_drop 37 = .ok (.iinc 2 1, 3) := by decide +kernel
theorem dX4_drop_40 : decode cX4_drop 40 = .ok (.goto (-25), 3) := by decide +kernel
theorem dX4_drop_43 : decode cX4_drop 43 = .ok (.aload_n 0, 1) := by decide +kernel
theorem dX4_drop_44 : decode cX4_drop 44 = .ok (.dup, 1) := by decide +kernel
theorem dX4_drop_45 : decode cX4_drop 45 = .ok (.getfield 19, 3) := by decide +kernel
theorem dX4_drop_48 : decode cX4_drop 48 = .ok (.iconst 1, 1) := by decide +kernel
theorem dX4_drop_49 : decode cX4_drop 49 = .ok (.isub, 1) := by decide +kernel
theorem dX4_drop_50 : decode cX4_drop 50 = .ok (.putfield 19, 3) := by decide +kernel
theorem dX4_drop_53 : decode cX4_drop 53 = .ok (.return_, 1) := by decide +kernel
theorem dX4_empty_0 : decode cX4_empty 0 = .ok (.aload_n 0, 1) := by decide +kernel
theorem dX4_empty_1 : decode cX4_empty 1 = .ok (.iconst 0, 1) := by decide +kernel
theorem dX4_empty_2 : decode cX4_empty 2 = .ok (.putfield 19, 3) := by decide +kernel
theorem dX4_empty_5 : decode cX4_empty 5 = .ok (.return_, 1) := by decide +kernel
theorem dX4_become_0 : decode cX4_become 0 = .ok (.aload_n 0, 1) := by decide +kernel
theorem dX4_become_1 : decode cX4_become 1 = .ok (.aload_n 1, 1) := by decide +kernel
theorem dX4_become_2 : decode cX4_become 2 = .ok (.getfield 19, 3) := by decide +kernel
theorem dX4_become_5 : decode cX4_become 5 = .ok (.aload_n 0, 1) := by decide +kernel
theorem dX4_become_6 : decode cX4_become 6 = .ok (.getfield 13, 3) := by decide +kernel
theorem dX4_become_9 : decode cX4_become 9 = .ok (.arraylength, 1) := by decide +kernel
theorem dX4_become_10 : decode cX4_become 10 = .ok (.invokestatic 34, 3) := by decide +kernel
theorem dX4_become_13 : decode cX4_become 13 = .ok (.putfield 19, 3) := by decide +kernel
theorem dX4_become_16 : decode cX4_become 16 = .ok (.iconst 0, 1) := by decide +kernel
theorem dX4_become_17 : decode cX4_become 17 = .ok (.istore_n 2, 1) := by decide +kernel
theorem dX4_become_18 : decode cX4_become 18 = .ok (.iload_n 2, 1) := by decide +kernel
theorem dX4_become_19 : decode cX4_become 19 = .ok (.aload_n 0, 1) := by decide +kernel
theorem dX4_become_20 : decode cX4_become 20 = .ok (.getfield 19, 3) := by decide +kernel
theorem dX4_become_23 : decode cX4_become 23 = .ok (.if_icmp .ge 19, 3) := by decide +kernel
theorem dX4_become_26 : decode cX4_become 26 = .ok (.aload_n 0, 1) := by decide +kernel
theorem dX4_become_27 : decode cX4_become 27 = .ok (.iload_n 2, 1) := by decide +kernel
theorem dX4_become_28 : decode cX4_become 28 = .ok (.aload_n 1, 1) := by decide +kernel
theorem dX4_become_29 : decode cX4_become 29 = .ok (.iload_n 2, 1) := by decide +kernel
theorem dX4_become_30 : decode cX4_become 30 = .ok (.invokevirtual 23, 3) := by decide +kernel
theorem dX4_become_33 : decode cX4_become 33 = .ok (.invokevirtual 31, 3) := by decide +kernel
theorem dX4_become_36 : decode cX4_become 36 = .ok (.iinc 2 1, 3) := by decide +kernel
theorem dX4_become_39 : decode cX4_become 39 = .ok (.goto (-21), 3) := by decide +kernel
theorem dX4_become_42 : decode cX4_become 42 = .ok (.return_, 1) := by decide +kernel
theorem dX5_ofLetters_0 : decode cX5_ofLetters 0 = .ok (.iload_n 1, 1) := by decide +kernel
theorem dX5_ofLetters_1 : decode cX5_ofLetters 1 = .ok (.iconst 1, 1) := by decide +kernel
theorem dX5_ofLetters_2 : decode cX5_ofLetters 2 = .ok (.isub, 1) := by decide +kernel
theorem dX5_ofLetters_3 : decode cX5_ofLetters 3 = .ok (.bipush 26, 2) := by decide +kernel
theorem dX5_ofLetters_5 : decode cX5_ofLetters 5 = .ok (.imul, 1) := by decide +kernel
theorem dX5_ofLetters_6 : decode cX5_ofLetters 6 = .ok (.iload_n 0, 1) := by decide +kernel
theorem dX5_ofLetters_7 : decode cX5_ofLetters 7 = .ok (.iadd, 1) := by decide +kernel
theorem dX5_ofLetters_8 : decode cX5_ofLetters 8 = .ok (.ireturn, 1) := by decide +kernel
theorem dX5_ofStars_0 : decode cX5_ofStars 0 = .ok (.bipush 78, 2) := by decide +kernel
theorem dX5_ofStars_2 : decode cX5_ofStars 2 = .ok (.iload_n 0, 1) := by decide +kernel
theorem dX5_ofStars_3 : decode cX5_ofStars 3 = .ok (.iadd, 1) := by decide +kernel
theorem dX5_ofStars_4 : decode cX5_ofStars 4 = .ok (.iconst 1, 1) := by decide +kernel
theorem dX5_ofStars_5 : decode cX5_ofStars 5 = .ok (.isub, 1) := by decide +kernel
theorem dX5_ofStars_6 : decode cX5_ofStars 6 = .ok (.ireturn, 1) := by decide +kernel
theorem dX5_isStarred_0 : decode cX5_isStarred 0 = .ok (.iload_n 0, 1) := by decide +kernel
theorem dX5_isStarred_1 : decode cX5_isStarred 1 = .ok (.bipush 78, 2) := by decide +kernel
theorem dX5_isStarred_3 : decode cX5_isStarred 3 = .ok (.if_icmp .lt 7, 3) := by decide +kernel
theorem dX5_isStarred_6 : decode cX5_isStarred 6 = .ok (.iconst 1, 1) := by decide +kernel
theorem dX5_isStarred_7 : decode cX5_isStarred 7 = .ok (.goto 4, 3) := by decide +kernel
theorem dX5_isStarred_10 : decode cX5_isStarred 10 = .ok (.iconst 0, 1) := by decide +kernel
theorem dX5_isStarred_11 : decode cX5_isStarred 11 = .ok (.ireturn, 1) := by decide +kernel
theorem dX5_letter_0 : decode cX5_letter 0 = .ok (.iload_n 0, 1) := by decide +kernel
theorem dX5_letter_1 : decode cX5_letter 1 = .ok (.bipush 26, 2) := by decide +kernel
theorem dX5_letter_3 : decode cX5_letter 3 = .ok (.irem, 1) := by decide +kernel
theorem dX5_letter_4 : decode cX5_letter 4 = .ok (.ireturn, 1) := by decide +kernel
theorem dX5_times_0 : decode cX5_times 0 = .ok (.iload_n 0, 1) := by decide +kernel
theorem dX5_times_1 : decode cX5_times 1 = .ok (.invokestatic 9, 3) := by decide +kernel
theorem dX5_times_4 : decode cX5_times 4 = .ok (.ifCond .eq 12, 3) := by decide +kernel
theorem dX5_times_7 : decode cX5_times 7 = .ok (.iload_n 0, 1) := by decide +kernel
theorem dX5_times_8 : decode cX5_times 8 = .ok (.bipush 78, 2) := by decide +kernel
theorem dX5_times_10 : decode cX5_times 10 = .ok (.isub, 1) := by decide +kernel
theorem dX5_times_11 : decode cX5_times 11 = .ok (.iconst 1, 1) := by decide +kernel
theorem dX5_times_12 : decode cX5_times 12 = .ok (.iadd, 1) := by decide +kernel
theorem dX5_times_13 : decode cX5_times 13 = .ok (.goto 9, 3) := by decide +kernel
theorem dX5_times_16 : decode cX5_times 16 = .ok (.iload_n 0, 1) := by decide +kernel
theorem dX5_times_17 : decode cX5_times 17 = .ok (.bipush 26, 2) := by decide +kernel
theorem dX5_times_19 : decode cX5_times 19 = .ok (.idiv, 1) := by decide +kernel
theorem dX5_times_20 : decode cX5_times 20 = .ok (.iconst 1, 1) := by decide +kernel
theorem dX5_times_21 : decode cX5_times 21 = .ok (.iadd, 1) := by decide +kernel
theorem dX5_times_22 : decode cX5_times 22 = .ok (.ireturn, 1) := by decide +kernel
theorem dX6_init_0 : decode cX6_init 0 = .ok (.aload_n 0, 1) := by decide +kernel
theorem dX6_init_1 : decode cX6_init 1 = .ok (.invokespecial 3, 3) := by decide +kernel
theorem dX6_init_4 : decode cX6_init 4 = .ok (.aload_n 0, 1) := by decide +kernel
theorem dX6_init_5 : decode cX6_init 5 = .ok (.new 9, 3) := by decide +kernel
theorem dX6_init_8 : decode cX6_init 8 = .ok (.dup, 1) := by decide +kernel
theorem dX6_init_9 : decode cX6_init 9 = .ok (.bipush 60, 2) := by decide +kernel
theorem dX6_init_11 : decode cX6_init 11 = .ok (.invokespecial 11, 3) := by decide +kernel
theorem dX6_init_14 : decode cX6_init 14 = .ok (.putfield 14, 3) := by decide +kernel
theorem dX6_init_17 : decode cX6_init 17 = .ok (.aload_n 0, 1) := by decide +kernel
theorem dX6_init_18 : decode cX6_init 18 = .ok (.new 9, 3) := by decide +kernel
theorem dX6_init_21 : decode cX6_init 21 = .ok (.dup, 1) := by decide +kernel
theorem dX6_init_22 : decode cX6_init 22 = .ok (.bipush 20, 2) := by decide +kernel
theorem dX6_init_24 : decode cX6_init 24 = .ok (.invokespecial 11, 3) := by decide +kernel
theorem dX6_init_27 : decode cX6_init 27 = .ok (.putfield 20, 3) := by decide +kernel
theorem dX6_init_30 : decode cX6_init 30 = .ok (.aload_n 0, 1) := by decide +kernel
theorem dX6_init_31 : decode cX6_init 31 = .ok (.new 9, 3) := by decide +kernel
theorem dX6_init_34 : decode cX6_init 34 = .ok (.dup, 1) := by decide +kernel
theorem dX6_init_35 : decode cX6_init 35 = .ok (.bipush 20, 2) := by decide +kernel
theorem dX6_init_37 : decode cX6_init 37 = .ok (.invokespecial 11, 3) := by decide +kernel
theorem dX6_init_40 : decode cX6_init 40 = .ok (.putfield 23, 3) := by decide +kernel
theorem dX6_init_43 : decode cX6_init 43 = .ok (.aload_n 0, 1) := by decide +kernel
theorem dX6_init_44 : decode cX6_init 44 = .ok (.new 9, 3) := by decide +kernel
theorem dX6_init_47 : decode cX6_init 47 = .ok (.dup, 1) := by decide +kernel
theorem dX6_init_48 : decode cX6_init 48 = .ok (.bipush 20, 2) := by decide +kernel
theorem dX6_init_50 : decode cX6_init 50 = .ok (.invokespecial 11, 3) := by decide +kernel
theorem dX6_init_53 : decode cX6_init 53 = .ok (.putfield 26, 3) := by decide +kernel
theorem dX6_init_56 : decode cX6_init 56 = .ok (.aload_n 0, 1) := by decide +kernel
theorem dX6_init_57 : decode cX6_init 57 = .ok (.new 29, 3) := by decide +kernel
theorem dX6_init_60 : decode cX6_init 60 = .ok (.dup, 1) := by decide +kernel
theorem dX6_init_61 : decode cX6_init 61 = .ok (.iconst 0, 1) := by decide +kernel
theorem dX6_init_62 : decode cX6_init 62 = .ok (.invokespecial 31, 3) := by decide +kernel
theorem dX6_init_65 : decode cX6_init 65 = .ok (.putfield 32, 3) := by decide +kernel
theorem dX6_init_68 : decode cX6_init 68 = .ok (.return_, 1) := by decide +kernel
theorem dX6_length_0 : decode cX6_length 0 = .ok (.aload_n 0, 1) := by decide +kernel
theorem dX6_length_1 : decode cX6_length 1 = .ok (.getfield 14, 3) := by decide +kernel
theorem dX6_length_4 : decode cX6_length 4 = .ok (.invokevirtual 36, 3) := by decide +kernel
theorem dX6_length_7 : decode cX6_length 7 = .ok (.ireturn, 1) := by decide +kernel
theorem dX6_add_0 : decode cX6_add 0 = .ok (.aload_n 0, 1) := by decide +kernel
theorem dX6_add_1 : decode cX6_add 1 = .ok (.getfield 14, 3) := by decide +kernel
theorem dX6_add_4 : decode cX6_add 4 = .ok (.iload_n 1, 1) := by decide +kernel
theorem dX6_add_5 : decode cX6_add 5 = .ok (.invokevirtual 40, 3) := by decide +kernel
theorem dX6_add_8 : decode cX6_add 8 = .ok (.return_, 1) := by decide +kernel
theorem dX6_empty_0 : decode cX6_empty 0 = .ok (.aload_n 0, 1) := by decide +kernel
theorem dX6_empty_1 : decode cX6_empty 1 = .ok (.getfield 14, 3) := by decide +kernel
theorem dX6_empty_4 : decode cX6_empty 4 = .ok (.invokevirtual 43, 3) := by decide +kernel
theorem dX6_empty_7 : decode cX6_empty 7 = .ok (.return_, 1) := by decide +kernel
theorem dX6_entries_0 : decode cX6_entries 0 = .ok (.aload_n 0, 1) := by decide +kernel
theorem dX6_entries_1 : decode cX6_entries 1 = .ok (.getfield 26, 3) := by decide +kernel
theorem dX6_entries_4 : decode cX6_entries 4 = .ok (.invokevirtual 36, 3) := by decide +kernel
theorem dX6_entries_7 : decode cX6_entries 7 = .ok (.ireturn, 1) := by decide +kernel
theorem dX6_firstSign_0 : decode cX6_firstSign 0 = .ok (.aload_n 0, 1) := by decide +kernel
theorem dX6_firstSign_1 : decode cX6_firstSign 1 = .ok (.getfield 20, 3) := by decide +kernel
theorem dX6_firstSign_4 : decode cX6_firstSign 4 = .ok (.iload_n 1, 1) := by decide +kernel
theorem dX6_firstSign_5 : decode cX6_firstSign 5 = .ok (.invokevirtual 46, 3) := by decide +kernel
theorem dX6_firstSign_8 : decode cX6_firstSign 8 = .ok (.ireturn, 1) := by decide +kernel
theorem dX6_lastSign_0 : decode cX6_lastSign 0 = .ok (.aload_n 0, 1) := by decide +kernel
theorem dX6_lastSign_1 : decode cX6_lastSign 1 = .ok (.getfield 23, 3) := by decide +kernel
theorem dX6_lastSign_4 : decode cX6_lastSign 4 = .ok (.iload_n 1, 1) := by decide +kernel
theorem dX6_lastSign_5 : decode cX6_lastSign 5 = .ok (.invokevirtual 46, 3) := by decide +kernel
theorem dX6_lastSign_8 : decode cX6_lastSign 8 = .ok (.ireturn, 1) := by decide +kernel
theorem dX6_number_0 : decode cX6_number 0 = .ok (.aload_n 0, 1) := by decide +kernel
theorem dX6_number_1 : decode cX6_number 1 = .ok (.getfield 26, 3) := by decide +kernel
theorem dX6_number_4 : decode cX6_number 4 = .ok (.iload_n 1, 1) := by decide +kernel
theorem dX6_number_5 : decode cX6_number 5 = .ok (.invokevirtual 46, 3) := by decide +kernel
theorem dX6_number_8 : decode cX6_number 8 = .ok (.ireturn, 1) := by decide +kernel
theorem dX6_readAsFormula_0 : decode cX6_readAsFormula 0 = .ok (.aload_n 0, 1) := by decide +kernel
theorem dX6_readAsFormula_1 : decode cX6_readAsFormula 1 = .ok (.aload_n 1, 1) := by decide +kernel
theorem dX6_readAsFormula_2 : decode cX6_readAsFormula 2 = .ok (.iconst 1, 1) := by decide +kernel
theorem dX6_readAsFormula_3 : decode cX6_readAsFormula 3 = .ok (.invokevirtual 50, 3) := by decide +kernel
theorem dX6_readAsFormula_6 : decode cX6_readAsFormula 6 = .ok (.ireturn, 1) := by decide +kernel
theorem dX6_readAsPile_0 : decode cX6_readAsPile 0 = .ok (.aload_n 0, 1) := by decide +kernel
theorem dX6_readAsPile_1 : decode cX6_readAsPile 1 = .ok (.aload_n 0, 1) := by decide +kernel
theorem dX6_readAsPile_2 : decode cX6_readAsPile 2 = .ok (.getfield 32, 3) := by decide +kernel
theorem dX6_readAsPile_5 : decode cX6_readAsPile 5 = .ok (.iconst 0, 1) := by decide +kernel
theorem dX6_readAsPile_6 : decode cX6_readAsPile 6 = .ok (.invokevirtual 50, 3) := by decide +kernel
theorem dX6_readAsPile_9 : decode cX6_readAsPile 9 = .ok (.ireturn, 1) := by decide +kernel
theorem dX6_readEntries_0 : decode cX6_readEntries 0 = .ok (.aload_n 0, 1) := by decide +kernel
theorem dX6_readEntries_1 : decode cX6_readEntries 1 = .ok (.getfield 20, 3) := by decide +kernel
theorem dX6_readEntries_4 : decode cX6_readEntries 4 = .ok (.invokevirtual 43, 3) := by decide +kernel
theorem dX6_readEntries_7 : decode cX6_readEntries 7 = .ok (.aload_n 0, 1) := by decide +kernel
theorem dX6_readEntries_8 : decode cX6_readEntries 8 = .ok (.getfield 23, 3) := by decide +kernel
theorem dX6_readEntries_11 : decode cX6_readEntries 11 = .ok (.invokevirtual 43, 3) := by decide +kernel
theorem dX6_readEntries_14 : decode cX6_readEntries 14 = .ok (.aload_n 0, 1) := by decide +kernel
theorem dX6_readEntries_15 : decode cX6_readEntries 15 = .ok (.getfield 26, 3) := by decide +kernel
theorem dX6_readEntries_18 : decode cX6_readEntries 18 = .ok (.invokevirtual 43, 3) := by decide +kernel
theorem dX6_readEntries_21 : decode cX6_readEntries 21 = .ok (.aload_n 0, 1) := by decide +kernel
theorem dX6_readEntries_22 : decode cX6_readEntries 22 = .ok (.iconst 0, 1) := by decide +kernel
theorem dX6_readEntries_23 : decode cX6_readEntries 23 = .ok (.putfield 54, 3) := by decide +kernel
theorem dX6_readEntries_26 : decode cX6_readEntries 26 = .ok (.iconst 0, 1) := by decide +kernel
theorem dX6_readEntries_27 : decode cX6_readEntries 27 = .ok (.istore_n 3, 1) := by decide +kernel
theorem dX6_readEntries_28 : decode cX6_readEntries 28 = .ok (.iload_n 3, 1) := by decide +kernel
theorem dX6_readEntries_29 : decode cX6_readEntries 29 = .ok (.aload_n 0, 1) := by decide +kernel
theorem dX6_readEntries_30 : decode cX6_readEntries 30 = .ok (.getfield 14, 3) := by decide +kernel
theorem dX6_readEntries_33 : decode cX6_readEntries 33 = .ok (.invokevirtual 36, 3) := by decide +kernel
theorem dX6_readEntries_36 : decode cX6_readEntries 36 = .ok (.if_icmp .gt 70, 3) := by decide +kernel
theorem dX6_readEntries_39 : decode cX6_readEntries 39 = .ok (.aload_n 0, 1) := by decide +kernel
theorem dX6_readEntries_40 : decode cX6_readEntries 40 = .ok (.aload_n 1, 1) := by decide +kernel
theorem dX6_readEntries_41 : decode cX6_readEntries 41 = .ok (.iload_n 2, 1) := by decide +kernel
theorem dX6_readEntries_42 : decode cX6_readEntries 42 = .ok (.invokevirtual 57, 3) := by decide +kernel
theorem dX6_readEntries_45 : decode cX6_readEntries 45 = .ok (.ifCond .ne 8, 3) := by decide +kernel
theorem dX6_readEntries_48 : decode cX6_readEntries 48 = .ok (.aload_n 0, 1) := by decide +kernel
theorem dX6_readEntries_49 : decode cX6_readEntries 49 = .ok (.getfield 54, 3) := by decide +kernel
theorem dX6_readEntries_52 : decode cX6_readEntries 52 = .ok (.ireturn, 1) := by decide +kernel
theorem dX6_readEntries_53 : decode cX6_readEntries 53 = .ok (.aload_n 0, 1) := by decide +kernel
theorem dX6_readEntries_54 : decode cX6_readEntries 54 = .ok (.getfield 54, 3) := by decide +kernel
theorem dX6_readEntries_57 : decode cX6_readEntries 57 = .ok (.aload_n 0, 1) := by decide +kernel
theorem dX6_readEntries_58 : decode cX6_readEntries 58 = .ok (.getfield 14, 3) := by decide +kernel
theorem dX6_readEntries_61 : decode cX6_readEntries 61 = .ok (.invokevirtual 36, 3) := by decide +kernel
theorem dX6_readEntries_64 : decode cX6_readEntries 64 = .ok (.if_icmp .ne 5, 3) := by decide +kernel
theorem dX6_readEntries_67 : decode cX6_readEntries 67 = .ok (.iconst (-1), 1) := by decide +kernel
theorem dX6_readEntries_68 : decode cX6_readEntries 68 = .ok (.ireturn, 1) := by decide +kernel
theorem dX6_readEntries_69 : decode cX6_readEntries 69 = .ok (.aload_n 0, 1) := by decide +kernel
theorem dX6_readEntries_70 : decode cX6_readEntries 70 = .ok (.getfield 14, 3) := by decide +kernel
theorem dX6_readEntries_73 : decode cX6_readEntries 73 = .ok (.aload_n 0, 1) := by decide +kernel
theorem dX6_readEntries_74 : decode cX6_readEntries 74 = .ok (.getfield 54, 3) := by decide +kernel
theorem dX6_readEntries_77 : decode cX6_readEntries 77 = .ok (.invokevirtual 46, 3) := by decide +kernel
theorem dX6_readEntries_80 : decode cX6_readEntries 80 = .ok (.bipush 44, 2) := by decide +kernel
theorem dX6_readEntries_82 : decode cX6_readEntries 82 = .ok (.if_icmp .eq 8, 3) := by decide +kernel
theorem dX6_readEntries_85 : decode cX6_readEntries 85 = .ok (.aload_n 0, 1) := by decide +kernel
theorem dX6_readEntries_86 : decode cX6_readEntries 86 = .ok (.getfield 54, 3) := by decide +kernel
theorem dX6_readEntries_89 : decode cX6_readEntries 89 = .ok (.ireturn, 1) := by decide +kernel
theorem dX6_readEntries_90 : decode cX6_readEntries 90 = .ok (.aload_n 0, 1) := by decide +kernel
theorem dX6_readEntries_91 : decode cX6_readEntries 91 = .ok (.dup, 1) := by decide +kernel
theorem dX6_readEntries_92 : decode cX6_readEntries 92 = .ok (.getfield 54, 3) := by decide +kernel
theorem dX6_readEntries_95 : decode cX6_readEntries 95 = .ok (.iconst 1, 1) := by decide +kernel
theorem dX6_readEntries_96 : decode cX6_readEntries 96 = .ok (.iadd, 1) := by decide +kernel
theorem dX6_readEntries_97 : decode cX6_readEntries 97 = .ok (.putfield 54, 3) := by decide +kernel
theorem dX6_readEntries_100 : decode cX6_readEntries 100 = .ok (.iinc 3 1, 3) := by decide +kernel
theorem dX6_readEntries_103 : decode cX6_readEntries 103 = .ok (.goto (-75), 3) := by decide +kernel
theorem dX6_readEntries_106 : decode cX6_readEntries 106 = .ok (.aload_n 0, 1) := by decide +kernel
theorem dX6_readEntries_107 : decode cX6_readEntries 107 = .ok (.getfield 54, 3) := by decide +kernel
theorem dX6_readEntries_110 : decode cX6_readEntries 110 = .ok (.ireturn, 1) := by decide +kernel
theorem dX6_readEntry_0 : decode cX6_readEntry 0 = .ok (.aload_n 0, 1) := by decide +kernel
theorem dX6_readEntry_1 : decode cX6_readEntry 1 = .ok (.aload_n 1, 1) := by decide +kernel
theorem dX6_readEntry_2 : decode cX6_readEntry 2 = .ok (.invokevirtual 61, 3) := by decide +kernel
theorem dX6_readEntry_5 : decode cX6_readEntry 5 = .ok (.istore_n 3, 1) := by decide +kernel
theorem dX6_readEntry_6 : decode cX6_readEntry 6 = .ok (.iload_n 3, 1) := by decide +kernel
theorem dX6_readEntry_7 : decode cX6_readEntry 7 = .ok (.iconst (-1), 1) := by decide +kernel
theorem dX6_readEntry_8 : decode cX6_readEntry 8 = .ok (.if_icmp .ne 5, 3) := by decide +kernel
theorem dX6_readEntry_11 : decode cX6_readEntry 11 = .ok (.iconst 0, 1) := by decide +kernel
theorem dX6_readEntry_12 : decode cX6_readEntry 12 = .ok (.ireturn, 1) := by decide +kernel
theorem dX6_readEntry_13 : decode cX6_readEntry 13 = .ok (.iload_n 3, 1) := by decide +kernel
theorem dX6_readEntry_14 : decode cX6_readEntry 14 = .ok (.istore 4, 2) := by decide +kernel
theorem dX6_readEntry_16 : decode cX6_readEntry 16 = .ok (.iload_n 2, 1) := by decide +kernel
theorem dX6_readEntry_17 : decode cX6_readEntry 17 = .ok (.ifCond .eq 52, 3) := by decide +kernel
theorem dX6_readEntry_20 : decode cX6_readEntry 20 = .ok (.iload_n 3, 1) := by decide +kernel
theorem dX6_readEntry_21 : decode cX6_readEntry 21 = .ok (.invokestatic 67, 3) := by decide +kernel
theorem dX6_readEntry_24 : decode cX6_readEntry 24 = .ok (.ifCond .ne 45, 3) := by decide +kernel
theorem dX6_readEntry_27 : decode cX6_readEntry 27 = .ok (.aload_n 0, 1) := by decide +kernel
theorem dX6_readEntry_28 : decode cX6_readEntry 28 = .ok (.getfield 14, 3) := by decide +kernel
theorem dX6_readEntry_31 : decode cX6_readEntry 31 = .ok (.aload_n 0, 1) := by decide +kernel
theorem dX6_readEntry_32 : decode cX6_readEntry 32 = .ok (.getfield 54, 3) := by decide +kernel
theorem dX6_readEntry_35 : decode cX6_readEntry 35 = .ok (.invokevirtual 46, 3) := by decide +kernel
theorem dX6_readEntry_38 : decode cX6_readEntry 38 = .ok (.bipush 45, 2) := by decide +kernel
theorem dX6_readEntry_40 : decode cX6_readEntry 40 = .ok (.if_icmp .ne 29, 3) := by decide +kernel
theorem dX6_readEntry_43 : decode cX6_readEntry 43 = .ok (.aload_n 0, 1) := by decide +kernel
theorem dX6_readEntry_44 : decode cX6_readEntry 44 = .ok (.dup, 1) := by decide +kernel
theorem dX6_readEntry_45 : decode cX6_readEntry 45 = .ok (.getfield 54, 3) := by decide +kernel
theorem dX6_readEntry_48 : decode cX6_readEntry 48 = .ok (.iconst 1, 1) := by decide +kernel
theorem dX6_readEntry_49 : decode cX6_readEntry 49 = .ok (.iadd, 1) := by decide +kernel
theorem dX6_readEntry_50 : decode cX6_readEntry 50 = .ok (.putfield 54, 3) := by decide +kernel
theorem dX6_readEntry_53 : decode cX6_readEntry 53 = .ok (.aload_n 0, 1) := by decide +kernel
theorem dX6_readEntry_54 : decode cX6_readEntry 54 = .ok (.aload_n 1, 1) := by decide +kernel
theorem dX6_readEntry_55 : decode cX6_readEntry 55 = .ok (.iload_n 3, 1) := by decide +kernel
theorem dX6_readEntry_56 : decode cX6_readEntry 56 = .ok (.invokevirtual 71, 3) := by decide +kernel
theorem dX6_readEntry_59 : decode cX6_readEntry 59 = .ok (.istore 4, 2) := by decide +kernel
theorem dX6_readEntry_61 : decode cX6_readEntry 61 = .ok (.iload 4, 2) := by decide +kernel
theorem dX6_readEntry_63 : decode cX6_readEntry 63 = .ok (.iconst (-1), 1) := by decide +kernel
theorem dX6_readEntry_64 : decode cX6_readEntry 64 = .ok (.if_icmp .ne 5, 3) := by decide +kernel
theorem dX6_readEntry_67 : decode cX6_readEntry 67 = .ok (.iconst 0, 1) := by decide +kernel
theorem dX6_readEntry_68 : decode cX6_readEntry 68 = .ok (.ireturn, 1) := by decide +kernel
theorem dX6_readEntry_69 : decode cX6_readEntry 69 = .ok (.aload_n 0, 1) := by decide +kernel
theorem dX6_readEntry_70 : decode cX6_readEntry 70 = .ok (.invokevirtual 75, 3) := by decide +kernel
theorem dX6_readEntry_73 : decode cX6_readEntry 73 = .ok (.istore 5, 2) := by decide +kernel
theorem dX6_readEntry_75 : decode cX6_readEntry 75 = .ok (.iload 5, 2) := by decide +kernel
theorem dX6_readEntry_77 : decode cX6_readEntry 77 = .ok (.ifCond .ne 5, 3) := by decide +kernel
theorem dX6_readEntry_80 : decode cX6_readEntry 80 = .ok (.iconst 0, 1) := by decide +kernel
theorem dX6_readEntry_81 : decode cX6_readEntry 81 = .ok (.ireturn, 1) := by decide +kernel
theorem dX6_readEntry_82 : decode cX6_readEntry 82 = .ok (.aload_n 0, 1) := by decide +kernel
theorem dX6_readEntry_83 : decode cX6_readEntry 83 = .ok (.getfield 20, 3) := by decide +kernel
theorem dX6_readEntry_86 : decode cX6_readEntry 86 = .ok (.iload_n 3, 1) := by decide +kernel
theorem dX6_readEntry_87 : decode cX6_readEntry 87 = .ok (.invokevirtual 40, 3) := by decide +kernel
theorem dX6_readEntry_90 : decode cX6_readEntry 90 = .ok (.aload_n 0, 1) := by decide +kernel
theorem dX6_readEntry_91 : decode cX6_readEntry 91 = .ok (.getfield 23, 3) := by decide +kernel
theorem dX6_readEntry_94 : decode cX6_readEntry 94 = .ok (.iload 4, 2) := by decide +kernel
theorem dX6_readEntry_96 : decode cX6_readEntry 96 = .ok (.invokevirtual 40, 3) := by decide +kernel
theorem dX6_readEntry_99 : decode cX6_readEntry 99 = .ok (.aload_n 0, 1) := by decide +kernel
theorem dX6_readEntry_100 : decode cX6_readEntry 100 = .ok (.getfield 26, 3) := by decide +kernel
theorem dX6_readEntry_103 : decode cX6_readEntry 103 = .ok (.iload 5, 2) := by decide +kernel
theorem dX6_readEntry_105 : decode cX6_readEntry 105 = .ok (.invokevirtual 40, 3) := by decide +kernel
theorem dX6_readEntry_108 : decode cX6_readEntry 108 = .ok (.iconst 1, 1) := by decide +kernel
theorem dX6_readEntry_109 : decode cX6_readEntry 109 = .ok (.ireturn, 1) := by decide +kernel
theorem dX6_readSign_0 : decode cX6_readSign 0 = .ok (.aload_n 0, 1) := by decide +kernel
theorem dX6_readSign_1 : decode cX6_readSign 1 = .ok (.getfield 14, 3) := by decide +kernel
theorem dX6_readSign_4 : decode cX6_readSign 4 = .ok (.aload_n 0, 1) := by decide +kernel
theorem dX6_readSign_5 : decode cX6_readSign 5 = .ok (.getfield 54, 3) := by decide +kernel
theorem dX6_readSign_8 : decode cX6_readSign 8 = .ok (.invokevirtual 46, 3) := by decide +kernel
theorem dX6_readSign_11 : decode cX6_readSign 11 = .ok (.bipush 42, 2) := by decide +kernel
theorem dX6_readSign_13 : decode cX6_readSign 13 = .ok (.if_icmp .ne 10, 3) := by decide +kernel
theorem dX6_readSign_16 : decode cX6_readSign 16 = .ok (.aload_n 0, 1) := by decide +kernel
theorem dX6_readSign_17 : decode cX6_readSign 17 = .ok (.invokevirtual 78, 3) := by decide +kernel
theorem dX6_readSign_20 : decode cX6_readSign 20 = .ok (.goto 8, 3) := by decide +kernel
theorem dX6_readSign_23 : decode cX6_readSign 23 = .ok (.aload_n 0, 1) := by decide +kernel
theorem dX6_readSign_24 : decode cX6_readSign 24 = .ok (.aload_n 1, 1) := by decide +kernel
theorem dX6_readSign_25 : decode cX6_readSign 25 = .ok (.invokevirtual 81, 3) := by decide +kernel
theorem dX6_readSign_28 : decode cX6_readSign 28 = .ok (.ireturn, 1) := by decide +kernel
theorem dX6_readStars_0 : decode cX6_readStars 0 = .ok (.iconst 0, 1) := by decide +kernel
theorem dX6_readStars_1 : decode cX6_readStars 1 = .ok (.istore_n 1, 1) := by decide +kernel
theorem dX6_readStars_2 : decode cX6_readStars 2 = .ok (.iload_n 1, 1) := by decide +kernel
theorem dX6_readStars_3 : decode cX6_readStars 3 = .ok (.iconst 5, 1) := by decide +kernel
theorem dX6_readStars_4 : decode cX6_readStars 4 = .ok (.if_icmp .ge 35, 3) := by decide +kernel
theorem dX6_readStars_7 : decode cX6_readStars 7 = .ok (.aload_n 0, 1) := by decide +kernel
theorem dX6_readStars_8 : decode cX6_readStars 8 = .ok (.getfield 14, 3) := by decide +kernel
theorem dX6_readStars_11 : decode cX6_readStars 11 = .ok (.aload_n 0, 1) := by decide +kernel
theorem dX6_readStars_12 : decode cX6_readStars 12 = .ok (.getfield 54, 3) := by decide +kernel
theorem dX6_readStars_15 : decode cX6_readStars 15 = .ok (.invokevirtual 46, 3) := by decide +kernel
theorem dX6_readStars_18 : decode cX6_readStars 18 = .ok (.bipush 42, 2) := by decide +kernel
theorem dX6_readStars_20 : decode cX6_readStars 20 = .ok (.if_icmp .ne 19, 3) := by decide +kernel
theorem dX6_readStars_23 : decode cX6_readStars 23 = .ok (.iinc 1 1, 3) := by decide +kernel
theorem dX6_readStars_26 : decode cX6_readStars 26 = .ok (.aload_n 0, 1) := by decide +kernel
theorem dX6_readStars_27 : decode cX6_readStars 27 = .ok (.dup, 1) := by decide +kernel
theorem dX6_readStars_28 : decode cX6_readStars 28 = .ok (.getfield 54, 3) := by decide +kernel
theorem dX6_readStars_31 : decode cX6_readStars 31 = .ok (.iconst 1, 1) := by decide +kernel
theorem dX6_readStars_32 : decode cX6_readStars 32 = .ok (.iadd, 1) := by decide +kernel
theorem dX6_readStars_33 : decode cX6_readStars 33 = .ok (.putfield 54, 3) := by decide +kernel
theorem dX6_readStars_36 : decode cX6_readStars 36 = .ok (.goto (-34), 3) := by decide +kernel
theorem dX6_readStars_39 : decode cX6_readStars 39 = .ok (.iload_n 1, 1) := by decide +kernel
theorem dX6_readStars_40 : decode cX6_readStars 40 = .ok (.invokestatic 84, 3) := by decide +kernel
theorem dX6_readStars_43 : decode cX6_readStars 43 = .ok (.ireturn, 1) := by decide +kernel
theorem dX6_readLetters_0 : decode cX6_readLetters 0 = .ok (.aload_n 0, 1) := by decide +kernel
theorem dX6_readLetters_1 : decode cX6_readLetters 1 = .ok (.getfield 14, 3) := by decide +kernel
theorem dX6_readLetters_4 : decode cX6_readLetters 4 = .ok (.aload_n 0, 1) := by decide +kernel
theorem dX6_readLetters_5 : decode cX6_readLetters 5 = .ok (.getfield 54, 3) := by decide +kernel
theorem dX6_readLetters_8 : decode cX6_readLetters 8 = .ok (.invokevirtual 46, 3) := by decide +kernel
theorem dX6_readLetters_11 : decode cX6_readLetters 11 = .ok (.bipush 65, 2) := by decide +kernel
theorem dX6_readLetters_13 : decode cX6_readLetters 13 = .ok (.isub, 1) := by decide +kernel
theorem dX6_readLetters_14 : decode cX6_readLetters 14 = .ok (.istore_n 2, 1) := by decide +kernel
theorem dX6_readLetters_15 : decode cX6_readLetters 15 = .ok (.aload_n 1, 1) := by decide +kernel
theorem dX6_readLetters_16 : decode cX6_readLetters 16 = .ok (.iload_n 2, 1) := by decide +kernel
theorem dX6_readLetters_17 : decode cX6_readLetters 17 = .ok (.invokevirtual 87, 3) := by decide +kernel
theorem dX6_readLetters_20 : decode cX6_readLetters 20 = .ok (.ifCond .ne 5, 3) := by decide +kernel
theorem dX6_readLetters_23 : decode cX6_readLetters 23 = .ok (.iconst (-1), 1) := by decide +kernel
theorem dX6_readLetters_24 : decode cX6_readLetters 24 = .ok (.ireturn, 1) := by decide +kernel
theorem dX6_readLetters_25 : decode cX6_readLetters 25 = .ok (.aload_n 0, 1) := by decide +kernel
theorem dX6_readLetters_26 : decode cX6_readLetters 26 = .ok (.dup, 1) := by decide +kernel
theorem dX6_readLetters_27 : decode cX6_readLetters 27 = .ok (.getfield 54, 3) := by decide +kernel
theorem dX6_readLetters_30 : decode cX6_readLetters 30 = .ok (.iconst 1, 1) := by decide +kernel
theorem dX6_readLetters_31 : decode cX6_readLetters 31 = .ok (.iadd, 1) := by decide +kernel
theorem dX6_readLetters_32 : decode cX6_readLetters 32 = .ok (.putfield 54, 3) := by decide +kernel
theorem dX6_readLetters_35 : decode cX6_readLetters 35 = .ok (.iconst 1, 1) := by decide +kernel
theorem dX6_readLetters_36 : decode cX6_readLetters 36 = .ok (.istore_n 3, 1) := by decide +kernel
theorem dX6_readLetters_37 : decode cX6_readLetters 37 = .ok (.iload_n 3, 1) := by decide +kernel
theorem dX6_readLetters_38 : decode cX6_readLetters 38 = .ok (.iconst 3, 1) := by decide +kernel
theorem dX6_readLetters_39 : decode cX6_readLetters 39 = .ok (.if_icmp .ge 37, 3) := by decide +kernel
theorem dX6_readLetters_42 : decode cX6_readLetters 42 = .ok (.aload_n 0, 1) := by decide +kernel
theorem dX6_readLetters_43 : decode cX6_readLetters 43 = .ok (.getfield 14, 3) := by decide +kernel
theorem dX6_readLetters_46 : decode cX6_readLetters 46 = .ok (.aload_n 0, 1) := by decide +kernel
theorem dX6_readLetters_47 : decode cX6_readLetters 47 = .ok (.getfield 54, 3) := by decide +kernel
theorem dX6_readLetters_50 : decode cX6_readLetters 50 = .ok (.invokevirtual 46, 3) := by decide +kernel
theorem dX6_readLetters_53 : decode cX6_readLetters 53 = .ok (.bipush 97, 2) := by decide +kernel
theorem dX6_readLetters_55 : decode cX6_readLetters 55 = .ok (.iload_n 2, 1) := by decide +kernel
theorem dX6_readLetters_56 : decode cX6_readLetters 56 = .ok (.iadd, 1) := by decide +kernel
theorem dX6_readLetters_57 : decode cX6_readLetters 57 = .ok (.if_icmp .ne 19, 3) := by decide +kernel
theorem dX6_readLetters_60 : decode cX6_readLetters 60 = .ok (.iinc 3 1, 3) := by decide +kernel
theorem dX6_readLetters_63 : decode cX6_readLetters 63 = .ok (.aload_n 0, 1) := by decide +kernel
theorem dX6_readLetters_64 : decode cX6_readLetters 64 = .ok (.dup, 1) := by decide +kernel
theorem dX6_readLetters_65 : decode cX6_readLetters 65 = .ok (.getfield 54, 3) := by decide +kernel
theorem dX6_readLetters_68 : decode cX6_readLetters 68 = .ok (.iconst 1, 1) := by decide +kernel
theorem dX6_readLetters_69 : decode cX6_readLetters 69 = .ok (.iadd, 1) := by decide +kernel
theorem dX6_readLetters_70 : decode cX6_readLetters 70 = .ok (.putfield 54, 3) := by decide +kernel
theorem dX6_readLetters_73 : decode cX6_readLetters 73 = .ok (.goto (-36), 3) := by decide +kernel
theorem dX6_readLetters_76 : decode cX6_readLetters 76 = .ok (.iload_n 2, 1) := by decide +kernel
theorem dX6_readLetters_77 : decode cX6_readLetters 77 = .ok (.iload_n 3, 1) := by decide +kernel
theorem dX6_readLetters_78 : decode cX6_readLetters 78 = .ok (.invokestatic 90, 3) := by decide +kernel
theorem dX6_readLetters_81 : decode cX6_readLetters 81 = .ok (.ireturn, 1) := by decide +kernel
theorem dX6_readLastSign_0 : decode cX6_readLastSign 0 = .ok (.aload_n 0, 1) := by decide +kernel
theorem dX6_readLastSign_1 : decode cX6_readLastSign 1 = .ok (.aload_n 1, 1) := by decide +kernel
theorem dX6_readLastSign_2 : decode cX6_readLastSign 2 = .ok (.invokevirtual 81, 3) := by decide +kernel
theorem dX6_readLastSign_5 : decode cX6_readLastSign 5 = .ok (.istore_n 3, 1) := by decide +kernel
theorem dX6_readLastSign_6 : decode cX6_readLastSign 6 = .ok (.iload_n 3, 1) := by decide +kernel
theorem dX6_readLastSign_7 : decode cX6_readLastSign 7 = .ok (.iconst (-1), 1) := by decide +kernel
theorem dX6_readLastSign_8 : decode cX6_readLastSign 8 = .ok (.if_icmp .ne 5, 3) := by decide +kernel
theorem dX6_readLastSign_11 : decode cX6_readLastSign 11 = .ok (.iconst (-1), 1) := by decide +kernel
theorem dX6_readLastSign_12 : decode cX6_readLastSign 12 = .ok (.ireturn, 1) := by decide +kernel
theorem dX6_readLastSign_13 : decode cX6_readLastSign 13 = .ok (.iload_n 3, 1) := by decide +kernel
theorem dX6_readLastSign_14 : decode cX6_readLastSign 14 = .ok (.invokestatic 94, 3) := by decide +kernel
theorem dX6_readLastSign_17 : decode cX6_readLastSign 17 = .ok (.iload_n 2, 1) := by decide +kernel
theorem dX6_readLastSign_18 : decode cX6_readLastSign 18 = .ok (.invokestatic 94, 3) := by decide +kernel
theorem dX6_readLastSign_21 : decode cX6_readLastSign 21 = .ok (.if_icmp .ne 8, 3) := by decide +kernel
theorem dX6_readLastSign_24 : decode cX6_readLastSign 24 = .ok (.iload_n 3, 1) := by decide +kernel
theorem dX6_readLastSign_25 : decode cX6_readLastSign 25 = .ok (.iload_n 2, 1) := by decide +kernel
theorem dX6_readLastSign_26 : decode cX6_readLastSign 26 = .ok (.if_icmp .ge 15, 3) := by decide +kernel
theorem dX6_readLastSign_29 : decode cX6_readLastSign 29 = .ok (.aload_n 0, 1) := by decide +kernel
theorem dX6_readLastSign_30 : decode cX6_readLastSign 30 = .ok (.dup, 1) := by decide +kernel
theorem dX6_readLastSign_31 : decode cX6_readLastSign 31 = .ok (.getfield 54, 3) := by decide +kernel
theorem dX6_readLastSign_34 : decode cX6_readLastSign 34 = .ok (.iconst 1, 1) := by decide +kernel
theorem dX6_readLastSign_35 : decode cX6_readLastSign 35 = .ok (.isub, 1) := by decide +kernel
theorem dX6_readLastSign_36 : decode cX6_readLastSign 36 = .ok (.putfield 54, 3) := by decide +kernel
theorem dX6_readLastSign_39 : decode cX6_readLastSign 39 = .ok (.iconst (-1), 1) := by decide +kernel
theorem dX6_readLastSign_40 : decode cX6_readLastSign 40 = .ok (.ireturn, 1) := by decide +kernel
theorem dX6_readLastSign_41 : decode cX6_readLastSign 41 = .ok (.iload_n 3, 1) := by decide +kernel
theorem dX6_readLastSign_42 : decode cX6_readLastSign 42 = .ok (.ireturn, 1) := by decide +kernel
theorem dX6_readNumber_0 : decode cX6_readNumber 0 = .ok (.aload_n 0, 1) := by decide +kernel
theorem dX6_readNumber_1 : decode cX6_readNumber 1 = .ok (.aload_n 0, 1) := by decide +kernel
theorem dX6_readNumber_2 : decode cX6_readNumber 2 = .ok (.getfield 54, 3) := by decide +kernel
theorem dX6_readNumber_5 : decode cX6_readNumber 5 = .ok (.invokevirtual 97, 3) := by decide +kernel
theorem dX6_readNumber_8 : decode cX6_readNumber 8 = .ok (.istore_n 1, 1) := by decide +kernel
theorem dX6_readNumber_9 : decode cX6_readNumber 9 = .ok (.iload_n 1, 1) := by decide +kernel
theorem dX6_readNumber_10 : decode cX6_readNumber 10 = .ok (.iconst 1, 1) := by decide +kernel
theorem dX6_readNumber_11 : decode cX6_readNumber 11 = .ok (.if_icmp .ge 5, 3) := by decide +kernel
theorem dX6_readNumber_14 : decode cX6_readNumber 14 = .ok (.iconst 0, 1) := by decide +kernel
theorem dX6_readNumber_15 : decode cX6_readNumber 15 = .ok (.ireturn, 1) := by decide +kernel
theorem dX6_readNumber_16 : decode cX6_readNumber 16 = .ok (.aload_n 0, 1) := by decide +kernel
theorem dX6_readNumber_17 : decode cX6_readNumber 17 = .ok (.dup, 1) := by decide +kernel
theorem dX6_readNumber_18 : decode cX6_readNumber 18 = .ok (.getfield 54, 3) := by decide +kernel
theorem dX6_readNumber_21 : decode cX6_readNumber 21 = .ok (.iconst 1, 1) := by decide +kernel
theorem dX6_readNumber_22 : decode cX6_readNumber 22 = .ok (.iadd, 1) := by decide +kernel
theorem dX6_readNumber_23 : decode cX6_readNumber 23 = .ok (.putfield 54, 3) := by decide +kernel
theorem dX6_readNumber_26 : decode cX6_readNumber 26 = .ok (.aload_n 0, 1) := by decide +kernel
theorem dX6_readNumber_27 : decode cX6_readNumber 27 = .ok (.aload_n 0, 1) := by decide +kernel
theorem dX6_readNumber_28 : decode cX6_readNumber 28 = .ok (.getfield 54, 3) := by decide +kernel
theorem dX6_readNumber_31 : decode cX6_readNumber 31 = .ok (.invokevirtual 97, 3) := by decide +kernel
theorem dX6_readNumber_34 : decode cX6_readNumber 34 = .ok (.istore_n 2, 1) := by decide +kernel
theorem dX6_readNumber_35 : decode cX6_readNumber 35 = .ok (.iload_n 2, 1) := by decide +kernel
theorem dX6_readNumber_36 : decode cX6_readNumber 36 = .ok (.ifCond .lt 14, 3) := by decide +kernel
theorem dX6_readNumber_39 : decode cX6_readNumber 39 = .ok (.iload_n 1, 1) := by decide +kernel
theorem dX6_readNumber_40 : decode cX6_readNumber 40 = .ok (.bipush 10, 2) := by decide +kernel
theorem dX6_readNumber_42 : decode cX6_readNumber 42 = .ok (.imul, 1) := by decide +kernel
theorem dX6_readNumber_43 : decode cX6_readNumber 43 = .ok (.iload_n 2, 1) := by decide +kernel
theorem dX6_readNumber_44 : decode cX6_readNumber 44 = .ok (.iadd, 1) := by decide +kernel
theorem dX6_readNumber_45 : decode cX6_readNumber 45 = .ok (.bipush 24, 2) := by decide +kernel
theorem dX6_readNumber_47 : decode cX6_readNumber 47 = .ok (.if_icmp .le 5, 3) := by decide +kernel
theorem dX6_readNumber_50 : decode cX6_readNumber 50 = .ok (.iload_n 1, 1) := by decide +kernel
theorem dX6_readNumber_51 : decode cX6_readNumber 51 = .ok (.ireturn, 1) := by decide +kernel
theorem dX6_readNumber_52 : decode cX6_readNumber 52 = .ok (.aload_n 0, 1) := by decide +kernel
theorem dX6_readNumber_53 : decode cX6_readNumber 53 = .ok (.dup, 1) := by decide +kernel
theorem dX6_readNumber_54 : decode cX6_readNumber 54 = .ok (.getfield 54, 3) := by decide +kernel
theorem dX6_readNumber_57 : decode cX6_readNumber 57 = .ok (.iconst 1, 1) := by decide +kernel
theorem dX6_readNumber_58 : decode cX6_readNumber 58 = .ok (.iadd, 1) := by decide +kernel
theorem dX6_readNumber_59 : decode cX6_readNumber 59 = .ok (.putfield 54, 3) := by decide +kernel
theorem dX6_readNumber_62 : decode cX6_readNumber 62 = .ok (.iload_n 1, 1) := by decide +kernel
theorem dX6_readNumber_63 : decode cX6_readNumber 63 = .ok (.bipush 10, 2) := by decide +kernel
theorem dX6_readNumber_65 : decode cX6_readNumber 65 = .ok (.imul, 1) := by decide +kernel
theorem dX6_readNumber_66 : decode cX6_readNumber 66 = .ok (.iload_n 2, 1) := by decide +kernel
theorem dX6_readNumber_67 : decode cX6_readNumber 67 = .ok (.iadd, 1) := by decide +kernel
theorem dX6_readNumber_68 : decode cX6_readNumber 68 = .ok (.ireturn, 1) := by decide +kernel
theorem dX6_digitAt_0 : decode cX6_digitAt 0 = .ok (.aload_n 0, 1) := by decide +kernel
theorem dX6_digitAt_1 : decode cX6_digitAt 1 = .ok (.getfield 14, 3) := by decide +kernel
theorem dX6_digitAt_4 : decode cX6_digitAt 4 = .ok (.iload_n 1, 1) := by decide +kernel
theorem dX6_digitAt_5 : decode cX6_digitAt 5 = .ok (.invokevirtual 46, 3) := by decide +kernel
theorem dX6_digitAt_8 : decode cX6_digitAt 8 = .ok (.bipush 48, 2) := by decide +kernel
theorem dX6_digitAt_10 : decode cX6_digitAt 10 = .ok (.isub, 1) := by decide +kernel
theorem dX6_digitAt_11 : decode cX6_digitAt 11 = .ok (.istore_n 2, 1) := by decide +kernel
theorem dX6_digitAt_12 : decode cX6_digitAt 12 = .ok (.iload_n 2, 1) := by decide +kernel
theorem dX6_digitAt_13 : decode cX6_digitAt 13 = .ok (.ifCond .lt 13, 3) := by decide +kernel
theorem dX6_digitAt_16 : decode cX6_digitAt 16 = .ok (.iload_n 2, 1) := by decide +kernel
theorem dX6_digitAt_17 : decode cX6_digitAt 17 = .ok (.bipush 9, 2) := by decide +kernel
theorem dX6_digitAt_19 : decode cX6_digitAt 19 = .ok (.if_icmp .gt 7, 3) := by decide +kernel
theorem dX6_digitAt_22 : decode cX6_digitAt 22 = .ok (.iload_n 2, 1) := by decide +kernel
theorem dX6_digitAt_23 : decode cX6_digitAt 23 = .ok (.goto 4, 3) := by decide +kernel
theorem dX6_digitAt_26 : decode cX6_digitAt 26 = .ok (.iconst (-1), 1) := by decide +kernel
theorem dX6_digitAt_27 : decode cX6_digitAt 27 = .ok (.ireturn, 1) := by decide +kernel
theorem dX7_init_0 : decode cX7_init 0 = .ok (.aload_n 0, 1) := by decide +kernel
theorem dX7_init_1 : decode cX7_init 1 = .ok (.invokespecial 3, 3) := by decide +kernel
theorem dX7_init_4 : decode cX7_init 4 = .ok (.aload_n 0, 1) := by decide +kernel
theorem dX7_init_5 : decode cX7_init 5 = .ok (.new 9, 3) := by decide +kernel
theorem dX7_init_8 : decode cX7_init 8 = .ok (.dup, 1) := by decide +kernel
theorem dX7_init_9 : decode cX7_init 9 = .ok (.sipush 320, 3) := by decide +kernel
theorem dX7_init_12 : decode cX7_init 12 = .ok (.invokespecial 11, 3) := by decide +kernel
theorem dX7_init_15 : decode cX7_init 15 = .ok (.putfield 14, 3) := by decide +kernel
theorem dX7_init_18 : decode cX7_init 18 = .ok (.return_, 1) := by decide +kernel
theorem dX7_length_0 : decode cX7_length 0 = .ok (.aload_n 0, 1) := by decide +kernel
theorem dX7_length_1 : decode cX7_length 1 = .ok (.getfield 14, 3) := by decide +kernel
theorem dX7_length_4 : decode cX7_length 4 = .ok (.invokevirtual 20, 3) := by decide +kernel
theorem dX7_length_7 : decode cX7_length 7 = .ok (.ireturn, 1) := by decide +kernel
theorem dX7_characterAt_0 : decode cX7_characterAt 0 = .ok (.aload_n 0, 1) := by decide +kernel
theorem dX7_characterAt_1 : decode cX7_characterAt 1 = .ok (.getfield 14, 3) := by decide +kernel
theorem dX7_characterAt_4 : decode cX7_characterAt 4 = .ok (.iload_n 1, 1) := by decide +kernel
theorem dX7_characterAt_5 : decode cX7_characterAt 5 = .ok (.invokevirtual 24, 3) := by decide +kernel
theorem dX7_characterAt_8 : decode cX7_characterAt 8 = .ok (.ireturn, 1) := by decide +kernel
theorem dX7_entries_0 : decode cX7_entries 0 = .ok (.aload_n 0, 1) := by decide +kernel
theorem dX7_entries_1 : decode cX7_entries 1 = .ok (.getfield 28, 3) := by decide +kernel
theorem dX7_entries_4 : decode cX7_entries 4 = .ok (.ireturn, 1) := by decide +kernel
theorem dX7_write_0 : decode cX7_write 0 = .ok (.aload_n 0, 1) := by decide +kernel
theorem dX7_write_1 : decode cX7_write 1 = .ok (.getfield 14, 3) := by decide +kernel
theorem dX7_write_4 : decode cX7_write 4 = .ok (.invokevirtual 32, 3) := by decide +kernel
theorem dX7_write_7 : decode cX7_write 7 = .ok (.aload_n 0, 1) := by decide +kernel
theorem dX7_write_8 : decode cX7_write 8 = .ok (.iconst 0, 1) := by decide +kernel
theorem dX7_write_9 : decode cX7_write 9 = .ok (.putfield 28, 3) := by decide +kernel
theorem dX7_write_12 : decode cX7_write 12 = .ok (.iconst 0, 1) := by decide +kernel
theorem dX7_write_13 : decode cX7_write 13 = .ok (.istore_n 2, 1) := by decide +kernel
theorem dX7_write_14 : decode cX7_write 14 = .ok (.iload_n 2, 1) := by decide +kernel
theorem dX7_write_15 : decode cX7_write 15 = .ok (.aload_n 1, 1) := by decide +kernel
theorem dX7_write_16 : decode cX7_write 16 = .ok (.invokevirtual 35, 3) := by decide +kernel
theorem dX7_write_19 : decode cX7_write 19 = .ok (.if_icmp .ge 89, 3) := by decide +kernel
theorem dX7_write_22 : decode cX7_write 22 = .ok (.aload_n 1, 1) := by decide +kernel
theorem dX7_write_23 : decode cX7_write 23 = .ok (.iload_n 2, 1) := by decide +kernel
theorem dX7_write_24 : decode cX7_write 24 = .ok (.iconst 1, 1) := by decide +kernel
theorem dX7_write_25 : decode cX7_write 25 = .ok (.iadd, 1) := by decide +kernel
theorem dX7_write_26 : decode cX7_write 26 = .ok (.invokestatic 40, 3) := by decide +kernel
theorem dX7_write_29 : decode cX7_write 29 = .ok (.ifCond .ne 7, 3) := by decide +kernel
theorem dX7_write_32 : decode cX7_write 32 = .ok (.iconst 1, 1) := by decide +kernel
theorem dX7_write_33 : decode cX7_write 33 = .ok (.goto 4, 3) := by decide +kernel
theorem dX7_write_36 : decode cX7_write 36 = .ok (.iconst 0, 1) := by decide +kernel
theorem dX7_write_37 : decode cX7_write 37 = .ok (.istore_n 3, 1) := by decide +kernel
theorem dX7_write_38 : decode cX7_write 38 = .ok (.aload_n 1, 1) := by decide +kernel
theorem dX7_write_39 : decode cX7_write 39 = .ok (.iload_n 2, 1) := by decide +kernel
theorem dX7_write_40 : decode cX7_write 40 = .ok (.invokestatic 40, 3) := by decide +kernel
theorem dX7_write_43 : decode cX7_write 43 = .ok (.ifCond .ne 18, 3) := by decide +kernel
theorem dX7_write_46 : decode cX7_write 46 = .ok (.aload_n 0, 1) := by decide +kernel
theorem dX7_write_47 : decode cX7_write 47 = .ok (.aload_n 1, 1) := by decide +kernel
theorem dX7_write_48 : decode cX7_write 48 = .ok (.getfield 44, 3) := by decide +kernel
theorem dX7_write_51 : decode cX7_write 51 = .ok (.iload_n 2, 1) := by decide +kernel
theorem dX7_write_52 : decode cX7_write 52 = .ok (.invokevirtual 24, 3) := by decide +kernel
theorem dX7_write_55 : decode cX7_write 55 = .ok (.invokevirtual 47, 3) := by decide +kernel
theorem dX7_write_58 : decode cX7_write 58 = .ok (.goto 28, 3) := by decide +kernel
theorem dX7_write_61 : decode cX7_write 61 = .ok (.iload_n 3, 1) := by decide +kernel
theorem dX7_write_62 : decode cX7_write 62 = .ok (.ifCond .eq 24, 3) := by decide +kernel
theorem dX7_write_65 : decode cX7_write 65 = .ok (.aload_n 0, 1) := by decide +kernel
theorem dX7_write_66 : decode cX7_write 66 = .ok (.getfield 14, 3) := by decide +kernel
theorem dX7_write_69 : decode cX7_write 69 = .ok (.bipush 45, 2) := by decide +kernel
theorem dX7_write_71 : decode cX7_write 71 = .ok (.invokevirtual 50, 3) := by decide +kernel
theorem dX7_write_74 : decode cX7_write 74 = .ok (.aload_n 0, 1) := by decide +kernel
theorem dX7_write_75 : decode cX7_write 75 = .ok (.aload_n 1, 1) := by decide +kernel
theorem dX7_write_76 : decode cX7_write 76 = .ok (.getfield 44, 3) := by decide +kernel
theorem dX7_write_79 : decode cX7_write 79 = .ok (.iload_n 2, 1) := by decide +kernel
theorem dX7_write_80 : decode cX7_write 80 = .ok (.invokevirtual 24, 3) := by decide +kernel
theorem dX7_write_83 : decode cX7_write 83 = .ok (.invokevirtual 53, 3) := by decide +kernel
theorem dX7_write_86 : decode cX7_write 86 = .ok (.iload_n 3, 1) := by decide +kernel
theorem dX7_write_87 : decode cX7_write 87 = .ok (.ifCond .eq 15, 3) := by decide +kernel
theorem dX7_write_90 : decode cX7_write 90 = .ok (.aload_n 0, 1) := by decide +kernel
theorem dX7_write_91 : decode cX7_write 91 = .ok (.aload_n 1, 1) := by decide +kernel
theorem dX7_write_92 : decode cX7_write 92 = .ok (.getfield 56, 3) := by decide +kernel
theorem dX7_write_95 : decode cX7_write 95 = .ok (.iload_n 2, 1) := by decide +kernel
theorem dX7_write_96 : decode cX7_write 96 = .ok (.invokevirtual 24, 3) := by decide +kernel
theorem dX7_write_99 : decode cX7_write 99 = .ok (.invokevirtual 59, 3) := by decide +kernel
theorem dX7_write_102 : decode cX7_write 102 = .ok (.iinc 2 1, 3) := by decide +kernel
theorem dX7_write_105 : decode cX7_write 105 = .ok (.goto (-91), 3) := by decide +kernel
theorem dX7_write_108 : decode cX7_write 108 = .ok (.return_, 1) := by decide +kernel
theorem dX7_goesOn_0 : decode cX7_goesOn 0 = .ok (.iload_n 1, 1) := by decide +kernel
theorem dX7_goesOn_1 : decode cX7_goesOn 1 = .ok (.iconst 1, 1) := by decide +kernel
theorem dX7_goesOn_2 : decode cX7_goesOn 2 = .ok (.if_icmp .lt 11, 3) := by decide +kernel
theorem dX7_goesOn_5 : decode cX7_goesOn 5 = .ok (.iload_n 1, 1) := by decide +kernel
theorem dX7_goesOn_6 : decode cX7_goesOn 6 = .ok (.aload_n 0, 1) := by decide +kernel
theorem dX7_goesOn_7 : decode cX7_goesOn 7 = .ok (.invokevirtual 35, 3) := by decide +kernel
theorem dX7_goesOn_10 : decode cX7_goesOn 10 = .ok (.if_icmp .lt 5, 3) := by decide +kernel
theorem dX7_goesOn_13 : decode cX7_goesOn 13 = .ok (.iconst 0, 1) := by decide +kernel
theorem dX7_goesOn_14 : decode cX7_goesOn 14 = .ok (.ireturn, 1) := by decide +kernel
theorem dX7_goesOn_15 : decode cX7_goesOn 15 = .ok (.aload_n 0, 1) := by decide +kernel
theorem dX7_goesOn_16 : decode cX7_goesOn 16 = .ok (.getfield 44, 3) := by decide +kernel
theorem dX7_goesOn_19 : decode cX7_goesOn 19 = .ok (.iload_n 1, 1) := by decide +kernel
theorem dX7_goesOn_20 : decode cX7_goesOn 20 = .ok (.invokevirtual 24, 3) := by decide +kernel
theorem dX7_goesOn_23 : decode cX7_goesOn 23 = .ok (.istore_n 2, 1) := by decide +kernel
theorem dX7_goesOn_24 : decode cX7_goesOn 24 = .ok (.aload_n 0, 1) := by decide +kernel
theorem dX7_goesOn_25 : decode cX7_goesOn 25 = .ok (.getfield 44, 3) := by decide +kernel
theorem dX7_goesOn_28 : decode cX7_goesOn 28 = .ok (.iload_n 1, 1) := by decide +kernel
theorem dX7_goesOn_29 : decode cX7_goesOn 29 = .ok (.iconst 1, 1) := by decide +kernel
theorem dX7_goesOn_30 : decode cX7_goesOn 30 = .ok (.isub, 1) := by decide +kernel
theorem dX7_goesOn_31 : decode cX7_goesOn 31 = .ok (.invokevirtual 24, 3) := by decide +kernel
theorem dX7_goesOn_34 : decode cX7_goesOn 34 = .ok (.istore_n 3, 1) := by decide +kernel
theorem dX7_goesOn_35 : decode cX7_goesOn 35 = .ok (.iload_n 2, 1) := by decide +kernel
theorem dX7_goesOn_36 : decode cX7_goesOn 36 = .ok (.aload_n 0, 1) := by decide +kernel
theorem dX7_goesOn_37 : decode cX7_goesOn 37 = .ok (.getfield 62, 3) := by decide +kernel
theorem dX7_goesOn_40 : decode cX7_goesOn 40 = .ok (.iload_n 3, 1) := by decide +kernel
theorem dX7_goesOn_41 : decode cX7_goesOn 41 = .ok (.invokevirtual 66, 3) := by decide +kernel
theorem dX7_goesOn_44 : decode cX7_goesOn 44 = .ok (.if_icmp .ne 39, 3) := by decide +kernel
theorem dX7_goesOn_47 : decode cX7_goesOn 47 = .ok (.iload_n 2, 1) := by decide +kernel
theorem dX7_goesOn_48 : decode cX7_goesOn 48 = .ok (.invokestatic 71, 3) := by decide +kernel
theorem dX7_goesOn_51 : decode cX7_goesOn 51 = .ok (.iload_n 3, 1) := by decide +kernel
theorem dX7_goesOn_52 : decode cX7_goesOn 52 = .ok (.invokestatic 71, 3) := by decide +kernel
theorem dX7_goesOn_55 : decode cX7_goesOn 55 = .ok (.if_icmp .ne 28, 3) := by decide +kernel
theorem dX7_goesOn_58 : decode cX7_goesOn 58 = .ok (.aload_n 0, 1) := by decide +kernel
theorem dX7_goesOn_59 : decode cX7_goesOn 59 = .ok (.getfield 56, 3) := by decide +kernel
theorem dX7_goesOn_62 : decode cX7_goesOn 62 = .ok (.iload_n 1, 1) := by decide +kernel
theorem dX7_goesOn_63 : decode cX7_goesOn 63 = .ok (.invokevirtual 24, 3) := by decide +kernel
theorem dX7_goesOn_66 : decode cX7_goesOn 66 = .ok (.aload_n 0, 1) := by decide +kernel
theorem dX7_goesOn_67 : decode cX7_goesOn 67 = .ok (.getfield 56, 3) := by decide +kernel
theorem dX7_goesOn_70 : decode cX7_goesOn 70 = .ok (.iload_n 1, 1) := by decide +kernel
theorem dX7_goesOn_71 : decode cX7_goesOn 71 = .ok (.iconst 1, 1) := by decide +kernel
theorem dX7_goesOn_72 : decode cX7_goesOn 72 = .ok (.isub, 1) := by decide +kernel
theorem dX7_goesOn_73 : decode cX7_goesOn 73 = .ok (.invokevirtual 24, 3) := by decide +kernel
theorem dX7_goesOn_76 : decode cX7_goesOn 76 = .ok (.if_icmp .ne 7, 3) := by decide +kernel
theorem dX7_goesOn_79 : decode cX7_goesOn 79 = .ok (.iconst 1, 1) := by decide +kernel
theorem dX7_goesOn_80 : decode cX7_goesOn 80 = .ok (.goto 4, 3) := by decide +kernel
theorem dX7_goesOn_83 : decode cX7_goesOn 83 = .ok (.iconst 0, 1) := by decide +kernel
theorem dX7_goesOn_84 : decode cX7_goesOn 84 = .ok (.ireturn, 1) := by decide +kernel
theorem dX7_beginEntry_0 : decode cX7_beginEntry 0 = .ok (.aload_n 0, 1) := by decide +kernel
theorem dX7_beginEntry_1 : decode cX7_beginEntry 1 = .ok (.getfield 28, 3) := by decide +kernel
theorem dX7_beginEntry_4 : decode cX7_beginEntry 4 = .ok (.ifCond .le 12, 3) := by decide +kernel
theorem dX7_beginEntry_7 : decode cX7_beginEntry 7 = .ok (.aload_n 0, 1) := by decide +kernel
theorem dX7_beginEntry_8 : decode cX7_beginEntry 8 = .ok (.getfield 14, 3) := by decide +kernel
theorem dX7_beginEntry_11 : decode cX7_beginEntry 11 = .ok (.bipush 44, 2) := by decide +kernel
theorem dX7_beginEntry_13 : decode cX7_beginEntry 13 = .ok (.invokevirtual 50, 3) := by decide +kernel
theorem dX7_beginEntry_16 : decode cX7_beginEntry 16 = .ok (.aload_n 0, 1) := by decide +kernel
theorem dX7_beginEntry_17 : decode cX7_beginEntry 17 = .ok (.dup, 1) := by decide +kernel
theorem dX7_beginEntry_18 : decode cX7_beginEntry 18 = .ok (.getfield 28, 3) := by decide +kernel
theorem dX7_beginEntry_21 : decode cX7_beginEntry 21 = .ok (.iconst 1, 1) := by decide +kernel
theorem dX7_beginEntry_22 : decode cX7_beginEntry 22 = .ok (.iadd, 1) := by decide +kernel
theorem dX7_beginEntry_23 : decode cX7_beginEntry 23 = .ok (.putfield 28, 3) := by decide +kernel
theorem dX7_beginEntry_26 : decode cX7_beginEntry 26 = .ok (.aload_n 0, 1) := by decide +kernel
theorem dX7_beginEntry_27 : decode cX7_beginEntry 27 = .ok (.iload_n 1, 1) := by decide +kernel
theorem dX7_beginEntry_28 : decode cX7_beginEntry 28 = .ok (.invokevirtual 53, 3) := by decide +kernel
theorem dX7_beginEntry_31 : decode cX7_beginEntry 31 = .ok (.return_, 1) := by decide +kernel
theorem dX7_writeSign_0 : decode cX7_writeSign 0 = .ok (.iload_n 1, 1) := by decide +kernel
theorem dX7_writeSign_1 : decode cX7_writeSign 1 = .ok (.invokestatic 76, 3) := by decide +kernel
theorem dX7_writeSign_4 : decode cX7_writeSign 4 = .ok (.istore_n 2, 1) := by decide +kernel
theorem dX7_writeSign_5 : decode cX7_writeSign 5 = .ok (.aload_n 0, 1) := by decide +kernel
theorem dX7_writeSign_6 : decode cX7_writeSign 6 = .ok (.getfield 14, 3) := by decide +kernel
theorem dX7_writeSign_9 : decode cX7_writeSign 9 = .ok (.iload_n 2, 1) := by decide +kernel
theorem dX7_writeSign_10 : decode cX7_writeSign 10 = .ok (.ifCond .eq 8, 3) := by decide +kernel
theorem dX7_writeSign_13 : decode cX7_writeSign 13 = .ok (.bipush 42, 2) := by decide +kernel
theorem dX7_writeSign_15 : decode cX7_writeSign 15 = .ok (.goto 10, 3) := by decide +kernel
theorem dX7_writeSign_18 : decode cX7_writeSign 18 = .ok (.bipush 65, 2) := by decide +kernel
theorem dX7_writeSign_20 : decode cX7_writeSign 20 = .ok (.iload_n 1, 1) := by decide +kernel
theorem dX7_writeSign_21 : decode cX7_writeSign 21 = .ok (.invokestatic 80, 3) := by decide +kernel
theorem dX7_writeSign_24 : decode cX7_writeSign 24 = .ok (.iadd, 1) := by decide +kernel
theorem dX7_writeSign_25 : decode cX7_writeSign 25 = .ok (.invokevirtual 50, 3) := by decide +kernel
theorem dX7_writeSign_28 : decode cX7_writeSign 28 = .ok (.iconst 1, 1) := by decide +kernel
theorem dX7_writeSign_29 : decode cX7_writeSign 29 = .ok (.istore_n 3, 1) := by decide +kernel
theorem dX7_writeSign_30 : decode cX7_writeSign 30 = .ok (.iload_n 3, 1) := by decide +kernel
theorem dX7_writeSign_31 : decode cX7_writeSign 31 = .ok (.iload_n 1, 1) := by decide +kernel
theorem dX7_writeSign_32 : decode cX7_writeSign 32 = .ok (.invokestatic 71, 3) := by decide +kernel
theorem dX7_writeSign_35 : decode cX7_writeSign 35 = .ok (.if_icmp .ge 32, 3) := by decide +kernel
theorem dX7_writeSign_38 : decode cX7_writeSign 38 = .ok (.aload_n 0, 1) := by decide +kernel
theorem dX7_writeSign_39 : decode cX7_writeSign 39 = .ok (.getfield 14, 3) := by decide +kernel
theorem dX7_writeSign_42 : decode cX7_writeSign 42 = .ok (.iload_n 2, 1) := by decide +kernel
theorem dX7_writeSign_43 : decode cX7_writeSign 43 = .ok (.ifCond .eq 8, 3) := by decide +kernel
theorem dX7_writeSign_46 : decode cX7_writeSign 46 = .ok (.bipush 42, 2) := by decide +kernel
theorem dX7_writeSign_48 : decode cX7_writeSign 48 = .ok (.goto 10, 3) := by decide +kernel
theorem dX7_writeSign_51 : decode cX7_writeSign 51 = .ok (.bipush 97, 2) := by decide +kernel
theorem dX7_writeSign_53 : decode cX7_writeSign 53 = .ok (.iload_n 1, 1) := by decide +kernel
theorem dX7_writeSign_54 : decode cX7_writeSign 54 = .ok (.invokestatic 80, 3) := by decide +kernel
theorem dX7_writeSign_57 : decode cX7_writeSign 57 = .ok (.iadd, 1) := by decide +kernel
theorem dX7_writeSign_58 : decode cX7_writeSign 58 = .ok (.invokevirtual 50, 3) := by decide +kernel
theorem dX7_writeSign_61 : decode cX7_writeSign 61 = .ok (.iinc 3 1, 3) := by decide +kernel
theorem dX7_writeSign_64 : decode cX7_writeSign 64 = .ok (.goto (-34), 3) := by decide +kernel
theorem dX7_writeSign_67 : decode cX7_writeSign 67 = .ok (.return_, 1) := by decide +kernel
theorem dX7_writeNumber_0 : decode cX7_writeNumber 0 = .ok (.iload_n 1, 1) := by decide +kernel
theorem dX7_writeNumber_1 : decode cX7_writeNumber 1 = .ok (.bipush 10, 2) := by decide +kernel
theorem dX7_writeNumber_3 : decode cX7_writeNumber 3 = .ok (.if_icmp .lt 17, 3) := by decide +kernel
theorem dX7_writeNumber_6 : decode cX7_writeNumber 6 = .ok (.aload_n 0, 1) := by decide +kernel
theorem dX7_writeNumber_7 : decode cX7_writeNumber 7 = .ok (.getfield 14, 3) := by decide +kernel
theorem dX7_writeNumber_10 : decode cX7_writeNumber 10 = .ok (.bipush 48, 2) := by decide +kernel
theorem dX7_writeNumber_12 : decode cX7_writeNumber 12 = .ok (.iload_n 1, 1) := by decide +kernel
theorem dX7_writeNumber_13 : decode cX7_writeNumber 13 = .ok (.bipush 10, 2) := by decide +kernel
theorem dX7_writeNumber_15 : decode cX7_writeNumber 15 = .ok (.idiv, 1) := by decide +kernel
theorem dX7_writeNumber_16 : decode cX7_writeNumber 16 = .ok (.iadd, 1) := by decide +kernel
theorem dX7_writeNumber_17 : decode cX7_writeNumber 17 = .ok (.invokevirtual 50, 3) := by decide +kernel
theorem dX7_writeNumber_20 : decode cX7_writeNumber 20 = .ok (.aload_n 0, 1) := by decide +kernel
theorem dX7_writeNumber_21 : decode cX7_writeNumber 21 = .ok (.getfield 14, 3) := by decide +kernel
theorem dX7_writeNumber_24 : decode cX7_writeNumber 24 = .ok (.bipush 48, 2) := by decide +kernel
theorem dX7_writeNumber_26 : decode cX7_writeNumber 26 = .ok (.iload_n 1, 1) := by decide +kernel
theorem dX7_writeNumber_27 : decode cX7_writeNumber 27 = .ok (.bipush 10, 2) := by decide +kernel
theorem dX7_writeNumber_29 : decode cX7_writeNumber 29 = .ok (.irem, 1) := by decide +kernel
theorem dX7_writeNumber_30 : decode cX7_writeNumber 30 = .ok (.iadd, 1) := by decide +kernel
theorem dX7_writeNumber_31 : decode cX7_writeNumber 31 = .ok (.invokevirtual 50, 3) := by decide +kernel
theorem dX7_writeNumber_34 : decode cX7_writeNumber 34 = .ok (.return_, 1) := by decide +kernel
