theorem dX9_init_0 : decode cX9_init 0 = .ok (.aload_n 0, 1) := by decide +kernel
theorem dX9_init_1 : decode cX9_init 1 = .ok (.invokespecial 1, 3) := by decide +kernel
theorem dX9_init_4 : decode cX9_init 4 = .ok (.aload_n 0, 1) := by decide +kernel
theorem dX9_init_5 : decode cX9_init 5 = .ok (.sipush 1056, 3) := by decide +kernel
theorem dX9_init_8 : decode cX9_init 8 = .ok (.newarray .int, 2) := by decide +kernel
theorem dX9_init_10 : decode cX9_init 10 = .ok (.putfield 7, 3) := by decide +kernel
theorem dX9_init_13 : decode cX9_init 13 = .ok (.aload_n 0, 1) := by decide +kernel
theorem dX9_init_14 : decode cX9_init 14 = .ok (.bipush 60, 2) := by decide +kernel
theorem dX9_init_16 : decode cX9_init 16 = .ok (.newarray .char, 2) := by decide +kernel
theorem dX9_init_18 : decode cX9_init 18 = .ok (.putfield 13, 3) := by decide +kernel
theorem dX9_init_21 : decode cX9_init 21 = .ok (.aload_n 0, 1) := by decide +kernel
theorem dX9_init_22 : decode cX9_init 22 = .ok (.sipush 160, 3) := by decide +kernel
theorem dX9_init_25 : decode cX9_init 25 = .ok (.newarray .int, 2) := by decide +kernel
theorem dX9_init_27 : decode cX9_init 27 = .ok (.putfield 17, 3) := by decide +kernel
theorem dX9_init_30 : decode cX9_init 30 = .ok (.aload_n 0, 1) := by decide +kernel
theorem dX9_init_31 : decode cX9_init 31 = .ok (.sipush 400, 3) := by decide +kernel
theorem dX9_init_34 : decode cX9_init 34 = .ok (.newarray .char, 2) := by decide +kernel
theorem dX9_init_36 : decode cX9_init 36 = .ok (.putfield 20, 3) := by decide +kernel
theorem dX9_init_39 : decode cX9_init 39 = .ok (.aload_n 0, 1) := by decide +kernel
theorem dX9_init_40 : decode cX9_init 40 = .ok (.getfield 7, 3) := by decide +kernel
theorem dX9_init_43 : decode cX9_init 43 = .ok (.iconst 0, 1) := by decide +kernel
theorem dX9_init_44 : decode cX9_init 44 = .ok (.ldc 23, 2) := by decide +kernel
theorem dX9_init_46 : decode cX9_init 46 = .ok (.iastore, 1) := by decide +kernel
theorem dX9_init_47 : decode cX9_init 47 = .ok (.aload_n 0, 1) := by decide +kernel
theorem dX9_init_48 : decode cX9_init 48 = .ok (.getfield 7, 3) := by decide +kernel
theorem dX9_init_51 : decode cX9_init 51 = .ok (.iconst 1, 1) := by decide +kernel
theorem dX9_init_52 : decode cX9_init 52 = .ok (.iconst 1, 1) := by decide +kernel
theorem dX9_init_53 : decode cX9_init 53 = .ok (.iastore, 1) := by decide +kernel
theorem dX9_init_54 : decode cX9_init 54 = .ok (.return_, 1) := by decide +kernel
theorem dX9_in_0 : decode cX9_in 0 = .ok (.iload_n 0, 1) := by decide +kernel
theorem dX9_in_1 : decode cX9_in 1 = .ok (.iload_n 1, 1) := by decide +kernel
theorem dX9_in_2 : decode cX9_in 2 = .ok (.if_icmp .lt 12, 3) := by decide +kernel
theorem dX9_in_5 : decode cX9_in 5 = .ok (.iload_n 0, 1) := by decide +kernel
theorem dX9_in_6 : decode cX9_in 6 = .ok (.iload_n 2, 1) := by decide +kernel
theorem dX9_in_7 : decode cX9_in 7 = .ok (.if_icmp .gt 7, 3) := by decide +kernel
theorem dX9_in_10 : decode cX9_in 10 = .ok (.iconst 1, 1) := by decide +kernel
theorem dX9_in_11 : decode cX9_in 11 = .ok (.goto 4, 3) := by decide +kernel
theorem dX9_in_14 : decode cX9_in 14 = .ok (.iconst 0, 1) := by decide +kernel
theorem dX9_in_15 : decode cX9_in 15 = .ok (.ireturn, 1) := by decide +kernel
theorem dX9_copies_0 : decode cX9_copies 0 = .ok (.iconst 0, 1) := by decide +kernel
theorem dX9_copies_1 : decode cX9_copies 1 = .ok (.istore_n 3, 1) := by decide +kernel
theorem dX9_copies_2 : decode cX9_copies 2 = .ok (.iload_n 3, 1) := by decide +kernel
theorem dX9_copies_3 : decode cX9_copies 3 = .ok (.sipush 176, 3) := by decide +kernel
theorem dX9_copies_6 : decode cX9_copies 6 = .ok (.if_icmp .ge 33, 3) := by decide +kernel
theorem dX9_copies_9 : decode cX9_copies 9 = .ok (.aload_n 0, 1) := by decide +kernel
theorem dX9_copies_10 : decode cX9_copies 10 = .ok (.getfield 7, 3) := by decide +kernel
theorem dX9_copies_13 : decode cX9_copies 13 = .ok (.sipush 176, 3) := by decide +kernel
theorem dX9_copies_16 : decode cX9_copies 16 = .ok (.iload_n 2, 1) := by decide +kernel
theorem dX9_copies_17 : decode cX9_copies 17 = .ok (.imul, 1) := by decide +kernel
theorem dX9_copies_18 : decode cX9_copies 18 = .ok (.iload_n 3, 1) := by decide +kernel
theorem dX9_copies_19 : decode cX9_copies 19 = .ok (.iadd, 1) := by decide +kernel
theorem dX9_copies_20 : decode cX9_copies 20 = .ok (.aload_n 0, 1) := by decide +kernel
theorem dX9_copies_21 : decode cX9_copies 21 = .ok (.getfield 7, 3) := by decide +kernel
theorem dX9_copies_24 : decode cX9_copies 24 = .ok (.sipush 176, 3) := by decide +kernel
theorem dX9_copies_27 : decode cX9_copies 27 = .ok (.iload_n 1, 1) := by decide +kernel
theorem dX9_copies_28 : decode cX9_copies 28 = .ok (.imul, 1) := by decide +kernel
theorem dX9_copies_29 : decode cX9_copies 29 = .ok (.iload_n 3, 1) := by decide +kernel
theorem dX9_copies_30 : decode cX9_copies 30 = .ok (.iadd, 1) := by decide +kernel
theorem dX9_copies_31 : decode cX9_copies 31 = .ok (.iaload, 1) := by decide +kernel
theorem dX9_copies_32 : decode cX9_copies 32 = .ok (.iastore, 1) := by decide +kernel
theorem dX9_copies_33 : decode cX9_copies 33 = .ok (.iinc 3 1, 3) := by decide +kernel
theorem dX9_copies_36 : decode cX9_copies 36 = .ok (.goto (-34), 3) := by decide +kernel
theorem dX9_copies_39 : decode cX9_copies 39 = .ok (.return_, 1) := by decide +kernel
theorem dX9_records_0 : decode cX9_records 0 = .ok (.aload_n 0, 1) := by decide +kernel
theorem dX9_records_1 : decode cX9_records 1 = .ok (.getfield 24, 3) := by decide +kernel
theorem dX9_records_4 : decode cX9_records 4 = .ok (.iconst 4, 1) := by decide +kernel
theorem dX9_records_5 : decode cX9_records 5 = .ok (.if_icmp .ne 34, 3) := by decide +kernel
theorem dX9_records_8 : decode cX9_records 8 = .ok (.iconst 1, 1) := by decide +kernel
theorem dX9_records_9 : decode cX9_records 9 = .ok (.istore_n 1, 1) := by decide +kernel
theorem dX9_records_10 : decode cX9_records 10 = .ok (.iload_n 1, 1) := by decide +kernel
theorem dX9_records_11 : decode cX9_records 11 = .ok (.iconst 4, 1) := by decide +kernel
theorem dX9_records_12 : decode cX9_records 12 = .ok (.if_icmp .ge 17, 3) := by decide +kernel
theorem dX9_records_15 : decode cX9_records 15 = .ok (.aload_n 0, 1) := by decide +kernel
theorem dX9_records_16 : decode cX9_records 16 = .ok (.iload_n 1, 1) := by decide +kernel
theorem dX9_records_17 : decode cX9_records 17 = .ok (.iconst 1, 1) := by decide +kernel
theorem dX9_records_18 : decode cX9_records 18 = .ok (.iadd, 1) := by decide +kernel
theorem dX9_records_19 : decode cX9_records 19 = .ok (.iload_n 1, 1) := by decide +kernel
theorem dX9_records_20 : decode cX9_records 20 = .ok (.invokevirtual 28, 3) := by decide +kernel
theorem dX9_records_23 : decode cX9_records 23 = .ok (.iinc 1 1, 3) := by decide +kernel
theorem dX9_records_26 : decode cX9_records 26 = .ok (.goto (-16), 3) := by decide +kernel
theorem dX9_records_29 : decode cX9_records 29 = .ok (.aload_n 0, 1) := by decide +kernel
theorem dX9_records_30 : decode cX9_records 30 = .ok (.dup, 1) := by decide +kernel
theorem dX9_records_31 : decode cX9_records 31 = .ok (.getfield 24, 3) := by decide +kernel
theorem dX9_records_34 : decode cX9_records 34 = .ok (.iconst 1, 1) := by decide +kernel
theorem dX9_records_35 : decode cX9_records 35 = .ok (.isub, 1) := by decide +kernel
theorem dX9_records_36 : decode cX9_records 36 = .ok (.putfield 24, 3) := by decide +kernel
theorem dX9_records_39 : decode cX9_records 39 = .ok (.aload_n 0, 1) := by decide +kernel
theorem dX9_records_40 : decode cX9_records 40 = .ok (.dup, 1) := by decide +kernel
theorem dX9_records_41 : decode cX9_records 41 = .ok (.getfield 24, 3) := by decide +kernel
theorem dX9_records_44 : decode cX9_records 44 = .ok (.iconst 1, 1) := by decide +kernel
theorem dX9_records_45 : decode cX9_records 45 = .ok (.iadd, 1) := by decide +kernel
theorem dX9_records_46 : decode cX9_records 46 = .ok (.putfield 24, 3) := by decide +kernel
theorem dX9_records_49 : decode cX9_records 49 = .ok (.aload_n 0, 1) := by decide +kernel
theorem dX9_records_50 : decode cX9_records 50 = .ok (.iconst 0, 1) := by decide +kernel
theorem dX9_records_51 : decode cX9_records 51 = .ok (.aload_n 0, 1) := by decide +kernel
theorem dX9_records_52 : decode cX9_records 52 = .ok (.getfield 24, 3) := by decide +kernel
theorem dX9_records_55 : decode cX9_records 55 = .ok (.invokevirtual 28, 3) := by decide +kernel
theorem dX9_records_58 : decode cX9_records 58 = .ok (.return_, 1) := by decide +kernel
theorem dX9_isOut_0 : decode cX9_isOut 0 = .ok (.aload_n 0, 1) := by decide +kernel
theorem dX9_isOut_1 : decode cX9_isOut 1 = .ok (.getfield 7, 3) := by decide +kernel
theorem dX9_isOut_4 : decode cX9_isOut 4 = .ok (.iconst 0, 1) := by decide +kernel
theorem dX9_isOut_5 : decode cX9_isOut 5 = .ok (.iaload, 1) := by decide +kernel
theorem dX9_isOut_6 : decode cX9_isOut 6 = .ok (.iload_n 1, 1) := by decide +kernel
theorem dX9_isOut_7 : decode cX9_isOut 7 = .ok (.ishr, 1) := by decide +kernel
theorem dX9_isOut_8 : decode cX9_isOut 8 = .ok (.iconst 1, 1) := by decide +kernel
theorem dX9_isOut_9 : decode cX9_isOut 9 = .ok (.iand, 1) := by decide +kernel
theorem dX9_isOut_10 : decode cX9_isOut 10 = .ok (.iconst 1, 1) := by decide +kernel
theorem dX9_isOut_11 : decode cX9_isOut 11 = .ok (.if_icmp .ne 7, 3) := by decide +kernel
theorem dX9_isOut_14 : decode cX9_isOut 14 = .ok (.iconst 1, 1) := by decide +kernel
theorem dX9_isOut_15 : decode cX9_isOut 15 = .ok (.goto 4, 3) := by decide +kernel
theorem dX9_isOut_18 : decode cX9_isOut 18 = .ok (.iconst 0, 1) := by decide +kernel
theorem dX9_isOut_19 : decode cX9_isOut 19 = .ok (.ireturn, 1) := by decide +kernel
theorem dX9_letters_0 : decode cX9_letters 0 = .ok (.iconst 0, 1) := by decide +kernel
theorem dX9_letters_1 : decode cX9_letters 1 = .ok (.istore_n 1, 1) := by decide +kernel
theorem dX9_letters_2 : decode cX9_letters 2 = .ok (.iconst 0, 1) := by decide +kernel
theorem dX9_letters_3 : decode cX9_letters 3 = .ok (.istore_n 2, 1) := by decide +kernel
theorem dX9_letters_4 : decode cX9_letters 4 = .ok (.iload_n 2, 1) := by decide +kernel
theorem dX9_letters_5 : decode cX9_letters 5 = .ok (.bipush 26, 2) := by decide +kernel
theorem dX9_letters_7 : decode cX9_letters 7 = .ok (.if_icmp .ge 25, 3) := by decide +kernel
theorem dX9_letters_10 : decode cX9_letters 10 = .ok (.iload_n 1, 1) := by decide +kernel
theorem dX9_letters_11 : decode cX9_letters 11 = .ok (.aload_n 0, 1) := by decide +kernel
theorem dX9_letters_12 : decode cX9_letters 12 = .ok (.iload_n 2, 1) := by decide +kernel
theorem dX9_letters_13 : decode cX9_letters 13 = .ok (.invokevirtual 32, 3) := by decide +kernel
theorem dX9_letters_16 : decode cX9_letters 16 = .ok (.ifCond .eq 7, 3) := by decide +kernel
theorem dX9_letters_19 : decode cX9_letters 19 = .ok (.iconst 0, 1) := by decide +kernel
theorem dX9_letters_20 : decode cX9_letters 20 = .ok (.goto 4, 3) := by decide +kernel
theorem dX9_letters_23 : decode cX9_letters 23 = .ok (.iconst 1, 1) := by decide +kernel
theorem dX9_letters_24 : decode cX9_letters 24 = .ok (.iadd, 1) := by decide +kernel
theorem dX9_letters_25 : decode cX9_letters 25 = .ok (.istore_n 1, 1) := by decide +kernel
theorem dX9_letters_26 : decode cX9_letters 26 = .ok (.iinc 2 1, 3) := by decide +kernel
theorem dX9_letters_29 : decode cX9_letters 29 = .ok (.goto (-25), 3) := by decide +kernel
theorem dX9_letters_32 : decode cX9_letters 32 = .ok (.iload_n 1, 1) := by decide +kernel
theorem dX9_letters_33 : decode cX9_letters 33 = .ok (.ireturn, 1) := by decide +kernel
theorem dX9_next_0 : decode cX9_next 0 = .ok (.iload_n 1, 1) := by decide +kernel
theorem dX9_next_1 : decode cX9_next 1 = .ok (.iconst 1, 1) := by decide +kernel
theorem dX9_next_2 : decode cX9_next 2 = .ok (.iadd, 1) := by decide +kernel
theorem dX9_next_3 : decode cX9_next 3 = .ok (.istore_n 2, 1) := by decide +kernel
theorem dX9_next_4 : decode cX9_next 4 = .ok (.iload_n 2, 1) := by decide +kernel
theorem dX9_next_5 : decode cX9_next 5 = .ok (.bipush 78, 2) := by decide +kernel
theorem dX9_next_7 : decode cX9_next 7 = .ok (.if_icmp .ge 20, 3) := by decide +kernel
theorem dX9_next_10 : decode cX9_next 10 = .ok (.aload_n 0, 1) := by decide +kernel
theorem dX9_next_11 : decode cX9_next 11 = .ok (.iload_n 2, 1) := by decide +kernel
theorem dX9_next_12 : decode cX9_next 12 = .ok (.bipush 26, 2) := by decide +kernel
theorem dX9_next_14 : decode cX9_next 14 = .ok (.irem, 1) := by decide +kernel
theorem dX9_next_15 : decode cX9_next 15 = .ok (.invokevirtual 32, 3) := by decide +kernel
theorem dX9_next_18 : decode cX9_next 18 = .ok (.ifCond .eq 9, 3) := by decide +kernel
theorem dX9_next_21 : decode cX9_next 21 = .ok (.iinc 2 1, 3) := by decide +kernel
theorem dX9_next_24 : decode cX9_next 24 = .ok (.goto (-20), 3) := by decide +kernel
theorem dX9_next_27 : decode cX9_next 27 = .ok (.iload_n 2, 1) := by decide +kernel
theorem dX9_next_28 : decode cX9_next 28 = .ok (.bipush 78, 2) := by decide +kernel
theorem dX9_next_30 : decode cX9_next 30 = .ok (.if_icmp .ge 7, 3) := by decide +kernel
theorem dX9_next_33 : decode cX9_next 33 = .ok (.iload_n 2, 1) := by decide +kernel
theorem dX9_next_34 : decode cX9_next 34 = .ok (.goto 4, 3) := by decide +kernel
theorem dX9_next_37 : decode cX9_next 37 = .ok (.iconst (-1), 1) := by decide +kernel
theorem dX9_next_38 : decode cX9_next 38 = .ok (.ireturn, 1) := by decide +kernel
theorem dX9_of_0 : decode cX9_of 0 = .ok (.iconst 3, 1) := by decide +kernel
theorem dX9_of_1 : decode cX9_of 1 = .ok (.iconst 4, 1) := by decide +kernel
theorem dX9_of_2 : decode cX9_of 2 = .ok (.iload_n 0, 1) := by decide +kernel
theorem dX9_of_3 : decode cX9_of 3 = .ok (.imul, 1) := by decide +kernel
theorem dX9_of_4 : decode cX9_of 4 = .ok (.iadd, 1) := by decide +kernel
theorem dX9_of_5 : decode cX9_of 5 = .ok (.iload_n 1, 1) := by decide +kernel
theorem dX9_of_6 : decode cX9_of 6 = .ok (.iadd, 1) := by decide +kernel
theorem dX9_of_7 : decode cX9_of 7 = .ok (.ireturn, 1) := by decide +kernel
theorem dX9_isStarred_0 : decode cX9_isStarred 0 = .ok (.aload_n 0, 1) := by decide +kernel
theorem dX9_isStarred_1 : decode cX9_isStarred 1 = .ok (.getfield 7, 3) := by decide +kernel
theorem dX9_isStarred_4 : decode cX9_isStarred 4 = .ok (.iload_n 1, 1) := by decide +kernel
theorem dX9_isStarred_5 : decode cX9_isStarred 5 = .ok (.iconst 1, 1) := by decide +kernel
theorem dX9_isStarred_6 : decode cX9_isStarred 6 = .ok (.invokestatic 36, 3) := by decide +kernel
theorem dX9_isStarred_9 : decode cX9_isStarred 9 = .ok (.iaload, 1) := by decide +kernel
theorem dX9_isStarred_10 : decode cX9_isStarred 10 = .ok (.ifCond .ge 7, 3) := by decide +kernel
theorem dX9_isStarred_13 : decode cX9_isStarred 13 = .ok (.iconst 1, 1) := by decide +kernel
theorem dX9_isStarred_14 : decode cX9_isStarred 14 = .ok (.goto 4, 3) := by decide +kernel
theorem dX9_isStarred_17 : decode cX9_isStarred 17 = .ok (.iconst 0, 1) := by decide +kernel
theorem dX9_isStarred_18 : decode cX9_isStarred 18 = .ok (.ireturn, 1) := by decide +kernel
theorem dX9_sign_0 : decode cX9_sign 0 = .ok (.bipush 26, 2) := by decide +kernel
theorem dX9_sign_2 : decode cX9_sign 2 = .ok (.aload_n 0, 1) := by decide +kernel
theorem dX9_sign_3 : decode cX9_sign 3 = .ok (.getfield 7, 3) := by decide +kernel
theorem dX9_sign_6 : decode cX9_sign 6 = .ok (.iload_n 1, 1) := by decide +kernel
theorem dX9_sign_7 : decode cX9_sign 7 = .ok (.iconst 0, 1) := by decide +kernel
theorem dX9_sign_8 : decode cX9_sign 8 = .ok (.invokestatic 36, 3) := by decide +kernel
theorem dX9_sign_11 : decode cX9_sign 11 = .ok (.iaload, 1) := by decide +kernel
theorem dX9_sign_12 : decode cX9_sign 12 = .ok (.iconst 1, 1) := by decide +kernel
theorem dX9_sign_13 : decode cX9_sign 13 = .ok (.isub, 1) := by decide +kernel
theorem dX9_sign_14 : decode cX9_sign 14 = .ok (.imul, 1) := by decide +kernel
theorem dX9_sign_15 : decode cX9_sign 15 = .ok (.aload_n 0, 1) := by decide +kernel
theorem dX9_sign_16 : decode cX9_sign 16 = .ok (.getfield 7, 3) := by decide +kernel
theorem dX9_sign_19 : decode cX9_sign 19 = .ok (.iload_n 1, 1) := by decide +kernel
theorem dX9_sign_20 : decode cX9_sign 20 = .ok (.iconst 1, 1) := by decide +kernel
theorem dX9_sign_21 : decode cX9_sign 21 = .ok (.invokestatic 36, 3) := by decide +kernel
theorem dX9_sign_24 : decode cX9_sign 24 = .ok (.iaload, 1) := by decide +kernel
theorem dX9_sign_25 : decode cX9_sign 25 = .ok (.iadd, 1) := by decide +kernel
theorem dX9_sign_26 : decode cX9_sign 26 = .ok (.ireturn, 1) := by decide +kernel
theorem dX9_areSame_0 : decode cX9_areSame 0 = .ok (.aload_n 0, 1) := by decide +kernel
theorem dX9_areSame_1 : decode cX9_areSame 1 = .ok (.getfield 7, 3) := by decide +kernel
theorem dX9_areSame_4 : decode cX9_areSame 4 = .ok (.iload_n 1, 1) := by decide +kernel
theorem dX9_areSame_5 : decode cX9_areSame 5 = .ok (.iconst 0, 1) := by decide +kernel
theorem dX9_areSame_6 : decode cX9_areSame 6 = .ok (.invokestatic 36, 3) := by decide +kernel
theorem dX9_areSame_9 : decode cX9_areSame 9 = .ok (.iaload, 1) := by decide +kernel
theorem dX9_areSame_10 : decode cX9_areSame 10 = .ok (.aload_n 0, 1) := by decide +kernel
theorem dX9_areSame_11 : decode cX9_areSame 11 = .ok (.getfield 7, 3) := by decide +kernel
theorem dX9_areSame_14 : decode cX9_areSame 14 = .ok (.iload_n 2, 1) := by decide +kernel
theorem dX9_areSame_15 : decode cX9_areSame 15 = .ok (.iconst 0, 1) := by decide +kernel
theorem dX9_areSame_16 : decode cX9_areSame 16 = .ok (.invokestatic 36, 3) := by decide +kernel
theorem dX9_areSame_19 : decode cX9_areSame 19 = .ok (.iaload, 1) := by decide +kernel
theorem dX9_areSame_20 : decode cX9_areSame 20 = .ok (.if_icmp .ne 30, 3) := by decide +kernel
theorem dX9_areSame_23 : decode cX9_areSame 23 = .ok (.aload_n 0, 1) := by decide +kernel
theorem dX9_areSame_24 : decode cX9_areSame 24 = .ok (.getfield 7, 3) := by decide +kernel
theorem dX9_areSame_27 : decode cX9_areSame 27 = .ok (.iload_n 1, 1) := by decide +kernel
theorem dX9_areSame_28 : decode cX9_areSame 28 = .ok (.iconst 1, 1) := by decide +kernel
theorem dX9_areSame_29 : decode cX9_areSame 29 = .ok (.invokestatic 36, 3) := by decide +kernel
theorem dX9_areSame_32 : decode cX9_areSame 32 = .ok (.iaload, 1) := by decide +kernel
theorem dX9_areSame_33 : decode cX9_areSame 33 = .ok (.aload_n 0, 1) := by decide +kernel
theorem dX9_areSame_34 : decode cX9_areSame 34 = .ok (.getfield 7, 3) := by decide +kernel
theorem dX9_areSame_37 : decode cX9_areSame 37 = .ok (.iload_n 2, 1) := by decide +kernel
theorem dX9_areSame_38 : decode cX9_areSame 38 = .ok (.iconst 1, 1) := by decide +kernel
theorem dX9_areSame_39 : decode cX9_areSame 39 = .ok (.invokestatic 36, 3) := by decide +kernel
theorem dX9_areSame_42 : decode cX9_areSame 42 = .ok (.iaload, 1) := by decide +kernel
theorem dX9_areSame_43 : decode cX9_areSame 43 = .ok (.if_icmp .ne 7, 3) := by decide +kernel
theorem dX9_areSame_46 : decode cX9_areSame 46 = .ok (.iconst 1, 1) := by decide +kernel
theorem dX9_areSame_47 : decode cX9_areSame 47 = .ok (.goto 4, 3) := by decide +kernel
theorem dX9_areSame_50 : decode cX9_areSame 50 = .ok (.iconst 0, 1) := by decide +kernel
theorem dX9_areSame_51 : decode cX9_areSame 51 = .ok (.ireturn, 1) := by decide +kernel
theorem dX9_isQuire_0 : decode cX9_isQuire 0 = .ok (.iload_n 1, 1) := by decide +kernel
theorem dX9_isQuire_1 : decode cX9_isQuire 1 = .ok (.iconst 0, 1) := by decide +kernel
theorem dX9_isQuire_2 : decode cX9_isQuire 2 = .ok (.aload_n 0, 1) := by decide +kernel
theorem dX9_isQuire_3 : decode cX9_isQuire 3 = .ok (.getfield 7, 3) := by decide +kernel
theorem dX9_isQuire_6 : decode cX9_isQuire 6 = .ok (.iconst 2, 1) := by decide +kernel
theorem dX9_isQuire_7 : decode cX9_isQuire 7 = .ok (.iaload, 1) := by decide +kernel
theorem dX9_isQuire_8 : decode cX9_isQuire 8 = .ok (.iconst 1, 1) := by decide +kernel
theorem dX9_isQuire_9 : decode cX9_isQuire 9 = .ok (.isub, 1) := by decide +kernel
theorem dX9_isQuire_10 : decode cX9_isQuire 10 = .ok (.invokestatic 40, 3) := by decide +kernel
theorem dX9_isQuire_13 : decode cX9_isQuire 13 = .ok (.ireturn, 1) := by decide +kernel
theorem dX9_leaves_0 : decode cX9_leaves 0 = .ok (.iconst 0, 1) := by decide +kernel
theorem dX9_leaves_1 : decode cX9_leaves 1 = .ok (.istore_n 1, 1) := by decide +kernel
theorem dX9_leaves_2 : decode cX9_leaves 2 = .ok (.iconst 0, 1) := by decide +kernel
theorem dX9_leaves_3 : decode cX9_leaves 3 = .ok (.istore_n 2, 1) := by decide +kernel
theorem dX9_leaves_4 : decode cX9_leaves 4 = .ok (.iload_n 2, 1) := by decide +kernel
theorem dX9_leaves_5 : decode cX9_leaves 5 = .ok (.aload_n 0, 1) := by decide +kernel
theorem dX9_leaves_6 : decode cX9_leaves 6 = .ok (.getfield 7, 3) := by decide +kernel
theorem dX9_leaves_9 : decode cX9_leaves 9 = .ok (.iconst 2, 1) := by decide +kernel
theorem dX9_leaves_10 : decode cX9_leaves 10 = .ok (.iaload, 1) := by decide +kernel
theorem dX9_leaves_11 : decode cX9_leaves 11 = .ok (.if_icmp .ge 22, 3) := by decide +kernel
theorem dX9_leaves_14 : decode cX9_leaves 14 = .ok (.iload_n 1, 1) := by decide +kernel
theorem dX9_leaves_15 : decode cX9_leaves 15 = .ok (.aload_n 0, 1) := by decide +kernel
theorem dX9_leaves_16 : decode cX9_leaves 16 = .ok (.getfield 7, 3) := by decide +kernel
theorem dX9_leaves_19 : decode cX9_leaves 19 = .ok (.iload_n 2, 1) := by decide +kernel
theorem dX9_leaves_20 : decode cX9_leaves 20 = .ok (.iconst 2, 1) := by decide +kernel
theorem dX9_leaves_21 : decode cX9_leaves 21 = .ok (.invokestatic 36, 3) := by decide +kernel
theorem dX9_leaves_24 : decode cX9_leaves 24 = .ok (.iaload, 1) := by decide +kernel
theorem dX9_leaves_25 : decode cX9_leaves 25 = .ok (.iadd, 1) := by decide +kernel
theorem dX9_leaves_26 : decode cX9_leaves 26 = .ok (.istore_n 1, 1) := by decide +kernel
theorem dX9_leaves_27 : decode cX9_leaves 27 = .ok (.iinc 2 1, 3) := by decide +kernel
theorem dX9_leaves_30 : decode cX9_leaves 30 = .ok (.goto (-26), 3) := by decide +kernel
theorem dX9_leaves_33 : decode cX9_leaves 33 = .ok (.iload_n 1, 1) := by decide +kernel
theorem dX9_leaves_34 : decode cX9_leaves 34 = .ok (.ireturn, 1) := by decide +kernel
theorem dX9_first_0 : decode cX9_first 0 = .ok (.iconst 0, 1) := by decide +kernel
theorem dX9_first_1 : decode cX9_first 1 = .ok (.istore_n 2, 1) := by decide +kernel
theorem dX9_first_2 : decode cX9_first 2 = .ok (.iconst 0, 1) := by decide +kernel
theorem dX9_first_3 : decode cX9_first 3 = .ok (.istore_n 3, 1) := by decide +kernel
theorem dX9_first_4 : decode cX9_first 4 = .ok (.iload_n 3, 1) := by decide +kernel
theorem dX9_first_5 : decode cX9_first 5 = .ok (.iload_n 1, 1) := by decide +kernel
theorem dX9_first_6 : decode cX9_first 6 = .ok (.if_icmp .ge 22, 3) := by decide +kernel
theorem dX9_first_9 : decode cX9_first 9 = .ok (.iload_n 2, 1) := by decide +kernel
theorem dX9_first_10 : decode cX9_first 10 = .ok (.aload_n 0, 1) := by decide +kernel
theorem dX9_first_11 : decode cX9_first 11 = .ok (.getfield 7, 3) := by decide +kernel
theorem dX9_first_14 : decode cX9_first 14 = .ok (.iload_n 3, 1) := by decide +kernel
theorem dX9_first_15 : decode cX9_first 15 = .ok (.iconst 2, 1) := by decide +kernel
theorem dX9_first_16 : decode cX9_first 16 = .ok (.invokestatic 36, 3) := by decide +kernel
theorem dX9_first_19 : decode cX9_first 19 = .ok (.iaload, 1) := by decide +kernel
theorem dX9_first_20 : decode cX9_first 20 = .ok (.iadd, 1) := by decide +kernel
theorem dX9_first_21 : decode cX9_first 21 = .ok (.istore_n 2, 1) := by decide +kernel
theorem dX9_first_22 : decode cX9_first 22 = .ok (.iinc 3 1, 3) := by decide +kernel
theorem dX9_first_25 : decode cX9_first 25 = .ok (.goto (-21), 3) := by decide +kernel
theorem dX9_first_28 : decode cX9_first 28 = .ok (.iload_n 2, 1) := by decide +kernel
theorem dX9_first_29 : decode cX9_first 29 = .ok (.ireturn, 1) := by decide +kernel
theorem dX9_signed_0 : decode cX9_signed 0 = .ok (.aload_n 0, 1) := by decide +kernel
theorem dX9_signed_1 : decode cX9_signed 1 = .ok (.getfield 7, 3) := by decide +kernel
theorem dX9_signed_4 : decode cX9_signed 4 = .ok (.iload_n 1, 1) := by decide +kernel
theorem dX9_signed_5 : decode cX9_signed 5 = .ok (.iconst 2, 1) := by decide +kernel
theorem dX9_signed_6 : decode cX9_signed 6 = .ok (.invokestatic 36, 3) := by decide +kernel
theorem dX9_signed_9 : decode cX9_signed 9 = .ok (.iaload, 1) := by decide +kernel
theorem dX9_signed_10 : decode cX9_signed 10 = .ok (.istore_n 2, 1) := by decide +kernel
theorem dX9_signed_11 : decode cX9_signed 11 = .ok (.iload_n 2, 1) := by decide +kernel
theorem dX9_signed_12 : decode cX9_signed 12 = .ok (.iconst 1, 1) := by decide +kernel
theorem dX9_signed_13 : decode cX9_signed 13 = .ok (.iadd, 1) := by decide +kernel
theorem dX9_signed_14 : decode cX9_signed 14 = .ok (.iconst 2, 1) := by decide +kernel
theorem dX9_signed_15 : decode cX9_signed 15 = .ok (.idiv, 1) := by decide +kernel
theorem dX9_signed_16 : decode cX9_signed 16 = .ok (.istore_n 3, 1) := by decide +kernel
theorem dX9_signed_17 : decode cX9_signed 17 = .ok (.aload_n 0, 1) := by decide +kernel
theorem dX9_signed_18 : decode cX9_signed 18 = .ok (.getfield 7, 3) := by decide +kernel
theorem dX9_signed_21 : decode cX9_signed 21 = .ok (.iconst 1, 1) := by decide +kernel
theorem dX9_signed_22 : decode cX9_signed 22 = .ok (.iaload, 1) := by decide +kernel
theorem dX9_signed_23 : decode cX9_signed 23 = .ok (.iconst 2, 1) := by decide +kernel
theorem dX9_signed_24 : decode cX9_signed 24 = .ok (.if_icmp .eq 8, 3) := by decide +kernel
theorem dX9_signed_27 : decode cX9_signed 27 = .ok (.iload_n 3, 1) := by decide +kernel
theorem dX9_signed_28 : decode cX9_signed 28 = .ok (.iload_n 2, 1) := by decide +kernel
theorem dX9_signed_29 : decode cX9_signed 29 = .ok (.if_icmp .ne 7, 3) := by decide +kernel
theorem dX9_signed_32 : decode cX9_signed 32 = .ok (.iload_n 2, 1) := by decide +kernel
theorem dX9_signed_33 : decode cX9_signed 33 = .ok (.goto 20, 3) := by decide +kernel
theorem dX9_signed_36 : decode cX9_signed 36 = .ok (.aload_n 0, 1) := by decide +kernel
theorem dX9_signed_37 : decode cX9_signed 37 = .ok (.getfield 7, 3) := by decide +kernel
theorem dX9_signed_40 : decode cX9_signed 40 = .ok (.iconst 1, 1) := by decide +kernel
theorem dX9_signed_41 : decode cX9_signed 41 = .ok (.iaload, 1) := by decide +kernel
theorem dX9_signed_42 : decode cX9_signed 42 = .ok (.iconst 1, 1) := by decide +kernel
theorem dX9_signed_43 : decode cX9_signed 43 = .ok (.if_icmp .ne 9, 3) := by decide +kernel
theorem dX9_signed_46 : decode cX9_signed 46 = .ok (.iload_n 3, 1) := by decide +kernel
theorem dX9_signed_47 : decode cX9_signed 47 = .ok (.iconst 1, 1) := by decide +kernel
theorem dX9_signed_48 : decode cX9_signed 48 = .ok (.iadd, 1) := by decide +kernel
theorem dX9_signed_49 : decode cX9_signed 49 = .ok (.goto 4, 3) := by decide +kernel
theorem dX9_signed_52 : decode cX9_signed 52 = .ok (.iload_n 3, 1) := by decide +kernel
theorem dX9_signed_53 : decode cX9_signed 53 = .ok (.ireturn, 1) := by decide +kernel
theorem dX9_signedOfAll_0 : decode cX9_signedOfAll 0 = .ok (.iconst 0, 1) := by decide +kernel
theorem dX9_signedOfAll_1 : decode cX9_signedOfAll 1 = .ok (.istore_n 1, 1) := by decide +kernel
theorem dX9_signedOfAll_2 : decode cX9_signedOfAll 2 = .ok (.iconst 0, 1) := by decide +kernel
theorem dX9_signedOfAll_3 : decode cX9_signedOfAll 3 = .ok (.istore_n 2, 1) := by decide +kernel
theorem dX9_signedOfAll_4 : decode cX9_signedOfAll 4 = .ok (.iload_n 2, 1) := by decide +kernel
theorem dX9_signedOfAll_5 : decode cX9_signedOfAll 5 = .ok (.aload_n 0, 1) := by decide +kernel
theorem dX9_signedOfAll_6 : decode cX9_signedOfAll 6 = .ok (.getfield 7, 3) := by decide +kernel
theorem dX9_signedOfAll_9 : decode cX9_signedOfAll 9 = .ok (.iconst 2, 1) := by decide +kernel
theorem dX9_signedOfAll_10 : decode cX9_signedOfAll 10 = .ok (.iaload, 1) := by decide +kernel
theorem dX9_signedOfAll_11 : decode cX9_signedOfAll 11 = .ok (.if_icmp .ge 17, 3) := by decide +kernel
theorem dX9_signedOfAll_14 : decode cX9_signedOfAll 14 = .ok (.iload_n 1, 1) := by decide +kernel
theorem dX9_signedOfAll_15 : decode cX9_signedOfAll 15 = .ok (.aload_n 0, 1) := by decide +kernel
theorem dX9_signedOfAll_16 : decode cX9_signedOfAll 16 = .ok (.iload_n 2, 1) := by decide +kernel
theorem dX9_signedOfAll_17 : decode cX9_signedOfAll 17 = .ok (.invokevirtual 44, 3) := by decide +kernel
theorem dX9_signedOfAll_20 : decode cX9_signedOfAll 20 = .ok (.iadd, 1) := by decide +kernel
theorem dX9_signedOfAll_21 : decode cX9_signedOfAll 21 = .ok (.istore_n 1, 1) := by decide +kernel
theorem dX9_signedOfAll_22 : decode cX9_signedOfAll 22 = .ok (.iinc 2 1, 3) := by decide +kernel
theorem dX9_signedOfAll_25 : decode cX9_signedOfAll 25 = .ok (.goto (-21), 3) := by decide +kernel
theorem dX9_signedOfAll_28 : decode cX9_signedOfAll 28 = .ok (.iload_n 1, 1) := by decide +kernel
theorem dX9_signedOfAll_29 : decode cX9_signedOfAll 29 = .ok (.ireturn, 1) := by decide +kernel
theorem dX9_isLeaf_0 : decode cX9_isLeaf 0 = .ok (.iload_n 1, 1) := by decide +kernel
theorem dX9_isLeaf_1 : decode cX9_isLeaf 1 = .ok (.iconst 0, 1) := by decide +kernel
theorem dX9_isLeaf_2 : decode cX9_isLeaf 2 = .ok (.aload_n 0, 1) := by decide +kernel
theorem dX9_isLeaf_3 : decode cX9_isLeaf 3 = .ok (.invokevirtual 48, 3) := by decide +kernel
theorem dX9_isLeaf_6 : decode cX9_isLeaf 6 = .ok (.iconst 1, 1) := by decide +kernel
theorem dX9_isLeaf_7 : decode cX9_isLeaf 7 = .ok (.isub, 1) := by decide +kernel
theorem dX9_isLeaf_8 : decode cX9_isLeaf 8 = .ok (.invokestatic 40, 3) := by decide +kernel
theorem dX9_isLeaf_11 : decode cX9_isLeaf 11 = .ok (.ireturn, 1) := by decide +kernel
theorem dX9_quireOf_0 : decode cX9_quireOf 0 = .ok (.iconst 0, 1) := by decide +kernel
theorem dX9_quireOf_1 : decode cX9_quireOf 1 = .ok (.istore_n 2, 1) := by decide +kernel
theorem dX9_quireOf_2 : decode cX9_quireOf 2 = .ok (.iload_n 1, 1) := by decide +kernel
theorem dX9_quireOf_3 : decode cX9_quireOf 3 = .ok (.aload_n 0, 1) := by decide +kernel
theorem dX9_quireOf_4 : decode cX9_quireOf 4 = .ok (.iload_n 2, 1) := by decide +kernel
theorem dX9_quireOf_5 : decode cX9_quireOf 5 = .ok (.invokevirtual 52, 3) := by decide +kernel
theorem dX9_quireOf_8 : decode cX9_quireOf 8 = .ok (.aload_n 0, 1) := by decide +kernel
theorem dX9_quireOf_9 : decode cX9_quireOf 9 = .ok (.getfield 7, 3) := by decide +kernel
theorem dX9_quireOf_12 : decode cX9_quireOf 12 = .ok (.iload_n 2, 1) := by decide +kernel
theorem dX9_quireOf_13 : decode cX9_quireOf 13 = .ok (.iconst 2, 1) := by decide +kernel
theorem dX9_quireOf_14 : decode cX9_quireOf 14 = .ok (.invokestatic 36, 3) := by decide +kernel
theorem dX9_quireOf_17 : decode cX9_quireOf 17 = .ok (.iaload, 1) := by decide +kernel
theorem dX9_quireOf_18 : decode cX9_quireOf 18 = .ok (.iadd, 1) := by decide +kernel
theorem dX9_quireOf_19 : decode cX9_quireOf 19 = .ok (.if_icmp .lt 9, 3) := by decide +kernel
theorem dX9_quireOf_22 : decode cX9_quireOf 22 = .ok (.iinc 2 1, 3) := by decide +kernel
theorem dX9_quireOf_25 : decode cX9_quireOf 25 = .ok (.goto (-23), 3) := by decide +kernel
theorem dX9_quireOf_28 : decode cX9_quireOf 28 = .ok (.iload_n 2, 1) := by decide +kernel
theorem dX9_quireOf_29 : decode cX9_quireOf 29 = .ok (.ireturn, 1) := by decide +kernel
theorem dX9_isLost_0 : decode cX9_isLost 0 = .ok (.aload_n 0, 1) := by decide +kernel
theorem dX9_isLost_1 : decode cX9_isLost 1 = .ok (.iload_n 1, 1) := by decide +kernel
theorem dX9_isLost_2 : decode cX9_isLost 2 = .ok (.invokevirtual 55, 3) := by decide +kernel
theorem dX9_isLost_5 : decode cX9_isLost 5 = .ok (.istore_n 2, 1) := by decide +kernel
theorem dX9_isLost_6 : decode cX9_isLost 6 = .ok (.aload_n 0, 1) := by decide +kernel
theorem dX9_isLost_7 : decode cX9_isLost 7 = .ok (.getfield 7, 3) := by decide +kernel
theorem dX9_isLost_10 : decode cX9_isLost 10 = .ok (.iload_n 2, 1) := by decide +kernel
theorem dX9_isLost_11 : decode cX9_isLost 11 = .ok (.iconst 3, 1) := by decide +kernel
theorem dX9_isLost_12 : decode cX9_isLost 12 = .ok (.invokestatic 36, 3) := by decide +kernel
theorem dX9_isLost_15 : decode cX9_isLost 15 = .ok (.iaload, 1) := by decide +kernel
theorem dX9_isLost_16 : decode cX9_isLost 16 = .ok (.iload_n 1, 1) := by decide +kernel
theorem dX9_isLost_17 : decode cX9_isLost 17 = .ok (.aload_n 0, 1) := by decide +kernel
theorem dX9_isLost_18 : decode cX9_isLost 18 = .ok (.iload_n 2, 1) := by decide +kernel
theorem dX9_isLost_19 : decode cX9_isLost 19 = .ok (.invokevirtual 52, 3) := by decide +kernel
theorem dX9_isLost_22 : decode cX9_isLost 22 = .ok (.isub, 1) := by decide +kernel
theorem dX9_isLost_23 : decode cX9_isLost 23 = .ok (.ishr, 1) := by decide +kernel
theorem dX9_isLost_24 : decode cX9_isLost 24 = .ok (.iconst 1, 1) := by decide +kernel
theorem dX9_isLost_25 : decode cX9_isLost 25 = .ok (.iand, 1) := by decide +kernel
theorem dX9_isLost_26 : decode cX9_isLost 26 = .ok (.iconst 1, 1) := by decide +kernel
theorem dX9_isLost_27 : decode cX9_isLost 27 = .ok (.if_icmp .ne 7, 3) := by decide +kernel
theorem dX9_isLost_30 : decode cX9_isLost 30 = .ok (.iconst 1, 1) := by decide +kernel
theorem dX9_isLost_31 : decode cX9_isLost 31 = .ok (.goto 4, 3) := by decide +kernel
theorem dX9_isLost_34 : decode cX9_isLost 34 = .ok (.iconst 0, 1) := by decide +kernel
theorem dX9_isLost_35 : decode cX9_isLost 35 = .ok (.ireturn, 1) := by decide +kernel
theorem dX9_there_0 : decode cX9_there 0 = .ok (.aload_n 0, 1) := by decide +kernel
theorem dX9_there_1 : decode cX9_there 1 = .ok (.getfield 7, 3) := by decide +kernel
theorem dX9_there_4 : decode cX9_there 4 = .ok (.iload_n 1, 1) := by decide +kernel
theorem dX9_there_5 : decode cX9_there 5 = .ok (.iconst 2, 1) := by decide +kernel
theorem dX9_there_6 : decode cX9_there 6 = .ok (.invokestatic 36, 3) := by decide +kernel
theorem dX9_there_9 : decode cX9_there 9 = .ok (.iaload, 1) := by decide +kernel
theorem dX9_there_10 : decode cX9_there 10 = .ok (.istore_n 2, 1) := by decide +kernel
theorem dX9_there_11 : decode cX9_there 11 = .ok (.iconst 0, 1) := by decide +kernel
theorem dX9_there_12 : decode cX9_there 12 = .ok (.istore_n 3, 1) := by decide +kernel
theorem dX9_there_13 : decode cX9_there 13 = .ok (.iload_n 3, 1) := by decide +kernel
theorem dX9_there_14 : decode cX9_there 14 = .ok (.bipush 24, 2) := by decide +kernel
theorem dX9_there_16 : decode cX9_there 16 = .ok (.if_icmp .ge 26, 3) := by decide +kernel
theorem dX9_there_19 : decode cX9_there 19 = .ok (.iload_n 2, 1) := by decide +kernel
theorem dX9_there_20 : decode cX9_there 20 = .ok (.aload_n 0, 1) := by decide +kernel
theorem dX9_there_21 : decode cX9_there 21 = .ok (.getfield 7, 3) := by decide +kernel
theorem dX9_there_24 : decode cX9_there 24 = .ok (.iload_n 1, 1) := by decide +kernel
theorem dX9_there_25 : decode cX9_there 25 = .ok (.iconst 3, 1) := by decide +kernel
theorem dX9_there_26 : decode cX9_there 26 = .ok (.invokestatic 36, 3) := by decide +kernel
theorem dX9_there_29 : decode cX9_there 29 = .ok (.iaload, 1) := by decide +kernel
theorem dX9_there_30 : decode cX9_there 30 = .ok (.iload_n 3, 1) := by decide +kernel
theorem dX9_there_31 : decode cX9_there 31 = .ok (.ishr, 1) := by decide +kernel
theorem dX9_there_32 : decode cX9_there 32 = .ok (.iconst 1, 1) := by decide +kernel
theorem dX9_there_33 : decode cX9_there 33 = .ok (.iand, 1) := by decide +kernel
theorem dX9_there_34 : decode cX9_there 34 = .ok (.isub, 1) := by decide +kernel
theorem dX9_there_35 : decode cX9_there 35 = .ok (.istore_n 2, 1) := by decide +kernel
theorem dX9_there_36 : decode cX9_there 36 = .ok (.iinc 3 1, 3) := by decide +kernel
theorem dX9_there_39 : decode cX9_there 39 = .ok (.goto (-26), 3) := by decide +kernel
theorem dX9_there_42 : decode cX9_there 42 = .ok (.iload_n 2, 1) := by decide +kernel
theorem dX9_there_43 : decode cX9_there 43 = .ok (.ireturn, 1) := by decide +kernel
theorem dX9_thereOfAll_0 : decode cX9_thereOfAll 0 = .ok (.iconst 0, 1) := by decide +kernel
theorem dX9_thereOfAll_1 : decode cX9_thereOfAll 1 = .ok (.istore_n 1, 1) := by decide +kernel
theorem dX9_thereOfAll_2 : decode cX9_thereOfAll 2 = .ok (.iconst 0, 1) := by decide +kernel
theorem dX9_thereOfAll_3 : decode cX9_thereOfAll 3 = .ok (.istore_n 2, 1) := by decide +kernel
theorem dX9_thereOfAll_4 : decode cX9_thereOfAll 4 = .ok (.iload_n 2, 1) := by decide +kernel
theorem dX9_thereOfAll_5 : decode cX9_thereOfAll 5 = .ok (.aload_n 0, 1) := by decide +kernel
theorem dX9_thereOfAll_6 : decode cX9_thereOfAll 6 = .ok (.getfield 7, 3) := by decide +kernel
theorem dX9_thereOfAll_9 : decode cX9_thereOfAll 9 = .ok (.iconst 2, 1) := by decide +kernel
theorem dX9_thereOfAll_10 : decode cX9_thereOfAll 10 = .ok (.iaload, 1) := by decide +kernel
theorem dX9_thereOfAll_11 : decode cX9_thereOfAll 11 = .ok (.if_icmp .ge 17, 3) := by decide +kernel
theorem dX9_thereOfAll_14 : decode cX9_thereOfAll 14 = .ok (.iload_n 1, 1) := by decide +kernel
theorem dX9_thereOfAll_15 : decode cX9_thereOfAll 15 = .ok (.aload_n 0, 1) := by decide +kernel
theorem dX9_thereOfAll_16 : decode cX9_thereOfAll 16 = .ok (.iload_n 2, 1) := by decide +kernel
theorem dX9_thereOfAll_17 : decode cX9_thereOfAll 17 = .ok (.invokevirtual 58, 3) := by decide +kernel
theorem dX9_thereOfAll_20 : decode cX9_thereOfAll 20 = .ok (.iadd, 1) := by decide +kernel
theorem dX9_thereOfAll_21 : decode cX9_thereOfAll 21 = .ok (.istore_n 1, 1) := by decide +kernel
theorem dX9_thereOfAll_22 : decode cX9_thereOfAll 22 = .ok (.iinc 2 1, 3) := by decide +kernel
theorem dX9_thereOfAll_25 : decode cX9_thereOfAll 25 = .ok (.goto (-21), 3) := by decide +kernel
theorem dX9_thereOfAll_28 : decode cX9_thereOfAll 28 = .ok (.iload_n 1, 1) := by decide +kernel
theorem dX9_thereOfAll_29 : decode cX9_thereOfAll 29 = .ok (.ireturn, 1) := by decide +kernel
theorem dX9_puts_0 : decode cX9_puts 0 = .ok (.aload_n 0, 1) := by decide +kernel
theorem dX9_puts_1 : decode cX9_puts 1 = .ok (.getfield 7, 3) := by decide +kernel
theorem dX9_puts_4 : decode cX9_puts 4 = .ok (.iconst 2, 1) := by decide +kernel
theorem dX9_puts_5 : decode cX9_puts 5 = .ok (.iaload, 1) := by decide +kernel
theorem dX9_puts_6 : decode cX9_puts 6 = .ok (.iconst 1, 1) := by decide +kernel
theorem dX9_puts_7 : decode cX9_puts 7 = .ok (.isub, 1) := by decide +kernel
theorem dX9_puts_8 : decode cX9_puts 8 = .ok (.istore 5, 2) := by decide +kernel
theorem dX9_puts_10 : decode cX9_puts 10 = .ok (.iload 5, 2) := by decide +kernel
theorem dX9_puts_12 : decode cX9_puts 12 = .ok (.iload_n 1, 1) := by decide +kernel
theorem dX9_puts_13 : decode cX9_puts 13 = .ok (.if_icmp .lt 50, 3) := by decide +kernel
theorem dX9_puts_16 : decode cX9_puts 16 = .ok (.iconst 0, 1) := by decide +kernel
theorem dX9_puts_17 : decode cX9_puts 17 = .ok (.istore 6, 2) := by decide +kernel
theorem dX9_puts_19 : decode cX9_puts 19 = .ok (.iload 6, 2) := by decide +kernel
theorem dX9_puts_21 : decode cX9_puts 21 = .ok (.iconst 4, 1) := by decide +kernel
theorem dX9_puts_22 : decode cX9_puts 22 = .ok (.if_icmp .ge 35, 3) := by decide +kernel
theorem dX9_puts_25 : decode cX9_puts 25 = .ok (.aload_n 0, 1) := by decide +kernel
theorem dX9_puts_26 : decode cX9_puts 26 = .ok (.getfield 7, 3) := by decide +kernel
theorem dX9_puts_29 : decode cX9_puts 29 = .ok (.iload 5, 2) := by decide +kernel
theorem dX9_puts_31 : decode cX9_puts 31 = .ok (.iconst 1, 1) := by decide +kernel
theorem dX9_puts_32 : decode cX9_puts 32 = .ok (.iadd, 1) := by decide +kernel
theorem dX9_puts_33 : decode cX9_puts 33 = .ok (.iload 6, 2) := by decide +kernel
theorem dX9_puts_35 : decode cX9_puts 35 = .ok (.invokestatic 36, 3) := by decide +kernel
theorem dX9_puts_38 : decode cX9_puts 38 = .ok (.aload_n 0, 1) := by decide +kernel
theorem dX9_puts_39 : decode cX9_puts 39 = .ok (.getfield 7, 3) := by decide +kernel
theorem dX9_puts_42 : decode cX9_puts 42 = .ok (.iload 5, 2) := by decide +kernel
theorem dX9_puts_44 : decode cX9_puts 44 = .ok (.iload 6, 2) := by decide +kernel
theorem dX9_puts_46 : decode cX9_puts 46 = .ok (.invokestatic 36, 3) := by decide +kernel
theorem dX9_puts_49 : decode cX9_puts 49 = .ok (.iaload, 1) := by decide +kernel
theorem dX9_puts_50 : decode cX9_puts 50 = .ok (.iastore, 1) := by decide +kernel
theorem dX9_puts_51 : decode cX9_puts 51 = .ok (.iinc 6 1, 3) := by decide +kernel
theorem dX9_puts_54 : decode cX9_puts 54 = .ok (.goto (-35), 3) := by decide +kernel
theorem dX9_puts_57 : decode cX9_puts 57 = .ok (.iinc 5 (-1), 3) := by decide +kernel
theorem dX9_puts_60 : decode cX9_puts 60 = .ok (.goto (-50), 3) := by decide +kernel
theorem dX9_puts_63 : decode cX9_puts 63 = .ok (.aload_n 0, 1) := by decide +kernel
theorem dX9_puts_64 : decode cX9_puts 64 = .ok (.getfield 7, 3) := by decide +kernel
theorem dX9_puts_67 : decode cX9_puts 67 = .ok (.iload_n 1, 1) := by decide +kernel
theorem dX9_puts_68 : decode cX9_puts 68 = .ok (.iconst 0, 1) := by decide +kernel
theorem dX9_puts_69 : decode cX9_puts 69 = .ok (.invokestatic 36, 3) := by decide +kernel
theorem dX9_puts_72 : decode cX9_puts 72 = .ok (.iload_n 2, 1) := by decide +kernel
theorem dX9_puts_73 : decode cX9_puts 73 = .ok (.iastore, 1) := by decide +kernel
theorem dX9_puts_74 : decode cX9_puts 74 = .ok (.aload_n 0, 1) := by decide +kernel
theorem dX9_puts_75 : decode cX9_puts 75 = .ok (.getfield 7, 3) := by decide +kernel
theorem dX9_puts_78 : decode cX9_puts 78 = .ok (.iload_n 1, 1) := by decide +kernel
theorem dX9_puts_79 : decode cX9_puts 79 = .ok (.iconst 1, 1) := by decide +kernel
theorem dX9_puts_80 : decode cX9_puts 80 = .ok (.invokestatic 36, 3) := by decide +kernel
theorem dX9_puts_83 : decode cX9_puts 83 = .ok (.iload_n 3, 1) := by decide +kernel
theorem dX9_puts_84 : decode cX9_puts 84 = .ok (.iastore, 1) := by decide +kernel
theorem dX9_puts_85 : decode cX9_puts 85 = .ok (.aload_n 0, 1) := by decide +kernel
theorem dX9_puts_86 : decode cX9_puts 86 = .ok (.getfield 7, 3) := by decide +kernel
theorem dX9_puts_89 : decode cX9_puts 89 = .ok (.iload_n 1, 1) := by decide +kernel
theorem dX9_puts_90 : decode cX9_puts 90 = .ok (.iconst 2, 1) := by decide +kernel
theorem dX9_puts_91 : decode cX9_puts 91 = .ok (.invokestatic 36, 3) := by decide +kernel
theorem dX9_puts_94 : decode cX9_puts 94 = .ok (.iload 4, 2) := by decide +kernel
theorem dX9_puts_96 : decode cX9_puts 96 = .ok (.iastore, 1) := by decide +kernel
theorem dX9_puts_97 : decode cX9_puts 97 = .ok (.aload_n 0, 1) := by decide +kernel
theorem dX9_puts_98 : decode cX9_puts 98 = .ok (.getfield 7, 3) := by decide +kernel
theorem dX9_puts_101 : decode cX9_puts 101 = .ok (.iload_n 1, 1) := by decide +kernel
theorem dX9_puts_102 : decode cX9_puts 102 = .ok (.iconst 3, 1) := by decide +kernel
theorem dX9_puts_103 : decode cX9_puts 103 = .ok (.invokestatic 36, 3) := by decide +kernel
theorem dX9_puts_106 : decode cX9_puts 106 = .ok (.iconst 0, 1) := by decide +kernel
theorem dX9_puts_107 : decode cX9_puts 107 = .ok (.iastore, 1) := by decide +kernel
theorem dX9_puts_108 : decode cX9_puts 108 = .ok (.aload_n 0, 1) := by decide +kernel
theorem dX9_puts_109 : decode cX9_puts 109 = .ok (.getfield 7, 3) := by decide +kernel
theorem dX9_puts_112 : decode cX9_puts 112 = .ok (.iconst 2, 1) := by decide +kernel
theorem dX9_puts_113 : decode cX9_puts 113 = .ok (.dup2, 1) := by decide +kernel
theorem dX9_puts_114 : decode cX9_puts 114 = .ok (.iaload, 1) := by decide +kernel
theorem dX9_puts_115 : decode cX9_puts 115 = .ok (.iconst 1, 1) := by decide +kernel
theorem dX9_puts_116 : decode cX9_puts 116 = .ok (.iadd, 1) := by decide +kernel
theorem dX9_puts_117 : decode cX9_puts 117 = .ok (.iastore, 1) := by decide +kernel
theorem dX9_puts_118 : decode cX9_puts 118 = .ok (.aload_n 0, 1) := by decide +kernel
theorem dX9_puts_119 : decode cX9_puts 119 = .ok (.getfield 7, 3) := by decide +kernel
theorem dX9_puts_122 : decode cX9_puts 122 = .ok (.sipush 163, 3) := by decide +kernel
theorem dX9_puts_125 : decode cX9_puts 125 = .ok (.iconst 0, 1) := by decide +kernel
theorem dX9_puts_126 : decode cX9_puts 126 = .ok (.iastore, 1) := by decide +kernel
theorem dX9_puts_127 : decode cX9_puts 127 = .ok (.return_, 1) := by decide +kernel
theorem dX9_leaveOut_0 : decode cX9_leaveOut 0 = .ok (.iload_n 1, 1) := by decide +kernel
theorem dX9_leaveOut_1 : decode cX9_leaveOut 1 = .ok (.bipush 65, 2) := by decide +kernel
theorem dX9_leaveOut_3 : decode cX9_leaveOut 3 = .ok (.bipush 90, 2) := by decide +kernel
theorem dX9_leaveOut_5 : decode cX9_leaveOut 5 = .ok (.invokestatic 40, 3) := by decide +kernel
theorem dX9_leaveOut_8 : decode cX9_leaveOut 8 = .ok (.ifCond .ne 5, 3) := by decide +kernel
theorem dX9_leaveOut_11 : decode cX9_leaveOut 11 = .ok (.iconst (-1), 1) := by decide +kernel
theorem dX9_leaveOut_12 : decode cX9_leaveOut 12 = .ok (.ireturn, 1) := by decide +kernel
theorem dX9_leaveOut_13 : decode cX9_leaveOut 13 = .ok (.aload_n 0, 1) := by decide +kernel
theorem dX9_leaveOut_14 : decode cX9_leaveOut 14 = .ok (.iload_n 1, 1) := by decide +kernel
theorem dX9_leaveOut_15 : decode cX9_leaveOut 15 = .ok (.bipush 65, 2) := by decide +kernel
theorem dX9_leaveOut_17 : decode cX9_leaveOut 17 = .ok (.isub, 1) := by decide +kernel
theorem dX9_leaveOut_18 : decode cX9_leaveOut 18 = .ok (.invokevirtual 32, 3) := by decide +kernel
theorem dX9_leaveOut_21 : decode cX9_leaveOut 21 = .ok (.iload_n 2, 1) := by decide +kernel
theorem dX9_leaveOut_22 : decode cX9_leaveOut 22 = .ok (.if_icmp .ne 6, 3) := by decide +kernel
theorem dX9_leaveOut_25 : decode cX9_leaveOut 25 = .ok (.bipush (-5), 2) := by decide +kernel
theorem dX9_leaveOut_27 : decode cX9_leaveOut 27 = .ok (.ireturn, 1) := by decide +kernel
theorem dX9_leaveOut_28 : decode cX9_leaveOut 28 = .ok (.iload_n 2, 1) := by decide +kernel
theorem dX9_leaveOut_29 : decode cX9_leaveOut 29 = .ok (.ifCond .eq 14, 3) := by decide +kernel
theorem dX9_leaveOut_32 : decode cX9_leaveOut 32 = .ok (.aload_n 0, 1) := by decide +kernel
theorem dX9_leaveOut_33 : decode cX9_leaveOut 33 = .ok (.invokevirtual 61, 3) := by decide +kernel
theorem dX9_leaveOut_36 : decode cX9_leaveOut 36 = .ok (.iconst 1, 1) := by decide +kernel
theorem dX9_leaveOut_37 : decode cX9_leaveOut 37 = .ok (.if_icmp .ne 6, 3) := by decide +kernel
theorem dX9_leaveOut_40 : decode cX9_leaveOut 40 = .ok (.bipush (-4), 2) := by decide +kernel
theorem dX9_leaveOut_42 : decode cX9_leaveOut 42 = .ok (.ireturn, 1) := by decide +kernel
theorem dX9_leaveOut_43 : decode cX9_leaveOut 43 = .ok (.aload_n 0, 1) := by decide +kernel
theorem dX9_leaveOut_44 : decode cX9_leaveOut 44 = .ok (.invokevirtual 64, 3) := by decide +kernel
theorem dX9_leaveOut_47 : decode cX9_leaveOut 47 = .ok (.aload_n 0, 1) := by decide +kernel
theorem dX9_leaveOut_48 : decode cX9_leaveOut 48 = .ok (.getfield 7, 3) := by decide +kernel
theorem dX9_leaveOut_51 : decode cX9_leaveOut 51 = .ok (.iconst 0, 1) := by decide +kernel
theorem dX9_leaveOut_52 : decode cX9_leaveOut 52 = .ok (.dup2, 1) := by decide +kernel
theorem dX9_leaveOut_53 : decode cX9_leaveOut 53 = .ok (.iaload, 1) := by decide +kernel
theorem dX9_leaveOut_54 : decode cX9_leaveOut 54 = .ok (.iconst 1, 1) := by decide +kernel
theorem dX9_leaveOut_55 : decode cX9_leaveOut 55 = .ok (.iload_n 1, 1) := by decide +kernel
theorem dX9_leaveOut_56 : decode cX9_leaveOut 56 = .ok (.bipush 65, 2) := by decide +kernel
theorem dX9_leaveOut_58 : decode cX9_leaveOut 58 = .ok (.isub, 1) := by decide +kernel
theorem dX9_leaveOut_59 : decode cX9_leaveOut 59 = .ok (.ishl, 1) := by decide +kernel
theorem dX9_leaveOut_60 : decode cX9_leaveOut 60 = .ok (.ixor, 1) := by decide +kernel
theorem dX9_leaveOut_61 : decode cX9_leaveOut 61 = .ok (.iastore, 1) := by decide +kernel
theorem dX9_leaveOut_62 : decode cX9_leaveOut 62 = .ok (.aload_n 0, 1) := by decide +kernel
theorem dX9_leaveOut_63 : decode cX9_leaveOut 63 = .ok (.invokevirtual 61, 3) := by decide +kernel
theorem dX9_leaveOut_66 : decode cX9_leaveOut 66 = .ok (.ireturn, 1) := by decide +kernel
theorem dX9_setSigning_0 : decode cX9_setSigning 0 = .ok (.iload_n 1, 1) := by decide +kernel
theorem dX9_setSigning_1 : decode cX9_setSigning 1 = .ok (.iconst 0, 1) := by decide +kernel
theorem dX9_setSigning_2 : decode cX9_setSigning 2 = .ok (.iconst 2, 1) := by decide +kernel
theorem dX9_setSigning_3 : decode cX9_setSigning 3 = .ok (.invokestatic 40, 3) := by decide +kernel
theorem dX9_setSigning_6 : decode cX9_setSigning 6 = .ok (.ifCond .ne 6, 3) := by decide +kernel
theorem dX9_setSigning_9 : decode cX9_setSigning 9 = .ok (.bipush (-2), 2) := by decide +kernel
theorem dX9_setSigning_11 : decode cX9_setSigning 11 = .ok (.ireturn, 1) := by decide +kernel
theorem dX9_setSigning_12 : decode cX9_setSigning 12 = .ok (.aload_n 0, 1) := by decide +kernel
theorem dX9_setSigning_13 : decode cX9_setSigning 13 = .ok (.getfield 7, 3) := by decide +kernel
theorem dX9_setSigning_16 : decode cX9_setSigning 16 = .ok (.iconst 1, 1) := by decide +kernel
theorem dX9_setSigning_17 : decode cX9_setSigning 17 = .ok (.iaload, 1) := by decide +kernel
theorem dX9_setSigning_18 : decode cX9_setSigning 18 = .ok (.iload_n 1, 1) := by decide +kernel
theorem dX9_setSigning_19 : decode cX9_setSigning 19 = .ok (.if_icmp .ne 6, 3) := by decide +kernel
theorem dX9_setSigning_22 : decode cX9_setSigning 22 = .ok (.bipush (-5), 2) := by decide +kernel
theorem dX9_setSigning_24 : decode cX9_setSigning 24 = .ok (.ireturn, 1) := by decide +kernel
theorem dX9_setSigning_25 : decode cX9_setSigning 25 = .ok (.aload_n 0, 1) := by decide +kernel
theorem dX9_setSigning_26 : decode cX9_setSigning 26 = .ok (.invokevirtual 64, 3) := by decide +kernel
theorem dX9_setSigning_29 : decode cX9_setSigning 29 = .ok (.aload_n 0, 1) := by decide +kernel
theorem dX9_setSigning_30 : decode cX9_setSigning 30 = .ok (.getfield 7, 3) := by decide +kernel
theorem dX9_setSigning_33 : decode cX9_setSigning 33 = .ok (.iconst 1, 1) := by decide +kernel
theorem dX9_setSigning_34 : decode cX9_setSigning 34 = .ok (.iload_n 1, 1) := by decide +kernel
theorem dX9_setSigning_35 : decode cX9_setSigning 35 = .ok (.iastore, 1) := by decide +kernel
theorem dX9_setSigning_36 : decode cX9_setSigning 36 = .ok (.aload_n 0, 1) := by decide +kernel
theorem dX9_setSigning_37 : decode cX9_setSigning 37 = .ok (.invokevirtual 67, 3) := by decide +kernel
theorem dX9_setSigning_40 : decode cX9_setSigning 40 = .ok (.ireturn, 1) := by decide +kernel
theorem dX9_isNext_0 : decode cX9_isNext 0 = .ok (.aload_n 0, 1) := by decide +kernel
theorem dX9_isNext_1 : decode cX9_isNext 1 = .ok (.getfield 70, 3) := by decide +kernel
theorem dX9_isNext_4 : decode cX9_isNext 4 = .ok (.ifCond .eq 35, 3) := by decide +kernel
theorem dX9_isNext_7 : decode cX9_isNext 7 = .ok (.aload_n 0, 1) := by decide +kernel
theorem dX9_isNext_8 : decode cX9_isNext 8 = .ok (.getfield 74, 3) := by decide +kernel
theorem dX9_isNext_11 : decode cX9_isNext 11 = .ok (.aload_n 0, 1) := by decide +kernel
theorem dX9_isNext_12 : decode cX9_isNext 12 = .ok (.getfield 77, 3) := by decide +kernel
theorem dX9_isNext_15 : decode cX9_isNext 15 = .ok (.if_icmp .ge 24, 3) := by decide +kernel
theorem dX9_isNext_18 : decode cX9_isNext 18 = .ok (.aload_n 0, 1) := by decide +kernel
theorem dX9_isNext_19 : decode cX9_isNext 19 = .ok (.getfield 13, 3) := by decide +kernel
theorem dX9_isNext_22 : decode cX9_isNext 22 = .ok (.aload_n 0, 1) := by decide +kernel
theorem dX9_isNext_23 : decode cX9_isNext 23 = .ok (.getfield 74, 3) := by decide +kernel
theorem dX9_isNext_26 : decode cX9_isNext 26 = .ok (.caload, 1) := by decide +kernel
theorem dX9_isNext_27 : decode cX9_isNext 27 = .ok (.iload_n 1, 1) := by decide +kernel
theorem dX9_isNext_28 : decode cX9_isNext 28 = .ok (.iload_n 2, 1) := by decide +kernel
theorem dX9_isNext_29 : decode cX9_isNext 29 = .ok (.invokestatic 40, 3) := by decide +kernel
theorem dX9_isNext_32 : decode cX9_isNext 32 = .ok (.ifCond .eq 7, 3) := by decide +kernel
theorem dX9_isNext_35 : decode cX9_isNext 35 = .ok (.iconst 1, 1) := by decide +kernel
theorem dX9_isNext_36 : decode cX9_isNext 36 = .ok (.goto 4, 3) := by decide +kernel
theorem dX9_isNext_39 : decode cX9_isNext 39 = .ok (.iconst 0, 1) := by decide +kernel
theorem dX9_isNext_40 : decode cX9_isNext 40 = .ok (.ireturn, 1) := by decide +kernel
theorem dX9_reads_0 : decode cX9_reads 0 = .ok (.aload_n 0, 1) := by decide +kernel
theorem dX9_reads_1 : decode cX9_reads 1 = .ok (.iconst 0, 1) := by decide +kernel
theorem dX9_reads_2 : decode cX9_reads 2 = .ok (.putfield 80, 3) := by decide +kernel
theorem dX9_reads_5 : decode cX9_reads 5 = .ok (.aload_n 0, 1) := by decide +kernel
theorem dX9_reads_6 : decode cX9_reads 6 = .ok (.iconst (-1), 1) := by decide +kernel
theorem dX9_reads_7 : decode cX9_reads 7 = .ok (.putfield 83, 3) := by decide +kernel
theorem dX9_reads_10 : decode cX9_reads 10 = .ok (.aload_n 0, 1) := by decide +kernel
theorem dX9_reads_11 : decode cX9_reads 11 = .ok (.bipush 42, 2) := by decide +kernel
theorem dX9_reads_13 : decode cX9_reads 13 = .ok (.bipush 42, 2) := by decide +kernel
theorem dX9_reads_15 : decode cX9_reads 15 = .ok (.invokevirtual 86, 3) := by decide +kernel
theorem dX9_reads_18 : decode cX9_reads 18 = .ok (.ifCond .eq 46, 3) := by decide +kernel
theorem dX9_reads_21 : decode cX9_reads 21 = .ok (.aload_n 0, 1) := by decide +kernel
theorem dX9_reads_22 : decode cX9_reads 22 = .ok (.getfield 80, 3) := by decide +kernel
theorem dX9_reads_25 : decode cX9_reads 25 = .ok (.iconst 5, 1) := by decide +kernel
theorem dX9_reads_26 : decode cX9_reads 26 = .ok (.if_icmp .ge 37, 3) := by decide +kernel
theorem dX9_reads_29 : decode cX9_reads 29 = .ok (.aload_n 0, 1) := by decide +kernel
theorem dX9_reads_30 : decode cX9_reads 30 = .ok (.bipush 42, 2) := by decide +kernel
theorem dX9_reads_32 : decode cX9_reads 32 = .ok (.bipush 42, 2) := by decide +kernel
theorem dX9_reads_34 : decode cX9_reads 34 = .ok (.invokevirtual 86, 3) := by decide +kernel
theorem dX9_reads_37 : decode cX9_reads 37 = .ok (.ifCond .eq 26, 3) := by decide +kernel
theorem dX9_reads_40 : decode cX9_reads 40 = .ok (.aload_n 0, 1) := by decide +kernel
theorem dX9_reads_41 : decode cX9_reads 41 = .ok (.dup, 1) := by decide +kernel
theorem dX9_reads_42 : decode cX9_reads 42 = .ok (.getfield 80, 3) := by decide +kernel
theorem dX9_reads_45 : decode cX9_reads 45 = .ok (.iconst 1, 1) := by decide +kernel
theorem dX9_reads_46 : decode cX9_reads 46 = .ok (.iadd, 1) := by decide +kernel
theorem dX9_reads_47 : decode cX9_reads 47 = .ok (.putfield 80, 3) := by decide +kernel
theorem dX9_reads_50 : decode cX9_reads 50 = .ok (.aload_n 0, 1) := by decide +kernel
theorem dX9_reads_51 : decode cX9_reads 51 = .ok (.dup, 1) := by decide +kernel
theorem dX9_reads_52 : decode cX9_reads 52 = .ok (.getfield 74, 3) := by decide +kernel
theorem dX9_reads_55 : decode cX9_reads 55 = .ok (.iconst 1, 1) := by decide +kernel
theorem dX9_reads_56 : decode cX9_reads 56 = .ok (.iadd, 1) := by decide +kernel
theorem dX9_reads_57 : decode cX9_reads 57 = .ok (.putfield 74, 3) := by decide +kernel
theorem dX9_reads_60 : decode cX9_reads 60 = .ok (.goto (-39), 3) := by decide +kernel
theorem dX9_reads_63 : decode cX9_reads 63 = .ok (.return_, 1) := by decide +kernel
theorem dX9_reads_64 : decode cX9_reads 64 = .ok (.aload_n 0, 1) := by decide +kernel
theorem dX9_reads_65 : decode cX9_reads 65 = .ok (.aload_n 0, 1) := by decide +kernel
theorem dX9_reads_66 : decode cX9_reads 66 = .ok (.bipush 65, 2) := by decide +kernel
theorem dX9_reads_68 : decode cX9_reads 68 = .ok (.bipush 90, 2) := by decide +kernel
theorem dX9_reads_70 : decode cX9_reads 70 = .ok (.invokevirtual 86, 3) := by decide +kernel
theorem dX9_reads_73 : decode cX9_reads 73 = .ok (.ifCond .eq 30, 3) := by decide +kernel
theorem dX9_reads_76 : decode cX9_reads 76 = .ok (.iload_n 1, 1) := by decide +kernel
theorem dX9_reads_77 : decode cX9_reads 77 = .ok (.ifCond .eq 22, 3) := by decide +kernel
theorem dX9_reads_80 : decode cX9_reads 80 = .ok (.aload_n 0, 1) := by decide +kernel
theorem dX9_reads_81 : decode cX9_reads 81 = .ok (.aload_n 0, 1) := by decide +kernel
theorem dX9_reads_82 : decode cX9_reads 82 = .ok (.getfield 13, 3) := by decide +kernel
theorem dX9_reads_85 : decode cX9_reads 85 = .ok (.aload_n 0, 1) := by decide +kernel
theorem dX9_reads_86 : decode cX9_reads 86 = .ok (.getfield 74, 3) := by decide +kernel
theorem dX9_reads_89 : decode cX9_reads 89 = .ok (.caload, 1) := by decide +kernel
theorem dX9_reads_90 : decode cX9_reads 90 = .ok (.bipush 65, 2) := by decide +kernel
theorem dX9_reads_92 : decode cX9_reads 92 = .ok (.isub, 1) := by decide +kernel
theorem dX9_reads_93 : decode cX9_reads 93 = .ok (.invokevirtual 32, 3) := by decide +kernel
theorem dX9_reads_96 : decode cX9_reads 96 = .ok (.ifCond .ne 7, 3) := by decide +kernel
theorem dX9_reads_99 : decode cX9_reads 99 = .ok (.iconst 1, 1) := by decide +kernel
theorem dX9_reads_100 : decode cX9_reads 100 = .ok (.goto 4, 3) := by decide +kernel
theorem dX9_reads_103 : decode cX9_reads 103 = .ok (.iconst 0, 1) := by decide +kernel
theorem dX9_reads_104 : decode cX9_reads 104 = .ok (.putfield 70, 3) := by decide +kernel
theorem dX9_reads_107 : decode cX9_reads 107 = .ok (.aload_n 0, 1) := by decide +kernel
theorem dX9_reads_108 : decode cX9_reads 108 = .ok (.getfield 70, 3) := by decide +kernel
theorem dX9_reads_111 : decode cX9_reads 111 = .ok (.ifCond .eq 86, 3) := by decide +kernel
theorem dX9_reads_114 : decode cX9_reads 114 = .ok (.aload_n 0, 1) := by decide +kernel
theorem dX9_reads_115 : decode cX9_reads 115 = .ok (.aload_n 0, 1) := by decide +kernel
theorem dX9_reads_116 : decode cX9_reads 116 = .ok (.getfield 13, 3) := by decide +kernel
theorem dX9_reads_119 : decode cX9_reads 119 = .ok (.aload_n 0, 1) := by decide +kernel
theorem dX9_reads_120 : decode cX9_reads 120 = .ok (.getfield 74, 3) := by decide +kernel
theorem dX9_reads_123 : decode cX9_reads 123 = .ok (.caload, 1) := by decide +kernel
theorem dX9_reads_124 : decode cX9_reads 124 = .ok (.bipush 65, 2) := by decide +kernel
theorem dX9_reads_126 : decode cX9_reads 126 = .ok (.isub, 1) := by decide +kernel
theorem dX9_reads_127 : decode cX9_reads 127 = .ok (.putfield 83, 3) := by decide +kernel
theorem dX9_reads_130 : decode cX9_reads 130 = .ok (.aload_n 0, 1) := by decide +kernel
theorem dX9_reads_131 : decode cX9_reads 131 = .ok (.iconst 1, 1) := by decide +kernel
theorem dX9_reads_132 : decode cX9_reads 132 = .ok (.putfield 80, 3) := by decide +kernel
theorem dX9_reads_135 : decode cX9_reads 135 = .ok (.aload_n 0, 1) := by decide +kernel
theorem dX9_reads_136 : decode cX9_reads 136 = .ok (.dup, 1) := by decide +kernel
theorem dX9_reads_137 : decode cX9_reads 137 = .ok (.getfield 74, 3) := by decide +kernel
theorem dX9_reads_140 : decode cX9_reads 140 = .ok (.iconst 1, 1) := by decide +kernel
theorem dX9_reads_141 : decode cX9_reads 141 = .ok (.iadd, 1) := by decide +kernel
theorem dX9_reads_142 : decode cX9_reads 142 = .ok (.putfield 74, 3) := by decide +kernel
theorem dX9_reads_145 : decode cX9_reads 145 = .ok (.aload_n 0, 1) := by decide +kernel
theorem dX9_reads_146 : decode cX9_reads 146 = .ok (.getfield 80, 3) := by decide +kernel
theorem dX9_reads_149 : decode cX9_reads 149 = .ok (.iconst 3, 1) := by decide +kernel
theorem dX9_reads_150 : decode cX9_reads 150 = .ok (.if_icmp .ge 47, 3) := by decide +kernel
theorem dX9_reads_153 : decode cX9_reads 153 = .ok (.aload_n 0, 1) := by decide +kernel
theorem dX9_reads_154 : decode cX9_reads 154 = .ok (.bipush 97, 2) := by decide +kernel
theorem dX9_reads_156 : decode cX9_reads 156 = .ok (.aload_n 0, 1) := by decide +kernel
theorem dX9_reads_157 : decode cX9_reads 157 = .ok (.getfield 83, 3) := by decide +kernel
theorem dX9_reads_160 : decode cX9_reads 160 = .ok (.iadd, 1) := by decide +kernel
theorem dX9_reads_161 : decode cX9_reads 161 = .ok (.bipush 97, 2) := by decide +kernel
theorem dX9_reads_163 : decode cX9_reads 163 = .ok (.aload_n 0, 1) := by decide +kernel
theorem dX9_reads_164 : decode cX9_reads 164 = .ok (.getfield 83, 3) := by decide +kernel
theorem dX9_reads_167 : decode cX9_reads 167 = .ok (.iadd, 1) := by decide +kernel
theorem dX9_reads_168 : decode cX9_reads 168 = .ok (.invokevirtual 86, 3) := by decide +kernel
theorem dX9_reads_171 : decode cX9_reads 171 = .ok (.ifCond .eq 26, 3) := by decide +kernel
theorem dX9_reads_174 : decode cX9_reads 174 = .ok (.aload_n 0, 1) := by decide +kernel
theorem dX9_reads_175 : decode cX9_reads 175 = .ok (.dup, 1) := by decide +kernel
theorem dX9_reads_176 : decode cX9_reads 176 = .ok (.getfield 80, 3) := by decide +kernel
theorem dX9_reads_179 : decode cX9_reads 179 = .ok (.iconst 1, 1) := by decide +kernel
theorem dX9_reads_180 : decode cX9_reads 180 = .ok (.iadd, 1) := by decide +kernel
theorem dX9_reads_181 : decode cX9_reads 181 = .ok (.putfield 80, 3) := by decide +kernel
theorem dX9_reads_184 : decode cX9_reads 184 = .ok (.aload_n 0, 1) := by decide +kernel
theorem dX9_reads_185 : decode cX9_reads 185 = .ok (.dup, 1) := by decide +kernel
theorem dX9_reads_186 : decode cX9_reads 186 = .ok (.getfield 74, 3) := by decide +kernel
theorem dX9_reads_189 : decode cX9_reads 189 = .ok (.iconst 1, 1) := by decide +kernel
theorem dX9_reads_190 : decode cX9_reads 190 = .ok (.iadd, 1) := by decide +kernel
theorem dX9_reads_191 : decode cX9_reads 191 = .ok (.putfield 74, 3) := by decide +kernel
theorem dX9_reads_194 : decode cX9_reads 194 = .ok (.goto (-49), 3) := by decide +kernel
theorem dX9_reads_197 : decode cX9_reads 197 = .ok (.return_, 1) := by decide +kernel
theorem dX9_number_0 : decode cX9_number 0 = .ok (.aload_n 0, 1) := by decide +kernel
theorem dX9_number_1 : decode cX9_number 1 = .ok (.bipush 49, 2) := by decide +kernel
theorem dX9_number_3 : decode cX9_number 3 = .ok (.bipush 57, 2) := by decide +kernel
theorem dX9_number_5 : decode cX9_number 5 = .ok (.invokevirtual 86, 3) := by decide +kernel
theorem dX9_number_8 : decode cX9_number 8 = .ok (.ifCond .ne 10, 3) := by decide +kernel
theorem dX9_number_11 : decode cX9_number 11 = .ok (.aload_n 0, 1) := by decide +kernel
theorem dX9_number_12 : decode cX9_number 12 = .ok (.iconst 0, 1) := by decide +kernel
theorem dX9_number_13 : decode cX9_number 13 = .ok (.putfield 70, 3) := by decide +kernel
theorem dX9_number_16 : decode cX9_number 16 = .ok (.iconst 0, 1) := by decide +kernel
theorem dX9_number_17 : decode cX9_number 17 = .ok (.ireturn, 1) := by decide +kernel
theorem dX9_number_18 : decode cX9_number 18 = .ok (.aload_n 0, 1) := by decide +kernel
theorem dX9_number_19 : decode cX9_number 19 = .ok (.getfield 13, 3) := by decide +kernel
theorem dX9_number_22 : decode cX9_number 22 = .ok (.aload_n 0, 1) := by decide +kernel
theorem dX9_number_23 : decode cX9_number 23 = .ok (.getfield 74, 3) := by decide +kernel
theorem dX9_number_26 : decode cX9_number 26 = .ok (.caload, 1) := by decide +kernel
theorem dX9_number_27 : decode cX9_number 27 = .ok (.bipush 48, 2) := by decide +kernel
theorem dX9_number_29 : decode cX9_number 29 = .ok (.isub, 1) := by decide +kernel
theorem dX9_number_30 : decode cX9_number 30 = .ok (.istore_n 1, 1) := by decide +kernel
theorem dX9_number_31 : decode cX9_number 31 = .ok (.aload_n 0, 1) := by decide +kernel
theorem dX9_number_32 : decode cX9_number 32 = .ok (.dup, 1) := by decide +kernel
theorem dX9_number_33 : decode cX9_number 33 = .ok (.getfield 74, 3) := by decide +kernel
theorem dX9_number_36 : decode cX9_number 36 = .ok (.iconst 1, 1) := by decide +kernel
theorem dX9_number_37 : decode cX9_number 37 = .ok (.iadd, 1) := by decide +kernel
theorem dX9_number_38 : decode cX9_number 38 = .ok (.putfield 74, 3) := by decide +kernel
theorem dX9_number_41 : decode cX9_number 41 = .ok (.iload_n 1, 1) := by decide +kernel
theorem dX9_number_42 : decode cX9_number 42 = .ok (.iconst 3, 1) := by decide +kernel
theorem dX9_number_43 : decode cX9_number 43 = .ok (.if_icmp .ge 52, 3) := by decide +kernel
theorem dX9_number_46 : decode cX9_number 46 = .ok (.aload_n 0, 1) := by decide +kernel
theorem dX9_number_47 : decode cX9_number 47 = .ok (.bipush 48, 2) := by decide +kernel
theorem dX9_number_49 : decode cX9_number 49 = .ok (.iload_n 1, 1) := by decide +kernel
theorem dX9_number_50 : decode cX9_number 50 = .ok (.iconst 1, 1) := by decide +kernel
theorem dX9_number_51 : decode cX9_number 51 = .ok (.if_icmp .ne 8, 3) := by decide +kernel
theorem dX9_number_54 : decode cX9_number 54 = .ok (.bipush 57, 2) := by decide +kernel
theorem dX9_number_56 : decode cX9_number 56 = .ok (.goto 5, 3) := by decide +kernel
theorem dX9_number_59 : decode cX9_number 59 = .ok (.bipush 52, 2) := by decide +kernel
theorem dX9_number_61 : decode cX9_number 61 = .ok (.invokevirtual 86, 3) := by decide +kernel
theorem dX9_number_64 : decode cX9_number 64 = .ok (.ifCond .eq 31, 3) := by decide +kernel
theorem dX9_number_67 : decode cX9_number 67 = .ok (.bipush 10, 2) := by decide +kernel
theorem dX9_number_69 : decode cX9_number 69 = .ok (.iload_n 1, 1) := by decide +kernel
theorem dX9_number_70 : decode cX9_number 70 = .ok (.imul, 1) := by decide +kernel
theorem dX9_number_71 : decode cX9_number 71 = .ok (.aload_n 0, 1) := by decide +kernel
theorem dX9_number_72 : decode cX9_number 72 = .ok (.getfield 13, 3) := by decide +kernel
theorem dX9_number_75 : decode cX9_number 75 = .ok (.aload_n 0, 1) := by decide +kernel
theorem dX9_number_76 : decode cX9_number 76 = .ok (.getfield 74, 3) := by decide +kernel
theorem dX9_number_79 : decode cX9_number 79 = .ok (.caload, 1) := by decide +kernel
theorem dX9_number_80 : decode cX9_number 80 = .ok (.iadd, 1) := by decide +kernel
theorem dX9_number_81 : decode cX9_number 81 = .ok (.bipush 48, 2) := by decide +kernel
theorem dX9_number_83 : decode cX9_number 83 = .ok (.isub, 1) := by decide +kernel
theorem dX9_number_84 : decode cX9_number 84 = .ok (.istore_n 1, 1) := by decide +kernel
theorem dX9_number_85 : decode cX9_number 85 = .ok (.aload_n 0, 1) := by decide +kernel
theorem dX9_number_86 : decode cX9_number 86 = .ok (.dup, 1) := by decide +kernel
theorem dX9_number_87 : decode cX9_number 87 = .ok (.getfield 74, 3) := by decide +kernel
theorem dX9_number_90 : decode cX9_number 90 = .ok (.iconst 1, 1) := by decide +kernel
theorem dX9_number_91 : decode cX9_number 91 = .ok (.iadd, 1) := by decide +kernel
theorem dX9_number_92 : decode cX9_number 92 = .ok (.putfield 74, 3) := by decide +kernel
theorem dX9_number_95 : decode cX9_number 95 = .ok (.iload_n 1, 1) := by decide +kernel
theorem dX9_number_96 : decode cX9_number 96 = .ok (.ireturn, 1) := by decide +kernel
theorem dX9_item_0 : decode cX9_item 0 = .ok (.aload_n 0, 1) := by decide +kernel
theorem dX9_item_1 : decode cX9_item 1 = .ok (.iload_n 1, 1) := by decide +kernel
theorem dX9_item_2 : decode cX9_item 2 = .ok (.invokevirtual 90, 3) := by decide +kernel
theorem dX9_item_5 : decode cX9_item 5 = .ok (.iconst 4, 1) := by decide +kernel
theorem dX9_item_6 : decode cX9_item 6 = .ok (.aload_n 0, 1) := by decide +kernel
theorem dX9_item_7 : decode cX9_item 7 = .ok (.getfield 94, 3) := by decide +kernel
theorem dX9_item_10 : decode cX9_item 10 = .ok (.imul, 1) := by decide +kernel
theorem dX9_item_11 : decode cX9_item 11 = .ok (.istore_n 2, 1) := by decide +kernel
theorem dX9_item_12 : decode cX9_item 12 = .ok (.aload_n 0, 1) := by decide +kernel
theorem dX9_item_13 : decode cX9_item 13 = .ok (.getfield 17, 3) := by decide +kernel
theorem dX9_item_16 : decode cX9_item 16 = .ok (.iload_n 2, 1) := by decide +kernel
theorem dX9_item_17 : decode cX9_item 17 = .ok (.aload_n 0, 1) := by decide +kernel
theorem dX9_item_18 : decode cX9_item 18 = .ok (.getfield 80, 3) := by decide +kernel
theorem dX9_item_21 : decode cX9_item 21 = .ok (.iastore, 1) := by decide +kernel
theorem dX9_item_22 : decode cX9_item 22 = .ok (.aload_n 0, 1) := by decide +kernel
theorem dX9_item_23 : decode cX9_item 23 = .ok (.getfield 17, 3) := by decide +kernel
theorem dX9_item_26 : decode cX9_item 26 = .ok (.iload_n 2, 1) := by decide +kernel
theorem dX9_item_27 : decode cX9_item 27 = .ok (.iconst 1, 1) := by decide +kernel
theorem dX9_item_28 : decode cX9_item 28 = .ok (.iadd, 1) := by decide +kernel
theorem dX9_item_29 : decode cX9_item 29 = .ok (.aload_n 0, 1) := by decide +kernel
theorem dX9_item_30 : decode cX9_item 30 = .ok (.getfield 83, 3) := by decide +kernel
theorem dX9_item_33 : decode cX9_item 33 = .ok (.iastore, 1) := by decide +kernel
theorem dX9_item_34 : decode cX9_item 34 = .ok (.aload_n 0, 1) := by decide +kernel
theorem dX9_item_35 : decode cX9_item 35 = .ok (.getfield 17, 3) := by decide +kernel
theorem dX9_item_38 : decode cX9_item 38 = .ok (.iload_n 2, 1) := by decide +kernel
theorem dX9_item_39 : decode cX9_item 39 = .ok (.iconst 2, 1) := by decide +kernel
theorem dX9_item_40 : decode cX9_item 40 = .ok (.iadd, 1) := by decide +kernel
theorem dX9_item_41 : decode cX9_item 41 = .ok (.aload_n 0, 1) := by decide +kernel
theorem dX9_item_42 : decode cX9_item 42 = .ok (.getfield 83, 3) := by decide +kernel
theorem dX9_item_45 : decode cX9_item 45 = .ok (.iastore, 1) := by decide +kernel
theorem dX9_item_46 : decode cX9_item 46 = .ok (.iload_n 1, 1) := by decide +kernel
theorem dX9_item_47 : decode cX9_item 47 = .ok (.ifCond .eq 130, 3) := by decide +kernel
theorem dX9_item_50 : decode cX9_item 50 = .ok (.aload_n 0, 1) := by decide +kernel
theorem dX9_item_51 : decode cX9_item 51 = .ok (.getfield 83, 3) := by decide +kernel
theorem dX9_item_54 : decode cX9_item 54 = .ok (.ifCond .lt 123, 3) := by decide +kernel
theorem dX9_item_57 : decode cX9_item 57 = .ok (.aload_n 0, 1) := by decide +kernel
theorem dX9_item_58 : decode cX9_item 58 = .ok (.bipush 45, 2) := by decide +kernel
theorem dX9_item_60 : decode cX9_item 60 = .ok (.bipush 45, 2) := by decide +kernel
theorem dX9_item_62 : decode cX9_item 62 = .ok (.invokevirtual 86, 3) := by decide +kernel
theorem dX9_item_65 : decode cX9_item 65 = .ok (.ifCond .eq 112, 3) := by decide +kernel
theorem dX9_item_68 : decode cX9_item 68 = .ok (.aload_n 0, 1) := by decide +kernel
theorem dX9_item_69 : decode cX9_item 69 = .ok (.dup, 1) := by decide +kernel
theorem dX9_item_70 : decode cX9_item 70 = .ok (.getfield 74, 3) := by decide +kernel
theorem dX9_item_73 : decode cX9_item 73 = .ok (.iconst 1, 1) := by decide +kernel
theorem dX9_item_74 : decode cX9_item 74 = .ok (.iadd, 1) := by decide +kernel
theorem dX9_item_75 : decode cX9_item 75 = .ok (.putfield 74, 3) := by decide +kernel
theorem dX9_item_78 : decode cX9_item 78 = .ok (.aload_n 0, 1) := by decide +kernel
theorem dX9_item_79 : decode cX9_item 79 = .ok (.iconst 1, 1) := by decide +kernel
theorem dX9_item_80 : decode cX9_item 80 = .ok (.invokevirtual 90, 3) := by decide +kernel
theorem dX9_item_83 : decode cX9_item 83 = .ok (.aload_n 0, 1) := by decide +kernel
theorem dX9_item_84 : decode cX9_item 84 = .ok (.getfield 70, 3) := by decide +kernel
theorem dX9_item_87 : decode cX9_item 87 = .ok (.ifCond .eq 28, 3) := by decide +kernel
theorem dX9_item_90 : decode cX9_item 90 = .ok (.aload_n 0, 1) := by decide +kernel
theorem dX9_item_91 : decode cX9_item 91 = .ok (.getfield 83, 3) := by decide +kernel
theorem dX9_item_94 : decode cX9_item 94 = .ok (.ifCond .ge 21, 3) := by decide +kernel
theorem dX9_item_97 : decode cX9_item 97 = .ok (.aload_n 0, 1) := by decide +kernel
theorem dX9_item_98 : decode cX9_item 98 = .ok (.dup, 1) := by decide +kernel
theorem dX9_item_99 : decode cX9_item 99 = .ok (.getfield 74, 3) := by decide +kernel
theorem dX9_item_102 : decode cX9_item 102 = .ok (.aload_n 0, 1) := by decide +kernel
theorem dX9_item_103 : decode cX9_item 103 = .ok (.getfield 80, 3) := by decide +kernel
theorem dX9_item_106 : decode cX9_item 106 = .ok (.isub, 1) := by decide +kernel
theorem dX9_item_107 : decode cX9_item 107 = .ok (.putfield 74, 3) := by decide +kernel
theorem dX9_item_110 : decode cX9_item 110 = .ok (.aload_n 0, 1) := by decide +kernel
theorem dX9_item_111 : decode cX9_item 111 = .ok (.iconst 0, 1) := by decide +kernel
theorem dX9_item_112 : decode cX9_item 112 = .ok (.putfield 70, 3) := by decide +kernel
theorem dX9_item_115 : decode cX9_item 115 = .ok (.aload_n 0, 1) := by decide +kernel
theorem dX9_item_116 : decode cX9_item 116 = .ok (.getfield 70, 3) := by decide +kernel
theorem dX9_item_119 : decode cX9_item 119 = .ok (.ifCond .eq 46, 3) := by decide +kernel
theorem dX9_item_122 : decode cX9_item 122 = .ok (.aload_n 0, 1) := by decide +kernel
theorem dX9_item_123 : decode cX9_item 123 = .ok (.getfield 80, 3) := by decide +kernel
theorem dX9_item_126 : decode cX9_item 126 = .ok (.aload_n 0, 1) := by decide +kernel
theorem dX9_item_127 : decode cX9_item 127 = .ok (.getfield 17, 3) := by decide +kernel
theorem dX9_item_130 : decode cX9_item 130 = .ok (.iload_n 2, 1) := by decide +kernel
theorem dX9_item_131 : decode cX9_item 131 = .ok (.iaload, 1) := by decide +kernel
theorem dX9_item_132 : decode cX9_item 132 = .ok (.if_icmp .ne 18, 3) := by decide +kernel
theorem dX9_item_135 : decode cX9_item 135 = .ok (.aload_n 0, 1) := by decide +kernel
theorem dX9_item_136 : decode cX9_item 136 = .ok (.getfield 83, 3) := by decide +kernel
theorem dX9_item_139 : decode cX9_item 139 = .ok (.aload_n 0, 1) := by decide +kernel
theorem dX9_item_140 : decode cX9_item 140 = .ok (.getfield 17, 3) := by decide +kernel
theorem dX9_item_143 : decode cX9_item 143 = .ok (.iload_n 2, 1) := by decide +kernel
theorem dX9_item_144 : decode cX9_item 144 = .ok (.iconst 1, 1) := by decide +kernel
theorem dX9_item_145 : decode cX9_item 145 = .ok (.iadd, 1) := by decide +kernel
theorem dX9_item_146 : decode cX9_item 146 = .ok (.iaload, 1) := by decide +kernel
theorem dX9_item_147 : decode cX9_item 147 = .ok (.if_icmp .ge 18, 3) := by decide +kernel
theorem dX9_item_150 : decode cX9_item 150 = .ok (.aload_n 0, 1) := by decide +kernel
theorem dX9_item_151 : decode cX9_item 151 = .ok (.dup, 1) := by decide +kernel
theorem dX9_item_152 : decode cX9_item 152 = .ok (.getfield 74, 3) := by decide +kernel
theorem dX9_item_155 : decode cX9_item 155 = .ok (.iconst 1, 1) := by decide +kernel
theorem dX9_item_156 : decode cX9_item 156 = .ok (.isub, 1) := by decide +kernel
theorem dX9_item_157 : decode cX9_item 157 = .ok (.putfield 74, 3) := by decide +kernel
theorem dX9_item_160 : decode cX9_item 160 = .ok (.aload_n 0, 1) := by decide +kernel
theorem dX9_item_161 : decode cX9_item 161 = .ok (.iconst 0, 1) := by decide +kernel
theorem dX9_item_162 : decode cX9_item 162 = .ok (.putfield 70, 3) := by decide +kernel
theorem dX9_item_165 : decode cX9_item 165 = .ok (.aload_n 0, 1) := by decide +kernel
theorem dX9_item_166 : decode cX9_item 166 = .ok (.getfield 17, 3) := by decide +kernel
theorem dX9_item_169 : decode cX9_item 169 = .ok (.iload_n 2, 1) := by decide +kernel
theorem dX9_item_170 : decode cX9_item 170 = .ok (.iconst 2, 1) := by decide +kernel
theorem dX9_item_171 : decode cX9_item 171 = .ok (.iadd, 1) := by decide +kernel
theorem dX9_item_172 : decode cX9_item 172 = .ok (.aload_n 0, 1) := by decide +kernel
theorem dX9_item_173 : decode cX9_item 173 = .ok (.getfield 83, 3) := by decide +kernel
theorem dX9_item_176 : decode cX9_item 176 = .ok (.iastore, 1) := by decide +kernel
theorem dX9_item_177 : decode cX9_item 177 = .ok (.aload_n 0, 1) := by decide +kernel
theorem dX9_item_178 : decode cX9_item 178 = .ok (.getfield 17, 3) := by decide +kernel
theorem dX9_item_181 : decode cX9_item 181 = .ok (.iload_n 2, 1) := by decide +kernel
theorem dX9_item_182 : decode cX9_item 182 = .ok (.iconst 3, 1) := by decide +kernel
theorem dX9_item_183 : decode cX9_item 183 = .ok (.iadd, 1) := by decide +kernel
theorem dX9_item_184 : decode cX9_item 184 = .ok (.aload_n 0, 1) := by decide +kernel
theorem dX9_item_185 : decode cX9_item 185 = .ok (.getfield 70, 3) := by decide +kernel
theorem dX9_item_188 : decode cX9_item 188 = .ok (.ifCond .eq 10, 3) := by decide +kernel
theorem dX9_item_191 : decode cX9_item 191 = .ok (.aload_n 0, 1) := by decide +kernel
theorem dX9_item_192 : decode cX9_item 192 = .ok (.invokevirtual 97, 3) := by decide +kernel
theorem dX9_item_195 : decode cX9_item 195 = .ok (.goto 4, 3) := by decide +kernel
theorem dX9_item_198 : decode cX9_item 198 = .ok (.iconst 0, 1) := by decide +kernel
theorem dX9_item_199 : decode cX9_item 199 = .ok (.iastore, 1) := by decide +kernel
theorem dX9_item_200 : decode cX9_item 200 = .ok (.aload_n 0, 1) := by decide +kernel
theorem dX9_item_201 : decode cX9_item 201 = .ok (.dup, 1) := by decide +kernel
theorem dX9_item_202 : decode cX9_item 202 = .ok (.getfield 94, 3) := by decide +kernel
theorem dX9_item_205 : decode cX9_item 205 = .ok (.iconst 1, 1) := by decide +kernel
theorem dX9_item_206 : decode cX9_item 206 = .ok (.iadd, 1) := by decide +kernel
theorem dX9_item_207 : decode cX9_item 207 = .ok (.putfield 94, 3) := by decide +kernel
theorem dX9_item_210 : decode cX9_item 210 = .ok (.return_, 1) := by decide +kernel
theorem dX9_fault_0 : decode cX9_fault 0 = .ok (.aload_n 0, 1) := by decide +kernel
theorem dX9_fault_1 : decode cX9_fault 1 = .ok (.iconst 0, 1) := by decide +kernel
theorem dX9_fault_2 : decode cX9_fault 2 = .ok (.putfield 74, 3) := by decide +kernel
theorem dX9_fault_5 : decode cX9_fault 5 = .ok (.aload_n 0, 1) := by decide +kernel
theorem dX9_fault_6 : decode cX9_fault 6 = .ok (.iconst 1, 1) := by decide +kernel
theorem dX9_fault_7 : decode cX9_fault 7 = .ok (.putfield 70, 3) := by decide +kernel
theorem dX9_fault_10 : decode cX9_fault 10 = .ok (.aload_n 0, 1) := by decide +kernel
theorem dX9_fault_11 : decode cX9_fault 11 = .ok (.iconst 0, 1) := by decide +kernel
theorem dX9_fault_12 : decode cX9_fault 12 = .ok (.putfield 94, 3) := by decide +kernel
theorem dX9_fault_15 : decode cX9_fault 15 = .ok (.iconst 1, 1) := by decide +kernel
theorem dX9_fault_16 : decode cX9_fault 16 = .ok (.istore_n 2, 1) := by decide +kernel
theorem dX9_fault_17 : decode cX9_fault 17 = .ok (.iload_n 2, 1) := by decide +kernel
theorem dX9_fault_18 : decode cX9_fault 18 = .ok (.ifCond .eq 88, 3) := by decide +kernel
theorem dX9_fault_21 : decode cX9_fault 21 = .ok (.aload_n 0, 1) := by decide +kernel
theorem dX9_fault_22 : decode cX9_fault 22 = .ok (.iload_n 1, 1) := by decide +kernel
theorem dX9_fault_23 : decode cX9_fault 23 = .ok (.invokevirtual 100, 3) := by decide +kernel
theorem dX9_fault_26 : decode cX9_fault 26 = .ok (.aload_n 0, 1) := by decide +kernel
theorem dX9_fault_27 : decode cX9_fault 27 = .ok (.getfield 70, 3) := by decide +kernel
theorem dX9_fault_30 : decode cX9_fault 30 = .ok (.ifCond .eq 18, 3) := by decide +kernel
theorem dX9_fault_33 : decode cX9_fault 33 = .ok (.aload_n 0, 1) := by decide +kernel
theorem dX9_fault_34 : decode cX9_fault 34 = .ok (.getfield 74, 3) := by decide +kernel
theorem dX9_fault_37 : decode cX9_fault 37 = .ok (.aload_n 0, 1) := by decide +kernel
theorem dX9_fault_38 : decode cX9_fault 38 = .ok (.getfield 77, 3) := by decide +kernel
theorem dX9_fault_41 : decode cX9_fault 41 = .ok (.if_icmp .ge 7, 3) := by decide +kernel
theorem dX9_fault_44 : decode cX9_fault 44 = .ok (.iconst 1, 1) := by decide +kernel
theorem dX9_fault_45 : decode cX9_fault 45 = .ok (.goto 4, 3) := by decide +kernel
theorem dX9_fault_48 : decode cX9_fault 48 = .ok (.iconst 0, 1) := by decide +kernel
theorem dX9_fault_49 : decode cX9_fault 49 = .ok (.istore_n 2, 1) := by decide +kernel
theorem dX9_fault_50 : decode cX9_fault 50 = .ok (.iload_n 2, 1) := by decide +kernel
theorem dX9_fault_51 : decode cX9_fault 51 = .ok (.ifCond .eq (-34), 3) := by decide +kernel
theorem dX9_fault_54 : decode cX9_fault 54 = .ok (.aload_n 0, 1) := by decide +kernel
theorem dX9_fault_55 : decode cX9_fault 55 = .ok (.aload_n 0, 1) := by decide +kernel
theorem dX9_fault_56 : decode cX9_fault 56 = .ok (.getfield 13, 3) := by decide +kernel
theorem dX9_fault_59 : decode cX9_fault 59 = .ok (.aload_n 0, 1) := by decide +kernel
theorem dX9_fault_60 : decode cX9_fault 60 = .ok (.getfield 74, 3) := by decide +kernel
theorem dX9_fault_63 : decode cX9_fault 63 = .ok (.caload, 1) := by decide +kernel
theorem dX9_fault_64 : decode cX9_fault 64 = .ok (.bipush 44, 2) := by decide +kernel
theorem dX9_fault_66 : decode cX9_fault 66 = .ok (.if_icmp .ne 7, 3) := by decide +kernel
theorem dX9_fault_69 : decode cX9_fault 69 = .ok (.iconst 1, 1) := by decide +kernel
theorem dX9_fault_70 : decode cX9_fault 70 = .ok (.goto 4, 3) := by decide +kernel
theorem dX9_fault_73 : decode cX9_fault 73 = .ok (.iconst 0, 1) := by decide +kernel
theorem dX9_fault_74 : decode cX9_fault 74 = .ok (.putfield 70, 3) := by decide +kernel
theorem dX9_fault_77 : decode cX9_fault 77 = .ok (.aload_n 0, 1) := by decide +kernel
theorem dX9_fault_78 : decode cX9_fault 78 = .ok (.dup, 1) := by decide +kernel
theorem dX9_fault_79 : decode cX9_fault 79 = .ok (.getfield 74, 3) := by decide +kernel
theorem dX9_fault_82 : decode cX9_fault 82 = .ok (.aload_n 0, 1) := by decide +kernel
theorem dX9_fault_83 : decode cX9_fault 83 = .ok (.getfield 70, 3) := by decide +kernel
theorem dX9_fault_86 : decode cX9_fault 86 = .ok (.ifCond .eq 7, 3) := by decide +kernel
theorem dX9_fault_89 : decode cX9_fault 89 = .ok (.iconst 1, 1) := by decide +kernel
theorem dX9_fault_90 : decode cX9_fault 90 = .ok (.goto 4, 3) := by decide +kernel
theorem dX9_fault_93 : decode cX9_fault 93 = .ok (.iconst 0, 1) := by decide +kernel
theorem dX9_fault_94 : decode cX9_fault 94 = .ok (.iadd, 1) := by decide +kernel
theorem dX9_fault_95 : decode cX9_fault 95 = .ok (.putfield 74, 3) := by decide +kernel
theorem dX9_fault_98 : decode cX9_fault 98 = .ok (.aload_n 0, 1) := by decide +kernel
theorem dX9_fault_99 : decode cX9_fault 99 = .ok (.getfield 70, 3) := by decide +kernel
theorem dX9_fault_102 : decode cX9_fault 102 = .ok (.istore_n 2, 1) := by decide +kernel
theorem dX9_fault_103 : decode cX9_fault 103 = .ok (.goto (-86), 3) := by decide +kernel
theorem dX9_fault_106 : decode cX9_fault 106 = .ok (.aload_n 0, 1) := by decide +kernel
theorem dX9_fault_107 : decode cX9_fault 107 = .ok (.getfield 70, 3) := by decide +kernel
theorem dX9_fault_110 : decode cX9_fault 110 = .ok (.ifCond .eq 7, 3) := by decide +kernel
theorem dX9_fault_113 : decode cX9_fault 113 = .ok (.iconst (-1), 1) := by decide +kernel
theorem dX9_fault_114 : decode cX9_fault 114 = .ok (.goto 7, 3) := by decide +kernel
theorem dX9_fault_117 : decode cX9_fault 117 = .ok (.aload_n 0, 1) := by decide +kernel
theorem dX9_fault_118 : decode cX9_fault 118 = .ok (.getfield 74, 3) := by decide +kernel
theorem dX9_fault_121 : decode cX9_fault 121 = .ok (.ireturn, 1) := by decide +kernel
theorem dX9_readFormula_0 : decode cX9_readFormula 0 = .ok (.aload_n 0, 1) := by decide +kernel
theorem dX9_readFormula_1 : decode cX9_readFormula 1 = .ok (.iconst 1, 1) := by decide +kernel
theorem dX9_readFormula_2 : decode cX9_readFormula 2 = .ok (.invokevirtual 103, 3) := by decide +kernel
theorem dX9_readFormula_5 : decode cX9_readFormula 5 = .ok (.istore_n 1, 1) := by decide +kernel
theorem dX9_readFormula_6 : decode cX9_readFormula 6 = .ok (.iload_n 1, 1) := by decide +kernel
theorem dX9_readFormula_7 : decode cX9_readFormula 7 = .ok (.ifCond .lt 8, 3) := by decide +kernel
theorem dX9_readFormula_10 : decode cX9_readFormula 10 = .ok (.bipush (-100), 2) := by decide +kernel
theorem dX9_readFormula_12 : decode cX9_readFormula 12 = .ok (.iload_n 1, 1) := by decide +kernel
theorem dX9_readFormula_13 : decode cX9_readFormula 13 = .ok (.isub, 1) := by decide +kernel
theorem dX9_readFormula_14 : decode cX9_readFormula 14 = .ok (.ireturn, 1) := by decide +kernel
theorem dX9_readFormula_15 : decode cX9_readFormula 15 = .ok (.iconst 0, 1) := by decide +kernel
theorem dX9_readFormula_16 : decode cX9_readFormula 16 = .ok (.istore_n 2, 1) := by decide +kernel
theorem dX9_readFormula_17 : decode cX9_readFormula 17 = .ok (.iconst 0, 1) := by decide +kernel
theorem dX9_readFormula_18 : decode cX9_readFormula 18 = .ok (.istore_n 3, 1) := by decide +kernel
theorem dX9_readFormula_19 : decode cX9_readFormula 19 = .ok (.iload_n 3, 1) := by decide +kernel
theorem dX9_readFormula_20 : decode cX9_readFormula 20 = .ok (.aload_n 0, 1) := by decide +kernel
theorem dX9_readFormula_21 : decode cX9_readFormula 21 = .ok (.getfield 94, 3) := by decide +kernel
theorem dX9_readFormula_24 : decode cX9_readFormula 24 = .ok (.if_icmp .ge 64, 3) := by decide +kernel
theorem dX9_readFormula_27 : decode cX9_readFormula 27 = .ok (.aload_n 0, 1) := by decide +kernel
theorem dX9_readFormula_28 : decode cX9_readFormula 28 = .ok (.getfield 17, 3) := by decide +kernel
theorem dX9_readFormula_31 : decode cX9_readFormula 31 = .ok (.iconst 4, 1) := by decide +kernel
theorem dX9_readFormula_32 : decode cX9_readFormula 32 = .ok (.iload_n 3, 1) := by decide +kernel
theorem dX9_readFormula_33 : decode cX9_readFormula 33 = .ok (.imul, 1) := by decide +kernel
theorem dX9_readFormula_34 : decode cX9_readFormula 34 = .ok (.iconst 1, 1) := by decide +kernel
theorem dX9_readFormula_35 : decode cX9_readFormula 35 = .ok (.iadd, 1) := by decide +kernel
theorem dX9_readFormula_36 : decode cX9_readFormula 36 = .ok (.iaload, 1) := by decide +kernel
theorem dX9_readFormula_37 : decode cX9_readFormula 37 = .ok (.istore 4, 2) := by decide +kernel
theorem dX9_readFormula_39 : decode cX9_readFormula 39 = .ok (.iload 4, 2) := by decide +kernel
theorem dX9_readFormula_41 : decode cX9_readFormula 41 = .ok (.aload_n 0, 1) := by decide +kernel
theorem dX9_readFormula_42 : decode cX9_readFormula 42 = .ok (.getfield 17, 3) := by decide +kernel
theorem dX9_readFormula_45 : decode cX9_readFormula 45 = .ok (.iconst 4, 1) := by decide +kernel
theorem dX9_readFormula_46 : decode cX9_readFormula 46 = .ok (.iload_n 3, 1) := by decide +kernel
theorem dX9_readFormula_47 : decode cX9_readFormula 47 = .ok (.imul, 1) := by decide +kernel
theorem dX9_readFormula_48 : decode cX9_readFormula 48 = .ok (.iconst 2, 1) := by decide +kernel
theorem dX9_readFormula_49 : decode cX9_readFormula 49 = .ok (.iadd, 1) := by decide +kernel
theorem dX9_readFormula_50 : decode cX9_readFormula 50 = .ok (.iaload, 1) := by decide +kernel
theorem dX9_readFormula_51 : decode cX9_readFormula 51 = .ok (.if_icmp .gt 31, 3) := by decide +kernel
theorem dX9_readFormula_54 : decode cX9_readFormula 54 = .ok (.iload_n 2, 1) := by decide +kernel
theorem dX9_readFormula_55 : decode cX9_readFormula 55 = .ok (.iload 4, 2) := by decide +kernel
theorem dX9_readFormula_57 : decode cX9_readFormula 57 = .ok (.ifCond .lt 12, 3) := by decide +kernel
theorem dX9_readFormula_60 : decode cX9_readFormula 60 = .ok (.aload_n 0, 1) := by decide +kernel
theorem dX9_readFormula_61 : decode cX9_readFormula 61 = .ok (.iload 4, 2) := by decide +kernel
theorem dX9_readFormula_63 : decode cX9_readFormula 63 = .ok (.invokevirtual 32, 3) := by decide +kernel
theorem dX9_readFormula_66 : decode cX9_readFormula 66 = .ok (.ifCond .ne 7, 3) := by decide +kernel
theorem dX9_readFormula_69 : decode cX9_readFormula 69 = .ok (.iconst 1, 1) := by decide +kernel
theorem dX9_readFormula_70 : decode cX9_readFormula 70 = .ok (.goto 4, 3) := by decide +kernel
theorem dX9_readFormula_73 : decode cX9_readFormula 73 = .ok (.iconst 0, 1) := by decide +kernel
theorem dX9_readFormula_74 : decode cX9_readFormula 74 = .ok (.iadd, 1) := by decide +kernel
theorem dX9_readFormula_75 : decode cX9_readFormula 75 = .ok (.istore_n 2, 1) := by decide +kernel
theorem dX9_readFormula_76 : decode cX9_readFormula 76 = .ok (.iinc 4 1, 3) := by decide +kernel
theorem dX9_readFormula_79 : decode cX9_readFormula 79 = .ok (.goto (-40), 3) := by decide +kernel
theorem dX9_readFormula_82 : decode cX9_readFormula 82 = .ok (.iinc 3 1, 3) := by decide +kernel
theorem dX9_readFormula_85 : decode cX9_readFormula 85 = .ok (.goto (-66), 3) := by decide +kernel
theorem dX9_readFormula_88 : decode cX9_readFormula 88 = .ok (.iload_n 2, 1) := by decide +kernel
theorem dX9_readFormula_89 : decode cX9_readFormula 89 = .ok (.bipush 40, 2) := by decide +kernel
theorem dX9_readFormula_91 : decode cX9_readFormula 91 = .ok (.aload_n 0, 1) := by decide +kernel
theorem dX9_readFormula_92 : decode cX9_readFormula 92 = .ok (.getfield 7, 3) := by decide +kernel
theorem dX9_readFormula_95 : decode cX9_readFormula 95 = .ok (.iconst 2, 1) := by decide +kernel
theorem dX9_readFormula_96 : decode cX9_readFormula 96 = .ok (.iaload, 1) := by decide +kernel
theorem dX9_readFormula_97 : decode cX9_readFormula 97 = .ok (.isub, 1) := by decide +kernel
theorem dX9_readFormula_98 : decode cX9_readFormula 98 = .ok (.if_icmp .le 6, 3) := by decide +kernel
theorem dX9_readFormula_101 : decode cX9_readFormula 101 = .ok (.bipush (-3), 2) := by decide +kernel
theorem dX9_readFormula_103 : decode cX9_readFormula 103 = .ok (.ireturn, 1) := by decide +kernel
theorem dX9_readFormula_104 : decode cX9_readFormula 104 = .ok (.aload_n 0, 1) := by decide +kernel
theorem dX9_readFormula_105 : decode cX9_readFormula 105 = .ok (.invokevirtual 64, 3) := by decide +kernel
theorem dX9_readFormula_108 : decode cX9_readFormula 108 = .ok (.iconst 0, 1) := by decide +kernel
theorem dX9_readFormula_109 : decode cX9_readFormula 109 = .ok (.istore_n 3, 1) := by decide +kernel
theorem dX9_readFormula_110 : decode cX9_readFormula 110 = .ok (.iload_n 3, 1) := by decide +kernel
theorem dX9_readFormula_111 : decode cX9_readFormula 111 = .ok (.aload_n 0, 1) := by decide +kernel
theorem dX9_readFormula_112 : decode cX9_readFormula 112 = .ok (.getfield 94, 3) := by decide +kernel
theorem dX9_readFormula_115 : decode cX9_readFormula 115 = .ok (.if_icmp .ge 86, 3) := by decide +kernel
theorem dX9_readFormula_118 : decode cX9_readFormula 118 = .ok (.aload_n 0, 1) := by decide +kernel
theorem dX9_readFormula_119 : decode cX9_readFormula 119 = .ok (.getfield 17, 3) := by decide +kernel
theorem dX9_readFormula_122 : decode cX9_readFormula 122 = .ok (.iconst 4, 1) := by decide +kernel
theorem dX9_readFormula_123 : decode cX9_readFormula 123 = .ok (.iload_n 3, 1) := by decide +kernel
theorem dX9_readFormula_124 : decode cX9_readFormula 124 = .ok (.imul, 1) := by decide +kernel
theorem dX9_readFormula_125 : decode cX9_readFormula 125 = .ok (.iconst 1, 1) := by decide +kernel
theorem dX9_readFormula_126 : decode cX9_readFormula 126 = .ok (.iadd, 1) := by decide +kernel
theorem dX9_readFormula_127 : decode cX9_readFormula 127 = .ok (.iaload, 1) := by decide +kernel
theorem dX9_readFormula_128 : decode cX9_readFormula 128 = .ok (.istore 4, 2) := by decide +kernel
theorem dX9_readFormula_130 : decode cX9_readFormula 130 = .ok (.iload 4, 2) := by decide +kernel
theorem dX9_readFormula_132 : decode cX9_readFormula 132 = .ok (.aload_n 0, 1) := by decide +kernel
theorem dX9_readFormula_133 : decode cX9_readFormula 133 = .ok (.getfield 17, 3) := by decide +kernel
theorem dX9_readFormula_136 : decode cX9_readFormula 136 = .ok (.iconst 4, 1) := by decide +kernel
theorem dX9_readFormula_137 : decode cX9_readFormula 137 = .ok (.iload_n 3, 1) := by decide +kernel
theorem dX9_readFormula_138 : decode cX9_readFormula 138 = .ok (.imul, 1) := by decide +kernel
theorem dX9_readFormula_139 : decode cX9_readFormula 139 = .ok (.iconst 2, 1) := by decide +kernel
theorem dX9_readFormula_140 : decode cX9_readFormula 140 = .ok (.iadd, 1) := by decide +kernel
theorem dX9_readFormula_141 : decode cX9_readFormula 141 = .ok (.iaload, 1) := by decide +kernel
theorem dX9_readFormula_142 : decode cX9_readFormula 142 = .ok (.if_icmp .gt 53, 3) := by decide +kernel
theorem dX9_readFormula_145 : decode cX9_readFormula 145 = .ok (.iload 4, 2) := by decide +kernel
theorem dX9_readFormula_147 : decode cX9_readFormula 147 = .ok (.ifCond .lt 12, 3) := by decide +kernel
theorem dX9_readFormula_150 : decode cX9_readFormula 150 = .ok (.aload_n 0, 1) := by decide +kernel
theorem dX9_readFormula_151 : decode cX9_readFormula 151 = .ok (.iload 4, 2) := by decide +kernel
theorem dX9_readFormula_153 : decode cX9_readFormula 153 = .ok (.invokevirtual 32, 3) := by decide +kernel
theorem dX9_readFormula_156 : decode cX9_readFormula 156 = .ok (.ifCond .ne 33, 3) := by decide +kernel
theorem dX9_readFormula_159 : decode cX9_readFormula 159 = .ok (.aload_n 0, 1) := by decide +kernel
theorem dX9_readFormula_160 : decode cX9_readFormula 160 = .ok (.aload_n 0, 1) := by decide +kernel
theorem dX9_readFormula_161 : decode cX9_readFormula 161 = .ok (.getfield 7, 3) := by decide +kernel
theorem dX9_readFormula_164 : decode cX9_readFormula 164 = .ok (.iconst 2, 1) := by decide +kernel
theorem dX9_readFormula_165 : decode cX9_readFormula 165 = .ok (.iaload, 1) := by decide +kernel
theorem dX9_readFormula_166 : decode cX9_readFormula 166 = .ok (.aload_n 0, 1) := by decide +kernel
theorem dX9_readFormula_167 : decode cX9_readFormula 167 = .ok (.getfield 17, 3) := by decide +kernel
theorem dX9_readFormula_170 : decode cX9_readFormula 170 = .ok (.iconst 4, 1) := by decide +kernel
theorem dX9_readFormula_171 : decode cX9_readFormula 171 = .ok (.iload_n 3, 1) := by decide +kernel
theorem dX9_readFormula_172 : decode cX9_readFormula 172 = .ok (.imul, 1) := by decide +kernel
theorem dX9_readFormula_173 : decode cX9_readFormula 173 = .ok (.iaload, 1) := by decide +kernel
theorem dX9_readFormula_174 : decode cX9_readFormula 174 = .ok (.iload 4, 2) := by decide +kernel
theorem dX9_readFormula_176 : decode cX9_readFormula 176 = .ok (.aload_n 0, 1) := by decide +kernel
theorem dX9_readFormula_177 : decode cX9_readFormula 177 = .ok (.getfield 17, 3) := by decide +kernel
theorem dX9_readFormula_180 : decode cX9_readFormula 180 = .ok (.iconst 4, 1) := by decide +kernel
theorem dX9_readFormula_181 : decode cX9_readFormula 181 = .ok (.iload_n 3, 1) := by decide +kernel
theorem dX9_readFormula_182 : decode cX9_readFormula 182 = .ok (.imul, 1) := by decide +kernel
theorem dX9_readFormula_183 : decode cX9_readFormula 183 = .ok (.iconst 3, 1) := by decide +kernel
theorem dX9_readFormula_184 : decode cX9_readFormula 184 = .ok (.iadd, 1) := by decide +kernel
theorem dX9_readFormula_185 : decode cX9_readFormula 185 = .ok (.iaload, 1) := by decide +kernel
theorem dX9_readFormula_186 : decode cX9_readFormula 186 = .ok (.invokevirtual 107, 3) := by decide +kernel
theorem dX9_readFormula_189 : decode cX9_readFormula 189 = .ok (.iinc 4 1, 3) := by decide +kernel
theorem dX9_readFormula_192 : decode cX9_readFormula 192 = .ok (.goto (-62), 3) := by decide +kernel
theorem dX9_readFormula_195 : decode cX9_readFormula 195 = .ok (.iinc 3 1, 3) := by decide +kernel
theorem dX9_readFormula_198 : decode cX9_readFormula 198 = .ok (.goto (-88), 3) := by decide +kernel
theorem dX9_readFormula_201 : decode cX9_readFormula 201 = .ok (.aload_n 0, 1) := by decide +kernel
theorem dX9_readFormula_202 : decode cX9_readFormula 202 = .ok (.getfield 7, 3) := by decide +kernel
theorem dX9_readFormula_205 : decode cX9_readFormula 205 = .ok (.iconst 2, 1) := by decide +kernel
theorem dX9_readFormula_206 : decode cX9_readFormula 206 = .ok (.iaload, 1) := by decide +kernel
theorem dX9_readFormula_207 : decode cX9_readFormula 207 = .ok (.ireturn, 1) := by decide +kernel
theorem dX9_signNext_0 : decode cX9_signNext 0 = .ok (.iload_n 1, 1) := by decide +kernel
theorem dX9_signNext_1 : decode cX9_signNext 1 = .ok (.iconst 1, 1) := by decide +kernel
theorem dX9_signNext_2 : decode cX9_signNext 2 = .ok (.bipush 24, 2) := by decide +kernel
theorem dX9_signNext_4 : decode cX9_signNext 4 = .ok (.invokestatic 40, 3) := by decide +kernel
theorem dX9_signNext_7 : decode cX9_signNext 7 = .ok (.ifCond .ne 6, 3) := by decide +kernel
theorem dX9_signNext_10 : decode cX9_signNext 10 = .ok (.bipush (-2), 2) := by decide +kernel
theorem dX9_signNext_12 : decode cX9_signNext 12 = .ok (.ireturn, 1) := by decide +kernel
theorem dX9_signNext_13 : decode cX9_signNext 13 = .ok (.aload_n 0, 1) := by decide +kernel
theorem dX9_signNext_14 : decode cX9_signNext 14 = .ok (.getfield 7, 3) := by decide +kernel
theorem dX9_signNext_17 : decode cX9_signNext 17 = .ok (.iconst 2, 1) := by decide +kernel
theorem dX9_signNext_18 : decode cX9_signNext 18 = .ok (.iaload, 1) := by decide +kernel
theorem dX9_signNext_19 : decode cX9_signNext 19 = .ok (.bipush 40, 2) := by decide +kernel
theorem dX9_signNext_21 : decode cX9_signNext 21 = .ok (.if_icmp .ne 6, 3) := by decide +kernel
theorem dX9_signNext_24 : decode cX9_signNext 24 = .ok (.bipush (-3), 2) := by decide +kernel
theorem dX9_signNext_26 : decode cX9_signNext 26 = .ok (.ireturn, 1) := by decide +kernel
theorem dX9_signNext_27 : decode cX9_signNext 27 = .ok (.iconst (-1), 1) := by decide +kernel
theorem dX9_signNext_28 : decode cX9_signNext 28 = .ok (.istore_n 2, 1) := by decide +kernel
theorem dX9_signNext_29 : decode cX9_signNext 29 = .ok (.iconst 0, 1) := by decide +kernel
theorem dX9_signNext_30 : decode cX9_signNext 30 = .ok (.istore_n 3, 1) := by decide +kernel
theorem dX9_signNext_31 : decode cX9_signNext 31 = .ok (.iload_n 3, 1) := by decide +kernel
theorem dX9_signNext_32 : decode cX9_signNext 32 = .ok (.aload_n 0, 1) := by decide +kernel
theorem dX9_signNext_33 : decode cX9_signNext 33 = .ok (.getfield 7, 3) := by decide +kernel
theorem dX9_signNext_36 : decode cX9_signNext 36 = .ok (.iconst 2, 1) := by decide +kernel
theorem dX9_signNext_37 : decode cX9_signNext 37 = .ok (.iaload, 1) := by decide +kernel
theorem dX9_signNext_38 : decode cX9_signNext 38 = .ok (.if_icmp .ge 27, 3) := by decide +kernel
theorem dX9_signNext_41 : decode cX9_signNext 41 = .ok (.aload_n 0, 1) := by decide +kernel
theorem dX9_signNext_42 : decode cX9_signNext 42 = .ok (.iload_n 3, 1) := by decide +kernel
theorem dX9_signNext_43 : decode cX9_signNext 43 = .ok (.invokevirtual 111, 3) := by decide +kernel
theorem dX9_signNext_46 : decode cX9_signNext 46 = .ok (.ifCond .eq 7, 3) := by decide +kernel
theorem dX9_signNext_49 : decode cX9_signNext 49 = .ok (.iload_n 2, 1) := by decide +kernel
theorem dX9_signNext_50 : decode cX9_signNext 50 = .ok (.goto 8, 3) := by decide +kernel
theorem dX9_signNext_53 : decode cX9_signNext 53 = .ok (.aload_n 0, 1) := by decide +kernel
theorem dX9_signNext_54 : decode cX9_signNext 54 = .ok (.iload_n 3, 1) := by decide +kernel
theorem dX9_signNext_55 : decode cX9_signNext 55 = .ok (.invokevirtual 114, 3) := by decide +kernel
theorem dX9_signNext_58 : decode cX9_signNext 58 = .ok (.istore_n 2, 1) := by decide +kernel
theorem dX9_signNext_59 : decode cX9_signNext 59 = .ok (.iinc 3 1, 3) := by decide +kernel
theorem dX9_signNext_62 : decode cX9_signNext 62 = .ok (.goto (-31), 3) := by decide +kernel
theorem dX9_signNext_65 : decode cX9_signNext 65 = .ok (.aload_n 0, 1) := by decide +kernel
theorem dX9_signNext_66 : decode cX9_signNext 66 = .ok (.iload_n 2, 1) := by decide +kernel
theorem dX9_signNext_67 : decode cX9_signNext 67 = .ok (.invokevirtual 117, 3) := by decide +kernel
theorem dX9_signNext_70 : decode cX9_signNext 70 = .ok (.istore_n 3, 1) := by decide +kernel
theorem dX9_signNext_71 : decode cX9_signNext 71 = .ok (.iload_n 3, 1) := by decide +kernel
theorem dX9_signNext_72 : decode cX9_signNext 72 = .ok (.ifCond .ge 6, 3) := by decide +kernel
theorem dX9_signNext_75 : decode cX9_signNext 75 = .ok (.bipush (-4), 2) := by decide +kernel
theorem dX9_signNext_77 : decode cX9_signNext 77 = .ok (.ireturn, 1) := by decide +kernel
theorem dX9_signNext_78 : decode cX9_signNext 78 = .ok (.aload_n 0, 1) := by decide +kernel
theorem dX9_signNext_79 : decode cX9_signNext 79 = .ok (.invokevirtual 64, 3) := by decide +kernel
theorem dX9_signNext_82 : decode cX9_signNext 82 = .ok (.aload_n 0, 1) := by decide +kernel
theorem dX9_signNext_83 : decode cX9_signNext 83 = .ok (.aload_n 0, 1) := by decide +kernel
theorem dX9_signNext_84 : decode cX9_signNext 84 = .ok (.getfield 7, 3) := by decide +kernel
theorem dX9_signNext_87 : decode cX9_signNext 87 = .ok (.iconst 2, 1) := by decide +kernel
theorem dX9_signNext_88 : decode cX9_signNext 88 = .ok (.iaload, 1) := by decide +kernel
theorem dX9_signNext_89 : decode cX9_signNext 89 = .ok (.iload_n 3, 1) := by decide +kernel
theorem dX9_signNext_90 : decode cX9_signNext 90 = .ok (.bipush 26, 2) := by decide +kernel
theorem dX9_signNext_92 : decode cX9_signNext 92 = .ok (.idiv, 1) := by decide +kernel
theorem dX9_signNext_93 : decode cX9_signNext 93 = .ok (.iconst 1, 1) := by decide +kernel
theorem dX9_signNext_94 : decode cX9_signNext 94 = .ok (.iadd, 1) := by decide +kernel
theorem dX9_signNext_95 : decode cX9_signNext 95 = .ok (.iload_n 3, 1) := by decide +kernel
theorem dX9_signNext_96 : decode cX9_signNext 96 = .ok (.bipush 26, 2) := by decide +kernel
theorem dX9_signNext_98 : decode cX9_signNext 98 = .ok (.irem, 1) := by decide +kernel
theorem dX9_signNext_99 : decode cX9_signNext 99 = .ok (.iload_n 1, 1) := by decide +kernel
theorem dX9_signNext_100 : decode cX9_signNext 100 = .ok (.invokevirtual 107, 3) := by decide +kernel
theorem dX9_signNext_103 : decode cX9_signNext 103 = .ok (.aload_n 0, 1) := by decide +kernel
theorem dX9_signNext_104 : decode cX9_signNext 104 = .ok (.getfield 7, 3) := by decide +kernel
theorem dX9_signNext_107 : decode cX9_signNext 107 = .ok (.iconst 2, 1) := by decide +kernel
theorem dX9_signNext_108 : decode cX9_signNext 108 = .ok (.iaload, 1) := by decide +kernel
theorem dX9_signNext_109 : decode cX9_signNext 109 = .ok (.iconst 1, 1) := by decide +kernel
theorem dX9_signNext_110 : decode cX9_signNext 110 = .ok (.isub, 1) := by decide +kernel
theorem dX9_signNext_111 : decode cX9_signNext 111 = .ok (.ireturn, 1) := by decide +kernel
theorem dX9_insert_0 : decode cX9_insert 0 = .ok (.iload_n 1, 1) := by decide +kernel
theorem dX9_insert_1 : decode cX9_insert 1 = .ok (.iconst 0, 1) := by decide +kernel
theorem dX9_insert_2 : decode cX9_insert 2 = .ok (.aload_n 0, 1) := by decide +kernel
theorem dX9_insert_3 : decode cX9_insert 3 = .ok (.getfield 7, 3) := by decide +kernel
theorem dX9_insert_6 : decode cX9_insert 6 = .ok (.iconst 2, 1) := by decide +kernel
theorem dX9_insert_7 : decode cX9_insert 7 = .ok (.iaload, 1) := by decide +kernel
theorem dX9_insert_8 : decode cX9_insert 8 = .ok (.invokestatic 40, 3) := by decide +kernel
theorem dX9_insert_11 : decode cX9_insert 11 = .ok (.ifCond .ne 5, 3) := by decide +kernel
theorem dX9_insert_14 : decode cX9_insert 14 = .ok (.iconst (-1), 1) := by decide +kernel
theorem dX9_insert_15 : decode cX9_insert 15 = .ok (.ireturn, 1) := by decide +kernel
theorem dX9_insert_16 : decode cX9_insert 16 = .ok (.iload_n 2, 1) := by decide +kernel
theorem dX9_insert_17 : decode cX9_insert 17 = .ok (.iconst 1, 1) := by decide +kernel
theorem dX9_insert_18 : decode cX9_insert 18 = .ok (.iconst 5, 1) := by decide +kernel
theorem dX9_insert_19 : decode cX9_insert 19 = .ok (.invokestatic 40, 3) := by decide +kernel
theorem dX9_insert_22 : decode cX9_insert 22 = .ok (.ifCond .eq 13, 3) := by decide +kernel
theorem dX9_insert_25 : decode cX9_insert 25 = .ok (.iload_n 3, 1) := by decide +kernel
theorem dX9_insert_26 : decode cX9_insert 26 = .ok (.iconst 1, 1) := by decide +kernel
theorem dX9_insert_27 : decode cX9_insert 27 = .ok (.bipush 24, 2) := by decide +kernel
theorem dX9_insert_29 : decode cX9_insert 29 = .ok (.invokestatic 40, 3) := by decide +kernel
theorem dX9_insert_32 : decode cX9_insert 32 = .ok (.ifCond .ne 6, 3) := by decide +kernel
theorem dX9_insert_35 : decode cX9_insert 35 = .ok (.bipush (-2), 2) := by decide +kernel
theorem dX9_insert_37 : decode cX9_insert 37 = .ok (.ireturn, 1) := by decide +kernel
theorem dX9_insert_38 : decode cX9_insert 38 = .ok (.aload_n 0, 1) := by decide +kernel
theorem dX9_insert_39 : decode cX9_insert 39 = .ok (.getfield 7, 3) := by decide +kernel
theorem dX9_insert_42 : decode cX9_insert 42 = .ok (.iconst 2, 1) := by decide +kernel
theorem dX9_insert_43 : decode cX9_insert 43 = .ok (.iaload, 1) := by decide +kernel
theorem dX9_insert_44 : decode cX9_insert 44 = .ok (.bipush 40, 2) := by decide +kernel
theorem dX9_insert_46 : decode cX9_insert 46 = .ok (.if_icmp .ne 6, 3) := by decide +kernel
theorem dX9_insert_49 : decode cX9_insert 49 = .ok (.bipush (-3), 2) := by decide +kernel
theorem dX9_insert_51 : decode cX9_insert 51 = .ok (.ireturn, 1) := by decide +kernel
theorem dX9_insert_52 : decode cX9_insert 52 = .ok (.aload_n 0, 1) := by decide +kernel
theorem dX9_insert_53 : decode cX9_insert 53 = .ok (.invokevirtual 64, 3) := by decide +kernel
theorem dX9_insert_56 : decode cX9_insert 56 = .ok (.aload_n 0, 1) := by decide +kernel
theorem dX9_insert_57 : decode cX9_insert 57 = .ok (.iload_n 1, 1) := by decide +kernel
theorem dX9_insert_58 : decode cX9_insert 58 = .ok (.iload_n 2, 1) := by decide +kernel
theorem dX9_insert_59 : decode cX9_insert 59 = .ok (.iconst (-1), 1) := by decide +kernel
theorem dX9_insert_60 : decode cX9_insert 60 = .ok (.iload_n 3, 1) := by decide +kernel
theorem dX9_insert_61 : decode cX9_insert 61 = .ok (.invokevirtual 107, 3) := by decide +kernel
theorem dX9_insert_64 : decode cX9_insert 64 = .ok (.aload_n 0, 1) := by decide +kernel
theorem dX9_insert_65 : decode cX9_insert 65 = .ok (.invokevirtual 48, 3) := by decide +kernel
theorem dX9_insert_68 : decode cX9_insert 68 = .ok (.ireturn, 1) := by decide +kernel
theorem dX9_remove_0 : decode cX9_remove 0 = .ok (.aload_n 0, 1) := by decide +kernel
theorem dX9_remove_1 : decode cX9_remove 1 = .ok (.iload_n 1, 1) := by decide +kernel
theorem dX9_remove_2 : decode cX9_remove 2 = .ok (.invokevirtual 120, 3) := by decide +kernel
theorem dX9_remove_5 : decode cX9_remove 5 = .ok (.ifCond .ne 5, 3) := by decide +kernel
theorem dX9_remove_8 : decode cX9_remove 8 = .ok (.iconst (-1), 1) := by decide +kernel
theorem dX9_remove_9 : decode cX9_remove 9 = .ok (.ireturn, 1) := by decide +kernel
theorem dX9_remove_10 : decode cX9_remove 10 = .ok (.aload_n 0, 1) := by decide +kernel
theorem dX9_remove_11 : decode cX9_remove 11 = .ok (.invokevirtual 64, 3) := by decide +kernel
theorem dX9_remove_14 : decode cX9_remove 14 = .ok (.iload_n 1, 1) := by decide +kernel
theorem dX9_remove_15 : decode cX9_remove 15 = .ok (.istore_n 2, 1) := by decide +kernel
theorem dX9_remove_16 : decode cX9_remove 16 = .ok (.iload_n 2, 1) := by decide +kernel
theorem dX9_remove_17 : decode cX9_remove 17 = .ok (.iconst 1, 1) := by decide +kernel
theorem dX9_remove_18 : decode cX9_remove 18 = .ok (.iadd, 1) := by decide +kernel
theorem dX9_remove_19 : decode cX9_remove 19 = .ok (.aload_n 0, 1) := by decide +kernel
theorem dX9_remove_20 : decode cX9_remove 20 = .ok (.getfield 7, 3) := by decide +kernel
theorem dX9_remove_23 : decode cX9_remove 23 = .ok (.iconst 2, 1) := by decide +kernel
theorem dX9_remove_24 : decode cX9_remove 24 = .ok (.iaload, 1) := by decide +kernel
theorem dX9_remove_25 : decode cX9_remove 25 = .ok (.if_icmp .ge 44, 3) := by decide +kernel
theorem dX9_remove_28 : decode cX9_remove 28 = .ok (.iconst 0, 1) := by decide +kernel
theorem dX9_remove_29 : decode cX9_remove 29 = .ok (.istore_n 3, 1) := by decide +kernel
theorem dX9_remove_30 : decode cX9_remove 30 = .ok (.iload_n 3, 1) := by decide +kernel
theorem dX9_remove_31 : decode cX9_remove 31 = .ok (.iconst 4, 1) := by decide +kernel
theorem dX9_remove_32 : decode cX9_remove 32 = .ok (.if_icmp .ge 31, 3) := by decide +kernel
theorem dX9_remove_35 : decode cX9_remove 35 = .ok (.aload_n 0, 1) := by decide +kernel
theorem dX9_remove_36 : decode cX9_remove 36 = .ok (.getfield 7, 3) := by decide +kernel
theorem dX9_remove_39 : decode cX9_remove 39 = .ok (.iload_n 2, 1) := by decide +kernel
theorem dX9_remove_40 : decode cX9_remove 40 = .ok (.iload_n 3, 1) := by decide +kernel
theorem dX9_remove_41 : decode cX9_remove 41 = .ok (.invokestatic 36, 3) := by decide +kernel
theorem dX9_remove_44 : decode cX9_remove 44 = .ok (.aload_n 0, 1) := by decide +kernel
theorem dX9_remove_45 : decode cX9_remove 45 = .ok (.getfield 7, 3) := by decide +kernel
theorem dX9_remove_48 : decode cX9_remove 48 = .ok (.iload_n 2, 1) := by decide +kernel
theorem dX9_remove_49 : decode cX9_remove 49 = .ok (.iconst 1, 1) := by decide +kernel
theorem dX9_remove_50 : decode cX9_remove 50 = .ok (.iadd, 1) := by decide +kernel
theorem dX9_remove_51 : decode cX9_remove 51 = .ok (.iload_n 3, 1) := by decide +kernel
theorem dX9_remove_52 : decode cX9_remove 52 = .ok (.invokestatic 36, 3) := by decide +kernel
theorem dX9_remove_55 : decode cX9_remove 55 = .ok (.iaload, 1) := by decide +kernel
theorem dX9_remove_56 : decode cX9_remove 56 = .ok (.iastore, 1) := by decide +kernel
theorem dX9_remove_57 : decode cX9_remove 57 = .ok (.iinc 3 1, 3) := by decide +kernel
theorem dX9_remove_60 : decode cX9_remove 60 = .ok (.goto (-30), 3) := by decide +kernel
theorem dX9_remove_63 : decode cX9_remove 63 = .ok (.iinc 2 1, 3) := by decide +kernel
theorem dX9_remove_66 : decode cX9_remove 66 = .ok (.goto (-50), 3) := by decide +kernel
theorem dX9_remove_69 : decode cX9_remove 69 = .ok (.aload_n 0, 1) := by decide +kernel
theorem dX9_remove_70 : decode cX9_remove 70 = .ok (.getfield 7, 3) := by decide +kernel
theorem dX9_remove_73 : decode cX9_remove 73 = .ok (.iconst 2, 1) := by decide +kernel
theorem dX9_remove_74 : decode cX9_remove 74 = .ok (.dup2, 1) := by decide +kernel
theorem dX9_remove_75 : decode cX9_remove 75 = .ok (.iaload, 1) := by decide +kernel
theorem dX9_remove_76 : decode cX9_remove 76 = .ok (.iconst 1, 1) := by decide +kernel
theorem dX9_remove_77 : decode cX9_remove 77 = .ok (.isub, 1) := by decide +kernel
theorem dX9_remove_78 : decode cX9_remove 78 = .ok (.iastore, 1) := by decide +kernel
theorem dX9_remove_79 : decode cX9_remove 79 = .ok (.aload_n 0, 1) := by decide +kernel
theorem dX9_remove_80 : decode cX9_remove 80 = .ok (.getfield 7, 3) := by decide +kernel
theorem dX9_remove_83 : decode cX9_remove 83 = .ok (.sipush 163, 3) := by decide +kernel
theorem dX9_remove_86 : decode cX9_remove 86 = .ok (.iconst 0, 1) := by decide +kernel
theorem dX9_remove_87 : decode cX9_remove 87 = .ok (.iastore, 1) := by decide +kernel
theorem dX9_remove_88 : decode cX9_remove 88 = .ok (.aload_n 0, 1) := by decide +kernel
theorem dX9_remove_89 : decode cX9_remove 89 = .ok (.invokevirtual 48, 3) := by decide +kernel
theorem dX9_remove_92 : decode cX9_remove 92 = .ok (.ireturn, 1) := by decide +kernel
theorem dX9_lose_0 : decode cX9_lose 0 = .ok (.aload_n 0, 1) := by decide +kernel
theorem dX9_lose_1 : decode cX9_lose 1 = .ok (.iload_n 1, 1) := by decide +kernel
theorem dX9_lose_2 : decode cX9_lose 2 = .ok (.invokevirtual 123, 3) := by decide +kernel
theorem dX9_lose_5 : decode cX9_lose 5 = .ok (.ifCond .ne 5, 3) := by decide +kernel
theorem dX9_lose_8 : decode cX9_lose 8 = .ok (.iconst (-1), 1) := by decide +kernel
theorem dX9_lose_9 : decode cX9_lose 9 = .ok (.ireturn, 1) := by decide +kernel
theorem dX9_lose_10 : decode cX9_lose 10 = .ok (.aload_n 0, 1) := by decide +kernel
theorem dX9_lose_11 : decode cX9_lose 11 = .ok (.iload_n 1, 1) := by decide +kernel
theorem dX9_lose_12 : decode cX9_lose 12 = .ok (.invokevirtual 126, 3) := by decide +kernel
theorem dX9_lose_15 : decode cX9_lose 15 = .ok (.iload_n 2, 1) := by decide +kernel
theorem dX9_lose_16 : decode cX9_lose 16 = .ok (.if_icmp .ne 6, 3) := by decide +kernel
theorem dX9_lose_19 : decode cX9_lose 19 = .ok (.bipush (-5), 2) := by decide +kernel
theorem dX9_lose_21 : decode cX9_lose 21 = .ok (.ireturn, 1) := by decide +kernel
theorem dX9_lose_22 : decode cX9_lose 22 = .ok (.aload_n 0, 1) := by decide +kernel
theorem dX9_lose_23 : decode cX9_lose 23 = .ok (.invokevirtual 64, 3) := by decide +kernel
theorem dX9_lose_26 : decode cX9_lose 26 = .ok (.aload_n 0, 1) := by decide +kernel
theorem dX9_lose_27 : decode cX9_lose 27 = .ok (.iload_n 1, 1) := by decide +kernel
theorem dX9_lose_28 : decode cX9_lose 28 = .ok (.invokevirtual 55, 3) := by decide +kernel
theorem dX9_lose_31 : decode cX9_lose 31 = .ok (.istore_n 3, 1) := by decide +kernel
theorem dX9_lose_32 : decode cX9_lose 32 = .ok (.aload_n 0, 1) := by decide +kernel
theorem dX9_lose_33 : decode cX9_lose 33 = .ok (.getfield 7, 3) := by decide +kernel
theorem dX9_lose_36 : decode cX9_lose 36 = .ok (.iload_n 3, 1) := by decide +kernel
theorem dX9_lose_37 : decode cX9_lose 37 = .ok (.iconst 3, 1) := by decide +kernel
theorem dX9_lose_38 : decode cX9_lose 38 = .ok (.invokestatic 36, 3) := by decide +kernel
theorem dX9_lose_41 : decode cX9_lose 41 = .ok (.dup2, 1) := by decide +kernel
theorem dX9_lose_42 : decode cX9_lose 42 = .ok (.iaload, 1) := by decide +kernel
theorem dX9_lose_43 : decode cX9_lose 43 = .ok (.iconst 1, 1) := by decide +kernel
theorem dX9_lose_44 : decode cX9_lose 44 = .ok (.iload_n 1, 1) := by decide +kernel
theorem dX9_lose_45 : decode cX9_lose 45 = .ok (.aload_n 0, 1) := by decide +kernel
theorem dX9_lose_46 : decode cX9_lose 46 = .ok (.iload_n 3, 1) := by decide +kernel
theorem dX9_lose_47 : decode cX9_lose 47 = .ok (.invokevirtual 52, 3) := by decide +kernel
theorem dX9_lose_50 : decode cX9_lose 50 = .ok (.isub, 1) := by decide +kernel
theorem dX9_lose_51 : decode cX9_lose 51 = .ok (.ishl, 1) := by decide +kernel
theorem dX9_lose_52 : decode cX9_lose 52 = .ok (.ixor, 1) := by decide +kernel
theorem dX9_lose_53 : decode cX9_lose 53 = .ok (.iastore, 1) := by decide +kernel
theorem dX9_lose_54 : decode cX9_lose 54 = .ok (.aload_n 0, 1) := by decide +kernel
theorem dX9_lose_55 : decode cX9_lose 55 = .ok (.getfield 7, 3) := by decide +kernel
theorem dX9_lose_58 : decode cX9_lose 58 = .ok (.sipush 163, 3) := by decide +kernel
theorem dX9_lose_61 : decode cX9_lose 61 = .ok (.iconst 0, 1) := by decide +kernel
theorem dX9_lose_62 : decode cX9_lose 62 = .ok (.iastore, 1) := by decide +kernel
theorem dX9_lose_63 : decode cX9_lose 63 = .ok (.aload_n 0, 1) := by decide +kernel
theorem dX9_lose_64 : decode cX9_lose 64 = .ok (.invokevirtual 129, 3) := by decide +kernel
theorem dX9_lose_67 : decode cX9_lose 67 = .ok (.ireturn, 1) := by decide +kernel
theorem dX9_found_0 : decode cX9_found 0 = .ok (.iconst 0, 1) := by decide +kernel
theorem dX9_found_1 : decode cX9_found 1 = .ok (.istore_n 2, 1) := by decide +kernel
theorem dX9_found_2 : decode cX9_found 2 = .ok (.iload_n 2, 1) := by decide +kernel
theorem dX9_found_3 : decode cX9_found 3 = .ok (.aload_n 0, 1) := by decide +kernel
theorem dX9_found_4 : decode cX9_found 4 = .ok (.getfield 7, 3) := by decide +kernel
theorem dX9_found_7 : decode cX9_found 7 = .ok (.iconst 2, 1) := by decide +kernel
theorem dX9_found_8 : decode cX9_found 8 = .ok (.iaload, 1) := by decide +kernel
theorem dX9_found_9 : decode cX9_found 9 = .ok (.if_icmp .ge 105, 3) := by decide +kernel
theorem dX9_found_12 : decode cX9_found 12 = .ok (.aload_n 0, 1) := by decide +kernel
theorem dX9_found_13 : decode cX9_found 13 = .ok (.getfield 7, 3) := by decide +kernel
theorem dX9_found_16 : decode cX9_found 16 = .ok (.iload_n 2, 1) := by decide +kernel
theorem dX9_found_17 : decode cX9_found 17 = .ok (.iconst 0, 1) := by decide +kernel
theorem dX9_found_18 : decode cX9_found 18 = .ok (.invokestatic 36, 3) := by decide +kernel
theorem dX9_found_21 : decode cX9_found 21 = .ok (.iaload, 1) := by decide +kernel
theorem dX9_found_22 : decode cX9_found 22 = .ok (.aload_n 0, 1) := by decide +kernel
theorem dX9_found_23 : decode cX9_found 23 = .ok (.getfield 17, 3) := by decide +kernel
theorem dX9_found_26 : decode cX9_found 26 = .ok (.iconst 4, 1) := by decide +kernel
theorem dX9_found_27 : decode cX9_found 27 = .ok (.iload_n 1, 1) := by decide +kernel
theorem dX9_found_28 : decode cX9_found 28 = .ok (.imul, 1) := by decide +kernel
theorem dX9_found_29 : decode cX9_found 29 = .ok (.iaload, 1) := by decide +kernel
theorem dX9_found_30 : decode cX9_found 30 = .ok (.if_icmp .ne 30, 3) := by decide +kernel
theorem dX9_found_33 : decode cX9_found 33 = .ok (.aload_n 0, 1) := by decide +kernel
theorem dX9_found_34 : decode cX9_found 34 = .ok (.getfield 7, 3) := by decide +kernel
theorem dX9_found_37 : decode cX9_found 37 = .ok (.iload_n 2, 1) := by decide +kernel
theorem dX9_found_38 : decode cX9_found 38 = .ok (.iconst 1, 1) := by decide +kernel
theorem dX9_found_39 : decode cX9_found 39 = .ok (.invokestatic 36, 3) := by decide +kernel
theorem dX9_found_42 : decode cX9_found 42 = .ok (.iaload, 1) := by decide +kernel
theorem dX9_found_43 : decode cX9_found 43 = .ok (.aload_n 0, 1) := by decide +kernel
theorem dX9_found_44 : decode cX9_found 44 = .ok (.getfield 17, 3) := by decide +kernel
theorem dX9_found_47 : decode cX9_found 47 = .ok (.iconst 4, 1) := by decide +kernel
theorem dX9_found_48 : decode cX9_found 48 = .ok (.iload_n 1, 1) := by decide +kernel
theorem dX9_found_49 : decode cX9_found 49 = .ok (.imul, 1) := by decide +kernel
theorem dX9_found_50 : decode cX9_found 50 = .ok (.iconst 1, 1) := by decide +kernel
theorem dX9_found_51 : decode cX9_found 51 = .ok (.iadd, 1) := by decide +kernel
theorem dX9_found_52 : decode cX9_found 52 = .ok (.iaload, 1) := by decide +kernel
theorem dX9_found_53 : decode cX9_found 53 = .ok (.if_icmp .ne 7, 3) := by decide +kernel
theorem dX9_found_56 : decode cX9_found 56 = .ok (.iconst 1, 1) := by decide +kernel
theorem dX9_found_57 : decode cX9_found 57 = .ok (.goto 4, 3) := by decide +kernel
theorem dX9_found_60 : decode cX9_found 60 = .ok (.iconst 0, 1) := by decide +kernel
theorem dX9_found_61 : decode cX9_found 61 = .ok (.istore_n 3, 1) := by decide +kernel
theorem dX9_found_62 : decode cX9_found 62 = .ok (.iload_n 3, 1) := by decide +kernel
theorem dX9_found_63 : decode cX9_found 63 = .ok (.ifCond .eq 45, 3) := by decide +kernel
theorem dX9_found_66 : decode cX9_found 66 = .ok (.aload_n 0, 1) := by decide +kernel
theorem dX9_found_67 : decode cX9_found 67 = .ok (.getfield 17, 3) := by decide +kernel
theorem dX9_found_70 : decode cX9_found 70 = .ok (.iconst 4, 1) := by decide +kernel
theorem dX9_found_71 : decode cX9_found 71 = .ok (.iload_n 1, 1) := by decide +kernel
theorem dX9_found_72 : decode cX9_found 72 = .ok (.imul, 1) := by decide +kernel
theorem dX9_found_73 : decode cX9_found 73 = .ok (.iconst 3, 1) := by decide +kernel
theorem dX9_found_74 : decode cX9_found 74 = .ok (.iadd, 1) := by decide +kernel
theorem dX9_found_75 : decode cX9_found 75 = .ok (.iaload, 1) := by decide +kernel
theorem dX9_found_76 : decode cX9_found 76 = .ok (.aload_n 0, 1) := by decide +kernel
theorem dX9_found_77 : decode cX9_found 77 = .ok (.getfield 7, 3) := by decide +kernel
theorem dX9_found_80 : decode cX9_found 80 = .ok (.iload_n 2, 1) := by decide +kernel
theorem dX9_found_81 : decode cX9_found 81 = .ok (.iconst 2, 1) := by decide +kernel
theorem dX9_found_82 : decode cX9_found 82 = .ok (.invokestatic 36, 3) := by decide +kernel
theorem dX9_found_85 : decode cX9_found 85 = .ok (.iaload, 1) := by decide +kernel
theorem dX9_found_86 : decode cX9_found 86 = .ok (.if_icmp .gt 22, 3) := by decide +kernel
theorem dX9_found_89 : decode cX9_found 89 = .ok (.aload_n 0, 1) := by decide +kernel
theorem dX9_found_90 : decode cX9_found 90 = .ok (.iload_n 2, 1) := by decide +kernel
theorem dX9_found_91 : decode cX9_found 91 = .ok (.invokevirtual 52, 3) := by decide +kernel
theorem dX9_found_94 : decode cX9_found 94 = .ok (.aload_n 0, 1) := by decide +kernel
theorem dX9_found_95 : decode cX9_found 95 = .ok (.getfield 17, 3) := by decide +kernel
theorem dX9_found_98 : decode cX9_found 98 = .ok (.iconst 4, 1) := by decide +kernel
theorem dX9_found_99 : decode cX9_found 99 = .ok (.iload_n 1, 1) := by decide +kernel
theorem dX9_found_100 : decode cX9_found 100 = .ok (.imul, 1) := by decide +kernel
theorem dX9_found_101 : decode cX9_found 101 = .ok (.iconst 3, 1) := by decide +kernel
theorem dX9_found_102 : decode cX9_found 102 = .ok (.iadd, 1) := by decide +kernel
theorem dX9_found_103 : decode cX9_found 103 = .ok (.iaload, 1) := by decide +kernel
theorem dX9_found_104 : decode cX9_found 104 = .ok (.iadd, 1) := by decide +kernel
theorem dX9_found_105 : decode cX9_found 105 = .ok (.iconst 1, 1) := by decide +kernel
theorem dX9_found_106 : decode cX9_found 106 = .ok (.isub, 1) := by decide +kernel
theorem dX9_found_107 : decode cX9_found 107 = .ok (.ireturn, 1) := by decide +kernel
theorem dX9_found_108 : decode cX9_found 108 = .ok (.iinc 2 1, 3) := by decide +kernel
theorem dX9_found_111 : decode cX9_found 111 = .ok (.goto (-109), 3) := by decide +kernel
theorem dX9_found_114 : decode cX9_found 114 = .ok (.iconst (-1), 1) := by decide +kernel
theorem dX9_found_115 : decode cX9_found 115 = .ok (.ireturn, 1) := by decide +kernel
theorem dX9_readPile_0 : decode cX9_readPile 0 = .ok (.aload_n 0, 1) := by decide +kernel
theorem dX9_readPile_1 : decode cX9_readPile 1 = .ok (.iconst 0, 1) := by decide +kernel
theorem dX9_readPile_2 : decode cX9_readPile 2 = .ok (.invokevirtual 103, 3) := by decide +kernel
theorem dX9_readPile_5 : decode cX9_readPile 5 = .ok (.istore_n 1, 1) := by decide +kernel
theorem dX9_readPile_6 : decode cX9_readPile 6 = .ok (.iload_n 1, 1) := by decide +kernel
theorem dX9_readPile_7 : decode cX9_readPile 7 = .ok (.ifCond .lt 8, 3) := by decide +kernel
theorem dX9_readPile_10 : decode cX9_readPile 10 = .ok (.bipush (-100), 2) := by decide +kernel
theorem dX9_readPile_12 : decode cX9_readPile 12 = .ok (.iload_n 1, 1) := by decide +kernel
theorem dX9_readPile_13 : decode cX9_readPile 13 = .ok (.isub, 1) := by decide +kernel
theorem dX9_readPile_14 : decode cX9_readPile 14 = .ok (.ireturn, 1) := by decide +kernel
theorem dX9_readPile_15 : decode cX9_readPile 15 = .ok (.iconst 0, 1) := by decide +kernel
theorem dX9_readPile_16 : decode cX9_readPile 16 = .ok (.istore_n 2, 1) := by decide +kernel
theorem dX9_readPile_17 : decode cX9_readPile 17 = .ok (.iload_n 2, 1) := by decide +kernel
theorem dX9_readPile_18 : decode cX9_readPile 18 = .ok (.aload_n 0, 1) := by decide +kernel
theorem dX9_readPile_19 : decode cX9_readPile 19 = .ok (.getfield 94, 3) := by decide +kernel
theorem dX9_readPile_22 : decode cX9_readPile 22 = .ok (.if_icmp .ge 19, 3) := by decide +kernel
theorem dX9_readPile_25 : decode cX9_readPile 25 = .ok (.aload_n 0, 1) := by decide +kernel
theorem dX9_readPile_26 : decode cX9_readPile 26 = .ok (.iload_n 2, 1) := by decide +kernel
theorem dX9_readPile_27 : decode cX9_readPile 27 = .ok (.invokevirtual 132, 3) := by decide +kernel
theorem dX9_readPile_30 : decode cX9_readPile 30 = .ok (.ifCond .ge 5, 3) := by decide +kernel
theorem dX9_readPile_33 : decode cX9_readPile 33 = .ok (.iconst (-1), 1) := by decide +kernel
theorem dX9_readPile_34 : decode cX9_readPile 34 = .ok (.ireturn, 1) := by decide +kernel
theorem dX9_readPile_35 : decode cX9_readPile 35 = .ok (.iinc 2 1, 3) := by decide +kernel
theorem dX9_readPile_38 : decode cX9_readPile 38 = .ok (.goto (-21), 3) := by decide +kernel
theorem dX9_readPile_41 : decode cX9_readPile 41 = .ok (.iconst 0, 1) := by decide +kernel
theorem dX9_readPile_42 : decode cX9_readPile 42 = .ok (.istore_n 2, 1) := by decide +kernel
theorem dX9_readPile_43 : decode cX9_readPile 43 = .ok (.iload_n 2, 1) := by decide +kernel
theorem dX9_readPile_44 : decode cX9_readPile 44 = .ok (.aload_n 0, 1) := by decide +kernel
theorem dX9_readPile_45 : decode cX9_readPile 45 = .ok (.getfield 94, 3) := by decide +kernel
theorem dX9_readPile_48 : decode cX9_readPile 48 = .ok (.if_icmp .ge 69, 3) := by decide +kernel
theorem dX9_readPile_51 : decode cX9_readPile 51 = .ok (.iconst 0, 1) := by decide +kernel
theorem dX9_readPile_52 : decode cX9_readPile 52 = .ok (.istore_n 3, 1) := by decide +kernel
theorem dX9_readPile_53 : decode cX9_readPile 53 = .ok (.iconst 0, 1) := by decide +kernel
theorem dX9_readPile_54 : decode cX9_readPile 54 = .ok (.istore 4, 2) := by decide +kernel
theorem dX9_readPile_56 : decode cX9_readPile 56 = .ok (.iload 4, 2) := by decide +kernel
theorem dX9_readPile_58 : decode cX9_readPile 58 = .ok (.iload_n 2, 1) := by decide +kernel
theorem dX9_readPile_59 : decode cX9_readPile 59 = .ok (.if_icmp .ge 33, 3) := by decide +kernel
theorem dX9_readPile_62 : decode cX9_readPile 62 = .ok (.iload_n 3, 1) := by decide +kernel
theorem dX9_readPile_63 : decode cX9_readPile 63 = .ok (.ifCond .ne 17, 3) := by decide +kernel
theorem dX9_readPile_66 : decode cX9_readPile 66 = .ok (.aload_n 0, 1) := by decide +kernel
theorem dX9_readPile_67 : decode cX9_readPile 67 = .ok (.iload 4, 2) := by decide +kernel
theorem dX9_readPile_69 : decode cX9_readPile 69 = .ok (.invokevirtual 132, 3) := by decide +kernel
theorem dX9_readPile_72 : decode cX9_readPile 72 = .ok (.aload_n 0, 1) := by decide +kernel
theorem dX9_readPile_73 : decode cX9_readPile 73 = .ok (.iload_n 2, 1) := by decide +kernel
theorem dX9_readPile_74 : decode cX9_readPile 74 = .ok (.invokevirtual 132, 3) := by decide +kernel
theorem dX9_readPile_77 : decode cX9_readPile 77 = .ok (.if_icmp .ne 7, 3) := by decide +kernel
theorem dX9_readPile_80 : decode cX9_readPile 80 = .ok (.iconst 1, 1) := by decide +kernel
theorem dX9_readPile_81 : decode cX9_readPile 81 = .ok (.goto 4, 3) := by decide +kernel
theorem dX9_readPile_84 : decode cX9_readPile 84 = .ok (.iconst 0, 1) := by decide +kernel
theorem dX9_readPile_85 : decode cX9_readPile 85 = .ok (.istore_n 3, 1) := by decide +kernel
theorem dX9_readPile_86 : decode cX9_readPile 86 = .ok (.iinc 4 1, 3) := by decide +kernel
theorem dX9_readPile_89 : decode cX9_readPile 89 = .ok (.goto (-33), 3) := by decide +kernel
theorem dX9_readPile_92 : decode cX9_readPile 92 = .ok (.iload_n 3, 1) := by decide +kernel
theorem dX9_readPile_93 : decode cX9_readPile 93 = .ok (.ifCond .ne 15, 3) := by decide +kernel
theorem dX9_readPile_96 : decode cX9_readPile 96 = .ok (.aload_n 0, 1) := by decide +kernel
theorem dX9_readPile_97 : decode cX9_readPile 97 = .ok (.aload_n 0, 1) := by decide +kernel
theorem dX9_readPile_98 : decode cX9_readPile 98 = .ok (.iload_n 2, 1) := by decide +kernel
theorem dX9_readPile_99 : decode cX9_readPile 99 = .ok (.invokevirtual 132, 3) := by decide +kernel
theorem dX9_readPile_102 : decode cX9_readPile 102 = .ok (.invokevirtual 126, 3) := by decide +kernel
theorem dX9_readPile_105 : decode cX9_readPile 105 = .ok (.ifCond .eq 6, 3) := by decide +kernel
theorem dX9_readPile_108 : decode cX9_readPile 108 = .ok (.bipush (-4), 2) := by decide +kernel
theorem dX9_readPile_110 : decode cX9_readPile 110 = .ok (.ireturn, 1) := by decide +kernel
theorem dX9_readPile_111 : decode cX9_readPile 111 = .ok (.iinc 2 1, 3) := by decide +kernel
theorem dX9_readPile_114 : decode cX9_readPile 114 = .ok (.goto (-71), 3) := by decide +kernel
theorem dX9_readPile_117 : decode cX9_readPile 117 = .ok (.aload_n 0, 1) := by decide +kernel
theorem dX9_readPile_118 : decode cX9_readPile 118 = .ok (.getfield 94, 3) := by decide +kernel
theorem dX9_readPile_121 : decode cX9_readPile 121 = .ok (.bipush 12, 2) := by decide +kernel
theorem dX9_readPile_123 : decode cX9_readPile 123 = .ok (.if_icmp .le 6, 3) := by decide +kernel
theorem dX9_readPile_126 : decode cX9_readPile 126 = .ok (.bipush (-3), 2) := by decide +kernel
theorem dX9_readPile_128 : decode cX9_readPile 128 = .ok (.ireturn, 1) := by decide +kernel
theorem dX9_readPile_129 : decode cX9_readPile 129 = .ok (.aload_n 0, 1) := by decide +kernel
theorem dX9_readPile_130 : decode cX9_readPile 130 = .ok (.invokevirtual 64, 3) := by decide +kernel
theorem dX9_readPile_133 : decode cX9_readPile 133 = .ok (.iconst 0, 1) := by decide +kernel
theorem dX9_readPile_134 : decode cX9_readPile 134 = .ok (.istore_n 2, 1) := by decide +kernel
theorem dX9_readPile_135 : decode cX9_readPile 135 = .ok (.iload_n 2, 1) := by decide +kernel
theorem dX9_readPile_136 : decode cX9_readPile 136 = .ok (.aload_n 0, 1) := by decide +kernel
theorem dX9_readPile_137 : decode cX9_readPile 137 = .ok (.getfield 94, 3) := by decide +kernel
theorem dX9_readPile_140 : decode cX9_readPile 140 = .ok (.if_icmp .ge 24, 3) := by decide +kernel
theorem dX9_readPile_143 : decode cX9_readPile 143 = .ok (.aload_n 0, 1) := by decide +kernel
theorem dX9_readPile_144 : decode cX9_readPile 144 = .ok (.getfield 7, 3) := by decide +kernel
theorem dX9_readPile_147 : decode cX9_readPile 147 = .ok (.sipush 164, 3) := by decide +kernel
theorem dX9_readPile_150 : decode cX9_readPile 150 = .ok (.iload_n 2, 1) := by decide +kernel
theorem dX9_readPile_151 : decode cX9_readPile 151 = .ok (.iadd, 1) := by decide +kernel
theorem dX9_readPile_152 : decode cX9_readPile 152 = .ok (.aload_n 0, 1) := by decide +kernel
theorem dX9_readPile_153 : decode cX9_readPile 153 = .ok (.iload_n 2, 1) := by decide +kernel
theorem dX9_readPile_154 : decode cX9_readPile 154 = .ok (.invokevirtual 132, 3) := by decide +kernel
theorem dX9_readPile_157 : decode cX9_readPile 157 = .ok (.iastore, 1) := by decide +kernel
theorem dX9_readPile_158 : decode cX9_readPile 158 = .ok (.iinc 2 1, 3) := by decide +kernel
theorem dX9_readPile_161 : decode cX9_readPile 161 = .ok (.goto (-26), 3) := by decide +kernel
theorem dX9_readPile_164 : decode cX9_readPile 164 = .ok (.aload_n 0, 1) := by decide +kernel
theorem dX9_readPile_165 : decode cX9_readPile 165 = .ok (.getfield 7, 3) := by decide +kernel
theorem dX9_readPile_168 : decode cX9_readPile 168 = .ok (.sipush 163, 3) := by decide +kernel
theorem dX9_readPile_171 : decode cX9_readPile 171 = .ok (.aload_n 0, 1) := by decide +kernel
theorem dX9_readPile_172 : decode cX9_readPile 172 = .ok (.getfield 94, 3) := by decide +kernel
theorem dX9_readPile_175 : decode cX9_readPile 175 = .ok (.iastore, 1) := by decide +kernel
theorem dX9_readPile_176 : decode cX9_readPile 176 = .ok (.aload_n 0, 1) := by decide +kernel
theorem dX9_readPile_177 : decode cX9_readPile 177 = .ok (.getfield 94, 3) := by decide +kernel
theorem dX9_readPile_180 : decode cX9_readPile 180 = .ok (.ireturn, 1) := by decide +kernel
theorem dX9_type_0 : decode cX9_type 0 = .ok (.aload_n 0, 1) := by decide +kernel
theorem dX9_type_1 : decode cX9_type 1 = .ok (.getfield 77, 3) := by decide +kernel
theorem dX9_type_4 : decode cX9_type 4 = .ok (.bipush 60, 2) := by decide +kernel
theorem dX9_type_6 : decode cX9_type 6 = .ok (.if_icmp .ne 6, 3) := by decide +kernel
theorem dX9_type_9 : decode cX9_type 9 = .ok (.bipush (-3), 2) := by decide +kernel
theorem dX9_type_11 : decode cX9_type 11 = .ok (.ireturn, 1) := by decide +kernel
theorem dX9_type_12 : decode cX9_type 12 = .ok (.aload_n 0, 1) := by decide +kernel
theorem dX9_type_13 : decode cX9_type 13 = .ok (.getfield 13, 3) := by decide +kernel
theorem dX9_type_16 : decode cX9_type 16 = .ok (.aload_n 0, 1) := by decide +kernel
theorem dX9_type_17 : decode cX9_type 17 = .ok (.getfield 77, 3) := by decide +kernel
theorem dX9_type_20 : decode cX9_type 20 = .ok (.iload_n 1, 1) := by decide +kernel
theorem dX9_type_21 : decode cX9_type 21 = .ok (.castore, 1) := by decide +kernel
theorem dX9_type_22 : decode cX9_type 22 = .ok (.aload_n 0, 1) := by decide +kernel
theorem dX9_type_23 : decode cX9_type 23 = .ok (.dup, 1) := by decide +kernel
theorem dX9_type_24 : decode cX9_type 24 = .ok (.getfield 77, 3) := by decide +kernel
theorem dX9_type_27 : decode cX9_type 27 = .ok (.iconst 1, 1) := by decide +kernel
theorem dX9_type_28 : decode cX9_type 28 = .ok (.iadd, 1) := by decide +kernel
theorem dX9_type_29 : decode cX9_type 29 = .ok (.putfield 77, 3) := by decide +kernel
theorem dX9_type_32 : decode cX9_type 32 = .ok (.aload_n 0, 1) := by decide +kernel
theorem dX9_type_33 : decode cX9_type 33 = .ok (.getfield 77, 3) := by decide +kernel
theorem dX9_type_36 : decode cX9_type 36 = .ok (.ireturn, 1) := by decide +kernel
theorem dX9_clearText_0 : decode cX9_clearText 0 = .ok (.aload_n 0, 1) := by decide +kernel
theorem dX9_clearText_1 : decode cX9_clearText 1 = .ok (.getfield 77, 3) := by decide +kernel
theorem dX9_clearText_4 : decode cX9_clearText 4 = .ok (.istore_n 1, 1) := by decide +kernel
theorem dX9_clearText_5 : decode cX9_clearText 5 = .ok (.aload_n 0, 1) := by decide +kernel
theorem dX9_clearText_6 : decode cX9_clearText 6 = .ok (.iconst 0, 1) := by decide +kernel
theorem dX9_clearText_7 : decode cX9_clearText 7 = .ok (.putfield 77, 3) := by decide +kernel
theorem dX9_clearText_10 : decode cX9_clearText 10 = .ok (.iload_n 1, 1) := by decide +kernel
theorem dX9_clearText_11 : decode cX9_clearText 11 = .ok (.ireturn, 1) := by decide +kernel
theorem dX9_undo_0 : decode cX9_undo 0 = .ok (.aload_n 0, 1) := by decide +kernel
theorem dX9_undo_1 : decode cX9_undo 1 = .ok (.getfield 24, 3) := by decide +kernel
theorem dX9_undo_4 : decode cX9_undo 4 = .ok (.ifCond .ne 6, 3) := by decide +kernel
theorem dX9_undo_7 : decode cX9_undo 7 = .ok (.bipush (-5), 2) := by decide +kernel
theorem dX9_undo_9 : decode cX9_undo 9 = .ok (.ireturn, 1) := by decide +kernel
theorem dX9_undo_10 : decode cX9_undo 10 = .ok (.aload_n 0, 1) := by decide +kernel
theorem dX9_undo_11 : decode cX9_undo 11 = .ok (.aload_n 0, 1) := by decide +kernel
theorem dX9_undo_12 : decode cX9_undo 12 = .ok (.getfield 24, 3) := by decide +kernel
theorem dX9_undo_15 : decode cX9_undo 15 = .ok (.iconst 0, 1) := by decide +kernel
theorem dX9_undo_16 : decode cX9_undo 16 = .ok (.invokevirtual 28, 3) := by decide +kernel
theorem dX9_undo_19 : decode cX9_undo 19 = .ok (.aload_n 0, 1) := by decide +kernel
theorem dX9_undo_20 : decode cX9_undo 20 = .ok (.dup, 1) := by decide +kernel
theorem dX9_undo_21 : decode cX9_undo 21 = .ok (.getfield 24, 3) := by decide +kernel
theorem dX9_undo_24 : decode cX9_undo 24 = .ok (.iconst 1, 1) := by decide +kernel
theorem dX9_undo_25 : decode cX9_undo 25 = .ok (.isub, 1) := by decide +kernel
theorem dX9_undo_26 : decode cX9_undo 26 = .ok (.putfield 24, 3) := by decide +kernel
theorem dX9_undo_29 : decode cX9_undo 29 = .ok (.aload_n 0, 1) := by decide +kernel
theorem dX9_undo_30 : decode cX9_undo 30 = .ok (.getfield 24, 3) := by decide +kernel
theorem dX9_undo_33 : decode cX9_undo 33 = .ok (.ireturn, 1) := by decide +kernel
theorem dX9_keep_0 : decode cX9_keep 0 = .ok (.aload_n 0, 1) := by decide +kernel
theorem dX9_keep_1 : decode cX9_keep 1 = .ok (.iconst 0, 1) := by decide +kernel
theorem dX9_keep_2 : decode cX9_keep 2 = .ok (.iconst 5, 1) := by decide +kernel
theorem dX9_keep_3 : decode cX9_keep 3 = .ok (.invokevirtual 28, 3) := by decide +kernel
theorem dX9_keep_6 : decode cX9_keep 6 = .ok (.aload_n 0, 1) := by decide +kernel
theorem dX9_keep_7 : decode cX9_keep 7 = .ok (.iconst 1, 1) := by decide +kernel
theorem dX9_keep_8 : decode cX9_keep 8 = .ok (.putfield 135, 3) := by decide +kernel
theorem dX9_keep_11 : decode cX9_keep 11 = .ok (.aload_n 0, 1) := by decide +kernel
theorem dX9_keep_12 : decode cX9_keep 12 = .ok (.getfield 7, 3) := by decide +kernel
theorem dX9_keep_15 : decode cX9_keep 15 = .ok (.iconst 2, 1) := by decide +kernel
theorem dX9_keep_16 : decode cX9_keep 16 = .ok (.iaload, 1) := by decide +kernel
theorem dX9_keep_17 : decode cX9_keep 17 = .ok (.ireturn, 1) := by decide +kernel
theorem dX9_restore_0 : decode cX9_restore 0 = .ok (.aload_n 0, 1) := by decide +kernel
theorem dX9_restore_1 : decode cX9_restore 1 = .ok (.getfield 135, 3) := by decide +kernel
theorem dX9_restore_4 : decode cX9_restore 4 = .ok (.ifCond .ne 6, 3) := by decide +kernel
theorem dX9_restore_7 : decode cX9_restore 7 = .ok (.bipush (-5), 2) := by decide +kernel
theorem dX9_restore_9 : decode cX9_restore 9 = .ok (.ireturn, 1) := by decide +kernel
theorem dX9_restore_10 : decode cX9_restore 10 = .ok (.aload_n 0, 1) := by decide +kernel
theorem dX9_restore_11 : decode cX9_restore 11 = .ok (.invokevirtual 64, 3) := by decide +kernel
theorem dX9_restore_14 : decode cX9_restore 14 = .ok (.aload_n 0, 1) := by decide +kernel
theorem dX9_restore_15 : decode cX9_restore 15 = .ok (.iconst 5, 1) := by decide +kernel
theorem dX9_restore_16 : decode cX9_restore 16 = .ok (.iconst 0, 1) := by decide +kernel
theorem dX9_restore_17 : decode cX9_restore 17 = .ok (.invokevirtual 28, 3) := by decide +kernel
theorem dX9_restore_20 : decode cX9_restore 20 = .ok (.aload_n 0, 1) := by decide +kernel
theorem dX9_restore_21 : decode cX9_restore 21 = .ok (.getfield 7, 3) := by decide +kernel
theorem dX9_restore_24 : decode cX9_restore 24 = .ok (.iconst 2, 1) := by decide +kernel
theorem dX9_restore_25 : decode cX9_restore 25 = .ok (.iaload, 1) := by decide +kernel
theorem dX9_restore_26 : decode cX9_restore 26 = .ok (.ireturn, 1) := by decide +kernel
theorem dX9_sameAhead_0 : decode cX9_sameAhead 0 = .ok (.iconst 0, 1) := by decide +kernel
theorem dX9_sameAhead_1 : decode cX9_sameAhead 1 = .ok (.istore_n 2, 1) := by decide +kernel
theorem dX9_sameAhead_2 : decode cX9_sameAhead 2 = .ok (.iconst 0, 1) := by decide +kernel
theorem dX9_sameAhead_3 : decode cX9_sameAhead 3 = .ok (.istore_n 3, 1) := by decide +kernel
theorem dX9_sameAhead_4 : decode cX9_sameAhead 4 = .ok (.iload_n 3, 1) := by decide +kernel
theorem dX9_sameAhead_5 : decode cX9_sameAhead 5 = .ok (.iload_n 1, 1) := by decide +kernel
theorem dX9_sameAhead_6 : decode cX9_sameAhead 6 = .ok (.if_icmp .ge 26, 3) := by decide +kernel
theorem dX9_sameAhead_9 : decode cX9_sameAhead 9 = .ok (.iload_n 2, 1) := by decide +kernel
theorem dX9_sameAhead_10 : decode cX9_sameAhead 10 = .ok (.aload_n 0, 1) := by decide +kernel
theorem dX9_sameAhead_11 : decode cX9_sameAhead 11 = .ok (.iload_n 3, 1) := by decide +kernel
theorem dX9_sameAhead_12 : decode cX9_sameAhead 12 = .ok (.iload_n 1, 1) := by decide +kernel
theorem dX9_sameAhead_13 : decode cX9_sameAhead 13 = .ok (.invokevirtual 138, 3) := by decide +kernel
theorem dX9_sameAhead_16 : decode cX9_sameAhead 16 = .ok (.ifCond .eq 7, 3) := by decide +kernel
theorem dX9_sameAhead_19 : decode cX9_sameAhead 19 = .ok (.iconst 1, 1) := by decide +kernel
theorem dX9_sameAhead_20 : decode cX9_sameAhead 20 = .ok (.goto 4, 3) := by decide +kernel
theorem dX9_sameAhead_23 : decode cX9_sameAhead 23 = .ok (.iconst 0, 1) := by decide +kernel
theorem dX9_sameAhead_24 : decode cX9_sameAhead 24 = .ok (.iadd, 1) := by decide +kernel
theorem dX9_sameAhead_25 : decode cX9_sameAhead 25 = .ok (.istore_n 2, 1) := by decide +kernel
theorem dX9_sameAhead_26 : decode cX9_sameAhead 26 = .ok (.iinc 3 1, 3) := by decide +kernel
theorem dX9_sameAhead_29 : decode cX9_sameAhead 29 = .ok (.goto (-25), 3) := by decide +kernel
theorem dX9_sameAhead_32 : decode cX9_sameAhead 32 = .ok (.iload_n 2, 1) := by decide +kernel
theorem dX9_sameAhead_33 : decode cX9_sameAhead 33 = .ok (.ireturn, 1) := by decide +kernel
theorem dX9_quire_0 : decode cX9_quire 0 = .ok (.aload_n 0, 1) := by decide +kernel
theorem dX9_quire_1 : decode cX9_quire 1 = .ok (.iload_n 1, 1) := by decide +kernel
theorem dX9_quire_2 : decode cX9_quire 2 = .ok (.invokevirtual 120, 3) := by decide +kernel
theorem dX9_quire_5 : decode cX9_quire 5 = .ok (.ifCond .ne 5, 3) := by decide +kernel
theorem dX9_quire_8 : decode cX9_quire 8 = .ok (.iconst (-1), 1) := by decide +kernel
theorem dX9_quire_9 : decode cX9_quire 9 = .ok (.ireturn, 1) := by decide +kernel
theorem dX9_quire_10 : decode cX9_quire 10 = .ok (.iload_n 2, 1) := by decide +kernel
theorem dX9_quire_11 : decode cX9_quire 11 = .ok (.tableswitch 114 0 6 #[41, 52, 79, 90, 96, 102, 108], 41) := by decide +kernel
theorem dX9_quire_52 : decode cX9_quire 52 = .ok (.aload_n 0, 1) := by decide +kernel
theorem dX9_quire_53 : decode cX9_quire 53 = .ok (.getfield 7, 3) := by decide +kernel
theorem dX9_quire_56 : decode cX9_quire 56 = .ok (.iload_n 1, 1) := by decide +kernel
theorem dX9_quire_57 : decode cX9_quire 57 = .ok (.iconst 0, 1) := by decide +kernel
theorem dX9_quire_58 : decode cX9_quire 58 = .ok (.invokestatic 36, 3) := by decide +kernel
theorem dX9_quire_61 : decode cX9_quire 61 = .ok (.iaload, 1) := by decide +kernel
theorem dX9_quire_62 : decode cX9_quire 62 = .ok (.ireturn, 1) := by decide +kernel
theorem dX9_quire_63 : decode cX9_quire 63 = .ok (.aload_n 0, 1) := by decide +kernel
theorem dX9_quire_64 : decode cX9_quire 64 = .ok (.iload_n 1, 1) := by decide +kernel
theorem dX9_quire_65 : decode cX9_quire 65 = .ok (.invokevirtual 111, 3) := by decide +kernel
theorem dX9_quire_68 : decode cX9_quire 68 = .ok (.ifCond .eq 8, 3) := by decide +kernel
theorem dX9_quire_71 : decode cX9_quire 71 = .ok (.bipush (-5), 2) := by decide +kernel
theorem dX9_quire_73 : decode cX9_quire 73 = .ok (.goto 16, 3) := by decide +kernel
theorem dX9_quire_76 : decode cX9_quire 76 = .ok (.bipush 65, 2) := by decide +kernel
theorem dX9_quire_78 : decode cX9_quire 78 = .ok (.aload_n 0, 1) := by decide +kernel
theorem dX9_quire_79 : decode cX9_quire 79 = .ok (.getfield 7, 3) := by decide +kernel
theorem dX9_quire_82 : decode cX9_quire 82 = .ok (.iload_n 1, 1) := by decide +kernel
theorem dX9_quire_83 : decode cX9_quire 83 = .ok (.iconst 1, 1) := by decide +kernel
theorem dX9_quire_84 : decode cX9_quire 84 = .ok (.invokestatic 36, 3) := by decide +kernel
theorem dX9_quire_87 : decode cX9_quire 87 = .ok (.iaload, 1) := by decide +kernel
theorem dX9_quire_88 : decode cX9_quire 88 = .ok (.iadd, 1) := by decide +kernel
theorem dX9_quire_89 : decode cX9_quire 89 = .ok (.ireturn, 1) := by decide +kernel
theorem dX9_quire_90 : decode cX9_quire 90 = .ok (.aload_n 0, 1) := by decide +kernel
theorem dX9_quire_91 : decode cX9_quire 91 = .ok (.getfield 7, 3) := by decide +kernel
theorem dX9_quire_94 : decode cX9_quire 94 = .ok (.iload_n 1, 1) := by decide +kernel
theorem dX9_quire_95 : decode cX9_quire 95 = .ok (.iconst 2, 1) := by decide +kernel
theorem dX9_quire_96 : decode cX9_quire 96 = .ok (.invokestatic 36, 3) := by decide +kernel
theorem dX9_quire_99 : decode cX9_quire 99 = .ok (.iaload, 1) := by decide +kernel
theorem dX9_quire_100 : decode cX9_quire 100 = .ok (.ireturn, 1) := by decide +kernel
theorem dX9_quire_101 : decode cX9_quire 101 = .ok (.aload_n 0, 1) := by decide +kernel
theorem dX9_quire_102 : decode cX9_quire 102 = .ok (.iload_n 1, 1) := by decide +kernel
theorem dX9_quire_103 : decode cX9_quire 103 = .ok (.invokevirtual 52, 3) := by decide +kernel
theorem dX9_quire_106 : decode cX9_quire 106 = .ok (.ireturn, 1) := by decide +kernel
theorem dX9_quire_107 : decode cX9_quire 107 = .ok (.aload_n 0, 1) := by decide +kernel
theorem dX9_quire_108 : decode cX9_quire 108 = .ok (.iload_n 1, 1) := by decide +kernel
theorem dX9_quire_109 : decode cX9_quire 109 = .ok (.invokevirtual 44, 3) := by decide +kernel
theorem dX9_quire_112 : decode cX9_quire 112 = .ok (.ireturn, 1) := by decide +kernel
theorem dX9_quire_113 : decode cX9_quire 113 = .ok (.aload_n 0, 1) := by decide +kernel
theorem dX9_quire_114 : decode cX9_quire 114 = .ok (.iload_n 1, 1) := by decide +kernel
theorem dX9_quire_115 : decode cX9_quire 115 = .ok (.invokevirtual 58, 3) := by decide +kernel
theorem dX9_quire_118 : decode cX9_quire 118 = .ok (.ireturn, 1) := by decide +kernel
theorem dX9_quire_119 : decode cX9_quire 119 = .ok (.aload_n 0, 1) := by decide +kernel
theorem dX9_quire_120 : decode cX9_quire 120 = .ok (.iload_n 1, 1) := by decide +kernel
theorem dX9_quire_121 : decode cX9_quire 121 = .ok (.invokevirtual 141, 3) := by decide +kernel
theorem dX9_quire_124 : decode cX9_quire 124 = .ok (.ireturn, 1) := by decide +kernel
theorem dX9_quire_125 : decode cX9_quire 125 = .ok (.bipush (-2), 2) := by decide +kernel
theorem dX9_quire_127 : decode cX9_quire 127 = .ok (.ireturn, 1) := by decide +kernel
theorem dX9_thereAhead_0 : decode cX9_thereAhead 0 = .ok (.iconst 0, 1) := by decide +kernel
theorem dX9_thereAhead_1 : decode cX9_thereAhead 1 = .ok (.istore_n 2, 1) := by decide +kernel
theorem dX9_thereAhead_2 : decode cX9_thereAhead 2 = .ok (.iconst 0, 1) := by decide +kernel
theorem dX9_thereAhead_3 : decode cX9_thereAhead 3 = .ok (.istore_n 3, 1) := by decide +kernel
theorem dX9_thereAhead_4 : decode cX9_thereAhead 4 = .ok (.iload_n 3, 1) := by decide +kernel
theorem dX9_thereAhead_5 : decode cX9_thereAhead 5 = .ok (.iload_n 1, 1) := by decide +kernel
theorem dX9_thereAhead_6 : decode cX9_thereAhead 6 = .ok (.if_icmp .ge 25, 3) := by decide +kernel
theorem dX9_thereAhead_9 : decode cX9_thereAhead 9 = .ok (.iload_n 2, 1) := by decide +kernel
theorem dX9_thereAhead_10 : decode cX9_thereAhead 10 = .ok (.aload_n 0, 1) := by decide +kernel
theorem dX9_thereAhead_11 : decode cX9_thereAhead 11 = .ok (.iload_n 3, 1) := by decide +kernel
theorem dX9_thereAhead_12 : decode cX9_thereAhead 12 = .ok (.invokevirtual 126, 3) := by decide +kernel
theorem dX9_thereAhead_15 : decode cX9_thereAhead 15 = .ok (.ifCond .eq 7, 3) := by decide +kernel
theorem dX9_thereAhead_18 : decode cX9_thereAhead 18 = .ok (.iconst 0, 1) := by decide +kernel
theorem dX9_thereAhead_19 : decode cX9_thereAhead 19 = .ok (.goto 4, 3) := by decide +kernel
theorem dX9_thereAhead_22 : decode cX9_thereAhead 22 = .ok (.iconst 1, 1) := by decide +kernel
theorem dX9_thereAhead_23 : decode cX9_thereAhead 23 = .ok (.iadd, 1) := by decide +kernel
theorem dX9_thereAhead_24 : decode cX9_thereAhead 24 = .ok (.istore_n 2, 1) := by decide +kernel
theorem dX9_thereAhead_25 : decode cX9_thereAhead 25 = .ok (.iinc 3 1, 3) := by decide +kernel
theorem dX9_thereAhead_28 : decode cX9_thereAhead 28 = .ok (.goto (-24), 3) := by decide +kernel
theorem dX9_thereAhead_31 : decode cX9_thereAhead 31 = .ok (.iload_n 2, 1) := by decide +kernel
theorem dX9_thereAhead_32 : decode cX9_thereAhead 32 = .ok (.ireturn, 1) := by decide +kernel
theorem dX9_leaf_0 : decode cX9_leaf 0 = .ok (.aload_n 0, 1) := by decide +kernel
theorem dX9_leaf_1 : decode cX9_leaf 1 = .ok (.iload_n 1, 1) := by decide +kernel
theorem dX9_leaf_2 : decode cX9_leaf 2 = .ok (.invokevirtual 123, 3) := by decide +kernel
theorem dX9_leaf_5 : decode cX9_leaf 5 = .ok (.ifCond .ne 5, 3) := by decide +kernel
theorem dX9_leaf_8 : decode cX9_leaf 8 = .ok (.iconst (-1), 1) := by decide +kernel
theorem dX9_leaf_9 : decode cX9_leaf 9 = .ok (.ireturn, 1) := by decide +kernel
theorem dX9_leaf_10 : decode cX9_leaf 10 = .ok (.aload_n 0, 1) := by decide +kernel
theorem dX9_leaf_11 : decode cX9_leaf 11 = .ok (.iload_n 1, 1) := by decide +kernel
theorem dX9_leaf_12 : decode cX9_leaf 12 = .ok (.invokevirtual 55, 3) := by decide +kernel
theorem dX9_leaf_15 : decode cX9_leaf 15 = .ok (.istore_n 3, 1) := by decide +kernel
theorem dX9_leaf_16 : decode cX9_leaf 16 = .ok (.iload_n 1, 1) := by decide +kernel
theorem dX9_leaf_17 : decode cX9_leaf 17 = .ok (.aload_n 0, 1) := by decide +kernel
theorem dX9_leaf_18 : decode cX9_leaf 18 = .ok (.iload_n 3, 1) := by decide +kernel
theorem dX9_leaf_19 : decode cX9_leaf 19 = .ok (.invokevirtual 52, 3) := by decide +kernel
theorem dX9_leaf_22 : decode cX9_leaf 22 = .ok (.isub, 1) := by decide +kernel
theorem dX9_leaf_23 : decode cX9_leaf 23 = .ok (.iconst 1, 1) := by decide +kernel
theorem dX9_leaf_24 : decode cX9_leaf 24 = .ok (.iadd, 1) := by decide +kernel
theorem dX9_leaf_25 : decode cX9_leaf 25 = .ok (.istore 4, 2) := by decide +kernel
theorem dX9_leaf_27 : decode cX9_leaf 27 = .ok (.aload_n 0, 1) := by decide +kernel
theorem dX9_leaf_28 : decode cX9_leaf 28 = .ok (.getfield 7, 3) := by decide +kernel
theorem dX9_leaf_31 : decode cX9_leaf 31 = .ok (.iload_n 3, 1) := by decide +kernel
theorem dX9_leaf_32 : decode cX9_leaf 32 = .ok (.iconst 2, 1) := by decide +kernel
theorem dX9_leaf_33 : decode cX9_leaf 33 = .ok (.invokestatic 36, 3) := by decide +kernel
theorem dX9_leaf_36 : decode cX9_leaf 36 = .ok (.iaload, 1) := by decide +kernel
theorem dX9_leaf_37 : decode cX9_leaf 37 = .ok (.iconst 1, 1) := by decide +kernel
theorem dX9_leaf_38 : decode cX9_leaf 38 = .ok (.iadd, 1) := by decide +kernel
theorem dX9_leaf_39 : decode cX9_leaf 39 = .ok (.iload 4, 2) := by decide +kernel
theorem dX9_leaf_41 : decode cX9_leaf 41 = .ok (.isub, 1) := by decide +kernel
theorem dX9_leaf_42 : decode cX9_leaf 42 = .ok (.istore 5, 2) := by decide +kernel
theorem dX9_leaf_44 : decode cX9_leaf 44 = .ok (.iload_n 2, 1) := by decide +kernel
theorem dX9_leaf_45 : decode cX9_leaf 45 = .ok (.tableswitch 103 0 5 #[39, 41, 44, 60, 83, 97], 39) := by decide +kernel
theorem dX9_leaf_84 : decode cX9_leaf 84 = .ok (.iload_n 3, 1) := by decide +kernel
theorem dX9_leaf_85 : decode cX9_leaf 85 = .ok (.ireturn, 1) := by decide +kernel
theorem dX9_leaf_86 : decode cX9_leaf 86 = .ok (.iload 4, 2) := by decide +kernel
theorem dX9_leaf_88 : decode cX9_leaf 88 = .ok (.ireturn, 1) := by decide +kernel
theorem dX9_leaf_89 : decode cX9_leaf 89 = .ok (.iload 4, 2) := by decide +kernel
theorem dX9_leaf_91 : decode cX9_leaf 91 = .ok (.aload_n 0, 1) := by decide +kernel
theorem dX9_leaf_92 : decode cX9_leaf 92 = .ok (.iload_n 3, 1) := by decide +kernel
theorem dX9_leaf_93 : decode cX9_leaf 93 = .ok (.invokevirtual 44, 3) := by decide +kernel
theorem dX9_leaf_96 : decode cX9_leaf 96 = .ok (.if_icmp .gt 7, 3) := by decide +kernel
theorem dX9_leaf_99 : decode cX9_leaf 99 = .ok (.iconst 1, 1) := by decide +kernel
theorem dX9_leaf_100 : decode cX9_leaf 100 = .ok (.goto 4, 3) := by decide +kernel
theorem dX9_leaf_103 : decode cX9_leaf 103 = .ok (.iconst 0, 1) := by decide +kernel
theorem dX9_leaf_104 : decode cX9_leaf 104 = .ok (.ireturn, 1) := by decide +kernel
theorem dX9_leaf_105 : decode cX9_leaf 105 = .ok (.iload 5, 2) := by decide +kernel
theorem dX9_leaf_107 : decode cX9_leaf 107 = .ok (.iload 4, 2) := by decide +kernel
theorem dX9_leaf_109 : decode cX9_leaf 109 = .ok (.if_icmp .ne 8, 3) := by decide +kernel
theorem dX9_leaf_112 : decode cX9_leaf 112 = .ok (.bipush (-5), 2) := by decide +kernel
theorem dX9_leaf_114 : decode cX9_leaf 114 = .ok (.goto 13, 3) := by decide +kernel
theorem dX9_leaf_117 : decode cX9_leaf 117 = .ok (.aload_n 0, 1) := by decide +kernel
theorem dX9_leaf_118 : decode cX9_leaf 118 = .ok (.iload_n 3, 1) := by decide +kernel
theorem dX9_leaf_119 : decode cX9_leaf 119 = .ok (.invokevirtual 52, 3) := by decide +kernel
theorem dX9_leaf_122 : decode cX9_leaf 122 = .ok (.iload 5, 2) := by decide +kernel
theorem dX9_leaf_124 : decode cX9_leaf 124 = .ok (.iadd, 1) := by decide +kernel
theorem dX9_leaf_125 : decode cX9_leaf 125 = .ok (.iconst 1, 1) := by decide +kernel
theorem dX9_leaf_126 : decode cX9_leaf 126 = .ok (.isub, 1) := by decide +kernel
theorem dX9_leaf_127 : decode cX9_leaf 127 = .ok (.ireturn, 1) := by decide +kernel
theorem dX9_leaf_128 : decode cX9_leaf 128 = .ok (.aload_n 0, 1) := by decide +kernel
theorem dX9_leaf_129 : decode cX9_leaf 129 = .ok (.iload_n 1, 1) := by decide +kernel
theorem dX9_leaf_130 : decode cX9_leaf 130 = .ok (.invokevirtual 126, 3) := by decide +kernel
theorem dX9_leaf_133 : decode cX9_leaf 133 = .ok (.ifCond .eq 7, 3) := by decide +kernel
theorem dX9_leaf_136 : decode cX9_leaf 136 = .ok (.iconst 1, 1) := by decide +kernel
theorem dX9_leaf_137 : decode cX9_leaf 137 = .ok (.goto 4, 3) := by decide +kernel
theorem dX9_leaf_140 : decode cX9_leaf 140 = .ok (.iconst 0, 1) := by decide +kernel
theorem dX9_leaf_141 : decode cX9_leaf 141 = .ok (.ireturn, 1) := by decide +kernel
theorem dX9_leaf_142 : decode cX9_leaf 142 = .ok (.aload_n 0, 1) := by decide +kernel
theorem dX9_leaf_143 : decode cX9_leaf 143 = .ok (.iload_n 1, 1) := by decide +kernel
theorem dX9_leaf_144 : decode cX9_leaf 144 = .ok (.invokevirtual 144, 3) := by decide +kernel
theorem dX9_leaf_147 : decode cX9_leaf 147 = .ok (.ireturn, 1) := by decide +kernel
theorem dX9_leaf_148 : decode cX9_leaf 148 = .ok (.bipush (-2), 2) := by decide +kernel
theorem dX9_leaf_150 : decode cX9_leaf 150 = .ok (.ireturn, 1) := by decide +kernel
theorem dX9_find_0 : decode cX9_find 0 = .ok (.aload_n 0, 1) := by decide +kernel
theorem dX9_find_1 : decode cX9_find 1 = .ok (.iconst 0, 1) := by decide +kernel
theorem dX9_find_2 : decode cX9_find 2 = .ok (.invokevirtual 103, 3) := by decide +kernel
theorem dX9_find_5 : decode cX9_find 5 = .ok (.istore_n 1, 1) := by decide +kernel
theorem dX9_find_6 : decode cX9_find 6 = .ok (.iload_n 1, 1) := by decide +kernel
theorem dX9_find_7 : decode cX9_find 7 = .ok (.ifCond .lt 8, 3) := by decide +kernel
theorem dX9_find_10 : decode cX9_find 10 = .ok (.bipush (-100), 2) := by decide +kernel
theorem dX9_find_12 : decode cX9_find 12 = .ok (.iload_n 1, 1) := by decide +kernel
theorem dX9_find_13 : decode cX9_find 13 = .ok (.isub, 1) := by decide +kernel
theorem dX9_find_14 : decode cX9_find 14 = .ok (.ireturn, 1) := by decide +kernel
theorem dX9_find_15 : decode cX9_find 15 = .ok (.aload_n 0, 1) := by decide +kernel
theorem dX9_find_16 : decode cX9_find 16 = .ok (.getfield 94, 3) := by decide +kernel
theorem dX9_find_19 : decode cX9_find 19 = .ok (.iconst 1, 1) := by decide +kernel
theorem dX9_find_20 : decode cX9_find 20 = .ok (.if_icmp .le 6, 3) := by decide +kernel
theorem dX9_find_23 : decode cX9_find 23 = .ok (.bipush (-2), 2) := by decide +kernel
theorem dX9_find_25 : decode cX9_find 25 = .ok (.ireturn, 1) := by decide +kernel
theorem dX9_find_26 : decode cX9_find 26 = .ok (.aload_n 0, 1) := by decide +kernel
theorem dX9_find_27 : decode cX9_find 27 = .ok (.iconst 0, 1) := by decide +kernel
theorem dX9_find_28 : decode cX9_find 28 = .ok (.invokevirtual 132, 3) := by decide +kernel
theorem dX9_find_31 : decode cX9_find 31 = .ok (.istore_n 2, 1) := by decide +kernel
theorem dX9_find_32 : decode cX9_find 32 = .ok (.iload_n 2, 1) := by decide +kernel
theorem dX9_find_33 : decode cX9_find 33 = .ok (.ifCond .ge 8, 3) := by decide +kernel
theorem dX9_find_36 : decode cX9_find 36 = .ok (.bipush (-5), 2) := by decide +kernel
theorem dX9_find_38 : decode cX9_find 38 = .ok (.goto 4, 3) := by decide +kernel
theorem dX9_find_41 : decode cX9_find 41 = .ok (.iload_n 2, 1) := by decide +kernel
theorem dX9_find_42 : decode cX9_find 42 = .ok (.ireturn, 1) := by decide +kernel
theorem dX9_before_0 : decode cX9_before 0 = .ok (.iconst (-1), 1) := by decide +kernel
theorem dX9_before_1 : decode cX9_before 1 = .ok (.istore_n 2, 1) := by decide +kernel
theorem dX9_before_2 : decode cX9_before 2 = .ok (.iconst 0, 1) := by decide +kernel
theorem dX9_before_3 : decode cX9_before 3 = .ok (.istore_n 3, 1) := by decide +kernel
theorem dX9_before_4 : decode cX9_before 4 = .ok (.iload_n 3, 1) := by decide +kernel
theorem dX9_before_5 : decode cX9_before 5 = .ok (.iload_n 1, 1) := by decide +kernel
theorem dX9_before_6 : decode cX9_before 6 = .ok (.if_icmp .ge 23, 3) := by decide +kernel
theorem dX9_before_9 : decode cX9_before 9 = .ok (.aload_n 0, 1) := by decide +kernel
theorem dX9_before_10 : decode cX9_before 10 = .ok (.iload_n 3, 1) := by decide +kernel
theorem dX9_before_11 : decode cX9_before 11 = .ok (.invokevirtual 111, 3) := by decide +kernel
theorem dX9_before_14 : decode cX9_before 14 = .ok (.ifCond .eq 7, 3) := by decide +kernel
theorem dX9_before_17 : decode cX9_before 17 = .ok (.iload_n 2, 1) := by decide +kernel
theorem dX9_before_18 : decode cX9_before 18 = .ok (.goto 4, 3) := by decide +kernel
theorem dX9_before_21 : decode cX9_before 21 = .ok (.iload_n 3, 1) := by decide +kernel
theorem dX9_before_22 : decode cX9_before 22 = .ok (.istore_n 2, 1) := by decide +kernel
theorem dX9_before_23 : decode cX9_before 23 = .ok (.iinc 3 1, 3) := by decide +kernel
theorem dX9_before_26 : decode cX9_before 26 = .ok (.goto (-22), 3) := by decide +kernel
theorem dX9_before_29 : decode cX9_before 29 = .ok (.iload_n 2, 1) := by decide +kernel
theorem dX9_before_30 : decode cX9_before 30 = .ok (.ireturn, 1) := by decide +kernel
theorem dX9_isLapse_0 : decode cX9_isLapse 0 = .ok (.aload_n 0, 1) := by decide +kernel
theorem dX9_isLapse_1 : decode cX9_isLapse 1 = .ok (.iload_n 1, 1) := by decide +kernel
theorem dX9_isLapse_2 : decode cX9_isLapse 2 = .ok (.invokevirtual 111, 3) := by decide +kernel
theorem dX9_isLapse_5 : decode cX9_isLapse 5 = .ok (.ifCond .eq 7, 3) := by decide +kernel
theorem dX9_isLapse_8 : decode cX9_isLapse 8 = .ok (.iconst (-1), 1) := by decide +kernel
theorem dX9_isLapse_9 : decode cX9_isLapse 9 = .ok (.goto 8, 3) := by decide +kernel
theorem dX9_isLapse_12 : decode cX9_isLapse 12 = .ok (.aload_n 0, 1) := by decide +kernel
theorem dX9_isLapse_13 : decode cX9_isLapse 13 = .ok (.iload_n 1, 1) := by decide +kernel
theorem dX9_isLapse_14 : decode cX9_isLapse 14 = .ok (.invokevirtual 147, 3) := by decide +kernel
theorem dX9_isLapse_17 : decode cX9_isLapse 17 = .ok (.istore_n 2, 1) := by decide +kernel
theorem dX9_isLapse_18 : decode cX9_isLapse 18 = .ok (.iload_n 2, 1) := by decide +kernel
theorem dX9_isLapse_19 : decode cX9_isLapse 19 = .ok (.ifCond .lt 24, 3) := by decide +kernel
theorem dX9_isLapse_22 : decode cX9_isLapse 22 = .ok (.aload_n 0, 1) := by decide +kernel
theorem dX9_isLapse_23 : decode cX9_isLapse 23 = .ok (.iload_n 1, 1) := by decide +kernel
theorem dX9_isLapse_24 : decode cX9_isLapse 24 = .ok (.invokevirtual 114, 3) := by decide +kernel
theorem dX9_isLapse_27 : decode cX9_isLapse 27 = .ok (.aload_n 0, 1) := by decide +kernel
theorem dX9_isLapse_28 : decode cX9_isLapse 28 = .ok (.aload_n 0, 1) := by decide +kernel
theorem dX9_isLapse_29 : decode cX9_isLapse 29 = .ok (.iload_n 2, 1) := by decide +kernel
theorem dX9_isLapse_30 : decode cX9_isLapse 30 = .ok (.invokevirtual 114, 3) := by decide +kernel
theorem dX9_isLapse_33 : decode cX9_isLapse 33 = .ok (.invokevirtual 117, 3) := by decide +kernel
theorem dX9_isLapse_36 : decode cX9_isLapse 36 = .ok (.if_icmp .eq 7, 3) := by decide +kernel
theorem dX9_isLapse_39 : decode cX9_isLapse 39 = .ok (.iconst 1, 1) := by decide +kernel
theorem dX9_isLapse_40 : decode cX9_isLapse 40 = .ok (.goto 4, 3) := by decide +kernel
theorem dX9_isLapse_43 : decode cX9_isLapse 43 = .ok (.iconst 0, 1) := by decide +kernel
theorem dX9_isLapse_44 : decode cX9_isLapse 44 = .ok (.ireturn, 1) := by decide +kernel
theorem dX9_between_0 : decode cX9_between 0 = .ok (.iconst 0, 1) := by decide +kernel
theorem dX9_between_1 : decode cX9_between 1 = .ok (.istore_n 3, 1) := by decide +kernel
theorem dX9_between_2 : decode cX9_between 2 = .ok (.iload_n 1, 1) := by decide +kernel
theorem dX9_between_3 : decode cX9_between 3 = .ok (.iconst 1, 1) := by decide +kernel
theorem dX9_between_4 : decode cX9_between 4 = .ok (.iadd, 1) := by decide +kernel
theorem dX9_between_5 : decode cX9_between 5 = .ok (.istore 4, 2) := by decide +kernel
theorem dX9_between_7 : decode cX9_between 7 = .ok (.iload 4, 2) := by decide +kernel
theorem dX9_between_9 : decode cX9_between 9 = .ok (.iload_n 2, 1) := by decide +kernel
theorem dX9_between_10 : decode cX9_between 10 = .ok (.if_icmp .ge 29, 3) := by decide +kernel
theorem dX9_between_13 : decode cX9_between 13 = .ok (.iload_n 3, 1) := by decide +kernel
theorem dX9_between_14 : decode cX9_between 14 = .ok (.aload_n 0, 1) := by decide +kernel
theorem dX9_between_15 : decode cX9_between 15 = .ok (.iload 4, 2) := by decide +kernel
theorem dX9_between_17 : decode cX9_between 17 = .ok (.bipush 26, 2) := by decide +kernel
theorem dX9_between_19 : decode cX9_between 19 = .ok (.irem, 1) := by decide +kernel
theorem dX9_between_20 : decode cX9_between 20 = .ok (.invokevirtual 32, 3) := by decide +kernel
theorem dX9_between_23 : decode cX9_between 23 = .ok (.ifCond .eq 7, 3) := by decide +kernel
theorem dX9_between_26 : decode cX9_between 26 = .ok (.iconst 0, 1) := by decide +kernel
theorem dX9_between_27 : decode cX9_between 27 = .ok (.goto 4, 3) := by decide +kernel
theorem dX9_between_30 : decode cX9_between 30 = .ok (.iconst 1, 1) := by decide +kernel
theorem dX9_between_31 : decode cX9_between 31 = .ok (.iadd, 1) := by decide +kernel
theorem dX9_between_32 : decode cX9_between 32 = .ok (.istore_n 3, 1) := by decide +kernel
theorem dX9_between_33 : decode cX9_between 33 = .ok (.iinc 4 1, 3) := by decide +kernel
theorem dX9_between_36 : decode cX9_between 36 = .ok (.goto (-29), 3) := by decide +kernel
theorem dX9_between_39 : decode cX9_between 39 = .ok (.iload_n 3, 1) := by decide +kernel
theorem dX9_between_40 : decode cX9_between 40 = .ok (.ireturn, 1) := by decide +kernel
theorem dX9_lapse_0 : decode cX9_lapse 0 = .ok (.iload_n 1, 1) := by decide +kernel
theorem dX9_lapse_1 : decode cX9_lapse 1 = .ok (.ifCond .lt 12, 3) := by decide +kernel
theorem dX9_lapse_4 : decode cX9_lapse 4 = .ok (.iload_n 2, 1) := by decide +kernel
theorem dX9_lapse_5 : decode cX9_lapse 5 = .ok (.iconst 0, 1) := by decide +kernel
theorem dX9_lapse_6 : decode cX9_lapse 6 = .ok (.iconst 2, 1) := by decide +kernel
theorem dX9_lapse_7 : decode cX9_lapse 7 = .ok (.invokestatic 40, 3) := by decide +kernel
theorem dX9_lapse_10 : decode cX9_lapse 10 = .ok (.ifCond .ne 6, 3) := by decide +kernel
theorem dX9_lapse_13 : decode cX9_lapse 13 = .ok (.bipush (-2), 2) := by decide +kernel
theorem dX9_lapse_15 : decode cX9_lapse 15 = .ok (.ireturn, 1) := by decide +kernel
theorem dX9_lapse_16 : decode cX9_lapse 16 = .ok (.iload_n 1, 1) := by decide +kernel
theorem dX9_lapse_17 : decode cX9_lapse 17 = .ok (.istore_n 3, 1) := by decide +kernel
theorem dX9_lapse_18 : decode cX9_lapse 18 = .ok (.iconst 0, 1) := by decide +kernel
theorem dX9_lapse_19 : decode cX9_lapse 19 = .ok (.istore 4, 2) := by decide +kernel
theorem dX9_lapse_21 : decode cX9_lapse 21 = .ok (.iload 4, 2) := by decide +kernel
theorem dX9_lapse_23 : decode cX9_lapse 23 = .ok (.aload_n 0, 1) := by decide +kernel
theorem dX9_lapse_24 : decode cX9_lapse 24 = .ok (.getfield 7, 3) := by decide +kernel
theorem dX9_lapse_27 : decode cX9_lapse 27 = .ok (.iconst 2, 1) := by decide +kernel
theorem dX9_lapse_28 : decode cX9_lapse 28 = .ok (.iaload, 1) := by decide +kernel
theorem dX9_lapse_29 : decode cX9_lapse 29 = .ok (.if_icmp .ge 98, 3) := by decide +kernel
theorem dX9_lapse_32 : decode cX9_lapse 32 = .ok (.aload_n 0, 1) := by decide +kernel
theorem dX9_lapse_33 : decode cX9_lapse 33 = .ok (.iload 4, 2) := by decide +kernel
theorem dX9_lapse_35 : decode cX9_lapse 35 = .ok (.invokevirtual 150, 3) := by decide +kernel
theorem dX9_lapse_38 : decode cX9_lapse 38 = .ok (.ifCond .eq 83, 3) := by decide +kernel
theorem dX9_lapse_41 : decode cX9_lapse 41 = .ok (.iload_n 3, 1) := by decide +kernel
theorem dX9_lapse_42 : decode cX9_lapse 42 = .ok (.ifCond .ne 76, 3) := by decide +kernel
theorem dX9_lapse_45 : decode cX9_lapse 45 = .ok (.aload_n 0, 1) := by decide +kernel
theorem dX9_lapse_46 : decode cX9_lapse 46 = .ok (.aload_n 0, 1) := by decide +kernel
theorem dX9_lapse_47 : decode cX9_lapse 47 = .ok (.iload 4, 2) := by decide +kernel
theorem dX9_lapse_49 : decode cX9_lapse 49 = .ok (.invokevirtual 147, 3) := by decide +kernel
theorem dX9_lapse_52 : decode cX9_lapse 52 = .ok (.invokevirtual 114, 3) := by decide +kernel
theorem dX9_lapse_55 : decode cX9_lapse 55 = .ok (.istore 5, 2) := by decide +kernel
theorem dX9_lapse_57 : decode cX9_lapse 57 = .ok (.aload_n 0, 1) := by decide +kernel
theorem dX9_lapse_58 : decode cX9_lapse 58 = .ok (.iload 4, 2) := by decide +kernel
theorem dX9_lapse_60 : decode cX9_lapse 60 = .ok (.invokevirtual 114, 3) := by decide +kernel
theorem dX9_lapse_63 : decode cX9_lapse 63 = .ok (.istore 6, 2) := by decide +kernel
theorem dX9_lapse_65 : decode cX9_lapse 65 = .ok (.iload 5, 2) := by decide +kernel
theorem dX9_lapse_67 : decode cX9_lapse 67 = .ok (.iload 6, 2) := by decide +kernel
theorem dX9_lapse_69 : decode cX9_lapse 69 = .ok (.if_icmp .ne 7, 3) := by decide +kernel
theorem dX9_lapse_72 : decode cX9_lapse 72 = .ok (.iconst 0, 1) := by decide +kernel
theorem dX9_lapse_73 : decode cX9_lapse 73 = .ok (.goto 15, 3) := by decide +kernel
theorem dX9_lapse_76 : decode cX9_lapse 76 = .ok (.iload 6, 2) := by decide +kernel
theorem dX9_lapse_78 : decode cX9_lapse 78 = .ok (.iload 5, 2) := by decide +kernel
theorem dX9_lapse_80 : decode cX9_lapse 80 = .ok (.if_icmp .ge 7, 3) := by decide +kernel
theorem dX9_lapse_83 : decode cX9_lapse 83 = .ok (.iconst 1, 1) := by decide +kernel
theorem dX9_lapse_84 : decode cX9_lapse 84 = .ok (.goto 4, 3) := by decide +kernel
theorem dX9_lapse_87 : decode cX9_lapse 87 = .ok (.iconst 2, 1) := by decide +kernel
theorem dX9_lapse_88 : decode cX9_lapse 88 = .ok (.istore 7, 2) := by decide +kernel
theorem dX9_lapse_90 : decode cX9_lapse 90 = .ok (.iload_n 2, 1) := by decide +kernel
theorem dX9_lapse_91 : decode cX9_lapse 91 = .ok (.ifCond .ne 8, 3) := by decide +kernel
theorem dX9_lapse_94 : decode cX9_lapse 94 = .ok (.iload 4, 2) := by decide +kernel
theorem dX9_lapse_96 : decode cX9_lapse 96 = .ok (.goto 21, 3) := by decide +kernel
theorem dX9_lapse_99 : decode cX9_lapse 99 = .ok (.iload_n 2, 1) := by decide +kernel
theorem dX9_lapse_100 : decode cX9_lapse 100 = .ok (.iconst 1, 1) := by decide +kernel
theorem dX9_lapse_101 : decode cX9_lapse 101 = .ok (.if_icmp .ne 8, 3) := by decide +kernel
theorem dX9_lapse_104 : decode cX9_lapse 104 = .ok (.iload 7, 2) := by decide +kernel
theorem dX9_lapse_106 : decode cX9_lapse 106 = .ok (.goto 11, 3) := by decide +kernel
theorem dX9_lapse_109 : decode cX9_lapse 109 = .ok (.aload_n 0, 1) := by decide +kernel
theorem dX9_lapse_110 : decode cX9_lapse 110 = .ok (.iload 5, 2) := by decide +kernel
theorem dX9_lapse_112 : decode cX9_lapse 112 = .ok (.iload 6, 2) := by decide +kernel
theorem dX9_lapse_114 : decode cX9_lapse 114 = .ok (.invokevirtual 153, 3) := by decide +kernel
theorem dX9_lapse_117 : decode cX9_lapse 117 = .ok (.ireturn, 1) := by decide +kernel
theorem dX9_lapse_118 : decode cX9_lapse 118 = .ok (.iinc 3 (-1), 3) := by decide +kernel
theorem dX9_lapse_121 : decode cX9_lapse 121 = .ok (.iinc 4 1, 3) := by decide +kernel
theorem dX9_lapse_124 : decode cX9_lapse 124 = .ok (.goto (-103), 3) := by decide +kernel
theorem dX9_lapse_127 : decode cX9_lapse 127 = .ok (.bipush (-5), 2) := by decide +kernel
theorem dX9_lapse_129 : decode cX9_lapse 129 = .ok (.ireturn, 1) := by decide +kernel
theorem dX9_isPiled_0 : decode cX9_isPiled 0 = .ok (.iconst 0, 1) := by decide +kernel
theorem dX9_isPiled_1 : decode cX9_isPiled 1 = .ok (.istore_n 2, 1) := by decide +kernel
theorem dX9_isPiled_2 : decode cX9_isPiled 2 = .ok (.iconst 0, 1) := by decide +kernel
theorem dX9_isPiled_3 : decode cX9_isPiled 3 = .ok (.istore_n 3, 1) := by decide +kernel
theorem dX9_isPiled_4 : decode cX9_isPiled 4 = .ok (.iload_n 3, 1) := by decide +kernel
theorem dX9_isPiled_5 : decode cX9_isPiled 5 = .ok (.aload_n 0, 1) := by decide +kernel
theorem dX9_isPiled_6 : decode cX9_isPiled 6 = .ok (.getfield 7, 3) := by decide +kernel
theorem dX9_isPiled_9 : decode cX9_isPiled 9 = .ok (.sipush 163, 3) := by decide +kernel
theorem dX9_isPiled_12 : decode cX9_isPiled 12 = .ok (.iaload, 1) := by decide +kernel
theorem dX9_isPiled_13 : decode cX9_isPiled 13 = .ok (.if_icmp .ge 33, 3) := by decide +kernel
theorem dX9_isPiled_16 : decode cX9_isPiled 16 = .ok (.iload_n 2, 1) := by decide +kernel
theorem dX9_isPiled_17 : decode cX9_isPiled 17 = .ok (.ifCond .ne 17, 3) := by decide +kernel
theorem dX9_isPiled_20 : decode cX9_isPiled 20 = .ok (.aload_n 0, 1) := by decide +kernel
theorem dX9_isPiled_21 : decode cX9_isPiled 21 = .ok (.getfield 7, 3) := by decide +kernel
theorem dX9_isPiled_24 : decode cX9_isPiled 24 = .ok (.sipush 164, 3) := by decide +kernel
theorem dX9_isPiled_27 : decode cX9_isPiled 27 = .ok (.iload_n 3, 1) := by decide +kernel
theorem dX9_isPiled_28 : decode cX9_isPiled 28 = .ok (.iadd, 1) := by decide +kernel
theorem dX9_isPiled_29 : decode cX9_isPiled 29 = .ok (.iaload, 1) := by decide +kernel
theorem dX9_isPiled_30 : decode cX9_isPiled 30 = .ok (.iload_n 1, 1) := by decide +kernel
theorem dX9_isPiled_31 : decode cX9_isPiled 31 = .ok (.if_icmp .ne 7, 3) := by decide +kernel
theorem dX9_isPiled_34 : decode cX9_isPiled 34 = .ok (.iconst 1, 1) := by decide +kernel
theorem dX9_isPiled_35 : decode cX9_isPiled 35 = .ok (.goto 4, 3) := by decide +kernel
theorem dX9_isPiled_38 : decode cX9_isPiled 38 = .ok (.iconst 0, 1) := by decide +kernel
theorem dX9_isPiled_39 : decode cX9_isPiled 39 = .ok (.istore_n 2, 1) := by decide +kernel
theorem dX9_isPiled_40 : decode cX9_isPiled 40 = .ok (.iinc 3 1, 3) := by decide +kernel
theorem dX9_isPiled_43 : decode cX9_isPiled 43 = .ok (.goto (-39), 3) := by decide +kernel
theorem dX9_isPiled_46 : decode cX9_isPiled 46 = .ok (.iload_n 2, 1) := by decide +kernel
theorem dX9_isPiled_47 : decode cX9_isPiled 47 = .ok (.ireturn, 1) := by decide +kernel
theorem dX9_piled_0 : decode cX9_piled 0 = .ok (.iload_n 1, 1) := by decide +kernel
theorem dX9_piled_1 : decode cX9_piled 1 = .ok (.ifCond .lt 12, 3) := by decide +kernel
theorem dX9_piled_4 : decode cX9_piled 4 = .ok (.iload_n 2, 1) := by decide +kernel
theorem dX9_piled_5 : decode cX9_piled 5 = .ok (.iconst 0, 1) := by decide +kernel
theorem dX9_piled_6 : decode cX9_piled 6 = .ok (.iconst 1, 1) := by decide +kernel
theorem dX9_piled_7 : decode cX9_piled 7 = .ok (.invokestatic 40, 3) := by decide +kernel
theorem dX9_piled_10 : decode cX9_piled 10 = .ok (.ifCond .ne 6, 3) := by decide +kernel
theorem dX9_piled_13 : decode cX9_piled 13 = .ok (.bipush (-2), 2) := by decide +kernel
theorem dX9_piled_15 : decode cX9_piled 15 = .ok (.ireturn, 1) := by decide +kernel
theorem dX9_piled_16 : decode cX9_piled 16 = .ok (.iload_n 1, 1) := by decide +kernel
theorem dX9_piled_17 : decode cX9_piled 17 = .ok (.aload_n 0, 1) := by decide +kernel
theorem dX9_piled_18 : decode cX9_piled 18 = .ok (.getfield 7, 3) := by decide +kernel
theorem dX9_piled_21 : decode cX9_piled 21 = .ok (.sipush 163, 3) := by decide +kernel
theorem dX9_piled_24 : decode cX9_piled 24 = .ok (.iaload, 1) := by decide +kernel
theorem dX9_piled_25 : decode cX9_piled 25 = .ok (.if_icmp .lt 6, 3) := by decide +kernel
theorem dX9_piled_28 : decode cX9_piled 28 = .ok (.bipush (-5), 2) := by decide +kernel
theorem dX9_piled_30 : decode cX9_piled 30 = .ok (.ireturn, 1) := by decide +kernel
theorem dX9_piled_31 : decode cX9_piled 31 = .ok (.iload_n 1, 1) := by decide +kernel
theorem dX9_piled_32 : decode cX9_piled 32 = .ok (.istore_n 3, 1) := by decide +kernel
theorem dX9_piled_33 : decode cX9_piled 33 = .ok (.iconst 0, 1) := by decide +kernel
theorem dX9_piled_34 : decode cX9_piled 34 = .ok (.istore 4, 2) := by decide +kernel
theorem dX9_piled_36 : decode cX9_piled 36 = .ok (.iload_n 3, 1) := by decide +kernel
theorem dX9_piled_37 : decode cX9_piled 37 = .ok (.ifCond .gt 12, 3) := by decide +kernel
theorem dX9_piled_40 : decode cX9_piled 40 = .ok (.aload_n 0, 1) := by decide +kernel
theorem dX9_piled_41 : decode cX9_piled 41 = .ok (.iload 4, 2) := by decide +kernel
theorem dX9_piled_43 : decode cX9_piled 43 = .ok (.invokevirtual 156, 3) := by decide +kernel
theorem dX9_piled_46 : decode cX9_piled 46 = .ok (.ifCond .ne 26, 3) := by decide +kernel
theorem dX9_piled_49 : decode cX9_piled 49 = .ok (.iload_n 3, 1) := by decide +kernel
theorem dX9_piled_50 : decode cX9_piled 50 = .ok (.aload_n 0, 1) := by decide +kernel
theorem dX9_piled_51 : decode cX9_piled 51 = .ok (.iload 4, 2) := by decide +kernel
theorem dX9_piled_53 : decode cX9_piled 53 = .ok (.invokevirtual 156, 3) := by decide +kernel
theorem dX9_piled_56 : decode cX9_piled 56 = .ok (.ifCond .eq 7, 3) := by decide +kernel
theorem dX9_piled_59 : decode cX9_piled 59 = .ok (.iconst 1, 1) := by decide +kernel
theorem dX9_piled_60 : decode cX9_piled 60 = .ok (.goto 4, 3) := by decide +kernel
theorem dX9_piled_63 : decode cX9_piled 63 = .ok (.iconst 0, 1) := by decide +kernel
theorem dX9_piled_64 : decode cX9_piled 64 = .ok (.isub, 1) := by decide +kernel
theorem dX9_piled_65 : decode cX9_piled 65 = .ok (.istore_n 3, 1) := by decide +kernel
theorem dX9_piled_66 : decode cX9_piled 66 = .ok (.iinc 4 1, 3) := by decide +kernel
theorem dX9_piled_69 : decode cX9_piled 69 = .ok (.goto (-33), 3) := by decide +kernel
theorem dX9_piled_72 : decode cX9_piled 72 = .ok (.iload_n 2, 1) := by decide +kernel
theorem dX9_piled_73 : decode cX9_piled 73 = .ok (.ifCond .ne 6, 3) := by decide +kernel
theorem dX9_piled_76 : decode cX9_piled 76 = .ok (.iload 4, 2) := by decide +kernel
theorem dX9_piled_78 : decode cX9_piled 78 = .ok (.ireturn, 1) := by decide +kernel
theorem dX9_piled_79 : decode cX9_piled 79 = .ok (.iload_n 1, 1) := by decide +kernel
theorem dX9_piled_80 : decode cX9_piled 80 = .ok (.aload_n 0, 1) := by decide +kernel
theorem dX9_piled_81 : decode cX9_piled 81 = .ok (.getfield 7, 3) := by decide +kernel
theorem dX9_piled_84 : decode cX9_piled 84 = .ok (.sipush 163, 3) := by decide +kernel
theorem dX9_piled_87 : decode cX9_piled 87 = .ok (.iaload, 1) := by decide +kernel
theorem dX9_piled_88 : decode cX9_piled 88 = .ok (.iconst 1, 1) := by decide +kernel
theorem dX9_piled_89 : decode cX9_piled 89 = .ok (.isub, 1) := by decide +kernel
theorem dX9_piled_90 : decode cX9_piled 90 = .ok (.if_icmp .ne 6, 3) := by decide +kernel
theorem dX9_piled_93 : decode cX9_piled 93 = .ok (.bipush (-5), 2) := by decide +kernel
theorem dX9_piled_95 : decode cX9_piled 95 = .ok (.ireturn, 1) := by decide +kernel
theorem dX9_piled_96 : decode cX9_piled 96 = .ok (.iconst 0, 1) := by decide +kernel
theorem dX9_piled_97 : decode cX9_piled 97 = .ok (.istore 5, 2) := by decide +kernel
theorem dX9_piled_99 : decode cX9_piled 99 = .ok (.iload 4, 2) := by decide +kernel
theorem dX9_piled_101 : decode cX9_piled 101 = .ok (.iconst 1, 1) := by decide +kernel
theorem dX9_piled_102 : decode cX9_piled 102 = .ok (.iadd, 1) := by decide +kernel
theorem dX9_piled_103 : decode cX9_piled 103 = .ok (.istore 6, 2) := by decide +kernel
theorem dX9_piled_105 : decode cX9_piled 105 = .ok (.aload_n 0, 1) := by decide +kernel
theorem dX9_piled_106 : decode cX9_piled 106 = .ok (.iload 6, 2) := by decide +kernel
theorem dX9_piled_108 : decode cX9_piled 108 = .ok (.invokevirtual 156, 3) := by decide +kernel
theorem dX9_piled_111 : decode cX9_piled 111 = .ok (.ifCond .ne 28, 3) := by decide +kernel
theorem dX9_piled_114 : decode cX9_piled 114 = .ok (.iload 5, 2) := by decide +kernel
theorem dX9_piled_116 : decode cX9_piled 116 = .ok (.aload_n 0, 1) := by decide +kernel
theorem dX9_piled_117 : decode cX9_piled 117 = .ok (.iload 6, 2) := by decide +kernel
theorem dX9_piled_119 : decode cX9_piled 119 = .ok (.invokevirtual 126, 3) := by decide +kernel
theorem dX9_piled_122 : decode cX9_piled 122 = .ok (.ifCond .eq 7, 3) := by decide +kernel
theorem dX9_piled_125 : decode cX9_piled 125 = .ok (.iconst 0, 1) := by decide +kernel
theorem dX9_piled_126 : decode cX9_piled 126 = .ok (.goto 4, 3) := by decide +kernel
theorem dX9_piled_129 : decode cX9_piled 129 = .ok (.iconst 1, 1) := by decide +kernel
theorem dX9_piled_130 : decode cX9_piled 130 = .ok (.iadd, 1) := by decide +kernel
theorem dX9_piled_131 : decode cX9_piled 131 = .ok (.istore 5, 2) := by decide +kernel
theorem dX9_piled_133 : decode cX9_piled 133 = .ok (.iinc 6 1, 3) := by decide +kernel
theorem dX9_piled_136 : decode cX9_piled 136 = .ok (.goto (-31), 3) := by decide +kernel
theorem dX9_piled_139 : decode cX9_piled 139 = .ok (.iload 5, 2) := by decide +kernel
theorem dX9_piled_141 : decode cX9_piled 141 = .ok (.ireturn, 1) := by decide +kernel
theorem dX9_sheets_0 : decode cX9_sheets 0 = .ok (.iload_n 1, 1) := by decide +kernel
theorem dX9_sheets_1 : decode cX9_sheets 1 = .ok (.iconst 2, 1) := by decide +kernel
theorem dX9_sheets_2 : decode cX9_sheets 2 = .ok (.if_icmp .eq 23, 3) := by decide +kernel
theorem dX9_sheets_5 : decode cX9_sheets 5 = .ok (.iload_n 1, 1) := by decide +kernel
theorem dX9_sheets_6 : decode cX9_sheets 6 = .ok (.iconst 4, 1) := by decide +kernel
theorem dX9_sheets_7 : decode cX9_sheets 7 = .ok (.if_icmp .eq 18, 3) := by decide +kernel
theorem dX9_sheets_10 : decode cX9_sheets 10 = .ok (.iload_n 1, 1) := by decide +kernel
theorem dX9_sheets_11 : decode cX9_sheets 11 = .ok (.bipush 8, 2) := by decide +kernel
theorem dX9_sheets_13 : decode cX9_sheets 13 = .ok (.if_icmp .eq 12, 3) := by decide +kernel
theorem dX9_sheets_16 : decode cX9_sheets 16 = .ok (.iload_n 1, 1) := by decide +kernel
theorem dX9_sheets_17 : decode cX9_sheets 17 = .ok (.bipush 12, 2) := by decide +kernel
theorem dX9_sheets_19 : decode cX9_sheets 19 = .ok (.if_icmp .eq 6, 3) := by decide +kernel
theorem dX9_sheets_22 : decode cX9_sheets 22 = .ok (.bipush (-2), 2) := by decide +kernel
theorem dX9_sheets_24 : decode cX9_sheets 24 = .ok (.ireturn, 1) := by decide +kernel
theorem dX9_sheets_25 : decode cX9_sheets 25 = .ok (.iconst 0, 1) := by decide +kernel
theorem dX9_sheets_26 : decode cX9_sheets 26 = .ok (.istore_n 2, 1) := by decide +kernel
theorem dX9_sheets_27 : decode cX9_sheets 27 = .ok (.iconst 0, 1) := by decide +kernel
theorem dX9_sheets_28 : decode cX9_sheets 28 = .ok (.istore_n 3, 1) := by decide +kernel
theorem dX9_sheets_29 : decode cX9_sheets 29 = .ok (.iload_n 3, 1) := by decide +kernel
theorem dX9_sheets_30 : decode cX9_sheets 30 = .ok (.aload_n 0, 1) := by decide +kernel
theorem dX9_sheets_31 : decode cX9_sheets 31 = .ok (.getfield 7, 3) := by decide +kernel
theorem dX9_sheets_34 : decode cX9_sheets 34 = .ok (.iconst 2, 1) := by decide +kernel
theorem dX9_sheets_35 : decode cX9_sheets 35 = .ok (.iaload, 1) := by decide +kernel
theorem dX9_sheets_36 : decode cX9_sheets 36 = .ok (.if_icmp .ge 28, 3) := by decide +kernel
theorem dX9_sheets_39 : decode cX9_sheets 39 = .ok (.iload_n 2, 1) := by decide +kernel
theorem dX9_sheets_40 : decode cX9_sheets 40 = .ok (.aload_n 0, 1) := by decide +kernel
theorem dX9_sheets_41 : decode cX9_sheets 41 = .ok (.getfield 7, 3) := by decide +kernel
theorem dX9_sheets_44 : decode cX9_sheets 44 = .ok (.iload_n 3, 1) := by decide +kernel
theorem dX9_sheets_45 : decode cX9_sheets 45 = .ok (.iconst 2, 1) := by decide +kernel
theorem dX9_sheets_46 : decode cX9_sheets 46 = .ok (.invokestatic 36, 3) := by decide +kernel
theorem dX9_sheets_49 : decode cX9_sheets 49 = .ok (.iaload, 1) := by decide +kernel
theorem dX9_sheets_50 : decode cX9_sheets 50 = .ok (.iload_n 1, 1) := by decide +kernel
theorem dX9_sheets_51 : decode cX9_sheets 51 = .ok (.iadd, 1) := by decide +kernel
theorem dX9_sheets_52 : decode cX9_sheets 52 = .ok (.iconst 1, 1) := by decide +kernel
theorem dX9_sheets_53 : decode cX9_sheets 53 = .ok (.isub, 1) := by decide +kernel
theorem dX9_sheets_54 : decode cX9_sheets 54 = .ok (.iload_n 1, 1) := by decide +kernel
theorem dX9_sheets_55 : decode cX9_sheets 55 = .ok (.idiv, 1) := by decide +kernel
theorem dX9_sheets_56 : decode cX9_sheets 56 = .ok (.iadd, 1) := by decide +kernel
theorem dX9_sheets_57 : decode cX9_sheets 57 = .ok (.istore_n 2, 1) := by decide +kernel
theorem dX9_sheets_58 : decode cX9_sheets 58 = .ok (.iinc 3 1, 3) := by decide +kernel
theorem dX9_sheets_61 : decode cX9_sheets 61 = .ok (.goto (-32), 3) := by decide +kernel
theorem dX9_sheets_64 : decode cX9_sheets 64 = .ok (.iload_n 2, 1) := by decide +kernel
theorem dX9_sheets_65 : decode cX9_sheets 65 = .ok (.ireturn, 1) := by decide +kernel
theorem dX9_writes_0 : decode cX9_writes 0 = .ok (.aload_n 0, 1) := by decide +kernel
theorem dX9_writes_1 : decode cX9_writes 1 = .ok (.getfield 20, 3) := by decide +kernel
theorem dX9_writes_4 : decode cX9_writes 4 = .ok (.aload_n 0, 1) := by decide +kernel
theorem dX9_writes_5 : decode cX9_writes 5 = .ok (.getfield 159, 3) := by decide +kernel
theorem dX9_writes_8 : decode cX9_writes 8 = .ok (.iload_n 1, 1) := by decide +kernel
theorem dX9_writes_9 : decode cX9_writes 9 = .ok (.i2c, 1) := by decide +kernel
theorem dX9_writes_10 : decode cX9_writes 10 = .ok (.castore, 1) := by decide +kernel
theorem dX9_writes_11 : decode cX9_writes 11 = .ok (.aload_n 0, 1) := by decide +kernel
theorem dX9_writes_12 : decode cX9_writes 12 = .ok (.dup, 1) := by decide +kernel
theorem dX9_writes_13 : decode cX9_writes 13 = .ok (.getfield 159, 3) := by decide +kernel
theorem dX9_writes_16 : decode cX9_writes 16 = .ok (.iconst 1, 1) := by decide +kernel
theorem dX9_writes_17 : decode cX9_writes 17 = .ok (.iadd, 1) := by decide +kernel
theorem dX9_writes_18 : decode cX9_writes 18 = .ok (.putfield 159, 3) := by decide +kernel
theorem dX9_writes_21 : decode cX9_writes 21 = .ok (.return_, 1) := by decide +kernel
theorem dX9_writesSign_0 : decode cX9_writesSign 0 = .ok (.iconst 0, 1) := by decide +kernel
theorem dX9_writesSign_1 : decode cX9_writesSign 1 = .ok (.istore_n 2, 1) := by decide +kernel
theorem dX9_writesSign_2 : decode cX9_writesSign 2 = .ok (.iload_n 2, 1) := by decide +kernel
theorem dX9_writesSign_3 : decode cX9_writesSign 3 = .ok (.aload_n 0, 1) := by decide +kernel
theorem dX9_writesSign_4 : decode cX9_writesSign 4 = .ok (.getfield 7, 3) := by decide +kernel
theorem dX9_writesSign_7 : decode cX9_writesSign 7 = .ok (.iload_n 1, 1) := by decide +kernel
theorem dX9_writesSign_8 : decode cX9_writesSign 8 = .ok (.iconst 0, 1) := by decide +kernel
theorem dX9_writesSign_9 : decode cX9_writesSign 9 = .ok (.invokestatic 36, 3) := by decide +kernel
theorem dX9_writesSign_12 : decode cX9_writesSign 12 = .ok (.iaload, 1) := by decide +kernel
theorem dX9_writesSign_13 : decode cX9_writesSign 13 = .ok (.if_icmp .ge 59, 3) := by decide +kernel
theorem dX9_writesSign_16 : decode cX9_writesSign 16 = .ok (.aload_n 0, 1) := by decide +kernel
theorem dX9_writesSign_17 : decode cX9_writesSign 17 = .ok (.aload_n 0, 1) := by decide +kernel
theorem dX9_writesSign_18 : decode cX9_writesSign 18 = .ok (.iload_n 1, 1) := by decide +kernel
theorem dX9_writesSign_19 : decode cX9_writesSign 19 = .ok (.invokevirtual 111, 3) := by decide +kernel
theorem dX9_writesSign_22 : decode cX9_writesSign 22 = .ok (.ifCond .eq 8, 3) := by decide +kernel
theorem dX9_writesSign_25 : decode cX9_writesSign 25 = .ok (.bipush 42, 2) := by decide +kernel
theorem dX9_writesSign_27 : decode cX9_writesSign 27 = .ok (.goto 36, 3) := by decide +kernel
theorem dX9_writesSign_30 : decode cX9_writesSign 30 = .ok (.iload_n 2, 1) := by decide +kernel
theorem dX9_writesSign_31 : decode cX9_writesSign 31 = .ok (.ifCond .ne 19, 3) := by decide +kernel
theorem dX9_writesSign_34 : decode cX9_writesSign 34 = .ok (.bipush 65, 2) := by decide +kernel
theorem dX9_writesSign_36 : decode cX9_writesSign 36 = .ok (.aload_n 0, 1) := by decide +kernel
theorem dX9_writesSign_37 : decode cX9_writesSign 37 = .ok (.getfield 7, 3) := by decide +kernel
theorem dX9_writesSign_40 : decode cX9_writesSign 40 = .ok (.iload_n 1, 1) := by decide +kernel
theorem dX9_writesSign_41 : decode cX9_writesSign 41 = .ok (.iconst 1, 1) := by decide +kernel
theorem dX9_writesSign_42 : decode cX9_writesSign 42 = .ok (.invokestatic 36, 3) := by decide +kernel
theorem dX9_writesSign_45 : decode cX9_writesSign 45 = .ok (.iaload, 1) := by decide +kernel
theorem dX9_writesSign_46 : decode cX9_writesSign 46 = .ok (.iadd, 1) := by decide +kernel
theorem dX9_writesSign_47 : decode cX9_writesSign 47 = .ok (.goto 16, 3) := by decide +kernel
theorem dX9_writesSign_50 : decode cX9_writesSign 50 = .ok (.bipush 97, 2) := by decide +kernel
theorem dX9_writesSign_52 : decode cX9_writesSign 52 = .ok (.aload_n 0, 1) := by decide +kernel
theorem dX9_writesSign_53 : decode cX9_writesSign 53 = .ok (.getfield 7, 3) := by decide +kernel
theorem dX9_writesSign_56 : decode cX9_writesSign 56 = .ok (.iload_n 1, 1) := by decide +kernel
theorem dX9_writesSign_57 : decode cX9_writesSign 57 = .ok (.iconst 1, 1) := by decide +kernel
theorem dX9_writesSign_58 : decode cX9_writesSign 58 = .ok (.invokestatic 36, 3) := by decide +kernel
theorem dX9_writesSign_61 : decode cX9_writesSign 61 = .ok (.iaload, 1) := by decide +kernel
theorem dX9_writesSign_62 : decode cX9_writesSign 62 = .ok (.iadd, 1) := by decide +kernel
theorem dX9_writesSign_63 : decode cX9_writesSign 63 = .ok (.invokevirtual 162, 3) := by decide +kernel
theorem dX9_writesSign_66 : decode cX9_writesSign 66 = .ok (.iinc 2 1, 3) := by decide +kernel
theorem dX9_writesSign_69 : decode cX9_writesSign 69 = .ok (.goto (-67), 3) := by decide +kernel
theorem dX9_writesSign_72 : decode cX9_writesSign 72 = .ok (.return_, 1) := by decide +kernel
theorem dX9_goesOn_0 : decode cX9_goesOn 0 = .ok (.aload_n 0, 1) := by decide +kernel
theorem dX9_goesOn_1 : decode cX9_goesOn 1 = .ok (.iload_n 1, 1) := by decide +kernel
theorem dX9_goesOn_2 : decode cX9_goesOn 2 = .ok (.invokevirtual 111, 3) := by decide +kernel
theorem dX9_goesOn_5 : decode cX9_goesOn 5 = .ok (.ifCond .ne 67, 3) := by decide +kernel
theorem dX9_goesOn_8 : decode cX9_goesOn 8 = .ok (.aload_n 0, 1) := by decide +kernel
theorem dX9_goesOn_9 : decode cX9_goesOn 9 = .ok (.iload_n 1, 1) := by decide +kernel
theorem dX9_goesOn_10 : decode cX9_goesOn 10 = .ok (.iconst 1, 1) := by decide +kernel
theorem dX9_goesOn_11 : decode cX9_goesOn 11 = .ok (.isub, 1) := by decide +kernel
theorem dX9_goesOn_12 : decode cX9_goesOn 12 = .ok (.invokevirtual 111, 3) := by decide +kernel
theorem dX9_goesOn_15 : decode cX9_goesOn 15 = .ok (.ifCond .ne 57, 3) := by decide +kernel
theorem dX9_goesOn_18 : decode cX9_goesOn 18 = .ok (.aload_n 0, 1) := by decide +kernel
theorem dX9_goesOn_19 : decode cX9_goesOn 19 = .ok (.getfield 7, 3) := by decide +kernel
theorem dX9_goesOn_22 : decode cX9_goesOn 22 = .ok (.iload_n 1, 1) := by decide +kernel
theorem dX9_goesOn_23 : decode cX9_goesOn 23 = .ok (.iconst 0, 1) := by decide +kernel
theorem dX9_goesOn_24 : decode cX9_goesOn 24 = .ok (.invokestatic 36, 3) := by decide +kernel
theorem dX9_goesOn_27 : decode cX9_goesOn 27 = .ok (.iaload, 1) := by decide +kernel
theorem dX9_goesOn_28 : decode cX9_goesOn 28 = .ok (.aload_n 0, 1) := by decide +kernel
theorem dX9_goesOn_29 : decode cX9_goesOn 29 = .ok (.getfield 7, 3) := by decide +kernel
theorem dX9_goesOn_32 : decode cX9_goesOn 32 = .ok (.iload_n 1, 1) := by decide +kernel
theorem dX9_goesOn_33 : decode cX9_goesOn 33 = .ok (.iconst 1, 1) := by decide +kernel
theorem dX9_goesOn_34 : decode cX9_goesOn 34 = .ok (.isub, 1) := by decide +kernel
theorem dX9_goesOn_35 : decode cX9_goesOn 35 = .ok (.iconst 0, 1) := by decide +kernel
theorem dX9_goesOn_36 : decode cX9_goesOn 36 = .ok (.invokestatic 36, 3) := by decide +kernel
theorem dX9_goesOn_39 : decode cX9_goesOn 39 = .ok (.iaload, 1) := by decide +kernel
theorem dX9_goesOn_40 : decode cX9_goesOn 40 = .ok (.if_icmp .ne 32, 3) := by decide +kernel
theorem dX9_goesOn_43 : decode cX9_goesOn 43 = .ok (.aload_n 0, 1) := by decide +kernel
theorem dX9_goesOn_44 : decode cX9_goesOn 44 = .ok (.getfield 7, 3) := by decide +kernel
theorem dX9_goesOn_47 : decode cX9_goesOn 47 = .ok (.iload_n 1, 1) := by decide +kernel
theorem dX9_goesOn_48 : decode cX9_goesOn 48 = .ok (.iconst 2, 1) := by decide +kernel
theorem dX9_goesOn_49 : decode cX9_goesOn 49 = .ok (.invokestatic 36, 3) := by decide +kernel
theorem dX9_goesOn_52 : decode cX9_goesOn 52 = .ok (.iaload, 1) := by decide +kernel
theorem dX9_goesOn_53 : decode cX9_goesOn 53 = .ok (.aload_n 0, 1) := by decide +kernel
theorem dX9_goesOn_54 : decode cX9_goesOn 54 = .ok (.getfield 7, 3) := by decide +kernel
theorem dX9_goesOn_57 : decode cX9_goesOn 57 = .ok (.iload_n 1, 1) := by decide +kernel
theorem dX9_goesOn_58 : decode cX9_goesOn 58 = .ok (.iconst 1, 1) := by decide +kernel
theorem dX9_goesOn_59 : decode cX9_goesOn 59 = .ok (.isub, 1) := by decide +kernel
theorem dX9_goesOn_60 : decode cX9_goesOn 60 = .ok (.iconst 2, 1) := by decide +kernel
theorem dX9_goesOn_61 : decode cX9_goesOn 61 = .ok (.invokestatic 36, 3) := by decide +kernel
theorem dX9_goesOn_64 : decode cX9_goesOn 64 = .ok (.iaload, 1) := by decide +kernel
theorem dX9_goesOn_65 : decode cX9_goesOn 65 = .ok (.if_icmp .ne 7, 3) := by decide +kernel
theorem dX9_goesOn_68 : decode cX9_goesOn 68 = .ok (.iconst 1, 1) := by decide +kernel
theorem dX9_goesOn_69 : decode cX9_goesOn 69 = .ok (.goto 4, 3) := by decide +kernel
theorem dX9_goesOn_72 : decode cX9_goesOn 72 = .ok (.iconst 0, 1) := by decide +kernel
theorem dX9_goesOn_73 : decode cX9_goesOn 73 = .ok (.istore_n 2, 1) := by decide +kernel
theorem dX9_goesOn_74 : decode cX9_goesOn 74 = .ok (.iload_n 2, 1) := by decide +kernel
theorem dX9_goesOn_75 : decode cX9_goesOn 75 = .ok (.ifCond .eq 26, 3) := by decide +kernel
theorem dX9_goesOn_78 : decode cX9_goesOn 78 = .ok (.aload_n 0, 1) := by decide +kernel
theorem dX9_goesOn_79 : decode cX9_goesOn 79 = .ok (.iload_n 1, 1) := by decide +kernel
theorem dX9_goesOn_80 : decode cX9_goesOn 80 = .ok (.invokevirtual 114, 3) := by decide +kernel
theorem dX9_goesOn_83 : decode cX9_goesOn 83 = .ok (.aload_n 0, 1) := by decide +kernel
theorem dX9_goesOn_84 : decode cX9_goesOn 84 = .ok (.aload_n 0, 1) := by decide +kernel
theorem dX9_goesOn_85 : decode cX9_goesOn 85 = .ok (.iload_n 1, 1) := by decide +kernel
theorem dX9_goesOn_86 : decode cX9_goesOn 86 = .ok (.iconst 1, 1) := by decide +kernel
theorem dX9_goesOn_87 : decode cX9_goesOn 87 = .ok (.isub, 1) := by decide +kernel
theorem dX9_goesOn_88 : decode cX9_goesOn 88 = .ok (.invokevirtual 114, 3) := by decide +kernel
theorem dX9_goesOn_91 : decode cX9_goesOn 91 = .ok (.invokevirtual 117, 3) := by decide +kernel
theorem dX9_goesOn_94 : decode cX9_goesOn 94 = .ok (.if_icmp .ne 7, 3) := by decide +kernel
theorem dX9_goesOn_97 : decode cX9_goesOn 97 = .ok (.iconst 1, 1) := by decide +kernel
theorem dX9_goesOn_98 : decode cX9_goesOn 98 = .ok (.goto 4, 3) := by decide +kernel
theorem dX9_goesOn_101 : decode cX9_goesOn 101 = .ok (.iconst 0, 1) := by decide +kernel
theorem dX9_goesOn_102 : decode cX9_goesOn 102 = .ok (.ireturn, 1) := by decide +kernel
theorem dX9_lays_0 : decode cX9_lays 0 = .ok (.aload_n 0, 1) := by decide +kernel
theorem dX9_lays_1 : decode cX9_lays 1 = .ok (.iconst 0, 1) := by decide +kernel
theorem dX9_lays_2 : decode cX9_lays 2 = .ok (.putfield 159, 3) := by decide +kernel
theorem dX9_lays_5 : decode cX9_lays 5 = .ok (.aload_n 0, 1) := by decide +kernel
theorem dX9_lays_6 : decode cX9_lays 6 = .ok (.iconst 0, 1) := by decide +kernel
theorem dX9_lays_7 : decode cX9_lays 7 = .ok (.putfield 166, 3) := by decide +kernel
theorem dX9_lays_10 : decode cX9_lays 10 = .ok (.iconst 0, 1) := by decide +kernel
theorem dX9_lays_11 : decode cX9_lays 11 = .ok (.istore_n 1, 1) := by decide +kernel
theorem dX9_lays_12 : decode cX9_lays 12 = .ok (.iload_n 1, 1) := by decide +kernel
theorem dX9_lays_13 : decode cX9_lays 13 = .ok (.aload_n 0, 1) := by decide +kernel
theorem dX9_lays_14 : decode cX9_lays 14 = .ok (.getfield 7, 3) := by decide +kernel
theorem dX9_lays_17 : decode cX9_lays 17 = .ok (.iconst 2, 1) := by decide +kernel
theorem dX9_lays_18 : decode cX9_lays 18 = .ok (.iaload, 1) := by decide +kernel
theorem dX9_lays_19 : decode cX9_lays 19 = .ok (.if_icmp .ge 120, 3) := by decide +kernel
theorem dX9_lays_22 : decode cX9_lays 22 = .ok (.iload_n 1, 1) := by decide +kernel
theorem dX9_lays_23 : decode cX9_lays 23 = .ok (.istore_n 2, 1) := by decide +kernel
theorem dX9_lays_24 : decode cX9_lays 24 = .ok (.iload_n 2, 1) := by decide +kernel
theorem dX9_lays_25 : decode cX9_lays 25 = .ok (.iconst 1, 1) := by decide +kernel
theorem dX9_lays_26 : decode cX9_lays 26 = .ok (.iadd, 1) := by decide +kernel
theorem dX9_lays_27 : decode cX9_lays 27 = .ok (.aload_n 0, 1) := by decide +kernel
theorem dX9_lays_28 : decode cX9_lays 28 = .ok (.getfield 7, 3) := by decide +kernel
theorem dX9_lays_31 : decode cX9_lays 31 = .ok (.iconst 2, 1) := by decide +kernel
theorem dX9_lays_32 : decode cX9_lays 32 = .ok (.iaload, 1) := by decide +kernel
theorem dX9_lays_33 : decode cX9_lays 33 = .ok (.if_icmp .ge 19, 3) := by decide +kernel
theorem dX9_lays_36 : decode cX9_lays 36 = .ok (.aload_n 0, 1) := by decide +kernel
theorem dX9_lays_37 : decode cX9_lays 37 = .ok (.iload_n 2, 1) := by decide +kernel
theorem dX9_lays_38 : decode cX9_lays 38 = .ok (.iconst 1, 1) := by decide +kernel
theorem dX9_lays_39 : decode cX9_lays 39 = .ok (.iadd, 1) := by decide +kernel
theorem dX9_lays_40 : decode cX9_lays 40 = .ok (.invokevirtual 169, 3) := by decide +kernel
theorem dX9_lays_43 : decode cX9_lays 43 = .ok (.ifCond .eq 9, 3) := by decide +kernel
theorem dX9_lays_46 : decode cX9_lays 46 = .ok (.iinc 2 1, 3) := by decide +kernel
theorem dX9_lays_49 : decode cX9_lays 49 = .ok (.goto (-25), 3) := by decide +kernel
theorem dX9_lays_52 : decode cX9_lays 52 = .ok (.iload_n 1, 1) := by decide +kernel
theorem dX9_lays_53 : decode cX9_lays 53 = .ok (.ifCond .le 9, 3) := by decide +kernel
theorem dX9_lays_56 : decode cX9_lays 56 = .ok (.aload_n 0, 1) := by decide +kernel
theorem dX9_lays_57 : decode cX9_lays 57 = .ok (.bipush 44, 2) := by decide +kernel
theorem dX9_lays_59 : decode cX9_lays 59 = .ok (.invokevirtual 162, 3) := by decide +kernel
theorem dX9_lays_62 : decode cX9_lays 62 = .ok (.aload_n 0, 1) := by decide +kernel
theorem dX9_lays_63 : decode cX9_lays 63 = .ok (.iload_n 1, 1) := by decide +kernel
theorem dX9_lays_64 : decode cX9_lays 64 = .ok (.invokevirtual 172, 3) := by decide +kernel
theorem dX9_lays_67 : decode cX9_lays 67 = .ok (.iload_n 2, 1) := by decide +kernel
theorem dX9_lays_68 : decode cX9_lays 68 = .ok (.iload_n 1, 1) := by decide +kernel
theorem dX9_lays_69 : decode cX9_lays 69 = .ok (.if_icmp .le 14, 3) := by decide +kernel
theorem dX9_lays_72 : decode cX9_lays 72 = .ok (.aload_n 0, 1) := by decide +kernel
theorem dX9_lays_73 : decode cX9_lays 73 = .ok (.bipush 45, 2) := by decide +kernel
theorem dX9_lays_75 : decode cX9_lays 75 = .ok (.invokevirtual 162, 3) := by decide +kernel
theorem dX9_lays_78 : decode cX9_lays 78 = .ok (.aload_n 0, 1) := by decide +kernel
theorem dX9_lays_79 : decode cX9_lays 79 = .ok (.iload_n 2, 1) := by decide +kernel
theorem dX9_lays_80 : decode cX9_lays 80 = .ok (.invokevirtual 172, 3) := by decide +kernel
theorem dX9_lays_83 : decode cX9_lays 83 = .ok (.aload_n 0, 1) := by decide +kernel
theorem dX9_lays_84 : decode cX9_lays 84 = .ok (.getfield 7, 3) := by decide +kernel
theorem dX9_lays_87 : decode cX9_lays 87 = .ok (.iload_n 1, 1) := by decide +kernel
theorem dX9_lays_88 : decode cX9_lays 88 = .ok (.iconst 2, 1) := by decide +kernel
theorem dX9_lays_89 : decode cX9_lays 89 = .ok (.invokestatic 36, 3) := by decide +kernel
theorem dX9_lays_92 : decode cX9_lays 92 = .ok (.iaload, 1) := by decide +kernel
theorem dX9_lays_93 : decode cX9_lays 93 = .ok (.istore_n 3, 1) := by decide +kernel
theorem dX9_lays_94 : decode cX9_lays 94 = .ok (.iload_n 3, 1) := by decide +kernel
theorem dX9_lays_95 : decode cX9_lays 95 = .ok (.bipush 9, 2) := by decide +kernel
theorem dX9_lays_97 : decode cX9_lays 97 = .ok (.if_icmp .le 14, 3) := by decide +kernel
theorem dX9_lays_100 : decode cX9_lays 100 = .ok (.aload_n 0, 1) := by decide +kernel
theorem dX9_lays_101 : decode cX9_lays 101 = .ok (.bipush 48, 2) := by decide +kernel
theorem dX9_lays_103 : decode cX9_lays 103 = .ok (.iload_n 3, 1) := by decide +kernel
theorem dX9_lays_104 : decode cX9_lays 104 = .ok (.bipush 10, 2) := by decide +kernel
theorem dX9_lays_106 : decode cX9_lays 106 = .ok (.idiv, 1) := by decide +kernel
theorem dX9_lays_107 : decode cX9_lays 107 = .ok (.iadd, 1) := by decide +kernel
theorem dX9_lays_108 : decode cX9_lays 108 = .ok (.invokevirtual 162, 3) := by decide +kernel
theorem dX9_lays_111 : decode cX9_lays 111 = .ok (.aload_n 0, 1) := by decide +kernel
theorem dX9_lays_112 : decode cX9_lays 112 = .ok (.bipush 48, 2) := by decide +kernel
theorem dX9_lays_114 : decode cX9_lays 114 = .ok (.iload_n 3, 1) := by decide +kernel
theorem dX9_lays_115 : decode cX9_lays 115 = .ok (.bipush 10, 2) := by decide +kernel
theorem dX9_lays_117 : decode cX9_lays 117 = .ok (.irem, 1) := by decide +kernel
theorem dX9_lays_118 : decode cX9_lays 118 = .ok (.iadd, 1) := by decide +kernel
theorem dX9_lays_119 : decode cX9_lays 119 = .ok (.invokevirtual 162, 3) := by decide +kernel
theorem dX9_lays_122 : decode cX9_lays 122 = .ok (.aload_n 0, 1) := by decide +kernel
theorem dX9_lays_123 : decode cX9_lays 123 = .ok (.dup, 1) := by decide +kernel
theorem dX9_lays_124 : decode cX9_lays 124 = .ok (.getfield 166, 3) := by decide +kernel
theorem dX9_lays_127 : decode cX9_lays 127 = .ok (.iconst 1, 1) := by decide +kernel
theorem dX9_lays_128 : decode cX9_lays 128 = .ok (.iadd, 1) := by decide +kernel
theorem dX9_lays_129 : decode cX9_lays 129 = .ok (.putfield 166, 3) := by decide +kernel
theorem dX9_lays_132 : decode cX9_lays 132 = .ok (.iload_n 2, 1) := by decide +kernel
theorem dX9_lays_133 : decode cX9_lays 133 = .ok (.iconst 1, 1) := by decide +kernel
theorem dX9_lays_134 : decode cX9_lays 134 = .ok (.iadd, 1) := by decide +kernel
theorem dX9_lays_135 : decode cX9_lays 135 = .ok (.istore_n 1, 1) := by decide +kernel
theorem dX9_lays_136 : decode cX9_lays 136 = .ok (.goto (-124), 3) := by decide +kernel
theorem dX9_lays_139 : decode cX9_lays 139 = .ok (.return_, 1) := by decide +kernel
theorem dX9_formula_0 : decode cX9_formula 0 = .ok (.iload_n 1, 1) := by decide +kernel
theorem dX9_formula_1 : decode cX9_formula 1 = .ok (.ifCond .ge 6, 3) := by decide +kernel
theorem dX9_formula_4 : decode cX9_formula 4 = .ok (.bipush (-2), 2) := by decide +kernel
theorem dX9_formula_6 : decode cX9_formula 6 = .ok (.ireturn, 1) := by decide +kernel
theorem dX9_formula_7 : decode cX9_formula 7 = .ok (.aload_n 0, 1) := by decide +kernel
theorem dX9_formula_8 : decode cX9_formula 8 = .ok (.invokevirtual 175, 3) := by decide +kernel
theorem dX9_formula_11 : decode cX9_formula 11 = .ok (.iload_n 1, 1) := by decide +kernel
theorem dX9_formula_12 : decode cX9_formula 12 = .ok (.aload_n 0, 1) := by decide +kernel
theorem dX9_formula_13 : decode cX9_formula 13 = .ok (.getfield 159, 3) := by decide +kernel
theorem dX9_formula_16 : decode cX9_formula 16 = .ok (.if_icmp .ge 12, 3) := by decide +kernel
theorem dX9_formula_19 : decode cX9_formula 19 = .ok (.aload_n 0, 1) := by decide +kernel
theorem dX9_formula_20 : decode cX9_formula 20 = .ok (.getfield 20, 3) := by decide +kernel
theorem dX9_formula_23 : decode cX9_formula 23 = .ok (.iload_n 1, 1) := by decide +kernel
theorem dX9_formula_24 : decode cX9_formula 24 = .ok (.caload, 1) := by decide +kernel
theorem dX9_formula_25 : decode cX9_formula 25 = .ok (.goto 5, 3) := by decide +kernel
theorem dX9_formula_28 : decode cX9_formula 28 = .ok (.bipush (-5), 2) := by decide +kernel
theorem dX9_formula_30 : decode cX9_formula 30 = .ok (.ireturn, 1) := by decide +kernel
theorem dX9_starred_0 : decode cX9_starred 0 = .ok (.iconst 0, 1) := by decide +kernel
theorem dX9_starred_1 : decode cX9_starred 1 = .ok (.istore_n 1, 1) := by decide +kernel
theorem dX9_starred_2 : decode cX9_starred 2 = .ok (.iconst 0, 1) := by decide +kernel
theorem dX9_starred_3 : decode cX9_starred 3 = .ok (.istore_n 2, 1) := by decide +kernel
theorem dX9_starred_4 : decode cX9_starred 4 = .ok (.iload_n 2, 1) := by decide +kernel
theorem dX9_starred_5 : decode cX9_starred 5 = .ok (.aload_n 0, 1) := by decide +kernel
theorem dX9_starred_6 : decode cX9_starred 6 = .ok (.getfield 7, 3) := by decide +kernel
theorem dX9_starred_9 : decode cX9_starred 9 = .ok (.iconst 2, 1) := by decide +kernel
theorem dX9_starred_10 : decode cX9_starred 10 = .ok (.iaload, 1) := by decide +kernel
theorem dX9_starred_11 : decode cX9_starred 11 = .ok (.if_icmp .ge 25, 3) := by decide +kernel
theorem dX9_starred_14 : decode cX9_starred 14 = .ok (.iload_n 1, 1) := by decide +kernel
theorem dX9_starred_15 : decode cX9_starred 15 = .ok (.aload_n 0, 1) := by decide +kernel
theorem dX9_starred_16 : decode cX9_starred 16 = .ok (.iload_n 2, 1) := by decide +kernel
theorem dX9_starred_17 : decode cX9_starred 17 = .ok (.invokevirtual 111, 3) := by decide +kernel
theorem dX9_starred_20 : decode cX9_starred 20 = .ok (.ifCond .eq 7, 3) := by decide +kernel
theorem dX9_starred_23 : decode cX9_starred 23 = .ok (.iconst 1, 1) := by decide +kernel
theorem dX9_starred_24 : decode cX9_starred 24 = .ok (.goto 4, 3) := by decide +kernel
theorem dX9_starred_27 : decode cX9_starred 27 = .ok (.iconst 0, 1) := by decide +kernel
theorem dX9_starred_28 : decode cX9_starred 28 = .ok (.iadd, 1) := by decide +kernel
theorem dX9_starred_29 : decode cX9_starred 29 = .ok (.istore_n 1, 1) := by decide +kernel
theorem dX9_starred_30 : decode cX9_starred 30 = .ok (.iinc 2 1, 3) := by decide +kernel
theorem dX9_starred_33 : decode cX9_starred 33 = .ok (.goto (-29), 3) := by decide +kernel
theorem dX9_starred_36 : decode cX9_starred 36 = .ok (.iload_n 1, 1) := by decide +kernel
theorem dX9_starred_37 : decode cX9_starred 37 = .ok (.ireturn, 1) := by decide +kernel
theorem dX9_lapses_0 : decode cX9_lapses 0 = .ok (.iconst 0, 1) := by decide +kernel
theorem dX9_lapses_1 : decode cX9_lapses 1 = .ok (.istore_n 1, 1) := by decide +kernel
theorem dX9_lapses_2 : decode cX9_lapses 2 = .ok (.iconst 0, 1) := by decide +kernel
theorem dX9_lapses_3 : decode cX9_lapses 3 = .ok (.istore_n 2, 1) := by decide +kernel
theorem dX9_lapses_4 : decode cX9_lapses 4 = .ok (.iload_n 2, 1) := by decide +kernel
theorem dX9_lapses_5 : decode cX9_lapses 5 = .ok (.aload_n 0, 1) := by decide +kernel
theorem dX9_lapses_6 : decode cX9_lapses 6 = .ok (.getfield 7, 3) := by decide +kernel
theorem dX9_lapses_9 : decode cX9_lapses 9 = .ok (.iconst 2, 1) := by decide +kernel
theorem dX9_lapses_10 : decode cX9_lapses 10 = .ok (.iaload, 1) := by decide +kernel
theorem dX9_lapses_11 : decode cX9_lapses 11 = .ok (.if_icmp .ge 25, 3) := by decide +kernel
theorem dX9_lapses_14 : decode cX9_lapses 14 = .ok (.iload_n 1, 1) := by decide +kernel
theorem dX9_lapses_15 : decode cX9_lapses 15 = .ok (.aload_n 0, 1) := by decide +kernel
theorem dX9_lapses_16 : decode cX9_lapses 16 = .ok (.iload_n 2, 1) := by decide +kernel
theorem dX9_lapses_17 : decode cX9_lapses 17 = .ok (.invokevirtual 150, 3) := by decide +kernel
theorem dX9_lapses_20 : decode cX9_lapses 20 = .ok (.ifCond .eq 7, 3) := by decide +kernel
theorem dX9_lapses_23 : decode cX9_lapses 23 = .ok (.iconst 1, 1) := by decide +kernel
theorem dX9_lapses_24 : decode cX9_lapses 24 = .ok (.goto 4, 3) := by decide +kernel
theorem dX9_lapses_27 : decode cX9_lapses 27 = .ok (.iconst 0, 1) := by decide +kernel
theorem dX9_lapses_28 : decode cX9_lapses 28 = .ok (.iadd, 1) := by decide +kernel
theorem dX9_lapses_29 : decode cX9_lapses 29 = .ok (.istore_n 1, 1) := by decide +kernel
theorem dX9_lapses_30 : decode cX9_lapses 30 = .ok (.iinc 2 1, 3) := by decide +kernel
theorem dX9_lapses_33 : decode cX9_lapses 33 = .ok (.goto (-29), 3) := by decide +kernel
theorem dX9_lapses_36 : decode cX9_lapses 36 = .ok (.iload_n 1, 1) := by decide +kernel
theorem dX9_lapses_37 : decode cX9_lapses 37 = .ok (.ireturn, 1) := by decide +kernel
theorem dX9_count_0 : decode cX9_count 0 = .ok (.aload_n 0, 1) := by decide +kernel
theorem dX9_count_1 : decode cX9_count 1 = .ok (.invokevirtual 175, 3) := by decide +kernel
theorem dX9_count_4 : decode cX9_count 4 = .ok (.iload_n 1, 1) := by decide +kernel
theorem dX9_count_5 : decode cX9_count 5 = .ok (.tableswitch 145 0 12 #[67, 74, 79, 89, 94, 99, 104, 109, 114, 119, 128, 135, 140], 67) := by decide +kernel
theorem dX9_count_72 : decode cX9_count 72 = .ok (.aload_n 0, 1) := by decide +kernel
theorem dX9_count_73 : decode cX9_count 73 = .ok (.getfield 7, 3) := by decide +kernel
theorem dX9_count_76 : decode cX9_count 76 = .ok (.iconst 2, 1) := by decide +kernel
theorem dX9_count_77 : decode cX9_count 77 = .ok (.iaload, 1) := by decide +kernel
theorem dX9_count_78 : decode cX9_count 78 = .ok (.ireturn, 1) := by decide +kernel
theorem dX9_count_79 : decode cX9_count 79 = .ok (.aload_n 0, 1) := by decide +kernel
theorem dX9_count_80 : decode cX9_count 80 = .ok (.invokevirtual 48, 3) := by decide +kernel
theorem dX9_count_83 : decode cX9_count 83 = .ok (.ireturn, 1) := by decide +kernel
theorem dX9_count_84 : decode cX9_count 84 = .ok (.aload_n 0, 1) := by decide +kernel
theorem dX9_count_85 : decode cX9_count 85 = .ok (.invokevirtual 48, 3) := by decide +kernel
theorem dX9_count_88 : decode cX9_count 88 = .ok (.aload_n 0, 1) := by decide +kernel
theorem dX9_count_89 : decode cX9_count 89 = .ok (.invokevirtual 129, 3) := by decide +kernel
theorem dX9_count_92 : decode cX9_count 92 = .ok (.isub, 1) := by decide +kernel
theorem dX9_count_93 : decode cX9_count 93 = .ok (.ireturn, 1) := by decide +kernel
theorem dX9_count_94 : decode cX9_count 94 = .ok (.aload_n 0, 1) := by decide +kernel
theorem dX9_count_95 : decode cX9_count 95 = .ok (.invokevirtual 67, 3) := by decide +kernel
theorem dX9_count_98 : decode cX9_count 98 = .ok (.ireturn, 1) := by decide +kernel
theorem dX9_count_99 : decode cX9_count 99 = .ok (.aload_n 0, 1) := by decide +kernel
theorem dX9_count_100 : decode cX9_count 100 = .ok (.invokevirtual 61, 3) := by decide +kernel
theorem dX9_count_103 : decode cX9_count 103 = .ok (.ireturn, 1) := by decide +kernel
theorem dX9_count_104 : decode cX9_count 104 = .ok (.aload_n 0, 1) := by decide +kernel
theorem dX9_count_105 : decode cX9_count 105 = .ok (.invokevirtual 178, 3) := by decide +kernel
theorem dX9_count_108 : decode cX9_count 108 = .ok (.ireturn, 1) := by decide +kernel
theorem dX9_count_109 : decode cX9_count 109 = .ok (.aload_n 0, 1) := by decide +kernel
theorem dX9_count_110 : decode cX9_count 110 = .ok (.invokevirtual 181, 3) := by decide +kernel
theorem dX9_count_113 : decode cX9_count 113 = .ok (.ireturn, 1) := by decide +kernel
theorem dX9_count_114 : decode cX9_count 114 = .ok (.aload_n 0, 1) := by decide +kernel
theorem dX9_count_115 : decode cX9_count 115 = .ok (.getfield 159, 3) := by decide +kernel
theorem dX9_count_118 : decode cX9_count 118 = .ok (.ireturn, 1) := by decide +kernel
theorem dX9_count_119 : decode cX9_count 119 = .ok (.aload_n 0, 1) := by decide +kernel
theorem dX9_count_120 : decode cX9_count 120 = .ok (.getfield 166, 3) := by decide +kernel
theorem dX9_count_123 : decode cX9_count 123 = .ok (.ireturn, 1) := by decide +kernel
theorem dX9_count_124 : decode cX9_count 124 = .ok (.aload_n 0, 1) := by decide +kernel
theorem dX9_count_125 : decode cX9_count 125 = .ok (.getfield 7, 3) := by decide +kernel
theorem dX9_count_128 : decode cX9_count 128 = .ok (.sipush 163, 3) := by decide +kernel
theorem dX9_count_131 : decode cX9_count 131 = .ok (.iaload, 1) := by decide +kernel
theorem dX9_count_132 : decode cX9_count 132 = .ok (.ireturn, 1) := by decide +kernel
theorem dX9_count_133 : decode cX9_count 133 = .ok (.aload_n 0, 1) := by decide +kernel
theorem dX9_count_134 : decode cX9_count 134 = .ok (.getfield 7, 3) := by decide +kernel
theorem dX9_count_137 : decode cX9_count 137 = .ok (.iconst 1, 1) := by decide +kernel
theorem dX9_count_138 : decode cX9_count 138 = .ok (.iaload, 1) := by decide +kernel
theorem dX9_count_139 : decode cX9_count 139 = .ok (.ireturn, 1) := by decide +kernel
theorem dX9_count_140 : decode cX9_count 140 = .ok (.aload_n 0, 1) := by decide +kernel
theorem dX9_count_141 : decode cX9_count 141 = .ok (.getfield 24, 3) := by decide +kernel
theorem dX9_count_144 : decode cX9_count 144 = .ok (.ireturn, 1) := by decide +kernel
theorem dX9_count_145 : decode cX9_count 145 = .ok (.aload_n 0, 1) := by decide +kernel
theorem dX9_count_146 : decode cX9_count 146 = .ok (.getfield 77, 3) := by decide +kernel
theorem dX9_count_149 : decode cX9_count 149 = .ok (.ireturn, 1) := by decide +kernel
theorem dX9_count_150 : decode cX9_count 150 = .ok (.bipush (-2), 2) := by decide +kernel
theorem dX9_count_152 : decode cX9_count 152 = .ok (.ireturn, 1) := by decide +kernel
theorem dJ6_bitCount_0f7a4_0 : decode cJ6_bitCount_0f7a4 0 = .ok (.iload_n 0, 1) := by decide +kernel
theorem dJ6_bitCount_0f7a4_1 : decode cJ6_bitCount_0f7a4 1 = .ok (.iload_n 0, 1) := by decide +kernel
theorem dJ6_bitCount_0f7a4_2 : decode cJ6_bitCount_0f7a4 2 = .ok (.iconst 1, 1) := by decide +kernel
theorem dJ6_bitCount_0f7a4_3 : decode cJ6_bitCount_0f7a4 3 = .ok (.iushr, 1) := by decide +kernel
theorem dJ6_bitCount_0f7a4_4 : decode cJ6_bitCount_0f7a4 4 = .ok (.ldc_w 265, 3) := by decide +kernel
theorem dJ6_bitCount_0f7a4_7 : decode cJ6_bitCount_0f7a4 7 = .ok (.iand, 1) := by decide +kernel
theorem dJ6_bitCount_0f7a4_8 : decode cJ6_bitCount_0f7a4 8 = .ok (.isub, 1) := by decide +kernel
theorem dJ6_bitCount_0f7a4_9 : decode cJ6_bitCount_0f7a4 9 = .ok (.istore_n 0, 1) := by decide +kernel
theorem dJ6_bitCount_0f7a4_10 : decode cJ6_bitCount_0f7a4 10 = .ok (.iload_n 0, 1) := by decide +kernel
theorem dJ6_bitCount_0f7a4_11 : decode cJ6_bitCount_0f7a4 11 = .ok (.ldc_w 266, 3) := by decide +kernel
theorem dJ6_bitCount_0f7a4_14 : decode cJ6_bitCount_0f7a4 14 = .ok (.iand, 1) := by decide +kernel
theorem dJ6_bitCount_0f7a4_15 : decode cJ6_bitCount_0f7a4 15 = .ok (.iload_n 0, 1) := by decide +kernel
theorem dJ6_bitCount_0f7a4_16 : decode cJ6_bitCount_0f7a4 16 = .ok (.iconst 2, 1) := by decide +kernel
theorem dJ6_bitCount_0f7a4_17 : decode cJ6_bitCount_0f7a4 17 = .ok (.iushr, 1) := by decide +kernel
theorem dJ6_bitCount_0f7a4_18 : decode cJ6_bitCount_0f7a4 18 = .ok (.ldc_w 266, 3) := by decide +kernel
theorem dJ6_bitCount_0f7a4_21 : decode cJ6_bitCount_0f7a4 21 = .ok (.iand, 1) := by decide +kernel
theorem dJ6_bitCount_0f7a4_22 : decode cJ6_bitCount_0f7a4 22 = .ok (.iadd, 1) := by decide +kernel
theorem dJ6_bitCount_0f7a4_23 : decode cJ6_bitCount_0f7a4 23 = .ok (.istore_n 0, 1) := by decide +kernel
theorem dJ6_bitCount_0f7a4_24 : decode cJ6_bitCount_0f7a4 24 = .ok (.iload_n 0, 1) := by decide +kernel
theorem dJ6_bitCount_0f7a4_25 : decode cJ6_bitCount_0f7a4 25 = .ok (.iload_n 0, 1) := by decide +kernel
theorem dJ6_bitCount_0f7a4_26 : decode cJ6_bitCount_0f7a4 26 = .ok (.iconst 4, 1) := by decide +kernel
theorem dJ6_bitCount_0f7a4_27 : decode cJ6_bitCount_0f7a4 27 = .ok (.iushr, 1) := by decide +kernel
theorem dJ6_bitCount_0f7a4_28 : decode cJ6_bitCount_0f7a4 28 = .ok (.iadd, 1) := by decide +kernel
theorem dJ6_bitCount_0f7a4_29 : decode cJ6_bitCount_0f7a4 29 = .ok (.ldc_w 267, 3) := by decide +kernel
theorem dJ6_bitCount_0f7a4_32 : decode cJ6_bitCount_0f7a4 32 = .ok (.iand, 1) := by decide +kernel
theorem dJ6_bitCount_0f7a4_33 : decode cJ6_bitCount_0f7a4 33 = .ok (.istore_n 0, 1) := by decide +kernel
theorem dJ6_bitCount_0f7a4_34 : decode cJ6_bitCount_0f7a4 34 = .ok (.iload_n 0, 1) := by decide +kernel
theorem dJ6_bitCount_0f7a4_35 : decode cJ6_bitCount_0f7a4 35 = .ok (.iload_n 0, 1) := by decide +kernel
theorem dJ6_bitCount_0f7a4_36 : decode cJ6_bitCount_0f7a4 36 = .ok (.bipush 8, 2) := by decide +kernel
theorem dJ6_bitCount_0f7a4_38 : decode cJ6_bitCount_0f7a4 38 = .ok (.iushr, 1) := by decide +kernel
theorem dJ6_bitCount_0f7a4_39 : decode cJ6_bitCount_0f7a4 39 = .ok (.iadd, 1) := by decide +kernel
theorem dJ6_bitCount_0f7a4_40 : decode cJ6_bitCount_0f7a4 40 = .ok (.istore_n 0, 1) := by decide +kernel
theorem dJ6_bitCount_0f7a4_41 : decode cJ6_bitCount_0f7a4 41 = .ok (.iload_n 0, 1) := by decide +kernel
theorem dJ6_bitCount_0f7a4_42 : decode cJ6_bitCount_0f7a4 42 = .ok (.iload_n 0, 1) := by decide +kernel
theorem dJ6_bitCount_0f7a4_43 : decode cJ6_bitCount_0f7a4 43 = .ok (.bipush 16, 2) := by decide +kernel
theorem dJ6_bitCount_0f7a4_45 : decode cJ6_bitCount_0f7a4 45 = .ok (.iushr, 1) := by decide +kernel
theorem dJ6_bitCount_0f7a4_46 : decode cJ6_bitCount_0f7a4 46 = .ok (.iadd, 1) := by decide +kernel
theorem dJ6_bitCount_0f7a4_47 : decode cJ6_bitCount_0f7a4 47 = .ok (.istore_n 0, 1) := by decide +kernel
theorem dJ6_bitCount_0f7a4_48 : decode cJ6_bitCount_0f7a4 48 = .ok (.iload_n 0, 1) := by decide +kernel
theorem dJ6_bitCount_0f7a4_49 : decode cJ6_bitCount_0f7a4 49 = .ok (.bipush 63, 2) := by decide +kernel
theorem dJ6_bitCount_0f7a4_51 : decode cJ6_bitCount_0f7a4 51 = .ok (.iand, 1) := by decide +kernel
theorem dJ6_bitCount_0f7a4_52 : decode cJ6_bitCount_0f7a4 52 = .ok (.ireturn, 1) := by decide +kernel
theorem dJ9_max_7cf53_0 : decode cJ9_max_7cf53 0 = .ok (.iload_n 0, 1) := by decide +kernel
theorem dJ9_max_7cf53_1 : decode cJ9_max_7cf53 1 = .ok (.iload_n 1, 1) := by decide +kernel
theorem dJ9_max_7cf53_2 : decode cJ9_max_7cf53 2 = .ok (.if_icmp .lt 7, 3) := by decide +kernel
theorem dJ9_max_7cf53_5 : decode cJ9_max_7cf53 5 = .ok (.iload_n 0, 1) := by decide +kernel
theorem dJ9_max_7cf53_6 : decode cJ9_max_7cf53 6 = .ok (.goto 4, 3) := by decide +kernel
theorem dJ9_max_7cf53_9 : decode cJ9_max_7cf53 9 = .ok (.iload_n 1, 1) := by decide +kernel
theorem dJ9_max_7cf53_10 : decode cJ9_max_7cf53 10 = .ok (.ireturn, 1) := by decide +kernel
theorem dJ9_min_7cf53_0 : decode cJ9_min_7cf53 0 = .ok (.iload_n 0, 1) := by decide +kernel
theorem dJ9_min_7cf53_1 : decode cJ9_min_7cf53 1 = .ok (.iload_n 1, 1) := by decide +kernel
theorem dJ9_min_7cf53_2 : decode cJ9_min_7cf53 2 = .ok (.if_icmp .gt 7, 3) := by decide +kernel
theorem dJ9_min_7cf53_5 : decode cJ9_min_7cf53 5 = .ok (.iload_n 0, 1) := by decide +kernel
theorem dJ9_min_7cf53_6 : decode cJ9_min_7cf53 6 = .ok (.goto 4, 3) := by decide +kernel
theorem dJ9_min_7cf53_9 : decode cJ9_min_7cf53 9 = .ok (.iload_n 1, 1) := by decide +kernel
theorem dJ9_min_7cf53_10 : decode cJ9_min_7cf53 10 = .ok (.ireturn, 1) := by decide +kernel
