/-! contracts, printed (gen.py) -/
theorem ce_X0_has : CE yX0_has cX0_has 2 (some .boolean) 1 := ⟨tw_190, tw_19, ⟨by decide, by decide⟩, ce_par (by decide +kernel)⟩
theorem cv_X0_has : CV yX0_has := ⟨tw_188, tw_189⟩
theorem ce_X0_letters : CE yX0_letters cX0_letters 1 (some .int) 0 := ⟨tw_194, tw_19, ⟨by decide, by decide⟩, ce_par (by decide +kernel)⟩
theorem cv_X0_letters : CV yX0_letters := ⟨tw_192, tw_193⟩
theorem ce_X0_turn : CE yX0_turn cX0_turn 2 none 1 := ⟨tw_239, tw_19, ⟨by decide, by decide⟩, ce_par (by decide +kernel)⟩
theorem cv_X0_turn : CV yX0_turn := ⟨tw_237, tw_238⟩
theorem ce_X0_nextSign : CE yX0_nextSign cX0_nextSign 3 (some .int) 1 := ⟨tw_385, tw_19, ⟨by decide, by decide⟩, ce_par (by decide +kernel)⟩
theorem cv_X0_nextSign : CV yX0_nextSign := ⟨tw_383, tw_384⟩
theorem ce_X0_signsBetween : CE yX0_signsBetween cX0_signsBetween 5 (some .int) 2 := ⟨tw_350, tw_19, ⟨by decide, by decide⟩, ce_par (by decide +kernel)⟩
theorem cv_X0_signsBetween : CV yX0_signsBetween := ⟨tw_348, tw_349⟩
theorem ce_X0_become : CE yX0_become cX0_become 2 none 1 := ⟨tw_220, tw_19, ⟨by decide, by decide⟩, ce_par (by decide +kernel)⟩
theorem cv_X0_become : CV yX0_become := ⟨tw_218, tw_219⟩
theorem ce_X4_length : CE yX4_length cX4_length 1 (some .int) 0 := ⟨tw_255, tw_20, ⟨by decide, by decide⟩, ce_par (by decide +kernel)⟩
theorem cv_X4_length : CV yX4_length := ⟨tw_253, tw_254⟩
theorem ce_X4_at : CE yX4_at cX4_at 2 (some .int) 1 := ⟨tw_231, tw_20, ⟨by decide, by decide⟩, ce_par (by decide +kernel)⟩
theorem cv_X4_at : CV yX4_at := ⟨tw_229, tw_230⟩
theorem ce_X4_set : CE yX4_set cX4_set 3 none 2 := ⟨tw_235, tw_20, ⟨by decide, by decide⟩, ce_par (by decide +kernel)⟩
theorem cv_X4_set : CV yX4_set := ⟨tw_233, tw_234⟩
theorem ce_X4_add : CE yX4_add cX4_add 2 none 1 := ⟨tw_325, tw_20, ⟨by decide, by decide⟩, ce_par (by decide +kernel)⟩
theorem cv_X4_add : CV yX4_add := ⟨tw_323, tw_324⟩
theorem ce_X4_addAt : CE yX4_addAt cX4_addAt 4 none 2 := ⟨tw_329, tw_20, ⟨by decide, by decide⟩, ce_par (by decide +kernel)⟩
theorem cv_X4_addAt : CV yX4_addAt := ⟨tw_327, tw_328⟩
theorem ce_X4_drop : CE yX4_drop cX4_drop 3 none 1 := ⟨tw_414, tw_20, ⟨by decide, by decide⟩, ce_par (by decide +kernel)⟩
theorem cv_X4_drop : CV yX4_drop := ⟨tw_412, tw_413⟩
theorem ce_X4_empty : CE yX4_empty cX4_empty 1 none 0 := ⟨tw_277, tw_20, ⟨by decide, by decide⟩, ce_par (by decide +kernel)⟩
theorem cv_X4_empty : CV yX4_empty := ⟨tw_275, tw_276⟩
theorem ce_X4_become : CE yX4_become cX4_become 3 none 1 := ⟨tw_224, tw_20, ⟨by decide, by decide⟩, ce_par (by decide +kernel)⟩
theorem cv_X4_become : CV yX4_become := ⟨tw_222, tw_223⟩
theorem ce_X5_ofLetters : CE yX5_ofLetters cX5_ofLetters 2 (some .int) 2 := ⟨tw_302, tw_26, ⟨by decide, by decide⟩, ce_par (by decide +kernel)⟩
theorem cv_X5_ofLetters : Cond.static yX5_ofLetters ∈ gw := tw_301
theorem ce_X5_ofStars : CE yX5_ofStars cX5_ofStars 1 (some .int) 1 := ⟨tw_294, tw_26, ⟨by decide, by decide⟩, ce_par (by decide +kernel)⟩
theorem cv_X5_ofStars : Cond.static yX5_ofStars ∈ gw := tw_293
theorem ce_X5_isStarred : CE yX5_isStarred cX5_isStarred 1 (some .boolean) 1 := ⟨tw_305, tw_26, ⟨by decide, by decide⟩, ce_par (by decide +kernel)⟩
theorem cv_X5_isStarred : Cond.static yX5_isStarred ∈ gw := tw_304
theorem ce_X5_letter : CE yX5_letter cX5_letter 1 (some .int) 1 := ⟨tw_353, tw_26, ⟨by decide, by decide⟩, ce_par (by decide +kernel)⟩
theorem cv_X5_letter : Cond.static yX5_letter ∈ gw := tw_352
theorem ce_X5_times : CE yX5_times cX5_times 1 (some .int) 1 := ⟨tw_312, tw_26, ⟨by decide, by decide⟩, ce_par (by decide +kernel)⟩
theorem cv_X5_times : Cond.static yX5_times ∈ gw := tw_311
theorem ce_J6_bitCount_0f7a4 : CE yJ6_bitCount_0f7a4 cJ6_bitCount_0f7a4 1 (some .int) 1 := ⟨tw_197, tw_25, ⟨by decide, by decide⟩, ce_par (by decide +kernel)⟩
theorem cv_J6_bitCount_0f7a4 : Cond.static yJ6_bitCount_0f7a4 ∈ gw := tw_196
set_option maxHeartbeats 4000000 in
set_option maxRecDepth 100000 in
theorem c_X0_has (l : Launch) (D : va_G) (kI kC kB : ClassId) (a : AdT) (z_out : Int32) (p1 : Int32) (Post : Int32 → Prop) (hw : wp_X0_has z_out p1 Post) : CR l D kI kC kB yX0_has cX0_has 2 (some .boolean) ({ frames := 0, cells := 0, slots := 0, locals := 0 } : Room) [.ref (a 0), .int p1] (cwAlph a z_out) Post := by
  refine entR (by decide) (Nat.le_of_ble_eq_true rfl) ?_
  intro p e s m args below meth c ls C hP hl
  replace hl : lv_has ls 2 [(0, .ref (a 0)), (1, .int p1)] := hl
  obtain ⟨hx, hb, hr, hml, hown, hts, hlocks, hK⟩ := id C
  refine lv_iload_n hx hb dX0_has_0 rfl (lv_at hl 1 rfl) ?_
  refine lv_if_lt (tgt := 25) hx hb dX0_has_1 (by decide) (fun hc => ?_) (fun hc => ?_)
  · replace hw := hw.1 hc
    refine lv_iconst (v := (nI 0)) hx hb dX0_has_25 (by decide) ?_
    exact retRz C (by decide) hw dX0_has_26
  · replace hw := hw.2 hc
    refine lv_iload_n hx hb dX0_has_4 rfl (lv_at hl 1 rfl) ?_
    refine lv_bipush (v := (nI 26)) hx hb dX0_has_5 (by decide) ?_
    refine lv_icmp_ge (tgt := 25) hx hb dX0_has_7 (by decide) (fun hc => ?_) (fun hc => ?_)
    · replace hw := hw.1 hc
      refine lv_iconst (v := (nI 0)) hx hb dX0_has_25 (by decide) ?_
      exact retRz C (by decide) hw dX0_has_26
    · replace hw := hw.2 hc
      refine lv_aload_n hx hb dX0_has_10 rfl (lv_at hl 0 rfl) ?_
      refine va_get (D := D) (ci := 0) (v := .int z_out) (C := RX0) (T := TX0) (N := 1) hx hb hts inX0 hown hK.1 hP 0 rfl rfl 0 (by decide) (hts _ tw_49) (fun _ h9 => h9) rfl dX0_has_11 ?_
      refine lv_iload_n hx hb dX0_has_14 rfl (lv_at hl 1 rfl) ?_
      refine lv_ishr hx hb dX0_has_15 ?_
      refine lv_iconst (v := (nI 1)) hx hb dX0_has_16 (by decide) ?_
      refine lv_iand hx hb dX0_has_17 ?_
      refine lv_if_ne (tgt := 25) hx hb dX0_has_18 (by decide) (fun hc => ?_) (fun hc => ?_)
      · replace hw := hw.2 hc
        refine lv_iconst (v := (nI 0)) hx hb dX0_has_25 (by decide) ?_
        exact retRz C (by decide) hw dX0_has_26
      · replace hw := hw.1 hc
        refine lv_iconst (v := (nI 1)) hx hb dX0_has_21 (by decide) ?_
        refine lv_goto (tgt := 26) hx hb dX0_has_22 (by decide) ?_
        exact retRz C (by decide) hw dX0_has_26
set_option maxHeartbeats 4000000 in
set_option maxRecDepth 100000 in
theorem c_J6_bitCount_0f7a4 (l : Launch) (D : va_G) (kI kC kB : ClassId)  (p1 : Int32) (Post : Int32 → Prop) (hw : wp_J6_bitCount_0f7a4 p1 Post) : CR l D kI kC kB yJ6_bitCount_0f7a4 cJ6_bitCount_0f7a4 1 (some .int) ({ frames := 0, cells := 0, slots := 0, locals := 0 } : Room) [.int p1] ([] : va_W) Post := by
  refine entR (by decide) (Nat.le_of_ble_eq_true rfl) ?_
  intro p e s m args below meth c ls C hP hl
  replace hl : lv_has ls 1 [(0, .int p1)] := hl
  obtain ⟨hx, hb, hr, hml, hown, hts, hlocks, hK⟩ := id C
  refine lv_iload_n hx hb dJ6_bitCount_0f7a4_0 rfl (lv_at hl 0 rfl) ?_
  refine lv_iload_n hx hb dJ6_bitCount_0f7a4_1 rfl (lv_at hl 0 rfl) ?_
  refine lv_iconst (v := (nI 1)) hx hb dJ6_bitCount_0f7a4_2 (by decide) ?_
  refine lv_iushr hx hb dJ6_bitCount_0f7a4_3 rfl ?_
  refine lv_ldcw (v := nI 1431655765) hx hb hown (hts _ tw_198) dJ6_bitCount_0f7a4_4 ?_
  refine lv_iand hx hb dJ6_bitCount_0f7a4_7 ?_
  refine lv_isub hx hb dJ6_bitCount_0f7a4_8 ?_
  refine lv_topi (fun y1 ey1 => ?_)
  replace hw := hw y1 ey1
  refine lv_istore_n (lv' := [(0, .int y1)]) hx hb dJ6_bitCount_0f7a4_9 rfl hl (by decide) rfl (fun ls hl => ?_)
  refine lv_iload_n hx hb dJ6_bitCount_0f7a4_10 rfl (lv_at hl 0 rfl) ?_
  refine lv_ldcw (v := nI 858993459) hx hb hown (hts _ tw_199) dJ6_bitCount_0f7a4_11 ?_
  refine lv_iand hx hb dJ6_bitCount_0f7a4_14 ?_
  refine lv_iload_n hx hb dJ6_bitCount_0f7a4_15 rfl (lv_at hl 0 rfl) ?_
  refine lv_iconst (v := (nI 2)) hx hb dJ6_bitCount_0f7a4_16 (by decide) ?_
  refine lv_iushr hx hb dJ6_bitCount_0f7a4_17 rfl ?_
  refine lv_ldcw (v := nI 858993459) hx hb hown (hts _ tw_199) dJ6_bitCount_0f7a4_18 ?_
  refine lv_iand hx hb dJ6_bitCount_0f7a4_21 ?_
  refine lv_iadd hx hb dJ6_bitCount_0f7a4_22 ?_
  refine lv_topi (fun y2 ey2 => ?_)
  replace hw := hw y2 ey2
  refine lv_istore_n (lv' := [(0, .int y2)]) hx hb dJ6_bitCount_0f7a4_23 rfl hl (by decide) rfl (fun ls hl => ?_)
  refine lv_iload_n hx hb dJ6_bitCount_0f7a4_24 rfl (lv_at hl 0 rfl) ?_
  refine lv_iload_n hx hb dJ6_bitCount_0f7a4_25 rfl (lv_at hl 0 rfl) ?_
  refine lv_iconst (v := (nI 4)) hx hb dJ6_bitCount_0f7a4_26 (by decide) ?_
  refine lv_iushr hx hb dJ6_bitCount_0f7a4_27 rfl ?_
  refine lv_iadd hx hb dJ6_bitCount_0f7a4_28 ?_
  refine lv_ldcw (v := nI 252645135) hx hb hown (hts _ tw_200) dJ6_bitCount_0f7a4_29 ?_
  refine lv_iand hx hb dJ6_bitCount_0f7a4_32 ?_
  refine lv_topi (fun y3 ey3 => ?_)
  replace hw := hw y3 ey3
  refine lv_istore_n (lv' := [(0, .int y3)]) hx hb dJ6_bitCount_0f7a4_33 rfl hl (by decide) rfl (fun ls hl => ?_)
  refine lv_iload_n hx hb dJ6_bitCount_0f7a4_34 rfl (lv_at hl 0 rfl) ?_
  refine lv_iload_n hx hb dJ6_bitCount_0f7a4_35 rfl (lv_at hl 0 rfl) ?_
  refine lv_bipush (v := (nI 8)) hx hb dJ6_bitCount_0f7a4_36 (by decide) ?_
  refine lv_iushr hx hb dJ6_bitCount_0f7a4_38 rfl ?_
  refine lv_iadd hx hb dJ6_bitCount_0f7a4_39 ?_
  refine lv_topi (fun y4 ey4 => ?_)
  replace hw := hw y4 ey4
  refine lv_istore_n (lv' := [(0, .int y4)]) hx hb dJ6_bitCount_0f7a4_40 rfl hl (by decide) rfl (fun ls hl => ?_)
  refine lv_iload_n hx hb dJ6_bitCount_0f7a4_41 rfl (lv_at hl 0 rfl) ?_
  refine lv_iload_n hx hb dJ6_bitCount_0f7a4_42 rfl (lv_at hl 0 rfl) ?_
  refine lv_bipush (v := (nI 16)) hx hb dJ6_bitCount_0f7a4_43 (by decide) ?_
  refine lv_iushr hx hb dJ6_bitCount_0f7a4_45 rfl ?_
  refine lv_iadd hx hb dJ6_bitCount_0f7a4_46 ?_
  refine lv_topi (fun y5 ey5 => ?_)
  replace hw := hw y5 ey5
  refine lv_istore_n (lv' := [(0, .int y5)]) hx hb dJ6_bitCount_0f7a4_47 rfl hl (by decide) rfl (fun ls hl => ?_)
  refine lv_iload_n hx hb dJ6_bitCount_0f7a4_48 rfl (lv_at hl 0 rfl) ?_
  refine lv_bipush (v := (nI 63)) hx hb dJ6_bitCount_0f7a4_49 (by decide) ?_
  refine lv_iand hx hb dJ6_bitCount_0f7a4_51 ?_
  exact retR C hw dJ6_bitCount_0f7a4_52
set_option maxHeartbeats 4000000 in
set_option maxRecDepth 100000 in
theorem c_X0_letters (l : Launch) (D : va_G) (kI kC kB : ClassId) (a : AdT) (z_out : Int32) (Post : Int32 → Prop) (hw : wp_X0_letters z_out Post) : CR l D kI kC kB yX0_letters cX0_letters 1 (some .int) ({ frames := 1, cells := 0, slots := 0, locals := 20 } : Room) [.ref (a 0)] (cwAlph a z_out) Post := by
  refine entR (by decide) (Nat.le_of_ble_eq_true rfl) ?_
  intro p e s m args below meth c ls C hP hl
  replace hl : lv_has ls 1 [(0, .ref (a 0))] := hl
  obtain ⟨hx, hb, hr, hml, hown, hts, hlocks, hK⟩ := id C
  refine lv_bipush (v := (nI 26)) hx hb dX0_letters_0 (by decide) ?_
  refine lv_aload_n hx hb dX0_letters_2 rfl (lv_at hl 0 rfl) ?_
  refine va_get (D := D) (ci := 0) (v := .int z_out) (C := RX0) (T := TX0) (N := 1) hx hb hts inX0 hown hK.1 hP 0 rfl rfl 0 (by decide) (hts _ tw_49) (fun _ h9 => h9) rfl dX0_letters_3 ?_
  refine kRS (As := [.int z_out]) (rest := [.int (nI 26)]) C (c_J6_bitCount_0f7a4 l D kI kC kB  z_out _ hw) ⟨rfl, rfl⟩ ce_J6_bitCount_0f7a4 cv_J6_bitCount_0f7a4 tw_195 ⟨Nat.le_of_ble_eq_true rfl, Nat.le_of_ble_eq_true rfl⟩ hP [] rfl hl.1 rfl (Nat.le_of_ble_eq_true rfl) ⟨Nat.zero_le _, Nat.zero_le _⟩ dX0_letters_6 (fun r1 hw => ?_)
  refine lv_isub hx hb dX0_letters_9 ?_
  exact retR C hw dX0_letters_10
set_option maxHeartbeats 4000000 in
set_option maxRecDepth 100000 in
theorem c_X0_turn (l : Launch) (D : va_G) (kI kC kB : ClassId) (a : AdT) (z_out : Int32) (sz : Nat) (p1 : Int32) (Post : Int32 → Prop) (hw : wp_X0_turn z_out p1 Post) : CMv l D kI kC kB yX0_turn cX0_turn 2 none ({ frames := 0, cells := 0, slots := 0, locals := 0 } : Room) [.ref (a 0), .int p1] (cwAlph a z_out) sz (fun (u : Int32) => Post u) (fun u : Int32 => (cwAlph a u)) := by
  refine entMv (by decide) (Nat.le_of_ble_eq_true rfl) ?_
  intro p e s m args below meth c ls A C hA hP hD hS hl
  obtain ⟨H, hHe⟩ : ∃ H, H = s.heap := ⟨_, rfl⟩
  obtain ⟨locs, hlo⟩ : ∃ lo : List Loc, lo = [] := ⟨_, rfl⟩
  have hS : va_S A s.heap H locs := by rw [hHe, hlo]; exact hS
  rw [← hHe] at hP
  suffices hg : W p l e ({ frames := 0, cells := 0, slots := 0, locals := 0 } : Room) s m args below meth c H locs 0 0 (MQ below (va_Qv (fun (u : Int32) => Post u) (BB D A (fun u : Int32 => (cwAlph a u))) A) args s 0 0 A) (F0 m 0 ls []) by rw [hHe, hlo] at hg; exact hg
  replace hl : lv_has ls 2 [(0, .ref (a 0)), (1, .int p1)] := hl
  obtain ⟨hx, hb, hr, hml, hown, hts, hlocks, hK⟩ := id C
  refine lv_aload_n hx hb dX0_turn_0 rfl (lv_at hl 0 rfl) ?_
  refine lv_dup hx hb dX0_turn_1 rfl ?_
  refine va_get (D := D) (ci := 0) (v := .int z_out) (C := RX0) (T := TX0) (N := 1) hx hb hts inX0 hown hK.1 hP 0 rfl rfl 0 (by decide) (hts _ tw_49) (fun _ h9 => h9) rfl dX0_turn_2 ?_
  refine lv_iconst (v := (nI 1)) hx hb dX0_turn_5 (by decide) ?_
  refine lv_iload_n hx hb dX0_turn_6 rfl (lv_at hl 1 rfl) ?_
  refine lv_ishl hx hb dX0_turn_7 ?_
  refine lv_ixor hx hb dX0_turn_8 ?_
  refine va_put (D := D) (ci := 0) (v := .int (z_out ^^^ ((nI 1) <<< (p1 &&& 31)))) (ty := .int) (C := RX0) (T := TX0) (N := 1) hx hb hts inX0 tyX0 tyX0_ok nmX0 hown hK.1 hP hD hS 0 rfl rfl 0 (by decide) (hts _ tw_49) (fun _ h9 => h9) rfl (tyX0_ok 0 (by decide)) rfl rfl (Nat.le_of_ble_eq_true rfl) dX0_turn_9 (fun H locs hP hD hS => ?_)
  replace hP : va_P D vwCl (cwAlph a (z_out ^^^ ((nI 1) <<< (p1 &&& 31)))) H := hP
  replace hD : va_D A (cwAlph a (z_out ^^^ ((nI 1) <<< (p1 &&& 31)))) := hD
  exact retMv C ((z_out ^^^ ((nI 1) <<< (p1 &&& 31)))) hw hP hD hS dX0_turn_12
set_option maxHeartbeats 4000000 in
set_option maxRecDepth 100000 in
theorem c_X4_length (l : Launch) (D : va_G) (kI kC kB : ClassId) (a : AdT) (z_ : RowT) (Post : Int32 → Prop) (hw : wp_X4_length z_ Post) : CR l D kI kC kB yX4_length cX4_length 1 (some .int) ({ frames := 0, cells := 0, slots := 0, locals := 0 } : Room) [.ref (a 0)] (cwRow kI a z_) Post := by
  refine entR (by decide) (Nat.le_of_ble_eq_true rfl) ?_
  intro p e s m args below meth c ls C hP hl
  replace hl : lv_has ls 1 [(0, .ref (a 0))] := hl
  obtain ⟨hx, hb, hr, hml, hown, hts, hlocks, hK⟩ := id C
  refine lv_aload_n hx hb dX4_length_0 rfl (lv_at hl 0 rfl) ?_
  refine va_get (D := D) (ci := 3) (v := .int z_.2.2) (C := RX4) (T := TX4) (N := 2) hx hb hts inX4 hown hK.1 hP 0 rfl rfl 1 (by decide) (hts _ tw_63) (fun _ h9 => h9) rfl dX4_length_1 ?_
  exact retR C hw dX4_length_4
set_option maxHeartbeats 4000000 in
set_option maxRecDepth 100000 in
theorem c_X4_at (l : Launch) (D : va_G) (kI kC kB : ClassId) (a : AdT) (z_ : RowT) (p1 : Int32) (Post : Int32 → Prop) (hw : wp_X4_at z_ p1 Post) : CR l D kI kC kB yX4_at cX4_at 2 (some .int) ({ frames := 0, cells := 0, slots := 0, locals := 0 } : Room) [.ref (a 0), .int p1] (cwRow kI a z_) Post := by
  refine entR (by decide) (Nat.le_of_ble_eq_true rfl) ?_
  intro p e s m args below meth c ls C hP hl
  replace hl : lv_has ls 2 [(0, .ref (a 0)), (1, .int p1)] := hl
  obtain ⟨hx, hb, hr, hml, hown, hts, hlocks, hK⟩ := id C
  refine lv_iload_n hx hb dX4_at_0 rfl (lv_at hl 1 rfl) ?_
  refine lv_if_lt (tgt := 30) hx hb dX4_at_1 (by decide) (fun hc => ?_) (fun hc => ?_)
  · replace hw := hw.1 hc
    refine lv_iconst (v := (-1)) hx hb dX4_at_30 (by decide) ?_
    exact retR C hw dX4_at_31
  · replace hw := hw.2 hc
    refine lv_iload_n hx hb dX4_at_4 rfl (lv_at hl 1 rfl) ?_
    refine lv_aload_n hx hb dX4_at_5 rfl (lv_at hl 0 rfl) ?_
    refine va_get (D := D) (ci := 3) (v := .int z_.2.2) (C := RX4) (T := TX4) (N := 2) hx hb hts inX4 hown hK.1 hP 0 rfl rfl 1 (by decide) (hts _ tw_63) (fun _ h9 => h9) rfl dX4_at_6 ?_
    refine lv_icmp_ge (tgt := 30) hx hb dX4_at_9 (by decide) (fun hc => ?_) (fun hc => ?_)
    · replace hw := hw.1 hc
      refine lv_iconst (v := (-1)) hx hb dX4_at_30 (by decide) ?_
      exact retR C hw dX4_at_31
    · replace hw := hw.2 hc
      refine lv_iload_n hx hb dX4_at_12 rfl (lv_at hl 1 rfl) ?_
      refine lv_aload_n hx hb dX4_at_13 rfl (lv_at hl 0 rfl) ?_
      refine va_get (D := D) (ci := 3) (v := .ref (a 1)) (C := RX4) (T := TX4) (N := 2) hx hb hts inX4 hown hK.1 hP 0 rfl rfl 0 (by decide) (hts _ tw_62) (fun _ h9 => h9) rfl dX4_at_14 ?_
      refine va_alen (v := (nI z_.1)) hx hb hK.1 hP 1 0 rfl rfl rfl dX4_at_17 ?_
      refine lv_icmp_ge (tgt := 30) hx hb dX4_at_18 (by decide) (fun hc => ?_) (fun hc => ?_)
      · replace hw := hw.1 hc
        refine lv_iconst (v := (-1)) hx hb dX4_at_30 (by decide) ?_
        exact retR C hw dX4_at_31
      · replace hw := hw.2 hc
        refine lv_aload_n hx hb dX4_at_21 rfl (lv_at hl 0 rfl) ?_
        refine va_get (D := D) (ci := 3) (v := .ref (a 1)) (C := RX4) (T := TX4) (N := 2) hx hb hts inX4 hown hK.1 hP 0 rfl rfl 0 (by decide) (hts _ tw_62) (fun _ h9 => h9) rfl dX4_at_22 ?_
        refine lv_iload_n hx hb dX4_at_25 rfl (lv_at hl 1 rfl) ?_
        have hin := hw.1
        replace hw := hw.2
        refine va_iald hx hb hK.1 hP 1 0 rfl rfl hin dX4_at_26 ?_
        refine lv_goto (tgt := 31) hx hb dX4_at_27 (by decide) ?_
        exact retR C hw dX4_at_31
set_option maxHeartbeats 4000000 in
set_option maxRecDepth 100000 in
theorem c_X4_empty (l : Launch) (D : va_G) (kI kC kB : ClassId) (a : AdT) (z_ : RowT) (sz : Nat) (Post : RowT → Prop) (hw : wp_X4_empty z_ Post) : CMv l D kI kC kB yX4_empty cX4_empty 1 none ({ frames := 0, cells := 0, slots := 0, locals := 0 } : Room) [.ref (a 0)] (cwRow kI a z_) sz (fun (u : RowT) => Post u) (fun u : RowT => (cwRow kI a u)) := by
  refine entMv (by decide) (Nat.le_of_ble_eq_true rfl) ?_
  intro p e s m args below meth c ls A C hA hP hD hS hl
  obtain ⟨H, hHe⟩ : ∃ H, H = s.heap := ⟨_, rfl⟩
  obtain ⟨locs, hlo⟩ : ∃ lo : List Loc, lo = [] := ⟨_, rfl⟩
  have hS : va_S A s.heap H locs := by rw [hHe, hlo]; exact hS
  rw [← hHe] at hP
  suffices hg : W p l e ({ frames := 0, cells := 0, slots := 0, locals := 0 } : Room) s m args below meth c H locs 0 0 (MQ below (va_Qv (fun (u : RowT) => Post u) (BB D A (fun u : RowT => (cwRow kI a u))) A) args s 0 0 A) (F0 m 0 ls []) by rw [hHe, hlo] at hg; exact hg
  replace hl : lv_has ls 1 [(0, .ref (a 0))] := hl
  obtain ⟨hx, hb, hr, hml, hown, hts, hlocks, hK⟩ := id C
  refine lv_aload_n hx hb dX4_empty_0 rfl (lv_at hl 0 rfl) ?_
  refine lv_iconst (v := (nI 0)) hx hb dX4_empty_1 (by decide) ?_
  refine va_put (D := D) (ci := 3) (v := .int (nI 0)) (ty := .int) (C := RX4) (T := TX4) (N := 2) hx hb hts inX4 tyX4 tyX4_ok nmX4 hown hK.1 hP hD hS 0 rfl rfl 1 (by decide) (hts _ tw_63) (fun _ h9 => h9) rfl (tyX4_ok 1 (by decide)) rfl rfl (Nat.le_of_ble_eq_true rfl) dX4_empty_2 (fun H locs hP hD hS => ?_)
  replace hP : va_P D vwCl (cwRow kI a (z_.1, z_.2.1, (nI 0))) H := hP
  replace hD : va_D A (cwRow kI a (z_.1, z_.2.1, (nI 0))) := hD
  exact retMv C ((z_.1, z_.2.1, (nI 0))) hw hP hD hS dX4_empty_5
set_option maxHeartbeats 4000000 in
set_option maxRecDepth 100000 in
theorem c_X5_ofStars (l : Launch) (D : va_G) (kI kC kB : ClassId)  (p1 : Int32) (Post : Int32 → Prop) (hw : wp_X5_ofStars p1 Post) : CR l D kI kC kB yX5_ofStars cX5_ofStars 1 (some .int) ({ frames := 0, cells := 0, slots := 0, locals := 0 } : Room) [.int p1] ([] : va_W) Post := by
  refine entR (by decide) (Nat.le_of_ble_eq_true rfl) ?_
  intro p e s m args below meth c ls C hP hl
  replace hl : lv_has ls 1 [(0, .int p1)] := hl
  obtain ⟨hx, hb, hr, hml, hown, hts, hlocks, hK⟩ := id C
  refine lv_bipush (v := (nI 78)) hx hb dX5_ofStars_0 (by decide) ?_
  refine lv_iload_n hx hb dX5_ofStars_2 rfl (lv_at hl 0 rfl) ?_
  refine lv_iadd hx hb dX5_ofStars_3 ?_
  refine lv_iconst (v := (nI 1)) hx hb dX5_ofStars_4 (by decide) ?_
  refine lv_isub hx hb dX5_ofStars_5 ?_
  exact retR C hw dX5_ofStars_6
set_option maxHeartbeats 4000000 in
set_option maxRecDepth 100000 in
theorem c_X5_ofLetters (l : Launch) (D : va_G) (kI kC kB : ClassId)  (p1 : Int32) (p2 : Int32) (Post : Int32 → Prop) (hw : wp_X5_ofLetters p1 p2 Post) : CR l D kI kC kB yX5_ofLetters cX5_ofLetters 2 (some .int) ({ frames := 0, cells := 0, slots := 0, locals := 0 } : Room) [.int p1, .int p2] ([] : va_W) Post := by
  refine entR (by decide) (Nat.le_of_ble_eq_true rfl) ?_
  intro p e s m args below meth c ls C hP hl
  replace hl : lv_has ls 2 [(0, .int p1), (1, .int p2)] := hl
  obtain ⟨hx, hb, hr, hml, hown, hts, hlocks, hK⟩ := id C
  refine lv_iload_n hx hb dX5_ofLetters_0 rfl (lv_at hl 1 rfl) ?_
  refine lv_iconst (v := (nI 1)) hx hb dX5_ofLetters_1 (by decide) ?_
  refine lv_isub hx hb dX5_ofLetters_2 ?_
  refine lv_bipush (v := (nI 26)) hx hb dX5_ofLetters_3 (by decide) ?_
  refine lv_imul hx hb dX5_ofLetters_5 ?_
  refine lv_iload_n hx hb dX5_ofLetters_6 rfl (lv_at hl 0 rfl) ?_
  refine lv_iadd hx hb dX5_ofLetters_7 ?_
  exact retR C hw dX5_ofLetters_8
set_option maxHeartbeats 4000000 in
set_option maxRecDepth 100000 in
theorem c_X5_isStarred (l : Launch) (D : va_G) (kI kC kB : ClassId)  (p1 : Int32) (Post : Int32 → Prop) (hw : wp_X5_isStarred p1 Post) : CR l D kI kC kB yX5_isStarred cX5_isStarred 1 (some .boolean) ({ frames := 0, cells := 0, slots := 0, locals := 0 } : Room) [.int p1] ([] : va_W) Post := by
  refine entR (by decide) (Nat.le_of_ble_eq_true rfl) ?_
  intro p e s m args below meth c ls C hP hl
  replace hl : lv_has ls 1 [(0, .int p1)] := hl
  obtain ⟨hx, hb, hr, hml, hown, hts, hlocks, hK⟩ := id C
  refine lv_iload_n hx hb dX5_isStarred_0 rfl (lv_at hl 0 rfl) ?_
  refine lv_bipush (v := (nI 78)) hx hb dX5_isStarred_1 (by decide) ?_
  refine lv_icmp_lt (tgt := 10) hx hb dX5_isStarred_3 (by decide) (fun hc => ?_) (fun hc => ?_)
  · replace hw := hw.1 hc
    refine lv_iconst (v := (nI 0)) hx hb dX5_isStarred_10 (by decide) ?_
    exact retRz C (by decide) hw dX5_isStarred_11
  · replace hw := hw.2 hc
    refine lv_iconst (v := (nI 1)) hx hb dX5_isStarred_6 (by decide) ?_
    refine lv_goto (tgt := 11) hx hb dX5_isStarred_7 (by decide) ?_
    exact retRz C (by decide) hw dX5_isStarred_11
set_option maxHeartbeats 4000000 in
set_option maxRecDepth 100000 in
theorem c_X5_times (l : Launch) (D : va_G) (kI kC kB : ClassId)  (p1 : Int32) (Post : Int32 → Prop) (hw : wp_X5_times p1 Post) : CR l D kI kC kB yX5_times cX5_times 1 (some .int) ({ frames := 1, cells := 0, slots := 0, locals := 20 } : Room) [.int p1] ([] : va_W) Post := by
  refine entR (by decide) (Nat.le_of_ble_eq_true rfl) ?_
  intro p e s m args below meth c ls C hP hl
  replace hl : lv_has ls 1 [(0, .int p1)] := hl
  obtain ⟨hx, hb, hr, hml, hown, hts, hlocks, hK⟩ := id C
  refine lv_iload_n hx hb dX5_times_0 rfl (lv_at hl 0 rfl) ?_
  refine kRS (As := [.int p1]) (rest := []) C (c_X5_isStarred l D kI kC kB  p1 _ hw) ⟨rfl, rfl⟩ ce_X5_isStarred cv_X5_isStarred tw_313 ⟨Nat.le_of_ble_eq_true rfl, Nat.le_of_ble_eq_true rfl⟩ hP [] rfl hl.1 rfl (Nat.le_of_ble_eq_true rfl) ⟨Nat.zero_le _, Nat.zero_le _⟩ dX5_times_1 (fun r1 hw => ?_)
  refine lv_if_eq (tgt := 16) hx hb dX5_times_4 (by decide) (fun hc => ?_) (fun hc => ?_)
  · replace hw := hw.1 hc
    refine lv_iload_n hx hb dX5_times_16 rfl (lv_at hl 0 rfl) ?_
    refine lv_bipush (v := (nI 26)) hx hb dX5_times_17 (by decide) ?_
    refine lv_idiv hx hb dX5_times_19 (by decide) ?_
    refine lv_iconst (v := (nI 1)) hx hb dX5_times_20 (by decide) ?_
    refine lv_iadd hx hb dX5_times_21 ?_
    exact retR C hw dX5_times_22
  · replace hw := hw.2 hc
    refine lv_iload_n hx hb dX5_times_7 rfl (lv_at hl 0 rfl) ?_
    refine lv_bipush (v := (nI 78)) hx hb dX5_times_8 (by decide) ?_
    refine lv_isub hx hb dX5_times_10 ?_
    refine lv_iconst (v := (nI 1)) hx hb dX5_times_11 (by decide) ?_
    refine lv_iadd hx hb dX5_times_12 ?_
    refine lv_goto (tgt := 22) hx hb dX5_times_13 (by decide) ?_
    exact retR C hw dX5_times_22
set_option maxHeartbeats 4000000 in
set_option maxRecDepth 100000 in
theorem c_X4_set (l : Launch) (D : va_G) (kI kC kB : ClassId) (a : AdT) (z_ : RowT) (sz : Nat) (p1 : Int32) (p2 : Int32) (Post : RowT → Prop) (hw : wp_X4_set z_ p1 p2 Post) : CMv l D kI kC kB yX4_set cX4_set 3 none ({ frames := 0, cells := 0, slots := 0, locals := 0 } : Room) [.ref (a 0), .int p1, .int p2] (cwRow kI a z_) sz (fun (u : RowT) => Post u) (fun u : RowT => (cwRow kI a u)) := by
  refine entMv (by decide) (Nat.le_of_ble_eq_true rfl) ?_
  intro p e s m args below meth c ls A C hA hP hD hS hl
  obtain ⟨H, hHe⟩ : ∃ H, H = s.heap := ⟨_, rfl⟩
  obtain ⟨locs, hlo⟩ : ∃ lo : List Loc, lo = [] := ⟨_, rfl⟩
  have hS : va_S A s.heap H locs := by rw [hHe, hlo]; exact hS
  rw [← hHe] at hP
  suffices hg : W p l e ({ frames := 0, cells := 0, slots := 0, locals := 0 } : Room) s m args below meth c H locs 0 0 (MQ below (va_Qv (fun (u : RowT) => Post u) (BB D A (fun u : RowT => (cwRow kI a u))) A) args s 0 0 A) (F0 m 0 ls []) by rw [hHe, hlo] at hg; exact hg
  replace hl : lv_has ls 3 [(0, .ref (a 0)), (1, .int p1), (2, .int p2)] := hl
  obtain ⟨hx, hb, hr, hml, hown, hts, hlocks, hK⟩ := id C
  refine lv_iload_n hx hb dX4_set_0 rfl (lv_at hl 1 rfl) ?_
  refine lv_if_lt (tgt := 28) hx hb dX4_set_1 (by decide) (fun hc => ?_) (fun hc => ?_)
  · replace hw := hw.1 hc
    exact retMv C (z_) hw hP hD hS dX4_set_28
  · replace hw := hw.2 hc
    refine lv_iload_n hx hb dX4_set_4 rfl (lv_at hl 1 rfl) ?_
    refine lv_aload_n hx hb dX4_set_5 rfl (lv_at hl 0 rfl) ?_
    refine va_get (D := D) (ci := 3) (v := .int z_.2.2) (C := RX4) (T := TX4) (N := 2) hx hb hts inX4 hown hK.1 hP 0 rfl rfl 1 (by decide) (hts _ tw_63) (fun _ h9 => h9) rfl dX4_set_6 ?_
    refine lv_icmp_ge (tgt := 28) hx hb dX4_set_9 (by decide) (fun hc => ?_) (fun hc => ?_)
    · replace hw := hw.1 hc
      exact retMv C (z_) hw hP hD hS dX4_set_28
    · replace hw := hw.2 hc
      refine lv_iload_n hx hb dX4_set_12 rfl (lv_at hl 1 rfl) ?_
      refine lv_aload_n hx hb dX4_set_13 rfl (lv_at hl 0 rfl) ?_
      refine va_get (D := D) (ci := 3) (v := .ref (a 1)) (C := RX4) (T := TX4) (N := 2) hx hb hts inX4 hown hK.1 hP 0 rfl rfl 0 (by decide) (hts _ tw_62) (fun _ h9 => h9) rfl dX4_set_14 ?_
      refine va_alen (v := (nI z_.1)) hx hb hK.1 hP 1 0 rfl rfl rfl dX4_set_17 ?_
      refine lv_icmp_ge (tgt := 28) hx hb dX4_set_18 (by decide) (fun hc => ?_) (fun hc => ?_)
      · replace hw := hw.1 hc
        exact retMv C (z_) hw hP hD hS dX4_set_28
      · replace hw := hw.2 hc
        refine lv_aload_n hx hb dX4_set_21 rfl (lv_at hl 0 rfl) ?_
        refine va_get (D := D) (ci := 3) (v := .ref (a 1)) (C := RX4) (T := TX4) (N := 2) hx hb hts inX4 hown hK.1 hP 0 rfl rfl 0 (by decide) (hts _ tw_62) (fun _ h9 => h9) rfl dX4_set_22 ?_
        refine lv_iload_n hx hb dX4_set_25 rfl (lv_at hl 1 rfl) ?_
        refine lv_iload_n hx hb dX4_set_26 rfl (lv_at hl 2 rfl) ?_
        have hin := hw.1
        replace hw := hw.2
        refine va_iast hx hb hK.1 hP hD hS 1 0 rfl rfl hin dX4_set_27 (fun H locs hP hD hS => ?_)
        replace hP : va_P D vwCl (cwRow kI a (z_.1, (upd z_.2.1 p1.toNatClampNeg p2), z_.2.2)) H := hP
        replace hD : va_D A (cwRow kI a (z_.1, (upd z_.2.1 p1.toNatClampNeg p2), z_.2.2)) := hD
        exact retMv C ((z_.1, (upd z_.2.1 p1.toNatClampNeg p2), z_.2.2)) hw hP hD hS dX4_set_28
set_option maxHeartbeats 4000000 in
set_option maxRecDepth 100000 in
theorem cl_X4_addAt_42 (l : Launch) (D : va_G) (kI kC kB : ClassId) (a : AdT) (p1 : Int32) (p2 : Int32) (Post : RowT → Prop) {p : Program} {e : Env} {s : State} {m : MethodId} {args : Array Value} {below : List Frame} {meth : Method} {c : Code} {A : Nat → Prop} (hA : ∀ q : Nat, s.heap.size ≤ q → A q) (C : CtxT p s m args meth c cX4_addAt 4 none yX4_addAt.cls D kI kC kB) : ∀ (n : Nat), ∀ (z_ : RowT) (v3 : Int32), wl_X4_addAt_42 p1 p2 Post n z_ v3 → ∀ (H : Heap) (locs : List Loc), va_P D vwCl (cwRow kI a z_) H → va_D A (cwRow kI a z_) → va_S A s.heap H locs → ∀ (ls : Array Slot), lv_has ls 4 [(0, .ref (a 0)), (1, .int p1), (2, .int p2), (3, .int v3)] → W p l e ({ frames := 1, cells := 0, slots := 0, locals := 22 } : Room) s m args below meth c H locs 0 0 (MQ below (va_Qv (fun (u : RowT) => Post u) (BB D A (fun u : RowT => (cwRow kI a u))) A) args s 0 0 A) (F0 m 42 ls []) := by
  obtain ⟨hx, hb, hr, hml, hown, hts, hlocks, hK⟩ := id C
  intro n
  induction n with
  | zero => intro z_ v3 hw; exact hw.elim
  | succ n ih =>
    intro z_ v3 hw H locs hP hD hS ls hl
    refine lv_iload_n hx hb dX4_addAt_42 rfl (lv_at hl 3 rfl) ?_
    refine lv_iload_n hx hb dX4_addAt_43 rfl (lv_at hl 1 rfl) ?_
    refine lv_icmp_le (tgt := 65) hx hb dX4_addAt_44 (by decide) (fun hc => ?_) (fun hc => ?_)
    · replace hw := hw.1 hc
      refine lv_aload_n hx hb dX4_addAt_65 rfl (lv_at hl 0 rfl) ?_
      refine lv_iload_n hx hb dX4_addAt_66 rfl (lv_at hl 1 rfl) ?_
      refine lv_iload_n hx hb dX4_addAt_67 rfl (lv_at hl 2 rfl) ?_
      refine kMVv (q0 := 0) (As := [.int p1, .int p2]) (rest := []) C (c_X4_set l D kI kC kB a z_ H.size p1 p2 _ hw) ⟨rfl, rfl⟩ ce_X4_set cv_X4_set tw_232 ⟨Nat.le_of_ble_eq_true rfl, Nat.le_of_ble_eq_true rfl⟩ hP hD hS hA [0, 1] rfl rfl (fun _ => rfl) rfl rfl rfl hl.1 rfl (Nat.le_of_ble_eq_true rfl) ⟨Nat.zero_le _, Nat.zero_le _⟩ dX4_addAt_68 (fun u H locs hw hP hD hS => ?_)
      obtain ⟨u1, rfl⟩ : ∃ z, z = u := ⟨_, rfl⟩
      try dsimp only at hw
      replace hP : va_P D vwCl (cwRow kI a u1) H := hP
      replace hD : va_D A (cwRow kI a u1) := hD
      exact retMv C (u1) hw hP hD hS dX4_addAt_71
    · replace hw := hw.2 hc
      refine lv_aload_n hx hb dX4_addAt_47 rfl (lv_at hl 0 rfl) ?_
      refine lv_iload_n hx hb dX4_addAt_48 rfl (lv_at hl 3 rfl) ?_
      refine lv_aload_n hx hb dX4_addAt_49 rfl (lv_at hl 0 rfl) ?_
      refine lv_iload_n hx hb dX4_addAt_50 rfl (lv_at hl 3 rfl) ?_
      refine lv_iconst (v := (nI 1)) hx hb dX4_addAt_51 (by decide) ?_
      refine lv_isub hx hb dX4_addAt_52 ?_
      refine kRV (As := [.int (v3 - (nI 1))]) (rest := [.int v3, .ref (a 0)]) (q0 := 0) C (c_X4_at l D kI kC kB a z_ (v3 - (nI 1)) _ hw) ⟨rfl, rfl⟩ ce_X4_at cv_X4_at tw_228 ⟨Nat.le_of_ble_eq_true rfl, Nat.le_of_ble_eq_true rfl⟩ hP [0, 1] rfl rfl rfl rfl hl.1 rfl (Nat.le_of_ble_eq_true rfl) ⟨Nat.zero_le _, Nat.zero_le _⟩ dX4_addAt_53 (fun r2 hw => ?_)
      refine kMVv (q0 := 0) (As := [.int v3, .int r2]) (rest := []) C (c_X4_set l D kI kC kB a z_ H.size v3 r2 _ hw) ⟨rfl, rfl⟩ ce_X4_set cv_X4_set tw_232 ⟨Nat.le_of_ble_eq_true rfl, Nat.le_of_ble_eq_true rfl⟩ hP hD hS hA [0, 1] rfl rfl (fun _ => rfl) rfl rfl rfl hl.1 rfl (Nat.le_of_ble_eq_true rfl) ⟨Nat.zero_le _, Nat.zero_le _⟩ dX4_addAt_56 (fun u H locs hw hP hD hS => ?_)
      obtain ⟨u3, rfl⟩ : ∃ z, z = u := ⟨_, rfl⟩
      try dsimp only at hw
      replace hP : va_P D vwCl (cwRow kI a u3) H := hP
      replace hD : va_D A (cwRow kI a u3) := hD
      refine lv_iinc (v := (v3 + (-1))) (lv' := [(3, .int (v3 + (-1))), (0, .ref (a 0)), (1, .int p1), (2, .int p2)]) hx hb dX4_addAt_59 hl (k := 3) rfl rfl (by decide) rfl (fun ls hl => ?_)
      refine lv_goto (tgt := 42) hx hb dX4_addAt_62 (by decide) ?_
      exact ih u3 (v3 + (-1)) hw H locs hP hD hS ls (lv_sub hl [1, 2, 3, 0] rfl)
set_option maxHeartbeats 4000000 in
set_option maxRecDepth 100000 in
theorem c_X4_addAt (l : Launch) (D : va_G) (kI kC kB : ClassId) (a : AdT) (z_ : RowT) (sz : Nat) (p1 : Int32) (p2 : Int32) (Post : RowT → Prop) (hw : wp_X4_addAt z_ p1 p2 Post) : CMv l D kI kC kB yX4_addAt cX4_addAt 4 none ({ frames := 1, cells := 0, slots := 0, locals := 22 } : Room) [.ref (a 0), .int p1, .int p2] (cwRow kI a z_) sz (fun (u : RowT) => Post u) (fun u : RowT => (cwRow kI a u)) := by
  refine entMv (by decide) (Nat.le_of_ble_eq_true rfl) ?_
  intro p e s m args below meth c ls A C hA hP hD hS hl
  obtain ⟨H, hHe⟩ : ∃ H, H = s.heap := ⟨_, rfl⟩
  obtain ⟨locs, hlo⟩ : ∃ lo : List Loc, lo = [] := ⟨_, rfl⟩
  have hS : va_S A s.heap H locs := by rw [hHe, hlo]; exact hS
  rw [← hHe] at hP
  suffices hg : W p l e ({ frames := 1, cells := 0, slots := 0, locals := 22 } : Room) s m args below meth c H locs 0 0 (MQ below (va_Qv (fun (u : RowT) => Post u) (BB D A (fun u : RowT => (cwRow kI a u))) A) args s 0 0 A) (F0 m 0 ls []) by rw [hHe, hlo] at hg; exact hg
  replace hl : lv_has ls 4 [(0, .ref (a 0)), (1, .int p1), (2, .int p2)] := hl
  obtain ⟨hx, hb, hr, hml, hown, hts, hlocks, hK⟩ := id C
  refine lv_iload_n hx hb dX4_addAt_0 rfl (lv_at hl 1 rfl) ?_
  refine lv_if_lt (tgt := 24) hx hb dX4_addAt_1 (by decide) (fun hc => ?_) (fun hc => ?_)
  · replace hw := hw.1 hc
    exact retMv C (z_) hw hP hD hS dX4_addAt_24
  · replace hw := hw.2 hc
    refine lv_iload_n hx hb dX4_addAt_4 rfl (lv_at hl 1 rfl) ?_
    refine lv_aload_n hx hb dX4_addAt_5 rfl (lv_at hl 0 rfl) ?_
    refine va_get (D := D) (ci := 3) (v := .int z_.2.2) (C := RX4) (T := TX4) (N := 2) hx hb hts inX4 hown hK.1 hP 0 rfl rfl 1 (by decide) (hts _ tw_63) (fun _ h9 => h9) rfl dX4_addAt_6 ?_
    refine lv_icmp_gt (tgt := 24) hx hb dX4_addAt_9 (by decide) (fun hc => ?_) (fun hc => ?_)
    · replace hw := hw.1 hc
      exact retMv C (z_) hw hP hD hS dX4_addAt_24
    · replace hw := hw.2 hc
      refine lv_aload_n hx hb dX4_addAt_12 rfl (lv_at hl 0 rfl) ?_
      refine va_get (D := D) (ci := 3) (v := .int z_.2.2) (C := RX4) (T := TX4) (N := 2) hx hb hts inX4 hown hK.1 hP 0 rfl rfl 1 (by decide) (hts _ tw_63) (fun _ h9 => h9) rfl dX4_addAt_13 ?_
      refine lv_aload_n hx hb dX4_addAt_16 rfl (lv_at hl 0 rfl) ?_
      refine va_get (D := D) (ci := 3) (v := .ref (a 1)) (C := RX4) (T := TX4) (N := 2) hx hb hts inX4 hown hK.1 hP 0 rfl rfl 0 (by decide) (hts _ tw_62) (fun _ h9 => h9) rfl dX4_addAt_17 ?_
      refine va_alen (v := (nI z_.1)) hx hb hK.1 hP 1 0 rfl rfl rfl dX4_addAt_20 ?_
      refine lv_icmp_lt (tgt := 25) hx hb dX4_addAt_21 (by decide) (fun hc => ?_) (fun hc => ?_)
      · replace hw := hw.1 hc
        refine lv_aload_n hx hb dX4_addAt_25 rfl (lv_at hl 0 rfl) ?_
        refine lv_dup hx hb dX4_addAt_26 rfl ?_
        refine va_get (D := D) (ci := 3) (v := .int z_.2.2) (C := RX4) (T := TX4) (N := 2) hx hb hts inX4 hown hK.1 hP 0 rfl rfl 1 (by decide) (hts _ tw_63) (fun _ h9 => h9) rfl dX4_addAt_27 ?_
        refine lv_iconst (v := (nI 1)) hx hb dX4_addAt_30 (by decide) ?_
        refine lv_iadd hx hb dX4_addAt_31 ?_
        refine va_put (D := D) (ci := 3) (v := .int (z_.2.2 + (nI 1))) (ty := .int) (C := RX4) (T := TX4) (N := 2) hx hb hts inX4 tyX4 tyX4_ok nmX4 hown hK.1 hP hD hS 0 rfl rfl 1 (by decide) (hts _ tw_63) (fun _ h9 => h9) rfl (tyX4_ok 1 (by decide)) rfl rfl (Nat.le_of_ble_eq_true rfl) dX4_addAt_32 (fun H locs hP hD hS => ?_)
        replace hP : va_P D vwCl (cwRow kI a (z_.1, z_.2.1, (z_.2.2 + (nI 1)))) H := hP
        replace hD : va_D A (cwRow kI a (z_.1, z_.2.1, (z_.2.2 + (nI 1)))) := hD
        refine lv_aload_n hx hb dX4_addAt_35 rfl (lv_at hl 0 rfl) ?_
        refine va_get (D := D) (ci := 3) (v := .int (z_.2.2 + (nI 1))) (C := RX4) (T := TX4) (N := 2) hx hb hts inX4 hown hK.1 hP 0 rfl rfl 1 (by decide) (hts _ tw_63) (fun _ h9 => h9) rfl dX4_addAt_36 ?_
        refine lv_iconst (v := (nI 1)) hx hb dX4_addAt_39 (by decide) ?_
        refine lv_isub hx hb dX4_addAt_40 ?_
        refine lv_topi (fun y4 ey4 => ?_)
        replace hw := hw y4 ey4
        refine lv_istore_n (lv' := [(3, .int y4), (0, .ref (a 0)), (1, .int p1), (2, .int p2)]) hx hb dX4_addAt_41 rfl hl (by decide) rfl (fun ls hl => ?_)
        obtain ⟨n9, hw⟩ := hw
        exact cl_X4_addAt_42 l D kI kC kB a p1 p2 Post hA C n9 (z_.1, z_.2.1, (z_.2.2 + (nI 1))) y4 hw H locs hP hD hS ls (lv_sub hl [1, 2, 3, 0] rfl)
      · replace hw := hw.2 hc
        exact retMv C (z_) hw hP hD hS dX4_addAt_24
set_option maxHeartbeats 4000000 in
set_option maxRecDepth 100000 in
theorem c_X4_add (l : Launch) (D : va_G) (kI kC kB : ClassId) (a : AdT) (z_ : RowT) (sz : Nat) (p1 : Int32) (Post : RowT → Prop) (hw : wp_X4_add z_ p1 Post) : CMv l D kI kC kB yX4_add cX4_add 2 none ({ frames := 2, cells := 0, slots := 0, locals := 45 } : Room) [.ref (a 0), .int p1] (cwRow kI a z_) sz (fun (u : RowT) => Post u) (fun u : RowT => (cwRow kI a u)) := by
  refine entMv (by decide) (Nat.le_of_ble_eq_true rfl) ?_
  intro p e s m args below meth c ls A C hA hP hD hS hl
  obtain ⟨H, hHe⟩ : ∃ H, H = s.heap := ⟨_, rfl⟩
  obtain ⟨locs, hlo⟩ : ∃ lo : List Loc, lo = [] := ⟨_, rfl⟩
  have hS : va_S A s.heap H locs := by rw [hHe, hlo]; exact hS
  rw [← hHe] at hP
  suffices hg : W p l e ({ frames := 2, cells := 0, slots := 0, locals := 45 } : Room) s m args below meth c H locs 0 0 (MQ below (va_Qv (fun (u : RowT) => Post u) (BB D A (fun u : RowT => (cwRow kI a u))) A) args s 0 0 A) (F0 m 0 ls []) by rw [hHe, hlo] at hg; exact hg
  replace hl : lv_has ls 2 [(0, .ref (a 0)), (1, .int p1)] := hl
  obtain ⟨hx, hb, hr, hml, hown, hts, hlocks, hK⟩ := id C
  refine lv_aload_n hx hb dX4_add_0 rfl (lv_at hl 0 rfl) ?_
  refine lv_aload_n hx hb dX4_add_1 rfl (lv_at hl 0 rfl) ?_
  refine va_get (D := D) (ci := 3) (v := .int z_.2.2) (C := RX4) (T := TX4) (N := 2) hx hb hts inX4 hown hK.1 hP 0 rfl rfl 1 (by decide) (hts _ tw_63) (fun _ h9 => h9) rfl dX4_add_2 ?_
  refine lv_iload_n hx hb dX4_add_5 rfl (lv_at hl 1 rfl) ?_
  refine kMVv (q0 := 0) (As := [.int z_.2.2, .int p1]) (rest := []) C (c_X4_addAt l D kI kC kB a z_ H.size z_.2.2 p1 _ hw) ⟨rfl, rfl⟩ ce_X4_addAt cv_X4_addAt tw_326 ⟨Nat.le_of_ble_eq_true rfl, Nat.le_of_ble_eq_true rfl⟩ hP hD hS hA [0, 1] rfl rfl (fun _ => rfl) rfl rfl rfl hl.1 rfl (Nat.le_of_ble_eq_true rfl) ⟨Nat.zero_le _, Nat.zero_le _⟩ dX4_add_6 (fun u H locs hw hP hD hS => ?_)
  obtain ⟨u1, rfl⟩ : ∃ z, z = u := ⟨_, rfl⟩
  try dsimp only at hw
  replace hP : va_P D vwCl (cwRow kI a u1) H := hP
  replace hD : va_D A (cwRow kI a u1) := hD
  exact retMv C (u1) hw hP hD hS dX4_add_9
set_option maxHeartbeats 4000000 in
set_option maxRecDepth 100000 in
theorem c_X5_letter (l : Launch) (D : va_G) (kI kC kB : ClassId)  (p1 : Int32) (Post : Int32 → Prop) (hw : wp_X5_letter p1 Post) : CR l D kI kC kB yX5_letter cX5_letter 1 (some .int) ({ frames := 0, cells := 0, slots := 0, locals := 0 } : Room) [.int p1] ([] : va_W) Post := by
  refine entR (by decide) (Nat.le_of_ble_eq_true rfl) ?_
  intro p e s m args below meth c ls C hP hl
  replace hl : lv_has ls 1 [(0, .int p1)] := hl
  obtain ⟨hx, hb, hr, hml, hown, hts, hlocks, hK⟩ := id C
  refine lv_iload_n hx hb dX5_letter_0 rfl (lv_at hl 0 rfl) ?_
  refine lv_bipush (v := (nI 26)) hx hb dX5_letter_1 (by decide) ?_
  refine lv_irem hx hb dX5_letter_3 (by decide) ?_
  exact retR C hw dX5_letter_4
set_option maxHeartbeats 4000000 in
set_option maxRecDepth 100000 in
theorem cl_X0_signsBetween_7 (l : Launch) (D : va_G) (kI kC kB : ClassId) (a : AdT) (z_out : Int32) (p2 : Int32) (Post : Int32 → Prop) {p : Program} {e : Env} {s : State} {m : MethodId} {args : Array Value} {below : List Frame} {meth : Method} {c : Code} (C : CtxT p s m args meth c cX0_signsBetween 5 (some .int) yX0_signsBetween.cls D kI kC kB) (hP : va_P D vwCl (cwAlph a z_out) s.heap) : ∀ (n : Nat), ∀ (v3 : Int32) (v4 : Int32), wl_X0_signsBetween_7 z_out p2 Post n v3 v4 → ∀ (ls : Array Slot), lv_has ls 5 [(0, .ref (a 0)), (2, .int p2), (3, .int v3), (4, .int v4)] → W p l e ({ frames := 1, cells := 0, slots := 0, locals := 21 } : Room) s m args below meth c s.heap [] 0 0 (MQ below (vp_Si Post) args s 0 0 (fun _ => False)) (F0 m 7 ls []) := by
  obtain ⟨hx, hb, hr, hml, hown, hts, hlocks, hK⟩ := id C
  intro n
  induction n with
  | zero => intro v3 v4 hw; exact hw.elim
  | succ n ih =>
    intro v3 v4 hw ls hl
    refine lv_iload hx hb dX0_signsBetween_7 (lv_at hl 3 rfl) ?_
    refine lv_iload_n hx hb dX0_signsBetween_9 rfl (lv_at hl 1 rfl) ?_
    refine lv_icmp_ge (tgt := 41) hx hb dX0_signsBetween_10 (by decide) (fun hc => ?_) (fun hc => ?_)
    · replace hw := hw.1 hc
      refine lv_iload_n hx hb dX0_signsBetween_41 rfl (lv_at hl 2 rfl) ?_
      exact retR C hw dX0_signsBetween_42
    · replace hw := hw.2 hc
      refine lv_iload hx hb dX0_signsBetween_13 (lv_at hl 3 rfl) ?_
      refine lv_bipush (v := (nI 78)) hx hb dX0_signsBetween_15 (by decide) ?_
      refine lv_icmp_ge (tgt := 41) hx hb dX0_signsBetween_17 (by decide) (fun hc => ?_) (fun hc => ?_)
      · replace hw := hw.1 hc
        refine lv_iload_n hx hb dX0_signsBetween_41 rfl (lv_at hl 2 rfl) ?_
        exact retR C hw dX0_signsBetween_42
      · replace hw := hw.2 hc
        refine lv_aload_n hx hb dX0_signsBetween_20 rfl (lv_at hl 0 rfl) ?_
        refine lv_iload hx hb dX0_signsBetween_21 (lv_at hl 3 rfl) ?_
        refine kRS (As := [.int v4]) (rest := [.ref (a 0)]) C (c_X5_letter l D kI kC kB  v4 _ hw) ⟨rfl, rfl⟩ ce_X5_letter cv_X5_letter tw_351 ⟨Nat.le_of_ble_eq_true rfl, Nat.le_of_ble_eq_true rfl⟩ hP [] rfl hl.1 rfl (Nat.le_of_ble_eq_true rfl) ⟨Nat.zero_le _, Nat.zero_le _⟩ dX0_signsBetween_23 (fun r1 hw => ?_)
        refine kRV (As := [.int r1]) (rest := []) (q0 := 0) C (c_X0_has l D kI kC kB a z_out r1 _ hw) ⟨rfl, rfl⟩ ce_X0_has cv_X0_has tw_354 ⟨Nat.le_of_ble_eq_true rfl, Nat.le_of_ble_eq_true rfl⟩ hP [0] rfl rfl rfl rfl hl.1 rfl (Nat.le_of_ble_eq_true rfl) ⟨Nat.zero_le _, Nat.zero_le _⟩ dX0_signsBetween_26 (fun r2 hw => ?_)
        refine lv_if_eq (tgt := 35) hx hb dX0_signsBetween_29 (by decide) (fun hc => ?_) (fun hc => ?_)
        · replace hw := hw.1 hc
          refine lv_iinc (v := (v4 + nI 1)) (lv' := [(4, .int (v4 + nI 1)), (0, .ref (a 0)), (2, .int p2), (3, .int v3)]) hx hb dX0_signsBetween_35 hl (k := 3) rfl rfl (by decide) rfl (fun ls hl => ?_)
          refine lv_goto (tgt := 7) hx hb dX0_signsBetween_38 (by decide) ?_
          exact ih v3 (v4 + nI 1) hw ls (lv_sub hl [1, 2, 3, 0] rfl)
        · replace hw := hw.2 hc
          refine lv_iinc (v := (v3 + nI 1)) (lv' := [(3, .int (v3 + nI 1)), (0, .ref (a 0)), (2, .int p2), (4, .int v4)]) hx hb dX0_signsBetween_32 hl (k := 2) rfl rfl (by decide) rfl (fun ls hl => ?_)
          refine lv_iinc (v := (v4 + nI 1)) (lv' := [(4, .int (v4 + nI 1)), (3, .int (v3 + nI 1)), (0, .ref (a 0)), (2, .int p2)]) hx hb dX0_signsBetween_35 hl (k := 3) rfl rfl (by decide) rfl (fun ls hl => ?_)
          refine lv_goto (tgt := 7) hx hb dX0_signsBetween_38 (by decide) ?_
          exact ih (v3 + nI 1) (v4 + nI 1) hw ls (lv_sub hl [2, 3, 1, 0] rfl)
set_option maxHeartbeats 4000000 in
set_option maxRecDepth 100000 in
theorem c_X0_signsBetween (l : Launch) (D : va_G) (kI kC kB : ClassId) (a : AdT) (z_out : Int32) (p1 : Int32) (p2 : Int32) (Post : Int32 → Prop) (hw : wp_X0_signsBetween z_out p1 p2 Post) : CR l D kI kC kB yX0_signsBetween cX0_signsBetween 5 (some .int) ({ frames := 1, cells := 0, slots := 0, locals := 21 } : Room) [.ref (a 0), .int p1, .int p2] (cwAlph a z_out) Post := by
  refine entR (by decide) (Nat.le_of_ble_eq_true rfl) ?_
  intro p e s m args below meth c ls C hP hl
  replace hl : lv_has ls 5 [(0, .ref (a 0)), (1, .int p1), (2, .int p2)] := hl
  obtain ⟨hx, hb, hr, hml, hown, hts, hlocks, hK⟩ := id C
  refine lv_iconst (v := (nI 0)) hx hb dX0_signsBetween_0 (by decide) ?_
  refine lv_istore_n (lv' := [(3, .int (nI 0)), (0, .ref (a 0)), (1, .int p1), (2, .int p2)]) hx hb dX0_signsBetween_1 rfl hl (by decide) rfl (fun ls hl => ?_)
  refine lv_iload_n hx hb dX0_signsBetween_2 rfl (lv_at hl 2 rfl) ?_
  refine lv_iconst (v := (nI 1)) hx hb dX0_signsBetween_3 (by decide) ?_
  refine lv_iadd hx hb dX0_signsBetween_4 ?_
  refine lv_topi (fun y3 ey3 => ?_)
  replace hw := hw y3 ey3
  refine lv_istore (lv' := [(4, .int y3), (3, .int (nI 0)), (0, .ref (a 0)), (1, .int p1), (2, .int p2)]) hx hb dX0_signsBetween_5 hl (by decide) rfl (fun ls hl => ?_)
  obtain ⟨n9, hw⟩ := hw
  exact cl_X0_signsBetween_7 l D kI kC kB a z_out p2 Post C hP n9 (nI 0) y3 hw ls (lv_sub hl [2, 4, 1, 0] rfl)
set_option maxHeartbeats 4000000 in
set_option maxRecDepth 100000 in
theorem cl_X0_nextSign_4 (l : Launch) (D : va_G) (kI kC kB : ClassId) (a : AdT) (z_out : Int32) (Post : Int32 → Prop) {p : Program} {e : Env} {s : State} {m : MethodId} {args : Array Value} {below : List Frame} {meth : Method} {c : Code} (C : CtxT p s m args meth c cX0_nextSign 3 (some .int) yX0_nextSign.cls D kI kC kB) (hP : va_P D vwCl (cwAlph a z_out) s.heap) : ∀ (n : Nat), ∀ (v2 : Int32), wl_X0_nextSign_4 z_out Post n v2 → ∀ (ls : Array Slot), lv_has ls 3 [(0, .ref (a 0)), (2, .int v2)] → W p l e ({ frames := 1, cells := 0, slots := 0, locals := 21 } : Room) s m args below meth c s.heap [] 0 0 (MQ below (vp_Si Post) args s 0 0 (fun _ => False)) (F0 m 4 ls []) := by
  obtain ⟨hx, hb, hr, hml, hown, hts, hlocks, hK⟩ := id C
  intro n
  induction n with
  | zero => intro v2 hw; exact hw.elim
  | succ n ih =>
    intro v2 hw ls hl
    refine lv_iload_n hx hb dX0_nextSign_4 rfl (lv_at hl 1 rfl) ?_
    refine lv_bipush (v := (nI 78)) hx hb dX0_nextSign_5 (by decide) ?_
    refine lv_icmp_ge (tgt := 29) hx hb dX0_nextSign_7 (by decide) (fun hc => ?_) (fun hc => ?_)
    · replace hw := hw.1 hc
      refine lv_iconst (v := (-1)) hx hb dX0_nextSign_29 (by decide) ?_
      exact retR C hw dX0_nextSign_30
    · replace hw := hw.2 hc
      refine lv_aload_n hx hb dX0_nextSign_10 rfl (lv_at hl 0 rfl) ?_
      refine lv_iload_n hx hb dX0_nextSign_11 rfl (lv_at hl 1 rfl) ?_
      refine kRS (As := [.int v2]) (rest := [.ref (a 0)]) C (c_X5_letter l D kI kC kB  v2 _ hw) ⟨rfl, rfl⟩ ce_X5_letter cv_X5_letter tw_351 ⟨Nat.le_of_ble_eq_true rfl, Nat.le_of_ble_eq_true rfl⟩ hP [] rfl hl.1 rfl (Nat.le_of_ble_eq_true rfl) ⟨Nat.zero_le _, Nat.zero_le _⟩ dX0_nextSign_12 (fun r1 hw => ?_)
      refine kRV (As := [.int r1]) (rest := []) (q0 := 0) C (c_X0_has l D kI kC kB a z_out r1 _ hw) ⟨rfl, rfl⟩ ce_X0_has cv_X0_has tw_354 ⟨Nat.le_of_ble_eq_true rfl, Nat.le_of_ble_eq_true rfl⟩ hP [0] rfl rfl rfl rfl hl.1 rfl (Nat.le_of_ble_eq_true rfl) ⟨Nat.zero_le _, Nat.zero_le _⟩ dX0_nextSign_15 (fun r2 hw => ?_)
      refine lv_if_eq (tgt := 23) hx hb dX0_nextSign_18 (by decide) (fun hc => ?_) (fun hc => ?_)
      · replace hw := hw.1 hc
        refine lv_iinc (v := (v2 + nI 1)) (lv' := [(2, .int (v2 + nI 1)), (0, .ref (a 0))]) hx hb dX0_nextSign_23 hl (k := 1) rfl rfl (by decide) rfl (fun ls hl => ?_)
        refine lv_goto (tgt := 4) hx hb dX0_nextSign_26 (by decide) ?_
        exact ih (v2 + nI 1) hw ls (lv_sub hl [1, 0] rfl)
      · replace hw := hw.2 hc
        refine lv_iload_n hx hb dX0_nextSign_21 rfl (lv_at hl 1 rfl) ?_
        exact retR C hw dX0_nextSign_22
set_option maxHeartbeats 4000000 in
set_option maxRecDepth 100000 in
theorem c_X0_nextSign (l : Launch) (D : va_G) (kI kC kB : ClassId) (a : AdT) (z_out : Int32) (p1 : Int32) (Post : Int32 → Prop) (hw : wp_X0_nextSign z_out p1 Post) : CR l D kI kC kB yX0_nextSign cX0_nextSign 3 (some .int) ({ frames := 1, cells := 0, slots := 0, locals := 21 } : Room) [.ref (a 0), .int p1] (cwAlph a z_out) Post := by
  refine entR (by decide) (Nat.le_of_ble_eq_true rfl) ?_
  intro p e s m args below meth c ls C hP hl
  replace hl : lv_has ls 3 [(0, .ref (a 0)), (1, .int p1)] := hl
  obtain ⟨hx, hb, hr, hml, hown, hts, hlocks, hK⟩ := id C
  refine lv_iload_n hx hb dX0_nextSign_0 rfl (lv_at hl 1 rfl) ?_
  refine lv_iconst (v := (nI 1)) hx hb dX0_nextSign_1 (by decide) ?_
  refine lv_iadd hx hb dX0_nextSign_2 ?_
  refine lv_topi (fun y3 ey3 => ?_)
  replace hw := hw y3 ey3
  refine lv_istore_n (lv' := [(2, .int y3), (0, .ref (a 0)), (1, .int p1)]) hx hb dX0_nextSign_3 rfl hl (by decide) rfl (fun ls hl => ?_)
  obtain ⟨n9, hw⟩ := hw
  exact cl_X0_nextSign_4 l D kI kC kB a z_out Post C hP n9 y3 hw ls (lv_sub hl [1, 0] rfl)
set_option maxHeartbeats 4000000 in
set_option maxRecDepth 100000 in
theorem cl_X4_drop_15 (l : Launch) (D : va_G) (kI kC kB : ClassId) (a : AdT) (Post : RowT → Prop) {p : Program} {e : Env} {s : State} {m : MethodId} {args : Array Value} {below : List Frame} {meth : Method} {c : Code} {A : Nat → Prop} (hA : ∀ q : Nat, s.heap.size ≤ q → A q) (C : CtxT p s m args meth c cX4_drop 3 none yX4_drop.cls D kI kC kB) : ∀ (n : Nat), ∀ (z_ : RowT) (v2 : Int32), wl_X4_drop_15 Post n z_ v2 → ∀ (H : Heap) (locs : List Loc), va_P D vwCl (cwRow kI a z_) H → va_D A (cwRow kI a z_) → va_S A s.heap H locs → ∀ (ls : Array Slot), lv_has ls 3 [(0, .ref (a 0)), (2, .int v2)] → W p l e ({ frames := 1, cells := 0, slots := 0, locals := 22 } : Room) s m args below meth c H locs 0 0 (MQ below (va_Qv (fun (u : RowT) => Post u) (BB D A (fun u : RowT => (cwRow kI a u))) A) args s 0 0 A) (F0 m 15 ls []) := by
  obtain ⟨hx, hb, hr, hml, hown, hts, hlocks, hK⟩ := id C
  intro n
  induction n with
  | zero => intro z_ v2 hw; exact hw.elim
  | succ n ih =>
    intro z_ v2 hw H locs hP hD hS ls hl
    refine lv_iload_n hx hb dX4_drop_15 rfl (lv_at hl 1 rfl) ?_
    refine lv_aload_n hx hb dX4_drop_16 rfl (lv_at hl 0 rfl) ?_
    refine va_get (D := D) (ci := 3) (v := .int z_.2.2) (C := RX4) (T := TX4) (N := 2) hx hb hts inX4 hown hK.1 hP 0 rfl rfl 1 (by decide) (hts _ tw_63) (fun _ h9 => h9) rfl dX4_drop_17 ?_
    refine lv_iconst (v := (nI 1)) hx hb dX4_drop_20 (by decide) ?_
    refine lv_isub hx hb dX4_drop_21 ?_
    refine lv_icmp_ge (tgt := 43) hx hb dX4_drop_22 (by decide) (fun hc => ?_) (fun hc => ?_)
    · replace hw := hw.1 hc
      refine lv_aload_n hx hb dX4_drop_43 rfl (lv_at hl 0 rfl) ?_
      refine lv_dup hx hb dX4_drop_44 rfl ?_
      refine va_get (D := D) (ci := 3) (v := .int z_.2.2) (C := RX4) (T := TX4) (N := 2) hx hb hts inX4 hown hK.1 hP 0 rfl rfl 1 (by decide) (hts _ tw_63) (fun _ h9 => h9) rfl dX4_drop_45 ?_
      refine lv_iconst (v := (nI 1)) hx hb dX4_drop_48 (by decide) ?_
      refine lv_isub hx hb dX4_drop_49 ?_
      refine va_put (D := D) (ci := 3) (v := .int (z_.2.2 - (nI 1))) (ty := .int) (C := RX4) (T := TX4) (N := 2) hx hb hts inX4 tyX4 tyX4_ok nmX4 hown hK.1 hP hD hS 0 rfl rfl 1 (by decide) (hts _ tw_63) (fun _ h9 => h9) rfl (tyX4_ok 1 (by decide)) rfl rfl (Nat.le_of_ble_eq_true rfl) dX4_drop_50 (fun H locs hP hD hS => ?_)
      replace hP : va_P D vwCl (cwRow kI a (z_.1, z_.2.1, (z_.2.2 - (nI 1)))) H := hP
      replace hD : va_D A (cwRow kI a (z_.1, z_.2.1, (z_.2.2 - (nI 1)))) := hD
      exact retMv C ((z_.1, z_.2.1, (z_.2.2 - (nI 1)))) hw hP hD hS dX4_drop_53
    · replace hw := hw.2 hc
      refine lv_aload_n hx hb dX4_drop_25 rfl (lv_at hl 0 rfl) ?_
      refine lv_iload_n hx hb dX4_drop_26 rfl (lv_at hl 1 rfl) ?_
      refine lv_aload_n hx hb dX4_drop_27 rfl (lv_at hl 0 rfl) ?_
      refine lv_iload_n hx hb dX4_drop_28 rfl (lv_at hl 1 rfl) ?_
      refine lv_iconst (v := (nI 1)) hx hb dX4_drop_29 (by decide) ?_
      refine lv_iadd hx hb dX4_drop_30 ?_
      refine kRV (As := [.int (v2 + (nI 1))]) (rest := [.int v2, .ref (a 0)]) (q0 := 0) C (c_X4_at l D kI kC kB a z_ (v2 + (nI 1)) _ hw) ⟨rfl, rfl⟩ ce_X4_at cv_X4_at tw_228 ⟨Nat.le_of_ble_eq_true rfl, Nat.le_of_ble_eq_true rfl⟩ hP [0, 1] rfl rfl rfl rfl hl.1 rfl (Nat.le_of_ble_eq_true rfl) ⟨Nat.zero_le _, Nat.zero_le _⟩ dX4_drop_31 (fun r1 hw => ?_)
      refine kMVv (q0 := 0) (As := [.int v2, .int r1]) (rest := []) C (c_X4_set l D kI kC kB a z_ H.size v2 r1 _ hw) ⟨rfl, rfl⟩ ce_X4_set cv_X4_set tw_232 ⟨Nat.le_of_ble_eq_true rfl, Nat.le_of_ble_eq_true rfl⟩ hP hD hS hA [0, 1] rfl rfl (fun _ => rfl) rfl rfl rfl hl.1 rfl (Nat.le_of_ble_eq_true rfl) ⟨Nat.zero_le _, Nat.zero_le _⟩ dX4_drop_34 (fun u H locs hw hP hD hS => ?_)
      obtain ⟨u2, rfl⟩ : ∃ z, z = u := ⟨_, rfl⟩
      try dsimp only at hw
      replace hP : va_P D vwCl (cwRow kI a u2) H := hP
      replace hD : va_D A (cwRow kI a u2) := hD
      refine lv_iinc (v := (v2 + nI 1)) (lv' := [(2, .int (v2 + nI 1)), (0, .ref (a 0))]) hx hb dX4_drop_37 hl (k := 1) rfl rfl (by decide) rfl (fun ls hl => ?_)
      refine lv_goto (tgt := 15) hx hb dX4_drop_40 (by decide) ?_
      exact ih u2 (v2 + nI 1) hw H locs hP hD hS ls (lv_sub hl [1, 0] rfl)
set_option maxHeartbeats 4000000 in
set_option maxRecDepth 100000 in
theorem c_X4_drop (l : Launch) (D : va_G) (kI kC kB : ClassId) (a : AdT) (z_ : RowT) (sz : Nat) (p1 : Int32) (Post : RowT → Prop) (hw : wp_X4_drop z_ p1 Post) : CMv l D kI kC kB yX4_drop cX4_drop 3 none ({ frames := 1, cells := 0, slots := 0, locals := 22 } : Room) [.ref (a 0), .int p1] (cwRow kI a z_) sz (fun (u : RowT) => Post u) (fun u : RowT => (cwRow kI a u)) := by
  refine entMv (by decide) (Nat.le_of_ble_eq_true rfl) ?_
  intro p e s m args below meth c ls A C hA hP hD hS hl
  obtain ⟨H, hHe⟩ : ∃ H, H = s.heap := ⟨_, rfl⟩
  obtain ⟨locs, hlo⟩ : ∃ lo : List Loc, lo = [] := ⟨_, rfl⟩
  have hS : va_S A s.heap H locs := by rw [hHe, hlo]; exact hS
  rw [← hHe] at hP
  suffices hg : W p l e ({ frames := 1, cells := 0, slots := 0, locals := 22 } : Room) s m args below meth c H locs 0 0 (MQ below (va_Qv (fun (u : RowT) => Post u) (BB D A (fun u : RowT => (cwRow kI a u))) A) args s 0 0 A) (F0 m 0 ls []) by rw [hHe, hlo] at hg; exact hg
  replace hl : lv_has ls 3 [(0, .ref (a 0)), (1, .int p1)] := hl
  obtain ⟨hx, hb, hr, hml, hown, hts, hlocks, hK⟩ := id C
  refine lv_iload_n hx hb dX4_drop_0 rfl (lv_at hl 1 rfl) ?_
  refine lv_if_lt (tgt := 12) hx hb dX4_drop_1 (by decide) (fun hc => ?_) (fun hc => ?_)
  · replace hw := hw.1 hc
    exact retMv C (z_) hw hP hD hS dX4_drop_12
  · replace hw := hw.2 hc
    refine lv_iload_n hx hb dX4_drop_4 rfl (lv_at hl 1 rfl) ?_
    refine lv_aload_n hx hb dX4_drop_5 rfl (lv_at hl 0 rfl) ?_
    refine va_get (D := D) (ci := 3) (v := .int z_.2.2) (C := RX4) (T := TX4) (N := 2) hx hb hts inX4 hown hK.1 hP 0 rfl rfl 1 (by decide) (hts _ tw_63) (fun _ h9 => h9) rfl dX4_drop_6 ?_
    refine lv_icmp_lt (tgt := 13) hx hb dX4_drop_9 (by decide) (fun hc => ?_) (fun hc => ?_)
    · replace hw := hw.1 hc
      refine lv_iload_n hx hb dX4_drop_13 rfl (lv_at hl 1 rfl) ?_
      refine lv_istore_n (lv' := [(2, .int p1), (0, .ref (a 0)), (1, .int p1)]) hx hb dX4_drop_14 rfl hl (by decide) rfl (fun ls hl => ?_)
      obtain ⟨n9, hw⟩ := hw
      exact cl_X4_drop_15 l D kI kC kB a Post hA C n9 z_ p1 hw H locs hP hD hS ls (lv_sub hl [1, 0] rfl)
    · replace hw := hw.2 hc
      exact retMv C (z_) hw hP hD hS dX4_drop_12
set_option maxHeartbeats 4000000 in
set_option maxRecDepth 100000 in
theorem c_X0_become (l : Launch) (D : va_G) (kI kC kB : ClassId) (a : AdT) (b : AdT) (z_out : Int32) (o1_out : Int32) (sz : Nat) (Post : Int32 → Prop) (hw : wp_X0_become z_out o1_out Post) : CMv l D kI kC kB yX0_become cX0_become 2 none ({ frames := 0, cells := 0, slots := 0, locals := 0 } : Room) [.ref (a 0), .ref (b 0)] (cwAlph a z_out ++ cwAlph b o1_out) sz (fun (u : Int32) => Post u) (fun u : Int32 => (cwAlph a u ++ cwAlph b o1_out)) := by
  refine entMv (by decide) (Nat.le_of_ble_eq_true rfl) ?_
  intro p e s m args below meth c ls A C hA hP hD hS hl
  obtain ⟨H, hHe⟩ : ∃ H, H = s.heap := ⟨_, rfl⟩
  obtain ⟨locs, hlo⟩ : ∃ lo : List Loc, lo = [] := ⟨_, rfl⟩
  have hS : va_S A s.heap H locs := by rw [hHe, hlo]; exact hS
  rw [← hHe] at hP
  suffices hg : W p l e ({ frames := 0, cells := 0, slots := 0, locals := 0 } : Room) s m args below meth c H locs 0 0 (MQ below (va_Qv (fun (u : Int32) => Post u) (BB D A (fun u : Int32 => (cwAlph a u ++ cwAlph b o1_out))) A) args s 0 0 A) (F0 m 0 ls []) by rw [hHe, hlo] at hg; exact hg
  replace hl : lv_has ls 2 [(0, .ref (a 0)), (1, .ref (b 0))] := hl
  obtain ⟨hx, hb, hr, hml, hown, hts, hlocks, hK⟩ := id C
  refine lv_aload_n hx hb dX0_become_0 rfl (lv_at hl 0 rfl) ?_
  refine lv_aload_n hx hb dX0_become_1 rfl (lv_at hl 1 rfl) ?_
  refine va_get (D := D) (ci := 0) (v := .int o1_out) (C := RX0) (T := TX0) (N := 1) hx hb hts inX0 hown hK.1 hP 1 rfl rfl 0 (by decide) (hts _ tw_49) (fun _ h9 => h9) rfl dX0_become_2 ?_
  refine va_put (D := D) (ci := 0) (v := .int o1_out) (ty := .int) (C := RX0) (T := TX0) (N := 1) hx hb hts inX0 tyX0 tyX0_ok nmX0 hown hK.1 hP hD hS 0 rfl rfl 0 (by decide) (hts _ tw_49) (fun _ h9 => h9) rfl (tyX0_ok 0 (by decide)) rfl rfl (Nat.le_of_ble_eq_true rfl) dX0_become_5 (fun H locs hP hD hS => ?_)
  replace hP : va_P D vwCl (cwAlph a o1_out ++ cwAlph b o1_out) H := hP
  replace hD : va_D A (cwAlph a o1_out ++ cwAlph b o1_out) := hD
  exact retMv C (o1_out) hw hP hD hS dX0_become_8
set_option maxHeartbeats 4000000 in
set_option maxRecDepth 100000 in
theorem cl_X4_become_18 (l : Launch) (D : va_G) (kI kC kB : ClassId) (a : AdT) (b : AdT) (o1_ : RowT) (Post : RowT → Prop) {p : Program} {e : Env} {s : State} {m : MethodId} {args : Array Value} {below : List Frame} {meth : Method} {c : Code} {A : Nat → Prop} (hA : ∀ q : Nat, s.heap.size ≤ q → A q) (C : CtxT p s m args meth c cX4_become 3 none yX4_become.cls D kI kC kB) : ∀ (n : Nat), ∀ (z_ : RowT) (v2 : Int32), wl_X4_become_18 o1_ Post n z_ v2 → ∀ (H : Heap) (locs : List Loc), va_P D vwCl (cwRow kI a z_ ++ cwRow kI b o1_) H → va_D A (cwRow kI a z_ ++ cwRow kI b o1_) → va_S A s.heap H locs → ∀ (ls : Array Slot), lv_has ls 3 [(0, .ref (a 0)), (1, .ref (b 0)), (2, .int v2)] → W p l e ({ frames := 1, cells := 0, slots := 0, locals := 22 } : Room) s m args below meth c H locs 0 0 (MQ below (va_Qv (fun (u : RowT) => Post u) (BB D A (fun u : RowT => (cwRow kI a u ++ cwRow kI b o1_))) A) args s 0 0 A) (F0 m 18 ls []) := by
  obtain ⟨hx, hb, hr, hml, hown, hts, hlocks, hK⟩ := id C
  intro n
  induction n with
  | zero => intro z_ v2 hw; exact hw.elim
  | succ n ih =>
    intro z_ v2 hw H locs hP hD hS ls hl
    refine lv_iload_n hx hb dX4_become_18 rfl (lv_at hl 2 rfl) ?_
    refine lv_aload_n hx hb dX4_become_19 rfl (lv_at hl 0 rfl) ?_
    refine va_get (D := D) (ci := 3) (v := .int z_.2.2) (C := RX4) (T := TX4) (N := 2) hx hb hts inX4 hown hK.1 hP 0 rfl rfl 1 (by decide) (hts _ tw_63) (fun _ h9 => h9) rfl dX4_become_20 ?_
    refine lv_icmp_ge (tgt := 42) hx hb dX4_become_23 (by decide) (fun hc => ?_) (fun hc => ?_)
    · replace hw := hw.1 hc
      exact retMv C (z_) hw hP hD hS dX4_become_42
    · replace hw := hw.2 hc
      refine lv_aload_n hx hb dX4_become_26 rfl (lv_at hl 0 rfl) ?_
      refine lv_iload_n hx hb dX4_become_27 rfl (lv_at hl 2 rfl) ?_
      refine lv_aload_n hx hb dX4_become_28 rfl (lv_at hl 1 rfl) ?_
      refine lv_iload_n hx hb dX4_become_29 rfl (lv_at hl 2 rfl) ?_
      refine kRV (As := [.int v2]) (rest := [.int v2, .ref (a 0)]) (q0 := 2) C (c_X4_at l D kI kC kB b o1_ v2 _ hw) ⟨rfl, rfl⟩ ce_X4_at cv_X4_at tw_228 ⟨Nat.le_of_ble_eq_true rfl, Nat.le_of_ble_eq_true rfl⟩ hP [2, 3] rfl rfl rfl rfl hl.1 rfl (Nat.le_of_ble_eq_true rfl) ⟨Nat.zero_le _, Nat.zero_le _⟩ dX4_become_30 (fun r1 hw => ?_)
      refine kMVv (q0 := 0) (As := [.int v2, .int r1]) (rest := []) C (c_X4_set l D kI kC kB a z_ H.size v2 r1 _ hw) ⟨rfl, rfl⟩ ce_X4_set cv_X4_set tw_232 ⟨Nat.le_of_ble_eq_true rfl, Nat.le_of_ble_eq_true rfl⟩ hP hD hS hA [0, 1] rfl rfl (fun _ => rfl) rfl rfl rfl hl.1 rfl (Nat.le_of_ble_eq_true rfl) ⟨Nat.zero_le _, Nat.zero_le _⟩ dX4_become_33 (fun u H locs hw hP hD hS => ?_)
      obtain ⟨u2, rfl⟩ : ∃ z, z = u := ⟨_, rfl⟩
      try dsimp only at hw
      replace hP : va_P D vwCl (cwRow kI a u2 ++ cwRow kI b o1_) H := hP
      replace hD : va_D A (cwRow kI a u2 ++ cwRow kI b o1_) := hD
      refine lv_iinc (v := (v2 + nI 1)) (lv' := [(2, .int (v2 + nI 1)), (0, .ref (a 0)), (1, .ref (b 0))]) hx hb dX4_become_36 hl (k := 2) rfl rfl (by decide) rfl (fun ls hl => ?_)
      refine lv_goto (tgt := 18) hx hb dX4_become_39 (by decide) ?_
      exact ih u2 (v2 + nI 1) hw H locs hP hD hS ls (lv_sub hl [1, 2, 0] rfl)
set_option maxHeartbeats 4000000 in
set_option maxRecDepth 100000 in
theorem c_X4_become (l : Launch) (D : va_G) (kI kC kB : ClassId) (a : AdT) (b : AdT) (z_ : RowT) (o1_ : RowT) (sz : Nat) (Post : RowT → Prop) (hw : wp_X4_become z_ o1_ Post) : CMv l D kI kC kB yX4_become cX4_become 3 none ({ frames := 1, cells := 0, slots := 0, locals := 22 } : Room) [.ref (a 0), .ref (b 0)] (cwRow kI a z_ ++ cwRow kI b o1_) sz (fun (u : RowT) => Post u) (fun u : RowT => (cwRow kI a u ++ cwRow kI b o1_)) := by
  refine entMv (by decide) (Nat.le_of_ble_eq_true rfl) ?_
  intro p e s m args below meth c ls A C hA hP hD hS hl
  obtain ⟨H, hHe⟩ : ∃ H, H = s.heap := ⟨_, rfl⟩
  obtain ⟨locs, hlo⟩ : ∃ lo : List Loc, lo = [] := ⟨_, rfl⟩
  have hS : va_S A s.heap H locs := by rw [hHe, hlo]; exact hS
  rw [← hHe] at hP
  suffices hg : W p l e ({ frames := 1, cells := 0, slots := 0, locals := 22 } : Room) s m args below meth c H locs 0 0 (MQ below (va_Qv (fun (u : RowT) => Post u) (BB D A (fun u : RowT => (cwRow kI a u ++ cwRow kI b o1_))) A) args s 0 0 A) (F0 m 0 ls []) by rw [hHe, hlo] at hg; exact hg
  replace hl : lv_has ls 3 [(0, .ref (a 0)), (1, .ref (b 0))] := hl
  obtain ⟨hx, hb, hr, hml, hown, hts, hlocks, hK⟩ := id C
  refine lv_aload_n hx hb dX4_become_0 rfl (lv_at hl 0 rfl) ?_
  refine lv_aload_n hx hb dX4_become_1 rfl (lv_at hl 1 rfl) ?_
  refine va_get (D := D) (ci := 3) (v := .int o1_.2.2) (C := RX4) (T := TX4) (N := 2) hx hb hts inX4 hown hK.1 hP 2 rfl rfl 1 (by decide) (hts _ tw_63) (fun _ h9 => h9) rfl dX4_become_2 ?_
  refine lv_aload_n hx hb dX4_become_5 rfl (lv_at hl 0 rfl) ?_
  refine va_get (D := D) (ci := 3) (v := .ref (a 1)) (C := RX4) (T := TX4) (N := 2) hx hb hts inX4 hown hK.1 hP 0 rfl rfl 0 (by decide) (hts _ tw_62) (fun _ h9 => h9) rfl dX4_become_6 ?_
  refine va_alen (v := (nI z_.1)) hx hb hK.1 hP 1 0 rfl rfl rfl dX4_become_9 ?_
  refine va_mmin hx hb (by rw [C.2.2.2.1]; exact hl.1.symm) hown (hts _ tw_225) (hts _ tw_226) (hts _ tw_21) (hts _ tw_227) (Nat.le_of_ble_eq_true rfl) (Nat.le_of_ble_eq_true rfl) (Nat.zero_le _) (Nat.zero_le _) dX4_become_10 ?_
  refine va_put (D := D) (ci := 3) (v := .int (if (nI z_.1) < o1_.2.2 then (nI z_.1) else o1_.2.2)) (ty := .int) (C := RX4) (T := TX4) (N := 2) hx hb hts inX4 tyX4 tyX4_ok nmX4 hown hK.1 hP hD hS 0 rfl rfl 1 (by decide) (hts _ tw_63) (fun _ h9 => h9) rfl (tyX4_ok 1 (by decide)) rfl rfl (Nat.le_of_ble_eq_true rfl) dX4_become_13 (fun H locs hP hD hS => ?_)
  replace hP : va_P D vwCl (cwRow kI a (z_.1, z_.2.1, (if (nI z_.1) < o1_.2.2 then (nI z_.1) else o1_.2.2)) ++ cwRow kI b o1_) H := hP
  replace hD : va_D A (cwRow kI a (z_.1, z_.2.1, (if (nI z_.1) < o1_.2.2 then (nI z_.1) else o1_.2.2)) ++ cwRow kI b o1_) := hD
  refine lv_iconst (v := (nI 0)) hx hb dX4_become_16 (by decide) ?_
  refine lv_istore_n (lv' := [(2, .int (nI 0)), (0, .ref (a 0)), (1, .ref (b 0))]) hx hb dX4_become_17 rfl hl (by decide) rfl (fun ls hl => ?_)
  obtain ⟨n9, hw⟩ := hw
  exact cl_X4_become_18 l D kI kC kB a b o1_ Post hA C n9 (z_.1, z_.2.1, (if (nI z_.1) < o1_.2.2 then (nI z_.1) else o1_.2.2)) (nI 0) hw H locs hP hD hS ls (lv_sub hl [1, 2, 0] rfl)
