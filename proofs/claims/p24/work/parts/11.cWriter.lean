/-! contracts, printed (gen.py) -/
theorem ce_X3_kind : CE yX3_kind cX3_kind 4 (some .int) 2 := ⟨tw_538, tw_27, ⟨by decide, by decide⟩, ce_par (by decide +kernel)⟩
theorem cv_X3_kind : Cond.static yX3_kind ∈ gw := tw_537
theorem ce_X3_width : CE yX3_width cX3_width 2 (some .int) 2 := ⟨tw_546, tw_27, ⟨by decide, by decide⟩, ce_par (by decide +kernel)⟩
theorem cv_X3_width : Cond.static yX3_width ∈ gw := tw_545
theorem ce_X3_number : CE yX3_number cX3_number 3 (some .int) 1 := ⟨tw_607, tw_27, ⟨by decide, by decide⟩, ce_par (by decide +kernel)⟩
theorem cv_X3_number : Cond.static yX3_number ∈ gw := tw_606
theorem ce_X3_quireAt : CE yX3_quireAt cX3_quireAt 4 (some .int) 2 := ⟨tw_534, tw_27, ⟨by decide, by decide⟩, ce_par (by decide +kernel)⟩
theorem cv_X3_quireAt : Cond.static yX3_quireAt ∈ gw := tw_533
theorem ce_X7_length : CE yX7_length cX7_length 1 (some .int) 0 := ⟨tw_591, tw_24, ⟨by decide, by decide⟩, ce_par (by decide +kernel)⟩
theorem cv_X7_length : CV yX7_length := ⟨tw_589, tw_590⟩
theorem ce_X7_characterAt : CE yX7_characterAt cX7_characterAt 2 (some .int) 1 := ⟨tw_596, tw_24, ⟨by decide, by decide⟩, ce_par (by decide +kernel)⟩
theorem cv_X7_characterAt : CV yX7_characterAt := ⟨tw_594, tw_595⟩
theorem ce_X7_entries : CE yX7_entries cX7_entries 1 (some .int) 0 := ⟨tw_611, tw_24, ⟨by decide, by decide⟩, ce_par (by decide +kernel)⟩
theorem cv_X7_entries : CV yX7_entries := ⟨tw_609, tw_610⟩
theorem ce_X7_write : CE yX7_write cX7_write 4 none 1 := ⟨tw_564, tw_24, ⟨by decide, by decide⟩, ce_par (by decide +kernel)⟩
theorem cv_X7_write : CV yX7_write := ⟨tw_562, tw_563⟩
theorem ce_X7_goesOn : CE yX7_goesOn cX7_goesOn 4 (some .boolean) 2 := ⟨tw_569, tw_24, ⟨by decide, by decide⟩, ce_par (by decide +kernel)⟩
theorem cv_X7_goesOn : Cond.static yX7_goesOn ∈ gw := tw_568
theorem ce_X7_beginEntry : CE yX7_beginEntry cX7_beginEntry 2 none 1 := ⟨tw_576, tw_24, ⟨by decide, by decide⟩, ce_par (by decide +kernel)⟩
theorem cv_X7_beginEntry : CV yX7_beginEntry := ⟨tw_575, tw_13⟩
theorem ce_X7_writeSign : CE yX7_writeSign cX7_writeSign 4 none 1 := ⟨tw_581, tw_24, ⟨by decide, by decide⟩, ce_par (by decide +kernel)⟩
theorem cv_X7_writeSign : CV yX7_writeSign := ⟨tw_580, tw_14⟩
theorem ce_X7_writeNumber : CE yX7_writeNumber cX7_writeNumber 2 none 1 := ⟨tw_587, tw_24, ⟨by decide, by decide⟩, ce_par (by decide +kernel)⟩
theorem cv_X7_writeNumber : CV yX7_writeNumber := ⟨tw_586, tw_15⟩
set_option maxHeartbeats 4000000 in
set_option maxRecDepth 100000 in
theorem c_X3_kind (l : Launch) (D : va_G) (kI kC kB : ClassId) (b : AdT) (o1_alphabet_out : Int32) (o1_signing : Int32) (o1_signs : RowT) (o1_sizes : RowT) (o1_lost : RowT) (o1_pile : RowT) (p2 : Int32) (Post : Int32 → Prop) (hw : wp_X3_kind o1_alphabet_out o1_signs p2 Post) : CR l D kI kC kB yX3_kind cX3_kind 4 (some .int) ({ frames := 2, cells := 0, slots := 0, locals := 43 } : Room) [.ref (b 0), .int p2] (cwBook kI b o1_alphabet_out o1_signing o1_signs o1_sizes o1_lost o1_pile) Post := by
  refine entR (by decide) (Nat.le_of_ble_eq_true rfl) ?_
  intro p e s m args below meth c ls C hP hl
  replace hl : lv_has ls 4 [(0, .ref (b 0)), (1, .int p2)] := hl
  obtain ⟨hx, hb, hr, hml, hown, hts, hlocks, hK⟩ := id C
  refine lv_aload_n hx hb dX3_kind_0 rfl (lv_at hl 0 rfl) ?_
  refine va_getN (D := D) (ci := 1) (v := .ref (b 2)) (C := RX1) (T := TX1) (N := 6) hx hb hts inX1 hown hK.1 hP 0 rfl rfl 2 (by decide) (va_Nw.use rfl (hK.2.1 _ nw_77)) (fun _ h9 => h9) rfl dX3_kind_1 ?_
  refine lv_iload_n hx hb dX3_kind_4 rfl (lv_at hl 1 rfl) ?_
  refine kRV (As := [.int p2]) (rest := []) (q0 := 2) C (c_X4_at l D kI kC kB (fun i => b (i + 2)) o1_signs p2 _ hw) ⟨rfl, rfl⟩ ce_X4_at cv_X4_at tw_539 ⟨Nat.le_of_ble_eq_true rfl, Nat.le_of_ble_eq_true rfl⟩ hP [2, 3] rfl rfl rfl rfl hl.1 rfl (Nat.le_of_ble_eq_true rfl) ⟨Nat.zero_le _, Nat.zero_le _⟩ dX3_kind_5 (fun r1 hw => ?_)
  refine lv_istore_n (lv' := [(2, .int r1), (0, .ref (b 0)), (1, .int p2)]) hx hb dX3_kind_8 rfl hl (by decide) rfl (fun ls hl => ?_)
  refine lv_aload_n hx hb dX3_kind_9 rfl (lv_at hl 1 rfl) ?_
  refine lv_iload_n hx hb dX3_kind_10 rfl (lv_at hl 2 rfl) ?_
  refine kRV (As := [.int p2]) (rest := []) (q0 := 0) C (c_X1_lastLettersAhead l D kI kC kB b o1_alphabet_out o1_signing o1_signs o1_sizes o1_lost o1_pile p2 _ hw) ⟨rfl, rfl⟩ ce_X1_lastLettersAhead cv_X1_lastLettersAhead tw_540 ⟨Nat.le_of_ble_eq_true rfl, Nat.le_of_ble_eq_true rfl⟩ hP [0, 1, 2, 3, 4, 5, 6, 7, 8, 9] rfl rfl rfl rfl hl.1 rfl (Nat.le_of_ble_eq_true rfl) ⟨Nat.zero_le _, Nat.zero_le _⟩ dX3_kind_11 (fun r2 hw => ?_)
  refine lv_istore_n (lv' := [(3, .int r2), (2, .int r1), (0, .ref (b 0)), (1, .int p2)]) hx hb dX3_kind_14 rfl hl (by decide) rfl (fun ls hl => ?_)
  refine lv_iload_n hx hb dX3_kind_15 rfl (lv_at hl 1 rfl) ?_
  refine kRS (As := [.int r1]) (rest := []) C (c_X5_isStarred l D kI kC kB  r1 _ hw) ⟨rfl, rfl⟩ ce_X5_isStarred cv_X5_isStarred tw_541 ⟨Nat.le_of_ble_eq_true rfl, Nat.le_of_ble_eq_true rfl⟩ hP [] rfl hl.1 rfl (Nat.le_of_ble_eq_true rfl) ⟨Nat.zero_le _, Nat.zero_le _⟩ dX3_kind_16 (fun r3 hw => ?_)
  refine lv_if_ne (tgt := 27) hx hb dX3_kind_19 (by decide) (fun hc => ?_) (fun hc => ?_)
  · replace hw := hw.2 hc
    refine lv_iconst (v := (-1)) hx hb dX3_kind_27 (by decide) ?_
    exact retR C hw dX3_kind_28
  · replace hw := hw.1 hc
    refine lv_iload_n hx hb dX3_kind_22 rfl (lv_at hl 0 rfl) ?_
    refine lv_iconst (v := (-1)) hx hb dX3_kind_23 (by decide) ?_
    refine lv_icmp_ne (tgt := 29) hx hb dX3_kind_24 (by decide) (fun hc => ?_) (fun hc => ?_)
    · replace hw := hw.2 hc
      refine lv_iload_n hx hb dX3_kind_29 rfl (lv_at hl 1 rfl) ?_
      refine lv_aload_n hx hb dX3_kind_30 rfl (lv_at hl 2 rfl) ?_
      refine va_getN (D := D) (ci := 1) (v := .ref (b 1)) (C := RX1) (T := TX1) (N := 6) hx hb hts inX1 hown hK.1 hP 0 rfl rfl 0 (by decide) (va_Nw.use rfl (hK.2.1 _ nw_72)) (fun _ h9 => h9) rfl dX3_kind_31 ?_
      refine lv_iload_n hx hb dX3_kind_34 rfl (lv_at hl 0 rfl) ?_
      refine kRV (As := [.int r2]) (rest := [.int r1]) (q0 := 1) C (c_X0_nextSign l D kI kC kB (fun i => b (i + 1)) o1_alphabet_out r2 _ hw) ⟨rfl, rfl⟩ ce_X0_nextSign cv_X0_nextSign tw_542 ⟨Nat.le_of_ble_eq_true rfl, Nat.le_of_ble_eq_true rfl⟩ hP [1] rfl rfl rfl rfl hl.1 rfl (Nat.le_of_ble_eq_true rfl) ⟨Nat.zero_le _, Nat.zero_le _⟩ dX3_kind_35 (fun r4 hw => ?_)
      refine lv_icmp_ne (tgt := 43) hx hb dX3_kind_38 (by decide) (fun hc => ?_) (fun hc => ?_)
      · replace hw := hw.2 hc
        refine lv_iload_n hx hb dX3_kind_43 rfl (lv_at hl 1 rfl) ?_
        refine lv_iload_n hx hb dX3_kind_44 rfl (lv_at hl 0 rfl) ?_
        refine lv_icmp_ne (tgt := 50) hx hb dX3_kind_45 (by decide) (fun hc => ?_) (fun hc => ?_)
        · replace hw := hw.2 hc
          refine lv_iload_n hx hb dX3_kind_50 rfl (lv_at hl 1 rfl) ?_
          refine lv_iload_n hx hb dX3_kind_51 rfl (lv_at hl 0 rfl) ?_
          refine lv_icmp_ge (tgt := 59) hx hb dX3_kind_52 (by decide) (fun hc => ?_) (fun hc => ?_)
          · replace hw := hw.1 hc
            refine lv_iconst (v := (nI 2)) hx hb dX3_kind_59 (by decide) ?_
            exact retR C hw dX3_kind_60
          · replace hw := hw.2 hc
            refine lv_iconst (v := (nI 1)) hx hb dX3_kind_55 (by decide) ?_
            refine lv_goto (tgt := 60) hx hb dX3_kind_56 (by decide) ?_
            exact retR C hw dX3_kind_60
        · replace hw := hw.1 hc
          refine lv_iconst (v := (nI 0)) hx hb dX3_kind_48 (by decide) ?_
          exact retR C hw dX3_kind_49
      · replace hw := hw.1 hc
        refine lv_iconst (v := (-1)) hx hb dX3_kind_41 (by decide) ?_
        exact retR C hw dX3_kind_42
    · replace hw := hw.1 hc
      refine lv_iconst (v := (-1)) hx hb dX3_kind_27 (by decide) ?_
      exact retR C hw dX3_kind_28
set_option maxHeartbeats 4000000 in
set_option maxRecDepth 100000 in
theorem cl_X3_quireAt_4 (l : Launch) (D : va_G) (kI kC kB : ClassId) (b : AdT) (o1_alphabet_out : Int32) (o1_signing : Int32) (o1_signs : RowT) (o1_sizes : RowT) (o1_lost : RowT) (o1_pile : RowT) (p2 : Int32) (Post : Int32 → Prop) {p : Program} {e : Env} {s : State} {m : MethodId} {args : Array Value} {below : List Frame} {meth : Method} {c : Code} (C : CtxT p s m args meth c cX3_quireAt 4 (some .int) yX3_quireAt.cls D kI kC kB) (hP : va_P D vwCl (cwBook kI b o1_alphabet_out o1_signing o1_signs o1_sizes o1_lost o1_pile) s.heap) : ∀ (n : Nat), ∀ (v2 : Int32) (v3 : Int32), wl_X3_quireAt_4 o1_alphabet_out o1_signs p2 Post n v2 v3 → ∀ (ls : Array Slot), lv_has ls 4 [(0, .ref (b 0)), (1, .int p2), (2, .int v2), (3, .int v3)] → W p l e ({ frames := 3, cells := 0, slots := 0, locals := 66 } : Room) s m args below meth c s.heap [] 0 0 (MQ below (vp_Si Post) args s 0 0 (fun _ => False)) (F0 m 4 ls []) := by
  obtain ⟨hx, hb, hr, hml, hown, hts, hlocks, hK⟩ := id C
  intro n
  induction n with
  | zero => intro v2 v3 hw; exact hw.elim
  | succ n ih =>
    intro v2 v3 hw ls hl
    refine lv_iload_n hx hb dX3_quireAt_4 rfl (lv_at hl 3 rfl) ?_
    refine lv_aload_n hx hb dX3_quireAt_5 rfl (lv_at hl 0 rfl) ?_
    refine kRV (As := []) (rest := [.int v3]) (q0 := 0) C (c_X1_quires l D kI kC kB b o1_alphabet_out o1_signing o1_signs o1_sizes o1_lost o1_pile _ hw) ⟨rfl, rfl⟩ ce_X1_quires cv_X1_quires tw_535 ⟨Nat.le_of_ble_eq_true rfl, Nat.le_of_ble_eq_true rfl⟩ hP [0, 1, 2, 3, 4, 5, 6, 7, 8, 9] rfl rfl rfl rfl hl.1 rfl (Nat.le_of_ble_eq_true rfl) ⟨Nat.zero_le _, Nat.zero_le _⟩ dX3_quireAt_6 (fun r1 hw => ?_)
    refine lv_icmp_ge (tgt := 37) hx hb dX3_quireAt_9 (by decide) (fun hc => ?_) (fun hc => ?_)
    · replace hw := hw.1 hc
      refine lv_iconst (v := (-1)) hx hb dX3_quireAt_37 (by decide) ?_
      exact retR C hw dX3_quireAt_38
    · replace hw := hw.2 hc
      refine lv_aload_n hx hb dX3_quireAt_12 rfl (lv_at hl 0 rfl) ?_
      refine lv_iload_n hx hb dX3_quireAt_13 rfl (lv_at hl 3 rfl) ?_
      refine kRS (As := [.ref (b 0), .int v3]) (rest := []) C (c_X3_kind l D kI kC kB b o1_alphabet_out o1_signing o1_signs o1_sizes o1_lost o1_pile v3 _ hw) ⟨rfl, rfl⟩ ce_X3_kind cv_X3_kind tw_536 ⟨Nat.le_of_ble_eq_true rfl, Nat.le_of_ble_eq_true rfl⟩ hP [0, 1, 2, 3, 4, 5, 6, 7, 8, 9] rfl hl.1 rfl (Nat.le_of_ble_eq_true rfl) ⟨Nat.zero_le _, Nat.zero_le _⟩ dX3_quireAt_14 (fun r2 hw => ?_)
      refine lv_iconst (v := (-1)) hx hb dX3_quireAt_17 (by decide) ?_
      refine lv_icmp_eq (tgt := 31) hx hb dX3_quireAt_18 (by decide) (fun hc => ?_) (fun hc => ?_)
      · replace hw := hw.1 hc
        refine lv_iinc (v := (v3 + nI 1)) (lv' := [(3, .int (v3 + nI 1)), (0, .ref (b 0)), (1, .int p2), (2, .int v2)]) hx hb dX3_quireAt_31 hl (k := 3) rfl rfl (by decide) rfl (fun ls hl => ?_)
        refine lv_goto (tgt := 4) hx hb dX3_quireAt_34 (by decide) ?_
        exact ih v2 (v3 + nI 1) hw ls (lv_sub hl [1, 2, 3, 0] rfl)
      · replace hw := hw.2 hc
        refine lv_iload_n hx hb dX3_quireAt_21 rfl (lv_at hl 2 rfl) ?_
        refine lv_iload_n hx hb dX3_quireAt_22 rfl (lv_at hl 1 rfl) ?_
        refine lv_icmp_ne (tgt := 28) hx hb dX3_quireAt_23 (by decide) (fun hc => ?_) (fun hc => ?_)
        · replace hw := hw.2 hc
          refine lv_iinc (v := (v2 + nI 1)) (lv' := [(2, .int (v2 + nI 1)), (0, .ref (b 0)), (1, .int p2), (3, .int v3)]) hx hb dX3_quireAt_28 hl (k := 2) rfl rfl (by decide) rfl (fun ls hl => ?_)
          refine lv_iinc (v := (v3 + nI 1)) (lv' := [(3, .int (v3 + nI 1)), (2, .int (v2 + nI 1)), (0, .ref (b 0)), (1, .int p2)]) hx hb dX3_quireAt_31 hl (k := 3) rfl rfl (by decide) rfl (fun ls hl => ?_)
          refine lv_goto (tgt := 4) hx hb dX3_quireAt_34 (by decide) ?_
          exact ih (v2 + nI 1) (v3 + nI 1) hw ls (lv_sub hl [2, 3, 1, 0] rfl)
        · replace hw := hw.1 hc
          refine lv_iload_n hx hb dX3_quireAt_26 rfl (lv_at hl 3 rfl) ?_
          exact retR C hw dX3_quireAt_27
set_option maxHeartbeats 4000000 in
set_option maxRecDepth 100000 in
theorem c_X3_quireAt (l : Launch) (D : va_G) (kI kC kB : ClassId) (b : AdT) (o1_alphabet_out : Int32) (o1_signing : Int32) (o1_signs : RowT) (o1_sizes : RowT) (o1_lost : RowT) (o1_pile : RowT) (p2 : Int32) (Post : Int32 → Prop) (hw : wp_X3_quireAt o1_alphabet_out o1_signs p2 Post) : CR l D kI kC kB yX3_quireAt cX3_quireAt 4 (some .int) ({ frames := 3, cells := 0, slots := 0, locals := 66 } : Room) [.ref (b 0), .int p2] (cwBook kI b o1_alphabet_out o1_signing o1_signs o1_sizes o1_lost o1_pile) Post := by
  refine entR (by decide) (Nat.le_of_ble_eq_true rfl) ?_
  intro p e s m args below meth c ls C hP hl
  replace hl : lv_has ls 4 [(0, .ref (b 0)), (1, .int p2)] := hl
  obtain ⟨hx, hb, hr, hml, hown, hts, hlocks, hK⟩ := id C
  refine lv_iconst (v := (nI 0)) hx hb dX3_quireAt_0 (by decide) ?_
  refine lv_istore_n (lv' := [(2, .int (nI 0)), (0, .ref (b 0)), (1, .int p2)]) hx hb dX3_quireAt_1 rfl hl (by decide) rfl (fun ls hl => ?_)
  refine lv_iconst (v := (nI 0)) hx hb dX3_quireAt_2 (by decide) ?_
  refine lv_istore_n (lv' := [(3, .int (nI 0)), (2, .int (nI 0)), (0, .ref (b 0)), (1, .int p2)]) hx hb dX3_quireAt_3 rfl hl (by decide) rfl (fun ls hl => ?_)
  obtain ⟨n9, hw⟩ := hw
  exact cl_X3_quireAt_4 l D kI kC kB b o1_alphabet_out o1_signing o1_signs o1_sizes o1_lost o1_pile p2 Post C hP n9 (nI 0) (nI 0) hw ls (lv_sub hl [2, 3, 1, 0] rfl)
set_option maxHeartbeats 4000000 in
set_option maxRecDepth 100000 in
theorem c_X3_width (l : Launch) (D : va_G) (kI kC kB : ClassId) (b : AdT) (o1_alphabet_out : Int32) (o1_signing : Int32) (o1_signs : RowT) (o1_sizes : RowT) (o1_lost : RowT) (o1_pile : RowT) (p2 : Int32) (Post : Int32 → Prop) (hw : wp_X3_width o1_alphabet_out o1_signs p2 Post) : CR l D kI kC kB yX3_width cX3_width 2 (some .int) ({ frames := 3, cells := 0, slots := 0, locals := 66 } : Room) [.ref (b 0), .int p2] (cwBook kI b o1_alphabet_out o1_signing o1_signs o1_sizes o1_lost o1_pile) Post := by
  refine entR (by decide) (Nat.le_of_ble_eq_true rfl) ?_
  intro p e s m args below meth c ls C hP hl
  replace hl : lv_has ls 2 [(0, .ref (b 0)), (1, .int p2)] := hl
  obtain ⟨hx, hb, hr, hml, hown, hts, hlocks, hK⟩ := id C
  refine lv_aload_n hx hb dX3_width_0 rfl (lv_at hl 0 rfl) ?_
  refine lv_iload_n hx hb dX3_width_1 rfl (lv_at hl 1 rfl) ?_
  refine kRS (As := [.ref (b 0), .int p2]) (rest := []) C (c_X3_kind l D kI kC kB b o1_alphabet_out o1_signing o1_signs o1_sizes o1_lost o1_pile p2 _ hw) ⟨rfl, rfl⟩ ce_X3_kind cv_X3_kind tw_536 ⟨Nat.le_of_ble_eq_true rfl, Nat.le_of_ble_eq_true rfl⟩ hP [0, 1, 2, 3, 4, 5, 6, 7, 8, 9] rfl hl.1 rfl (Nat.le_of_ble_eq_true rfl) ⟨Nat.zero_le _, Nat.zero_le _⟩ dX3_width_2 (fun r1 hw => ?_)
  refine lv_iconst (v := (nI 2)) hx hb dX3_width_5 (by decide) ?_
  refine lv_icmp_eq (tgt := 11) hx hb dX3_width_6 (by decide) (fun hc => ?_) (fun hc => ?_)
  · replace hw := hw.1 hc
    refine lv_aload_n hx hb dX3_width_11 rfl (lv_at hl 0 rfl) ?_
    refine va_getN (D := D) (ci := 1) (v := .ref (b 1)) (C := RX1) (T := TX1) (N := 6) hx hb hts inX1 hown hK.1 hP 0 rfl rfl 0 (by decide) (va_Nw.use rfl (hK.2.1 _ nw_72)) (fun _ h9 => h9) rfl dX3_width_12 ?_
    refine lv_aload_n hx hb dX3_width_15 rfl (lv_at hl 0 rfl) ?_
    refine lv_iload_n hx hb dX3_width_16 rfl (lv_at hl 1 rfl) ?_
    refine kRV (As := [.int p2]) (rest := [.ref (b 1)]) (q0 := 0) C (c_X1_lastLettersAhead l D kI kC kB b o1_alphabet_out o1_signing o1_signs o1_sizes o1_lost o1_pile p2 _ hw) ⟨rfl, rfl⟩ ce_X1_lastLettersAhead cv_X1_lastLettersAhead tw_540 ⟨Nat.le_of_ble_eq_true rfl, Nat.le_of_ble_eq_true rfl⟩ hP [0, 1, 2, 3, 4, 5, 6, 7, 8, 9] rfl rfl rfl rfl hl.1 rfl (Nat.le_of_ble_eq_true rfl) ⟨Nat.zero_le _, Nat.zero_le _⟩ dX3_width_17 (fun r2 hw => ?_)
    refine lv_aload_n hx hb dX3_width_20 rfl (lv_at hl 0 rfl) ?_
    refine va_getN (D := D) (ci := 1) (v := .ref (b 2)) (C := RX1) (T := TX1) (N := 6) hx hb hts inX1 hown hK.1 hP 0 rfl rfl 2 (by decide) (va_Nw.use rfl (hK.2.1 _ nw_77)) (fun _ h9 => h9) rfl dX3_width_21 ?_
    refine lv_iload_n hx hb dX3_width_24 rfl (lv_at hl 1 rfl) ?_
    refine kRV (As := [.int p2]) (rest := [.int r2, .ref (b 1)]) (q0 := 2) C (c_X4_at l D kI kC kB (fun i => b (i + 2)) o1_signs p2 _ hw) ⟨rfl, rfl⟩ ce_X4_at cv_X4_at tw_539 ⟨Nat.le_of_ble_eq_true rfl, Nat.le_of_ble_eq_true rfl⟩ hP [2, 3] rfl rfl rfl rfl hl.1 rfl (Nat.le_of_ble_eq_true rfl) ⟨Nat.zero_le _, Nat.zero_le _⟩ dX3_width_25 (fun r3 hw => ?_)
    refine kRV (As := [.int r2, .int r3]) (rest := []) (q0 := 1) C (c_X0_signsBetween l D kI kC kB (fun i => b (i + 1)) o1_alphabet_out r2 r3 _ hw) ⟨rfl, rfl⟩ ce_X0_signsBetween cv_X0_signsBetween tw_547 ⟨Nat.le_of_ble_eq_true rfl, Nat.le_of_ble_eq_true rfl⟩ hP [1] rfl rfl rfl rfl hl.1 rfl (Nat.le_of_ble_eq_true rfl) ⟨Nat.zero_le _, Nat.zero_le _⟩ dX3_width_28 (fun r4 hw => ?_)
    exact retR C hw dX3_width_31
  · replace hw := hw.2 hc
    refine lv_iconst (v := (nI 0)) hx hb dX3_width_9 (by decide) ?_
    exact retR C hw dX3_width_10
set_option maxHeartbeats 4000000 in
set_option maxRecDepth 100000 in
theorem c_X7_goesOn (l : Launch) (D : va_G) (kI kC kB : ClassId) (b : AdT) (o1_alphabet_out : Int32) (o1_signing : Int32) (o1_signs : RowT) (o1_sizes : RowT) (o1_lost : RowT) (o1_pile : RowT) (p2 : Int32) (Post : Int32 → Prop) (hw : wp_X7_goesOn o1_alphabet_out o1_signs o1_sizes p2 Post) : CR l D kI kC kB yX7_goesOn cX7_goesOn 4 (some .boolean) ({ frames := 2, cells := 0, slots := 0, locals := 43 } : Room) [.ref (b 0), .int p2] (cwBook kI b o1_alphabet_out o1_signing o1_signs o1_sizes o1_lost o1_pile) Post := by
  refine entR (by decide) (Nat.le_of_ble_eq_true rfl) ?_
  intro p e s m args below meth c ls C hP hl
  replace hl : lv_has ls 4 [(0, .ref (b 0)), (1, .int p2)] := hl
  obtain ⟨hx, hb, hr, hml, hown, hts, hlocks, hK⟩ := id C
  refine lv_iload_n hx hb dX7_goesOn_0 rfl (lv_at hl 1 rfl) ?_
  refine lv_iconst (v := (nI 1)) hx hb dX7_goesOn_1 (by decide) ?_
  refine lv_icmp_lt (tgt := 13) hx hb dX7_goesOn_2 (by decide) (fun hc => ?_) (fun hc => ?_)
  · replace hw := hw.1 hc
    refine lv_iconst (v := (nI 0)) hx hb dX7_goesOn_13 (by decide) ?_
    exact retRz C (by decide) hw dX7_goesOn_14
  · replace hw := hw.2 hc
    refine lv_iload_n hx hb dX7_goesOn_5 rfl (lv_at hl 1 rfl) ?_
    refine lv_aload_n hx hb dX7_goesOn_6 rfl (lv_at hl 0 rfl) ?_
    refine kRV (As := []) (rest := [.int p2]) (q0 := 0) C (c_X1_quires l D kI kC kB b o1_alphabet_out o1_signing o1_signs o1_sizes o1_lost o1_pile _ hw) ⟨rfl, rfl⟩ ce_X1_quires cv_X1_quires tw_566 ⟨Nat.le_of_ble_eq_true rfl, Nat.le_of_ble_eq_true rfl⟩ hP [0, 1, 2, 3, 4, 5, 6, 7, 8, 9] rfl rfl rfl rfl hl.1 rfl (Nat.le_of_ble_eq_true rfl) ⟨Nat.zero_le _, Nat.zero_le _⟩ dX7_goesOn_7 (fun r1 hw => ?_)
    refine lv_icmp_lt (tgt := 15) hx hb dX7_goesOn_10 (by decide) (fun hc => ?_) (fun hc => ?_)
    · replace hw := hw.1 hc
      refine lv_aload_n hx hb dX7_goesOn_15 rfl (lv_at hl 0 rfl) ?_
      refine va_getN (D := D) (ci := 1) (v := .ref (b 2)) (C := RX1) (T := TX1) (N := 6) hx hb hts inX1 hown hK.1 hP 0 rfl rfl 2 (by decide) (va_Nw.use rfl (hK.2.1 _ nw_78)) (fun _ h9 => h9) rfl dX7_goesOn_16 ?_
      refine lv_iload_n hx hb dX7_goesOn_19 rfl (lv_at hl 1 rfl) ?_
      refine kRV (As := [.int p2]) (rest := []) (q0 := 2) C (c_X4_at l D kI kC kB (fun i => b (i + 2)) o1_signs p2 _ hw) ⟨rfl, rfl⟩ ce_X4_at cv_X4_at tw_570 ⟨Nat.le_of_ble_eq_true rfl, Nat.le_of_ble_eq_true rfl⟩ hP [2, 3] rfl rfl rfl rfl hl.1 rfl (Nat.le_of_ble_eq_true rfl) ⟨Nat.zero_le _, Nat.zero_le _⟩ dX7_goesOn_20 (fun r2 hw => ?_)
      refine lv_istore_n (lv' := [(2, .int r2), (0, .ref (b 0)), (1, .int p2)]) hx hb dX7_goesOn_23 rfl hl (by decide) rfl (fun ls hl => ?_)
      refine lv_aload_n hx hb dX7_goesOn_24 rfl (lv_at hl 1 rfl) ?_
      refine va_getN (D := D) (ci := 1) (v := .ref (b 2)) (C := RX1) (T := TX1) (N := 6) hx hb hts inX1 hown hK.1 hP 0 rfl rfl 2 (by decide) (va_Nw.use rfl (hK.2.1 _ nw_78)) (fun _ h9 => h9) rfl dX7_goesOn_25 ?_
      refine lv_iload_n hx hb dX7_goesOn_28 rfl (lv_at hl 2 rfl) ?_
      refine lv_iconst (v := (nI 1)) hx hb dX7_goesOn_29 (by decide) ?_
      refine lv_isub hx hb dX7_goesOn_30 ?_
      refine kRV (As := [.int (p2 - (nI 1))]) (rest := []) (q0 := 2) C (c_X4_at l D kI kC kB (fun i => b (i + 2)) o1_signs (p2 - (nI 1)) _ hw) ⟨rfl, rfl⟩ ce_X4_at cv_X4_at tw_570 ⟨Nat.le_of_ble_eq_true rfl, Nat.le_of_ble_eq_true rfl⟩ hP [2, 3] rfl rfl rfl rfl hl.1 rfl (Nat.le_of_ble_eq_true rfl) ⟨Nat.zero_le _, Nat.zero_le _⟩ dX7_goesOn_31 (fun r3 hw => ?_)
      refine lv_istore_n (lv' := [(3, .int r3), (2, .int r2), (0, .ref (b 0)), (1, .int p2)]) hx hb dX7_goesOn_34 rfl hl (by decide) rfl (fun ls hl => ?_)
      refine lv_iload_n hx hb dX7_goesOn_35 rfl (lv_at hl 1 rfl) ?_
      refine lv_aload_n hx hb dX7_goesOn_36 rfl (lv_at hl 2 rfl) ?_
      refine va_getN (D := D) (ci := 1) (v := .ref (b 1)) (C := RX1) (T := TX1) (N := 6) hx hb hts inX1 hown hK.1 hP 0 rfl rfl 0 (by decide) (va_Nw.use rfl (hK.2.1 _ nw_73)) (fun _ h9 => h9) rfl dX7_goesOn_37 ?_
      refine lv_iload_n hx hb dX7_goesOn_40 rfl (lv_at hl 0 rfl) ?_
      refine kRV (As := [.int r3]) (rest := [.int r2]) (q0 := 1) C (c_X0_nextSign l D kI kC kB (fun i => b (i + 1)) o1_alphabet_out r3 _ hw) ⟨rfl, rfl⟩ ce_X0_nextSign cv_X0_nextSign tw_571 ⟨Nat.le_of_ble_eq_true rfl, Nat.le_of_ble_eq_true rfl⟩ hP [1] rfl rfl rfl rfl hl.1 rfl (Nat.le_of_ble_eq_true rfl) ⟨Nat.zero_le _, Nat.zero_le _⟩ dX7_goesOn_41 (fun r4 hw => ?_)
      refine lv_icmp_ne (tgt := 83) hx hb dX7_goesOn_44 (by decide) (fun hc => ?_) (fun hc => ?_)
      · replace hw := hw.2 hc
        refine lv_iconst (v := (nI 0)) hx hb dX7_goesOn_83 (by decide) ?_
        exact retRz C (by decide) hw dX7_goesOn_84
      · replace hw := hw.1 hc
        refine lv_iload_n hx hb dX7_goesOn_47 rfl (lv_at hl 1 rfl) ?_
        refine kRS (As := [.int r2]) (rest := []) C (c_X5_times l D kI kC kB  r2 _ hw) ⟨rfl, rfl⟩ ce_X5_times cv_X5_times tw_572 ⟨Nat.le_of_ble_eq_true rfl, Nat.le_of_ble_eq_true rfl⟩ hP [] rfl hl.1 rfl (Nat.le_of_ble_eq_true rfl) ⟨Nat.zero_le _, Nat.zero_le _⟩ dX7_goesOn_48 (fun r5 hw => ?_)
        refine lv_iload_n hx hb dX7_goesOn_51 rfl (lv_at hl 0 rfl) ?_
        refine kRS (As := [.int r3]) (rest := [.int r5]) C (c_X5_times l D kI kC kB  r3 _ hw) ⟨rfl, rfl⟩ ce_X5_times cv_X5_times tw_572 ⟨Nat.le_of_ble_eq_true rfl, Nat.le_of_ble_eq_true rfl⟩ hP [] rfl hl.1 rfl (Nat.le_of_ble_eq_true rfl) ⟨Nat.zero_le _, Nat.zero_le _⟩ dX7_goesOn_52 (fun r6 hw => ?_)
        refine lv_icmp_ne (tgt := 83) hx hb dX7_goesOn_55 (by decide) (fun hc => ?_) (fun hc => ?_)
        · replace hw := hw.2 hc
          refine lv_iconst (v := (nI 0)) hx hb dX7_goesOn_83 (by decide) ?_
          exact retRz C (by decide) hw dX7_goesOn_84
        · replace hw := hw.1 hc
          refine lv_aload_n hx hb dX7_goesOn_58 rfl (lv_at hl 2 rfl) ?_
          refine va_getN (D := D) (ci := 1) (v := .ref (b 4)) (C := RX1) (T := TX1) (N := 6) hx hb hts inX1 hown hK.1 hP 0 rfl rfl 3 (by decide) (va_Nw.use rfl (hK.2.1 _ nw_81)) (fun _ h9 => h9) rfl dX7_goesOn_59 ?_
          refine lv_iload_n hx hb dX7_goesOn_62 rfl (lv_at hl 3 rfl) ?_
          refine kRV (As := [.int p2]) (rest := []) (q0 := 4) C (c_X4_at l D kI kC kB (fun i => b (i + 4)) o1_sizes p2 _ hw) ⟨rfl, rfl⟩ ce_X4_at cv_X4_at tw_570 ⟨Nat.le_of_ble_eq_true rfl, Nat.le_of_ble_eq_true rfl⟩ hP [4, 5] rfl rfl rfl rfl hl.1 rfl (Nat.le_of_ble_eq_true rfl) ⟨Nat.zero_le _, Nat.zero_le _⟩ dX7_goesOn_63 (fun r7 hw => ?_)
          refine lv_aload_n hx hb dX7_goesOn_66 rfl (lv_at hl 2 rfl) ?_
          refine va_getN (D := D) (ci := 1) (v := .ref (b 4)) (C := RX1) (T := TX1) (N := 6) hx hb hts inX1 hown hK.1 hP 0 rfl rfl 3 (by decide) (va_Nw.use rfl (hK.2.1 _ nw_81)) (fun _ h9 => h9) rfl dX7_goesOn_67 ?_
          refine lv_iload_n hx hb dX7_goesOn_70 rfl (lv_at hl 3 rfl) ?_
          refine lv_iconst (v := (nI 1)) hx hb dX7_goesOn_71 (by decide) ?_
          refine lv_isub hx hb dX7_goesOn_72 ?_
          refine kRV (As := [.int (p2 - (nI 1))]) (rest := [.int r7]) (q0 := 4) C (c_X4_at l D kI kC kB (fun i => b (i + 4)) o1_sizes (p2 - (nI 1)) _ hw) ⟨rfl, rfl⟩ ce_X4_at cv_X4_at tw_570 ⟨Nat.le_of_ble_eq_true rfl, Nat.le_of_ble_eq_true rfl⟩ hP [4, 5] rfl rfl rfl rfl hl.1 rfl (Nat.le_of_ble_eq_true rfl) ⟨Nat.zero_le _, Nat.zero_le _⟩ dX7_goesOn_73 (fun r8 hw => ?_)
          refine lv_icmp_ne (tgt := 83) hx hb dX7_goesOn_76 (by decide) (fun hc => ?_) (fun hc => ?_)
          · replace hw := hw.2 hc
            refine lv_iconst (v := (nI 0)) hx hb dX7_goesOn_83 (by decide) ?_
            exact retRz C (by decide) hw dX7_goesOn_84
          · replace hw := hw.1 hc
            refine lv_iconst (v := (nI 1)) hx hb dX7_goesOn_79 (by decide) ?_
            refine lv_goto (tgt := 84) hx hb dX7_goesOn_80 (by decide) ?_
            exact retRz C (by decide) hw dX7_goesOn_84
    · replace hw := hw.2 hc
      refine lv_iconst (v := (nI 0)) hx hb dX7_goesOn_13 (by decide) ?_
      exact retRz C (by decide) hw dX7_goesOn_14
set_option maxHeartbeats 4000000 in
set_option maxRecDepth 100000 in
theorem cj_X7_writeSign_58 (l : Launch) (D : va_G) (kI kC kB : ClassId) (a : AdT) (z_characters : RowT) (z_entries : Int32) (p1 : Int32) (v2 : Int32) (v3 : Int32) (Post : RowT → Prop) {p : Program} {e : Env} {s : State} {m : MethodId} {args : Array Value} {below : List Frame} {meth : Method} {c : Code} {A : Nat → Prop} (hA : ∀ q : Nat, s.heap.size ≤ q → A q) (C : CtxT p s m args meth c cX7_writeSign 4 none yX7_writeSign.cls D kI kC kB) (K30 : RowT → Int32 → Prop) (hK30 : ∀ (z_characters : RowT) (v3 : Int32), K30 z_characters v3 → ∀ (H : Heap) (locs : List Loc), va_P D vwCl (cwWriter kI a z_characters z_entries) H → va_D A (cwWriter kI a z_characters z_entries) → va_S A s.heap H locs → ∀ (ls : Array Slot), lv_has ls 4 [(0, .ref (a 0)), (1, .int p1), (2, .int v2), (3, .int v3)] → W p l e ({ frames := 3, cells := 0, slots := 0, locals := 66 } : Room) s m args below meth c H locs 0 0 (MQ below (va_Qv (fun (u : RowT) => Post u) (BB D A (fun u : RowT => (cwWriter kI a u z_entries))) A) args s 0 0 A) (F0 m 30 ls [])) : ∀ (t1 : Int32), wj_X7_writeSign_58 z_characters p1 v2 v3 t1 K30 Post → ∀ (H : Heap) (locs : List Loc), va_P D vwCl (cwWriter kI a z_characters z_entries) H → va_D A (cwWriter kI a z_characters z_entries) → va_S A s.heap H locs → ∀ (ls : Array Slot), lv_has ls 4 [(0, .ref (a 0)), (1, .int p1), (2, .int v2), (3, .int v3)] → W p l e ({ frames := 3, cells := 0, slots := 0, locals := 66 } : Room) s m args below meth c H locs 0 0 (MQ below (va_Qv (fun (u : RowT) => Post u) (BB D A (fun u : RowT => (cwWriter kI a u z_entries))) A) args s 0 0 A) (F0 m 58 ls [.int t1, .ref (a 1)]) := by
  obtain ⟨hx, hb, hr, hml, hown, hts, hlocks, hK⟩ := id C
  intro t1 hw H locs hP hD hS ls hl
  refine kMVv (q0 := 1) (As := [.int t1]) (rest := []) C (c_X4_add l D kI kC kB (fun i => a (i + 1)) z_characters H.size t1 _ hw) ⟨rfl, rfl⟩ ce_X4_add cv_X4_add tw_577 ⟨Nat.le_of_ble_eq_true rfl, Nat.le_of_ble_eq_true rfl⟩ hP hD hS hA [1, 2] rfl rfl (fun _ => rfl) rfl rfl rfl hl.1 rfl (Nat.le_of_ble_eq_true rfl) ⟨Nat.zero_le _, Nat.zero_le _⟩ dX7_writeSign_58 (fun u H locs hw hP hD hS => ?_)
  obtain ⟨u1, rfl⟩ : ∃ z, z = u := ⟨_, rfl⟩
  try dsimp only at hw
  replace hP : va_P D vwCl (cwWriter kI a u1 z_entries) H := hP
  replace hD : va_D A (cwWriter kI a u1 z_entries) := hD
  refine lv_iinc (v := (v3 + nI 1)) (lv' := [(3, .int (v3 + nI 1)), (0, .ref (a 0)), (1, .int p1), (2, .int v2)]) hx hb dX7_writeSign_61 hl (k := 3) rfl rfl (by decide) rfl (fun ls hl => ?_)
  refine lv_goto (tgt := 30) hx hb dX7_writeSign_64 (by decide) ?_
  exact hK30 u1 (v3 + nI 1) hw H locs hP hD hS ls (lv_sub hl [1, 2, 3, 0] rfl)
set_option maxHeartbeats 4000000 in
set_option maxRecDepth 100000 in
theorem cl_X7_writeSign_30 (l : Launch) (D : va_G) (kI kC kB : ClassId) (a : AdT) (z_entries : Int32) (p1 : Int32) (v2 : Int32) (Post : RowT → Prop) {p : Program} {e : Env} {s : State} {m : MethodId} {args : Array Value} {below : List Frame} {meth : Method} {c : Code} {A : Nat → Prop} (hA : ∀ q : Nat, s.heap.size ≤ q → A q) (C : CtxT p s m args meth c cX7_writeSign 4 none yX7_writeSign.cls D kI kC kB) : ∀ (n : Nat), ∀ (z_characters : RowT) (v3 : Int32), wl_X7_writeSign_30 p1 v2 Post n z_characters v3 → ∀ (H : Heap) (locs : List Loc), va_P D vwCl (cwWriter kI a z_characters z_entries) H → va_D A (cwWriter kI a z_characters z_entries) → va_S A s.heap H locs → ∀ (ls : Array Slot), lv_has ls 4 [(0, .ref (a 0)), (1, .int p1), (2, .int v2), (3, .int v3)] → W p l e ({ frames := 3, cells := 0, slots := 0, locals := 66 } : Room) s m args below meth c H locs 0 0 (MQ below (va_Qv (fun (u : RowT) => Post u) (BB D A (fun u : RowT => (cwWriter kI a u z_entries))) A) args s 0 0 A) (F0 m 30 ls []) := by
  obtain ⟨hx, hb, hr, hml, hown, hts, hlocks, hK⟩ := id C
  intro n
  induction n with
  | zero => intro z_characters v3 hw; exact hw.elim
  | succ n ih =>
    intro z_characters v3 hw H locs hP hD hS ls hl
    refine lv_iload_n hx hb dX7_writeSign_30 rfl (lv_at hl 3 rfl) ?_
    refine lv_iload_n hx hb dX7_writeSign_31 rfl (lv_at hl 1 rfl) ?_
    refine kRS (As := [.int p1]) (rest := [.int v3]) C (c_X5_times l D kI kC kB  p1 _ hw) ⟨rfl, rfl⟩ ce_X5_times cv_X5_times tw_572 ⟨Nat.le_of_ble_eq_true rfl, Nat.le_of_ble_eq_true rfl⟩ hP [] rfl hl.1 rfl (Nat.le_of_ble_eq_true rfl) ⟨Nat.zero_le _, Nat.zero_le _⟩ dX7_writeSign_32 (fun r2 hw => ?_)
    refine lv_icmp_ge (tgt := 67) hx hb dX7_writeSign_35 (by decide) (fun hc => ?_) (fun hc => ?_)
    · replace hw := hw.1 hc
      exact retMv C (z_characters) hw hP hD hS dX7_writeSign_67
    · replace hw := hw.2 hc
      refine lv_aload_n hx hb dX7_writeSign_38 rfl (lv_at hl 0 rfl) ?_
      refine va_get (D := D) (ci := 5) (v := .ref (a 1)) (C := RX7) (T := TX7) (N := 2) hx hb hts inX7 hown hK.1 hP 0 rfl rfl 0 (by decide) (hts _ tw_152) (fun _ h9 => h9) rfl dX7_writeSign_39 ?_
      refine lv_iload_n hx hb dX7_writeSign_42 rfl (lv_at hl 2 rfl) ?_
      refine lv_if_eq (tgt := 51) hx hb dX7_writeSign_43 (by decide) (fun hc => ?_) (fun hc => ?_)
      · replace hw := hw.1 hc
        refine lv_bipush (v := (nI 97)) hx hb dX7_writeSign_51 (by decide) ?_
        refine lv_iload_n hx hb dX7_writeSign_53 rfl (lv_at hl 1 rfl) ?_
        refine kRS (As := [.int p1]) (rest := [.int (nI 97), .ref (a 1)]) C (c_X5_letter l D kI kC kB  p1 _ hw) ⟨rfl, rfl⟩ ce_X5_letter cv_X5_letter tw_583 ⟨Nat.le_of_ble_eq_true rfl, Nat.le_of_ble_eq_true rfl⟩ hP [] rfl hl.1 rfl (Nat.le_of_ble_eq_true rfl) ⟨Nat.zero_le _, Nat.zero_le _⟩ dX7_writeSign_54 (fun r3 hw => ?_)
        refine lv_iadd hx hb dX7_writeSign_57 ?_
        exact cj_X7_writeSign_58 l D kI kC kB a z_characters z_entries p1 v2 v3 Post hA C _ ih ((nI 97) + r3) hw H locs hP hD hS ls (lv_sub hl [0, 1, 2, 3] rfl)
      · replace hw := hw.2 hc
        refine lv_bipush (v := (nI 42)) hx hb dX7_writeSign_46 (by decide) ?_
        refine lv_goto (tgt := 58) hx hb dX7_writeSign_48 (by decide) ?_
        exact cj_X7_writeSign_58 l D kI kC kB a z_characters z_entries p1 v2 v3 Post hA C _ ih (nI 42) hw H locs hP hD hS ls (lv_sub hl [0, 1, 2, 3] rfl)
set_option maxHeartbeats 4000000 in
set_option maxRecDepth 100000 in
theorem cj_X7_writeSign_25 (l : Launch) (D : va_G) (kI kC kB : ClassId) (a : AdT) (z_characters : RowT) (z_entries : Int32) (p1 : Int32) (v2 : Int32) (Post : RowT → Prop) {p : Program} {e : Env} {s : State} {m : MethodId} {args : Array Value} {below : List Frame} {meth : Method} {c : Code} {A : Nat → Prop} (hA : ∀ q : Nat, s.heap.size ≤ q → A q) (C : CtxT p s m args meth c cX7_writeSign 4 none yX7_writeSign.cls D kI kC kB) : ∀ (t1 : Int32), wj_X7_writeSign_25 z_characters p1 v2 t1 Post → ∀ (H : Heap) (locs : List Loc), va_P D vwCl (cwWriter kI a z_characters z_entries) H → va_D A (cwWriter kI a z_characters z_entries) → va_S A s.heap H locs → ∀ (ls : Array Slot), lv_has ls 4 [(0, .ref (a 0)), (1, .int p1), (2, .int v2)] → W p l e ({ frames := 3, cells := 0, slots := 0, locals := 66 } : Room) s m args below meth c H locs 0 0 (MQ below (va_Qv (fun (u : RowT) => Post u) (BB D A (fun u : RowT => (cwWriter kI a u z_entries))) A) args s 0 0 A) (F0 m 25 ls [.int t1, .ref (a 1)]) := by
  obtain ⟨hx, hb, hr, hml, hown, hts, hlocks, hK⟩ := id C
  intro t1 hw H locs hP hD hS ls hl
  refine kMVv (q0 := 1) (As := [.int t1]) (rest := []) C (c_X4_add l D kI kC kB (fun i => a (i + 1)) z_characters H.size t1 _ hw) ⟨rfl, rfl⟩ ce_X4_add cv_X4_add tw_577 ⟨Nat.le_of_ble_eq_true rfl, Nat.le_of_ble_eq_true rfl⟩ hP hD hS hA [1, 2] rfl rfl (fun _ => rfl) rfl rfl rfl hl.1 rfl (Nat.le_of_ble_eq_true rfl) ⟨Nat.zero_le _, Nat.zero_le _⟩ dX7_writeSign_25 (fun u H locs hw hP hD hS => ?_)
  obtain ⟨u4, rfl⟩ : ∃ z, z = u := ⟨_, rfl⟩
  try dsimp only at hw
  replace hP : va_P D vwCl (cwWriter kI a u4 z_entries) H := hP
  replace hD : va_D A (cwWriter kI a u4 z_entries) := hD
  refine lv_iconst (v := (nI 1)) hx hb dX7_writeSign_28 (by decide) ?_
  refine lv_istore_n (lv' := [(3, .int (nI 1)), (0, .ref (a 0)), (1, .int p1), (2, .int v2)]) hx hb dX7_writeSign_29 rfl hl (by decide) rfl (fun ls hl => ?_)
  obtain ⟨n9, hw⟩ := hw
  exact cl_X7_writeSign_30 l D kI kC kB a z_entries p1 v2 Post hA C n9 u4 (nI 1) hw H locs hP hD hS ls (lv_sub hl [1, 2, 3, 0] rfl)
set_option maxHeartbeats 4000000 in
set_option maxRecDepth 100000 in
theorem c_X7_writeSign (l : Launch) (D : va_G) (kI kC kB : ClassId) (a : AdT) (z_characters : RowT) (z_entries : Int32) (sz : Nat) (p1 : Int32) (Post : RowT → Prop) (hw : wp_X7_writeSign z_characters p1 Post) : CMv l D kI kC kB yX7_writeSign cX7_writeSign 4 none ({ frames := 3, cells := 0, slots := 0, locals := 66 } : Room) [.ref (a 0), .int p1] (cwWriter kI a z_characters z_entries) sz (fun (u : RowT) => Post u) (fun u : RowT => (cwWriter kI a u z_entries)) := by
  refine entMv (by decide) (Nat.le_of_ble_eq_true rfl) ?_
  intro p e s m args below meth c ls A C hA hP hD hS hl
  obtain ⟨H, hHe⟩ : ∃ H, H = s.heap := ⟨_, rfl⟩
  obtain ⟨locs, hlo⟩ : ∃ lo : List Loc, lo = [] := ⟨_, rfl⟩
  have hS : va_S A s.heap H locs := by rw [hHe, hlo]; exact hS
  rw [← hHe] at hP
  suffices hg : W p l e ({ frames := 3, cells := 0, slots := 0, locals := 66 } : Room) s m args below meth c H locs 0 0 (MQ below (va_Qv (fun (u : RowT) => Post u) (BB D A (fun u : RowT => (cwWriter kI a u z_entries))) A) args s 0 0 A) (F0 m 0 ls []) by rw [hHe, hlo] at hg; exact hg
  replace hl : lv_has ls 4 [(0, .ref (a 0)), (1, .int p1)] := hl
  obtain ⟨hx, hb, hr, hml, hown, hts, hlocks, hK⟩ := id C
  refine lv_iload_n hx hb dX7_writeSign_0 rfl (lv_at hl 1 rfl) ?_
  refine kRS (As := [.int p1]) (rest := []) C (c_X5_isStarred l D kI kC kB  p1 _ hw) ⟨rfl, rfl⟩ ce_X5_isStarred cv_X5_isStarred tw_582 ⟨Nat.le_of_ble_eq_true rfl, Nat.le_of_ble_eq_true rfl⟩ hP [] rfl hl.1 rfl (Nat.le_of_ble_eq_true rfl) ⟨Nat.zero_le _, Nat.zero_le _⟩ dX7_writeSign_1 (fun r5 hw => ?_)
  refine lv_istore_n (lv' := [(2, .int r5), (0, .ref (a 0)), (1, .int p1)]) hx hb dX7_writeSign_4 rfl hl (by decide) rfl (fun ls hl => ?_)
  refine lv_aload_n hx hb dX7_writeSign_5 rfl (lv_at hl 1 rfl) ?_
  refine va_get (D := D) (ci := 5) (v := .ref (a 1)) (C := RX7) (T := TX7) (N := 2) hx hb hts inX7 hown hK.1 hP 0 rfl rfl 0 (by decide) (hts _ tw_152) (fun _ h9 => h9) rfl dX7_writeSign_6 ?_
  refine lv_iload_n hx hb dX7_writeSign_9 rfl (lv_at hl 0 rfl) ?_
  refine lv_if_eq (tgt := 18) hx hb dX7_writeSign_10 (by decide) (fun hc => ?_) (fun hc => ?_)
  · replace hw := hw.1 hc
    refine lv_bipush (v := (nI 65)) hx hb dX7_writeSign_18 (by decide) ?_
    refine lv_iload_n hx hb dX7_writeSign_20 rfl (lv_at hl 2 rfl) ?_
    refine kRS (As := [.int p1]) (rest := [.int (nI 65), .ref (a 1)]) C (c_X5_letter l D kI kC kB  p1 _ hw) ⟨rfl, rfl⟩ ce_X5_letter cv_X5_letter tw_583 ⟨Nat.le_of_ble_eq_true rfl, Nat.le_of_ble_eq_true rfl⟩ hP [] rfl hl.1 rfl (Nat.le_of_ble_eq_true rfl) ⟨Nat.zero_le _, Nat.zero_le _⟩ dX7_writeSign_21 (fun r6 hw => ?_)
    refine lv_iadd hx hb dX7_writeSign_24 ?_
    exact cj_X7_writeSign_25 l D kI kC kB a z_characters z_entries p1 r5 Post hA C ((nI 65) + r6) hw H locs hP hD hS ls (lv_sub hl [1, 2, 0] rfl)
  · replace hw := hw.2 hc
    refine lv_bipush (v := (nI 42)) hx hb dX7_writeSign_13 (by decide) ?_
    refine lv_goto (tgt := 25) hx hb dX7_writeSign_15 (by decide) ?_
    exact cj_X7_writeSign_25 l D kI kC kB a z_characters z_entries p1 r5 Post hA C (nI 42) hw H locs hP hD hS ls (lv_sub hl [1, 2, 0] rfl)
set_option maxHeartbeats 4000000 in
set_option maxRecDepth 100000 in
theorem cj_X7_beginEntry_16 (l : Launch) (D : va_G) (kI kC kB : ClassId) (a : AdT) (z_characters : RowT) (z_entries : Int32) (p1 : Int32) (Post : RowT → Int32 → Prop) {p : Program} {e : Env} {s : State} {m : MethodId} {args : Array Value} {below : List Frame} {meth : Method} {c : Code} {A : Nat → Prop} (hA : ∀ q : Nat, s.heap.size ≤ q → A q) (C : CtxT p s m args meth c cX7_beginEntry 2 none yX7_beginEntry.cls D kI kC kB) : wj_X7_beginEntry_16 z_characters z_entries p1 Post → ∀ (H : Heap) (locs : List Loc), va_P D vwCl (cwWriter kI a z_characters z_entries) H → va_D A (cwWriter kI a z_characters z_entries) → va_S A s.heap H locs → ∀ (ls : Array Slot), lv_has ls 2 [(0, .ref (a 0)), (1, .int p1)] → W p l e ({ frames := 4, cells := 0, slots := 0, locals := 89 } : Room) s m args below meth c H locs 0 0 (MQ below (va_Qv (fun (u : RowT × Int32) => Post u.1 u.2) (BB D A (fun u : RowT × Int32 => (cwWriter kI a u.1 u.2))) A) args s 0 0 A) (F0 m 16 ls []) := by
  obtain ⟨hx, hb, hr, hml, hown, hts, hlocks, hK⟩ := id C
  intro hw H locs hP hD hS ls hl
  refine lv_aload_n hx hb dX7_beginEntry_16 rfl (lv_at hl 0 rfl) ?_
  refine lv_dup hx hb dX7_beginEntry_17 rfl ?_
  refine va_get (D := D) (ci := 5) (v := .int z_entries) (C := RX7) (T := TX7) (N := 2) hx hb hts inX7 hown hK.1 hP 0 rfl rfl 1 (by decide) (hts _ tw_153) (fun _ h9 => h9) rfl dX7_beginEntry_18 ?_
  refine lv_iconst (v := (nI 1)) hx hb dX7_beginEntry_21 (by decide) ?_
  refine lv_iadd hx hb dX7_beginEntry_22 ?_
  refine va_put (D := D) (ci := 5) (v := .int (z_entries + (nI 1))) (ty := .int) (C := RX7) (T := TX7) (N := 2) hx hb hts inX7 tyX7 tyX7_ok nmX7 hown hK.1 hP hD hS 0 rfl rfl 1 (by decide) (hts _ tw_153) (fun _ h9 => h9) rfl (tyX7_ok 1 (by decide)) rfl rfl (Nat.le_of_ble_eq_true rfl) dX7_beginEntry_23 (fun H locs hP hD hS => ?_)
  replace hP : va_P D vwCl (cwWriter kI a z_characters (z_entries + (nI 1))) H := hP
  replace hD : va_D A (cwWriter kI a z_characters (z_entries + (nI 1))) := hD
  refine lv_aload_n hx hb dX7_beginEntry_26 rfl (lv_at hl 0 rfl) ?_
  refine lv_iload_n hx hb dX7_beginEntry_27 rfl (lv_at hl 1 rfl) ?_
  refine kMVv (q0 := 0) (As := [.int p1]) (rest := []) C (c_X7_writeSign l D kI kC kB a z_characters (z_entries + (nI 1)) H.size p1 _ hw) ⟨rfl, rfl⟩ ce_X7_writeSign cv_X7_writeSign tw_578 ⟨Nat.le_of_ble_eq_true rfl, Nat.le_of_ble_eq_true rfl⟩ hP hD hS hA [0, 1, 2] rfl rfl (fun _ => rfl) rfl rfl rfl hl.1 rfl (Nat.le_of_ble_eq_true rfl) ⟨Nat.zero_le _, Nat.zero_le _⟩ dX7_beginEntry_28 (fun u H locs hw hP hD hS => ?_)
  obtain ⟨u1, rfl⟩ : ∃ z, z = u := ⟨_, rfl⟩
  try dsimp only at hw
  replace hP : va_P D vwCl (cwWriter kI a u1 (z_entries + (nI 1))) H := hP
  replace hD : va_D A (cwWriter kI a u1 (z_entries + (nI 1))) := hD
  exact retMv C (u1, (z_entries + (nI 1))) hw hP hD hS dX7_beginEntry_31
set_option maxHeartbeats 4000000 in
set_option maxRecDepth 100000 in
theorem c_X7_beginEntry (l : Launch) (D : va_G) (kI kC kB : ClassId) (a : AdT) (z_characters : RowT) (z_entries : Int32) (sz : Nat) (p1 : Int32) (Post : RowT → Int32 → Prop) (hw : wp_X7_beginEntry z_characters z_entries p1 Post) : CMv l D kI kC kB yX7_beginEntry cX7_beginEntry 2 none ({ frames := 4, cells := 0, slots := 0, locals := 89 } : Room) [.ref (a 0), .int p1] (cwWriter kI a z_characters z_entries) sz (fun (u : RowT × Int32) => Post u.1 u.2) (fun u : RowT × Int32 => (cwWriter kI a u.1 u.2)) := by
  refine entMv (by decide) (Nat.le_of_ble_eq_true rfl) ?_
  intro p e s m args below meth c ls A C hA hP hD hS hl
  obtain ⟨H, hHe⟩ : ∃ H, H = s.heap := ⟨_, rfl⟩
  obtain ⟨locs, hlo⟩ : ∃ lo : List Loc, lo = [] := ⟨_, rfl⟩
  have hS : va_S A s.heap H locs := by rw [hHe, hlo]; exact hS
  rw [← hHe] at hP
  suffices hg : W p l e ({ frames := 4, cells := 0, slots := 0, locals := 89 } : Room) s m args below meth c H locs 0 0 (MQ below (va_Qv (fun (u : RowT × Int32) => Post u.1 u.2) (BB D A (fun u : RowT × Int32 => (cwWriter kI a u.1 u.2))) A) args s 0 0 A) (F0 m 0 ls []) by rw [hHe, hlo] at hg; exact hg
  replace hl : lv_has ls 2 [(0, .ref (a 0)), (1, .int p1)] := hl
  obtain ⟨hx, hb, hr, hml, hown, hts, hlocks, hK⟩ := id C
  refine lv_aload_n hx hb dX7_beginEntry_0 rfl (lv_at hl 0 rfl) ?_
  refine va_get (D := D) (ci := 5) (v := .int z_entries) (C := RX7) (T := TX7) (N := 2) hx hb hts inX7 hown hK.1 hP 0 rfl rfl 1 (by decide) (hts _ tw_153) (fun _ h9 => h9) rfl dX7_beginEntry_1 ?_
  refine lv_if_le (tgt := 16) hx hb dX7_beginEntry_4 (by decide) (fun hc => ?_) (fun hc => ?_)
  · replace hw := hw.1 hc
    exact cj_X7_beginEntry_16 l D kI kC kB a z_characters z_entries p1 Post hA C hw H locs hP hD hS ls (lv_sub hl [0, 1] rfl)
  · replace hw := hw.2 hc
    refine lv_aload_n hx hb dX7_beginEntry_7 rfl (lv_at hl 0 rfl) ?_
    refine va_get (D := D) (ci := 5) (v := .ref (a 1)) (C := RX7) (T := TX7) (N := 2) hx hb hts inX7 hown hK.1 hP 0 rfl rfl 0 (by decide) (hts _ tw_152) (fun _ h9 => h9) rfl dX7_beginEntry_8 ?_
    refine lv_bipush (v := (nI 44)) hx hb dX7_beginEntry_11 (by decide) ?_
    refine kMVv (q0 := 1) (As := [.int (nI 44)]) (rest := []) C (c_X4_add l D kI kC kB (fun i => a (i + 1)) z_characters H.size (nI 44) _ hw) ⟨rfl, rfl⟩ ce_X4_add cv_X4_add tw_577 ⟨Nat.le_of_ble_eq_true rfl, Nat.le_of_ble_eq_true rfl⟩ hP hD hS hA [1, 2] rfl rfl (fun _ => rfl) rfl rfl rfl hl.1 rfl (Nat.le_of_ble_eq_true rfl) ⟨Nat.zero_le _, Nat.zero_le _⟩ dX7_beginEntry_13 (fun u H locs hw hP hD hS => ?_)
    obtain ⟨u2, rfl⟩ : ∃ z, z = u := ⟨_, rfl⟩
    try dsimp only at hw
    replace hP : va_P D vwCl (cwWriter kI a u2 z_entries) H := hP
    replace hD : va_D A (cwWriter kI a u2 z_entries) := hD
    exact cj_X7_beginEntry_16 l D kI kC kB a u2 z_entries p1 Post hA C hw H locs hP hD hS ls (lv_sub hl [0, 1] rfl)
set_option maxHeartbeats 4000000 in
set_option maxRecDepth 100000 in
theorem cj_X7_writeNumber_20 (l : Launch) (D : va_G) (kI kC kB : ClassId) (a : AdT) (z_characters : RowT) (z_entries : Int32) (p1 : Int32) (Post : RowT → Prop) {p : Program} {e : Env} {s : State} {m : MethodId} {args : Array Value} {below : List Frame} {meth : Method} {c : Code} {A : Nat → Prop} (hA : ∀ q : Nat, s.heap.size ≤ q → A q) (C : CtxT p s m args meth c cX7_writeNumber 2 none yX7_writeNumber.cls D kI kC kB) : wj_X7_writeNumber_20 z_characters p1 Post → ∀ (H : Heap) (locs : List Loc), va_P D vwCl (cwWriter kI a z_characters z_entries) H → va_D A (cwWriter kI a z_characters z_entries) → va_S A s.heap H locs → ∀ (ls : Array Slot), lv_has ls 2 [(0, .ref (a 0)), (1, .int p1)] → W p l e ({ frames := 3, cells := 0, slots := 0, locals := 66 } : Room) s m args below meth c H locs 0 0 (MQ below (va_Qv (fun (u : RowT) => Post u) (BB D A (fun u : RowT => (cwWriter kI a u z_entries))) A) args s 0 0 A) (F0 m 20 ls []) := by
  obtain ⟨hx, hb, hr, hml, hown, hts, hlocks, hK⟩ := id C
  intro hw H locs hP hD hS ls hl
  refine lv_aload_n hx hb dX7_writeNumber_20 rfl (lv_at hl 0 rfl) ?_
  refine va_get (D := D) (ci := 5) (v := .ref (a 1)) (C := RX7) (T := TX7) (N := 2) hx hb hts inX7 hown hK.1 hP 0 rfl rfl 0 (by decide) (hts _ tw_152) (fun _ h9 => h9) rfl dX7_writeNumber_21 ?_
  refine lv_bipush (v := (nI 48)) hx hb dX7_writeNumber_24 (by decide) ?_
  refine lv_iload_n hx hb dX7_writeNumber_26 rfl (lv_at hl 1 rfl) ?_
  refine lv_bipush (v := (nI 10)) hx hb dX7_writeNumber_27 (by decide) ?_
  refine lv_irem hx hb dX7_writeNumber_29 (by decide) ?_
  refine lv_iadd hx hb dX7_writeNumber_30 ?_
  refine kMVv (q0 := 1) (As := [.int ((nI 48) + (p1 - p1 / (nI 10) * (nI 10)))]) (rest := []) C (c_X4_add l D kI kC kB (fun i => a (i + 1)) z_characters H.size ((nI 48) + (p1 - p1 / (nI 10) * (nI 10))) _ hw) ⟨rfl, rfl⟩ ce_X4_add cv_X4_add tw_577 ⟨Nat.le_of_ble_eq_true rfl, Nat.le_of_ble_eq_true rfl⟩ hP hD hS hA [1, 2] rfl rfl (fun _ => rfl) rfl rfl rfl hl.1 rfl (Nat.le_of_ble_eq_true rfl) ⟨Nat.zero_le _, Nat.zero_le _⟩ dX7_writeNumber_31 (fun u H locs hw hP hD hS => ?_)
  obtain ⟨u1, rfl⟩ : ∃ z, z = u := ⟨_, rfl⟩
  try dsimp only at hw
  replace hP : va_P D vwCl (cwWriter kI a u1 z_entries) H := hP
  replace hD : va_D A (cwWriter kI a u1 z_entries) := hD
  exact retMv C (u1) hw hP hD hS dX7_writeNumber_34
set_option maxHeartbeats 4000000 in
set_option maxRecDepth 100000 in
theorem c_X7_writeNumber (l : Launch) (D : va_G) (kI kC kB : ClassId) (a : AdT) (z_characters : RowT) (z_entries : Int32) (sz : Nat) (p1 : Int32) (Post : RowT → Prop) (hw : wp_X7_writeNumber z_characters p1 Post) : CMv l D kI kC kB yX7_writeNumber cX7_writeNumber 2 none ({ frames := 3, cells := 0, slots := 0, locals := 66 } : Room) [.ref (a 0), .int p1] (cwWriter kI a z_characters z_entries) sz (fun (u : RowT) => Post u) (fun u : RowT => (cwWriter kI a u z_entries)) := by
  refine entMv (by decide) (Nat.le_of_ble_eq_true rfl) ?_
  intro p e s m args below meth c ls A C hA hP hD hS hl
  obtain ⟨H, hHe⟩ : ∃ H, H = s.heap := ⟨_, rfl⟩
  obtain ⟨locs, hlo⟩ : ∃ lo : List Loc, lo = [] := ⟨_, rfl⟩
  have hS : va_S A s.heap H locs := by rw [hHe, hlo]; exact hS
  rw [← hHe] at hP
  suffices hg : W p l e ({ frames := 3, cells := 0, slots := 0, locals := 66 } : Room) s m args below meth c H locs 0 0 (MQ below (va_Qv (fun (u : RowT) => Post u) (BB D A (fun u : RowT => (cwWriter kI a u z_entries))) A) args s 0 0 A) (F0 m 0 ls []) by rw [hHe, hlo] at hg; exact hg
  replace hl : lv_has ls 2 [(0, .ref (a 0)), (1, .int p1)] := hl
  obtain ⟨hx, hb, hr, hml, hown, hts, hlocks, hK⟩ := id C
  refine lv_iload_n hx hb dX7_writeNumber_0 rfl (lv_at hl 1 rfl) ?_
  refine lv_bipush (v := (nI 10)) hx hb dX7_writeNumber_1 (by decide) ?_
  refine lv_icmp_lt (tgt := 20) hx hb dX7_writeNumber_3 (by decide) (fun hc => ?_) (fun hc => ?_)
  · replace hw := hw.1 hc
    exact cj_X7_writeNumber_20 l D kI kC kB a z_characters z_entries p1 Post hA C hw H locs hP hD hS ls (lv_sub hl [0, 1] rfl)
  · replace hw := hw.2 hc
    refine lv_aload_n hx hb dX7_writeNumber_6 rfl (lv_at hl 0 rfl) ?_
    refine va_get (D := D) (ci := 5) (v := .ref (a 1)) (C := RX7) (T := TX7) (N := 2) hx hb hts inX7 hown hK.1 hP 0 rfl rfl 0 (by decide) (hts _ tw_152) (fun _ h9 => h9) rfl dX7_writeNumber_7 ?_
    refine lv_bipush (v := (nI 48)) hx hb dX7_writeNumber_10 (by decide) ?_
    refine lv_iload_n hx hb dX7_writeNumber_12 rfl (lv_at hl 1 rfl) ?_
    refine lv_bipush (v := (nI 10)) hx hb dX7_writeNumber_13 (by decide) ?_
    refine lv_idiv hx hb dX7_writeNumber_15 (by decide) ?_
    refine lv_iadd hx hb dX7_writeNumber_16 ?_
    refine kMVv (q0 := 1) (As := [.int ((nI 48) + (p1 / (nI 10)))]) (rest := []) C (c_X4_add l D kI kC kB (fun i => a (i + 1)) z_characters H.size ((nI 48) + (p1 / (nI 10))) _ hw) ⟨rfl, rfl⟩ ce_X4_add cv_X4_add tw_577 ⟨Nat.le_of_ble_eq_true rfl, Nat.le_of_ble_eq_true rfl⟩ hP hD hS hA [1, 2] rfl rfl (fun _ => rfl) rfl rfl rfl hl.1 rfl (Nat.le_of_ble_eq_true rfl) ⟨Nat.zero_le _, Nat.zero_le _⟩ dX7_writeNumber_17 (fun u H locs hw hP hD hS => ?_)
    obtain ⟨u2, rfl⟩ : ∃ z, z = u := ⟨_, rfl⟩
    try dsimp only at hw
    replace hP : va_P D vwCl (cwWriter kI a u2 z_entries) H := hP
    replace hD : va_D A (cwWriter kI a u2 z_entries) := hD
    exact cj_X7_writeNumber_20 l D kI kC kB a u2 z_entries p1 Post hA C hw H locs hP hD hS ls (lv_sub hl [0, 1] rfl)
set_option maxHeartbeats 4000000 in
set_option maxRecDepth 100000 in
theorem cj_X7_write_86 (l : Launch) (D : va_G) (kI kC kB : ClassId) (a : AdT) (b : AdT) (z_characters : RowT) (z_entries : Int32) (o1_alphabet_out : Int32) (o1_signing : Int32) (o1_signs : RowT) (o1_sizes : RowT) (o1_lost : RowT) (o1_pile : RowT) (v2 : Int32) (v3 : Int32) (Post : RowT → Int32 → Prop) {p : Program} {e : Env} {s : State} {m : MethodId} {args : Array Value} {below : List Frame} {meth : Method} {c : Code} {A : Nat → Prop} (hA : ∀ q : Nat, s.heap.size ≤ q → A q) (C : CtxT p s m args meth c cX7_write 4 none yX7_write.cls D kI kC kB) (K14 : RowT → Int32 → Int32 → Prop) (hK14 : ∀ (z_characters : RowT) (z_entries : Int32) (v2 : Int32), K14 z_characters z_entries v2 → ∀ (H : Heap) (locs : List Loc), va_P D vwCl (cwWriter kI a z_characters z_entries ++ cwBook kI b o1_alphabet_out o1_signing o1_signs o1_sizes o1_lost o1_pile) H → va_D A (cwWriter kI a z_characters z_entries ++ cwBook kI b o1_alphabet_out o1_signing o1_signs o1_sizes o1_lost o1_pile) → va_S A s.heap H locs → ∀ (ls : Array Slot), lv_has ls 4 [(0, .ref (a 0)), (1, .ref (b 0)), (2, .int v2)] → W p l e ({ frames := 5, cells := 0, slots := 0, locals := 110 } : Room) s m args below meth c H locs 0 0 (MQ below (va_Qv (fun (u : RowT × Int32) => Post u.1 u.2) (BB D A (fun u : RowT × Int32 => (cwWriter kI a u.1 u.2 ++ cwBook kI b o1_alphabet_out o1_signing o1_signs o1_sizes o1_lost o1_pile))) A) args s 0 0 A) (F0 m 14 ls [])) : wj_X7_write_86 z_characters z_entries o1_alphabet_out o1_signs o1_sizes v2 v3 K14 Post → ∀ (H : Heap) (locs : List Loc), va_P D vwCl (cwWriter kI a z_characters z_entries ++ cwBook kI b o1_alphabet_out o1_signing o1_signs o1_sizes o1_lost o1_pile) H → va_D A (cwWriter kI a z_characters z_entries ++ cwBook kI b o1_alphabet_out o1_signing o1_signs o1_sizes o1_lost o1_pile) → va_S A s.heap H locs → ∀ (ls : Array Slot), lv_has ls 4 [(0, .ref (a 0)), (1, .ref (b 0)), (2, .int v2), (3, .int v3)] → W p l e ({ frames := 5, cells := 0, slots := 0, locals := 110 } : Room) s m args below meth c H locs 0 0 (MQ below (va_Qv (fun (u : RowT × Int32) => Post u.1 u.2) (BB D A (fun u : RowT × Int32 => (cwWriter kI a u.1 u.2 ++ cwBook kI b o1_alphabet_out o1_signing o1_signs o1_sizes o1_lost o1_pile))) A) args s 0 0 A) (F0 m 86 ls []) := by
  obtain ⟨hx, hb, hr, hml, hown, hts, hlocks, hK⟩ := id C
  intro hw H locs hP hD hS ls hl
  refine lv_iload_n hx hb dX7_write_86 rfl (lv_at hl 3 rfl) ?_
  refine lv_if_eq (tgt := 102) hx hb dX7_write_87 (by decide) (fun hc => ?_) (fun hc => ?_)
  · replace hw := hw.1 hc
    refine lv_iinc (v := (v2 + nI 1)) (lv' := [(2, .int (v2 + nI 1)), (0, .ref (a 0)), (1, .ref (b 0)), (3, .int v3)]) hx hb dX7_write_102 hl (k := 2) rfl rfl (by decide) rfl (fun ls hl => ?_)
    refine lv_goto (tgt := 14) hx hb dX7_write_105 (by decide) ?_
    exact hK14 z_characters z_entries (v2 + nI 1) hw H locs hP hD hS ls (lv_sub hl [1, 2, 0] rfl)
  · replace hw := hw.2 hc
    refine lv_aload_n hx hb dX7_write_90 rfl (lv_at hl 0 rfl) ?_
    refine lv_aload_n hx hb dX7_write_91 rfl (lv_at hl 1 rfl) ?_
    refine va_getN (D := D) (ci := 1) (v := .ref (b 4)) (C := RX1) (T := TX1) (N := 6) hx hb hts inX1 hown hK.1 hP 3 rfl rfl 3 (by decide) (va_Nw.use rfl (hK.2.1 _ nw_81)) (fun _ h9 => h9) rfl dX7_write_92 ?_
    refine lv_iload_n hx hb dX7_write_95 rfl (lv_at hl 2 rfl) ?_
    refine kRV (As := [.int v2]) (rest := [.ref (a 0)]) (q0 := 7) C (c_X4_at l D kI kC kB (fun i => b (i + 4)) o1_sizes v2 _ hw) ⟨rfl, rfl⟩ ce_X4_at cv_X4_at tw_570 ⟨Nat.le_of_ble_eq_true rfl, Nat.le_of_ble_eq_true rfl⟩ hP [7, 8] rfl rfl rfl rfl hl.1 rfl (Nat.le_of_ble_eq_true rfl) ⟨Nat.zero_le _, Nat.zero_le _⟩ dX7_write_96 (fun r1 hw => ?_)
    refine kMVv (q0 := 0) (As := [.int r1]) (rest := []) C (c_X7_writeNumber l D kI kC kB a z_characters z_entries H.size r1 _ hw) ⟨rfl, rfl⟩ ce_X7_writeNumber cv_X7_writeNumber tw_584 ⟨Nat.le_of_ble_eq_true rfl, Nat.le_of_ble_eq_true rfl⟩ hP hD hS hA [0, 1, 2] rfl rfl (fun _ => rfl) rfl rfl rfl hl.1 rfl (Nat.le_of_ble_eq_true rfl) ⟨Nat.zero_le _, Nat.zero_le _⟩ dX7_write_99 (fun u H locs hw hP hD hS => ?_)
    obtain ⟨u2, rfl⟩ : ∃ z, z = u := ⟨_, rfl⟩
    try dsimp only at hw
    replace hP : va_P D vwCl (cwWriter kI a u2 z_entries ++ cwBook kI b o1_alphabet_out o1_signing o1_signs o1_sizes o1_lost o1_pile) H := hP
    replace hD : va_D A (cwWriter kI a u2 z_entries ++ cwBook kI b o1_alphabet_out o1_signing o1_signs o1_sizes o1_lost o1_pile) := hD
    refine lv_iinc (v := (v2 + nI 1)) (lv' := [(2, .int (v2 + nI 1)), (0, .ref (a 0)), (1, .ref (b 0)), (3, .int v3)]) hx hb dX7_write_102 hl (k := 2) rfl rfl (by decide) rfl (fun ls hl => ?_)
    refine lv_goto (tgt := 14) hx hb dX7_write_105 (by decide) ?_
    exact hK14 u2 z_entries (v2 + nI 1) hw H locs hP hD hS ls (lv_sub hl [1, 2, 0] rfl)
set_option maxHeartbeats 4000000 in
set_option maxRecDepth 100000 in
theorem cj_X7_write_37 (l : Launch) (D : va_G) (kI kC kB : ClassId) (a : AdT) (b : AdT) (z_characters : RowT) (z_entries : Int32) (o1_alphabet_out : Int32) (o1_signing : Int32) (o1_signs : RowT) (o1_sizes : RowT) (o1_lost : RowT) (o1_pile : RowT) (v2 : Int32) (Post : RowT → Int32 → Prop) {p : Program} {e : Env} {s : State} {m : MethodId} {args : Array Value} {below : List Frame} {meth : Method} {c : Code} {A : Nat → Prop} (hA : ∀ q : Nat, s.heap.size ≤ q → A q) (C : CtxT p s m args meth c cX7_write 4 none yX7_write.cls D kI kC kB) (K14 : RowT → Int32 → Int32 → Prop) (hK14 : ∀ (z_characters : RowT) (z_entries : Int32) (v2 : Int32), K14 z_characters z_entries v2 → ∀ (H : Heap) (locs : List Loc), va_P D vwCl (cwWriter kI a z_characters z_entries ++ cwBook kI b o1_alphabet_out o1_signing o1_signs o1_sizes o1_lost o1_pile) H → va_D A (cwWriter kI a z_characters z_entries ++ cwBook kI b o1_alphabet_out o1_signing o1_signs o1_sizes o1_lost o1_pile) → va_S A s.heap H locs → ∀ (ls : Array Slot), lv_has ls 4 [(0, .ref (a 0)), (1, .ref (b 0)), (2, .int v2)] → W p l e ({ frames := 5, cells := 0, slots := 0, locals := 110 } : Room) s m args below meth c H locs 0 0 (MQ below (va_Qv (fun (u : RowT × Int32) => Post u.1 u.2) (BB D A (fun u : RowT × Int32 => (cwWriter kI a u.1 u.2 ++ cwBook kI b o1_alphabet_out o1_signing o1_signs o1_sizes o1_lost o1_pile))) A) args s 0 0 A) (F0 m 14 ls [])) : ∀ (t0 : Int32), wj_X7_write_37 z_characters z_entries o1_alphabet_out o1_signs o1_sizes v2 t0 K14 Post → ∀ (H : Heap) (locs : List Loc), va_P D vwCl (cwWriter kI a z_characters z_entries ++ cwBook kI b o1_alphabet_out o1_signing o1_signs o1_sizes o1_lost o1_pile) H → va_D A (cwWriter kI a z_characters z_entries ++ cwBook kI b o1_alphabet_out o1_signing o1_signs o1_sizes o1_lost o1_pile) → va_S A s.heap H locs → ∀ (ls : Array Slot), lv_has ls 4 [(0, .ref (a 0)), (1, .ref (b 0)), (2, .int v2)] → W p l e ({ frames := 5, cells := 0, slots := 0, locals := 110 } : Room) s m args below meth c H locs 0 0 (MQ below (va_Qv (fun (u : RowT × Int32) => Post u.1 u.2) (BB D A (fun u : RowT × Int32 => (cwWriter kI a u.1 u.2 ++ cwBook kI b o1_alphabet_out o1_signing o1_signs o1_sizes o1_lost o1_pile))) A) args s 0 0 A) (F0 m 37 ls [.int t0]) := by
  obtain ⟨hx, hb, hr, hml, hown, hts, hlocks, hK⟩ := id C
  intro t0 hw H locs hP hD hS ls hl
  refine lv_istore_n (lv' := [(3, .int t0), (0, .ref (a 0)), (1, .ref (b 0)), (2, .int v2)]) hx hb dX7_write_37 rfl hl (by decide) rfl (fun ls hl => ?_)
  refine lv_aload_n hx hb dX7_write_38 rfl (lv_at hl 2 rfl) ?_
  refine lv_iload_n hx hb dX7_write_39 rfl (lv_at hl 3 rfl) ?_
  refine kRS (As := [.ref (b 0), .int v2]) (rest := []) C (c_X7_goesOn l D kI kC kB b o1_alphabet_out o1_signing o1_signs o1_sizes o1_lost o1_pile v2 _ hw) ⟨rfl, rfl⟩ ce_X7_goesOn cv_X7_goesOn tw_567 ⟨Nat.le_of_ble_eq_true rfl, Nat.le_of_ble_eq_true rfl⟩ hP [3, 4, 5, 6, 7, 8, 9, 10, 11, 12] rfl hl.1 rfl (Nat.le_of_ble_eq_true rfl) ⟨Nat.zero_le _, Nat.zero_le _⟩ dX7_write_40 (fun r3 hw => ?_)
  refine lv_if_ne (tgt := 61) hx hb dX7_write_43 (by decide) (fun hc => ?_) (fun hc => ?_)
  · replace hw := hw.2 hc
    refine lv_iload_n hx hb dX7_write_61 rfl (lv_at hl 0 rfl) ?_
    refine lv_if_eq (tgt := 86) hx hb dX7_write_62 (by decide) (fun hc => ?_) (fun hc => ?_)
    · replace hw := hw.1 hc
      exact cj_X7_write_86 l D kI kC kB a b z_characters z_entries o1_alphabet_out o1_signing o1_signs o1_sizes o1_lost o1_pile v2 t0 Post hA C _ hK14 hw H locs hP hD hS ls (lv_sub hl [1, 2, 3, 0] rfl)
    · replace hw := hw.2 hc
      refine lv_aload_n hx hb dX7_write_65 rfl (lv_at hl 1 rfl) ?_
      refine va_get (D := D) (ci := 5) (v := .ref (a 1)) (C := RX7) (T := TX7) (N := 2) hx hb hts inX7 hown hK.1 hP 0 rfl rfl 0 (by decide) (hts _ tw_152) (fun _ h9 => h9) rfl dX7_write_66 ?_
      refine lv_bipush (v := (nI 45)) hx hb dX7_write_69 (by decide) ?_
      refine kMVv (q0 := 1) (As := [.int (nI 45)]) (rest := []) C (c_X4_add l D kI kC kB (fun i => a (i + 1)) z_characters H.size (nI 45) _ hw) ⟨rfl, rfl⟩ ce_X4_add cv_X4_add tw_577 ⟨Nat.le_of_ble_eq_true rfl, Nat.le_of_ble_eq_true rfl⟩ hP hD hS hA [1, 2] rfl rfl (fun _ => rfl) rfl rfl rfl hl.1 rfl (Nat.le_of_ble_eq_true rfl) ⟨Nat.zero_le _, Nat.zero_le _⟩ dX7_write_71 (fun u H locs hw hP hD hS => ?_)
      obtain ⟨u4, rfl⟩ : ∃ z, z = u := ⟨_, rfl⟩
      try dsimp only at hw
      replace hP : va_P D vwCl (cwWriter kI a u4 z_entries ++ cwBook kI b o1_alphabet_out o1_signing o1_signs o1_sizes o1_lost o1_pile) H := hP
      replace hD : va_D A (cwWriter kI a u4 z_entries ++ cwBook kI b o1_alphabet_out o1_signing o1_signs o1_sizes o1_lost o1_pile) := hD
      refine lv_aload_n hx hb dX7_write_74 rfl (lv_at hl 1 rfl) ?_
      refine lv_aload_n hx hb dX7_write_75 rfl (lv_at hl 2 rfl) ?_
      refine va_getN (D := D) (ci := 1) (v := .ref (b 2)) (C := RX1) (T := TX1) (N := 6) hx hb hts inX1 hown hK.1 hP 3 rfl rfl 2 (by decide) (va_Nw.use rfl (hK.2.1 _ nw_78)) (fun _ h9 => h9) rfl dX7_write_76 ?_
      refine lv_iload_n hx hb dX7_write_79 rfl (lv_at hl 3 rfl) ?_
      refine kRV (As := [.int v2]) (rest := [.ref (a 0)]) (q0 := 5) C (c_X4_at l D kI kC kB (fun i => b (i + 2)) o1_signs v2 _ hw) ⟨rfl, rfl⟩ ce_X4_at cv_X4_at tw_570 ⟨Nat.le_of_ble_eq_true rfl, Nat.le_of_ble_eq_true rfl⟩ hP [5, 6] rfl rfl rfl rfl hl.1 rfl (Nat.le_of_ble_eq_true rfl) ⟨Nat.zero_le _, Nat.zero_le _⟩ dX7_write_80 (fun r5 hw => ?_)
      refine kMVv (q0 := 0) (As := [.int r5]) (rest := []) C (c_X7_writeSign l D kI kC kB a u4 z_entries H.size r5 _ hw) ⟨rfl, rfl⟩ ce_X7_writeSign cv_X7_writeSign tw_578 ⟨Nat.le_of_ble_eq_true rfl, Nat.le_of_ble_eq_true rfl⟩ hP hD hS hA [0, 1, 2] rfl rfl (fun _ => rfl) rfl rfl rfl hl.1 rfl (Nat.le_of_ble_eq_true rfl) ⟨Nat.zero_le _, Nat.zero_le _⟩ dX7_write_83 (fun u H locs hw hP hD hS => ?_)
      obtain ⟨u6, rfl⟩ : ∃ z, z = u := ⟨_, rfl⟩
      try dsimp only at hw
      replace hP : va_P D vwCl (cwWriter kI a u6 z_entries ++ cwBook kI b o1_alphabet_out o1_signing o1_signs o1_sizes o1_lost o1_pile) H := hP
      replace hD : va_D A (cwWriter kI a u6 z_entries ++ cwBook kI b o1_alphabet_out o1_signing o1_signs o1_sizes o1_lost o1_pile) := hD
      exact cj_X7_write_86 l D kI kC kB a b u6 z_entries o1_alphabet_out o1_signing o1_signs o1_sizes o1_lost o1_pile v2 t0 Post hA C _ hK14 hw H locs hP hD hS ls (lv_sub hl [1, 2, 3, 0] rfl)
  · replace hw := hw.1 hc
    refine lv_aload_n hx hb dX7_write_46 rfl (lv_at hl 1 rfl) ?_
    refine lv_aload_n hx hb dX7_write_47 rfl (lv_at hl 2 rfl) ?_
    refine va_getN (D := D) (ci := 1) (v := .ref (b 2)) (C := RX1) (T := TX1) (N := 6) hx hb hts inX1 hown hK.1 hP 3 rfl rfl 2 (by decide) (va_Nw.use rfl (hK.2.1 _ nw_78)) (fun _ h9 => h9) rfl dX7_write_48 ?_
    refine lv_iload_n hx hb dX7_write_51 rfl (lv_at hl 3 rfl) ?_
    refine kRV (As := [.int v2]) (rest := [.ref (a 0)]) (q0 := 5) C (c_X4_at l D kI kC kB (fun i => b (i + 2)) o1_signs v2 _ hw) ⟨rfl, rfl⟩ ce_X4_at cv_X4_at tw_570 ⟨Nat.le_of_ble_eq_true rfl, Nat.le_of_ble_eq_true rfl⟩ hP [5, 6] rfl rfl rfl rfl hl.1 rfl (Nat.le_of_ble_eq_true rfl) ⟨Nat.zero_le _, Nat.zero_le _⟩ dX7_write_52 (fun r7 hw => ?_)
    refine kMVv (q0 := 0) (As := [.int r7]) (rest := []) C (c_X7_beginEntry l D kI kC kB a z_characters z_entries H.size r7 _ hw) ⟨rfl, rfl⟩ ce_X7_beginEntry cv_X7_beginEntry tw_573 ⟨Nat.le_of_ble_eq_true rfl, Nat.le_of_ble_eq_true rfl⟩ hP hD hS hA [0, 1, 2] rfl rfl (fun _ => rfl) rfl rfl rfl hl.1 rfl (Nat.le_of_ble_eq_true rfl) ⟨Nat.zero_le _, Nat.zero_le _⟩ dX7_write_55 (fun u H locs hw hP hD hS => ?_)
    obtain ⟨u8, u9⟩ := u
    try dsimp only at hw
    replace hP : va_P D vwCl (cwWriter kI a u8 u9 ++ cwBook kI b o1_alphabet_out o1_signing o1_signs o1_sizes o1_lost o1_pile) H := hP
    replace hD : va_D A (cwWriter kI a u8 u9 ++ cwBook kI b o1_alphabet_out o1_signing o1_signs o1_sizes o1_lost o1_pile) := hD
    refine lv_goto (tgt := 86) hx hb dX7_write_58 (by decide) ?_
    exact cj_X7_write_86 l D kI kC kB a b u8 u9 o1_alphabet_out o1_signing o1_signs o1_sizes o1_lost o1_pile v2 t0 Post hA C _ hK14 hw H locs hP hD hS ls (lv_sub hl [1, 2, 3, 0] rfl)
set_option maxHeartbeats 4000000 in
set_option maxRecDepth 100000 in
theorem cl_X7_write_14 (l : Launch) (D : va_G) (kI kC kB : ClassId) (a : AdT) (b : AdT) (o1_alphabet_out : Int32) (o1_signing : Int32) (o1_signs : RowT) (o1_sizes : RowT) (o1_lost : RowT) (o1_pile : RowT) (Post : RowT → Int32 → Prop) {p : Program} {e : Env} {s : State} {m : MethodId} {args : Array Value} {below : List Frame} {meth : Method} {c : Code} {A : Nat → Prop} (hA : ∀ q : Nat, s.heap.size ≤ q → A q) (C : CtxT p s m args meth c cX7_write 4 none yX7_write.cls D kI kC kB) : ∀ (n : Nat), ∀ (z_characters : RowT) (z_entries : Int32) (v2 : Int32), wl_X7_write_14 o1_alphabet_out o1_signs o1_sizes Post n z_characters z_entries v2 → ∀ (H : Heap) (locs : List Loc), va_P D vwCl (cwWriter kI a z_characters z_entries ++ cwBook kI b o1_alphabet_out o1_signing o1_signs o1_sizes o1_lost o1_pile) H → va_D A (cwWriter kI a z_characters z_entries ++ cwBook kI b o1_alphabet_out o1_signing o1_signs o1_sizes o1_lost o1_pile) → va_S A s.heap H locs → ∀ (ls : Array Slot), lv_has ls 4 [(0, .ref (a 0)), (1, .ref (b 0)), (2, .int v2)] → W p l e ({ frames := 5, cells := 0, slots := 0, locals := 110 } : Room) s m args below meth c H locs 0 0 (MQ below (va_Qv (fun (u : RowT × Int32) => Post u.1 u.2) (BB D A (fun u : RowT × Int32 => (cwWriter kI a u.1 u.2 ++ cwBook kI b o1_alphabet_out o1_signing o1_signs o1_sizes o1_lost o1_pile))) A) args s 0 0 A) (F0 m 14 ls []) := by
  obtain ⟨hx, hb, hr, hml, hown, hts, hlocks, hK⟩ := id C
  intro n
  induction n with
  | zero => intro z_characters z_entries v2 hw; exact hw.elim
  | succ n ih =>
    intro z_characters z_entries v2 hw H locs hP hD hS ls hl
    refine lv_iload_n hx hb dX7_write_14 rfl (lv_at hl 2 rfl) ?_
    refine lv_aload_n hx hb dX7_write_15 rfl (lv_at hl 1 rfl) ?_
    refine kRV (As := []) (rest := [.int v2]) (q0 := 3) C (c_X1_quires l D kI kC kB b o1_alphabet_out o1_signing o1_signs o1_sizes o1_lost o1_pile _ hw) ⟨rfl, rfl⟩ ce_X1_quires cv_X1_quires tw_566 ⟨Nat.le_of_ble_eq_true rfl, Nat.le_of_ble_eq_true rfl⟩ hP [3, 4, 5, 6, 7, 8, 9, 10, 11, 12] rfl rfl rfl rfl hl.1 rfl (Nat.le_of_ble_eq_true rfl) ⟨Nat.zero_le _, Nat.zero_le _⟩ dX7_write_16 (fun r10 hw => ?_)
    refine lv_icmp_ge (tgt := 108) hx hb dX7_write_19 (by decide) (fun hc => ?_) (fun hc => ?_)
    · replace hw := hw.1 hc
      exact retMv C (z_characters, z_entries) hw hP hD hS dX7_write_108
    · replace hw := hw.2 hc
      refine lv_aload_n hx hb dX7_write_22 rfl (lv_at hl 1 rfl) ?_
      refine lv_iload_n hx hb dX7_write_23 rfl (lv_at hl 2 rfl) ?_
      refine lv_iconst (v := (nI 1)) hx hb dX7_write_24 (by decide) ?_
      refine lv_iadd hx hb dX7_write_25 ?_
      refine kRS (As := [.ref (b 0), .int (v2 + (nI 1))]) (rest := []) C (c_X7_goesOn l D kI kC kB b o1_alphabet_out o1_signing o1_signs o1_sizes o1_lost o1_pile (v2 + (nI 1)) _ hw) ⟨rfl, rfl⟩ ce_X7_goesOn cv_X7_goesOn tw_567 ⟨Nat.le_of_ble_eq_true rfl, Nat.le_of_ble_eq_true rfl⟩ hP [3, 4, 5, 6, 7, 8, 9, 10, 11, 12] rfl hl.1 rfl (Nat.le_of_ble_eq_true rfl) ⟨Nat.zero_le _, Nat.zero_le _⟩ dX7_write_26 (fun r11 hw => ?_)
      refine lv_if_ne (tgt := 36) hx hb dX7_write_29 (by decide) (fun hc => ?_) (fun hc => ?_)
      · replace hw := hw.2 hc
        refine lv_iconst (v := (nI 0)) hx hb dX7_write_36 (by decide) ?_
        exact cj_X7_write_37 l D kI kC kB a b z_characters z_entries o1_alphabet_out o1_signing o1_signs o1_sizes o1_lost o1_pile v2 Post hA C _ ih (nI 0) hw H locs hP hD hS ls (lv_sub hl [0, 1, 2] rfl)
      · replace hw := hw.1 hc
        refine lv_iconst (v := (nI 1)) hx hb dX7_write_32 (by decide) ?_
        refine lv_goto (tgt := 37) hx hb dX7_write_33 (by decide) ?_
        exact cj_X7_write_37 l D kI kC kB a b z_characters z_entries o1_alphabet_out o1_signing o1_signs o1_sizes o1_lost o1_pile v2 Post hA C _ ih (nI 1) hw H locs hP hD hS ls (lv_sub hl [0, 1, 2] rfl)
set_option maxHeartbeats 4000000 in
set_option maxRecDepth 100000 in
theorem c_X7_write (l : Launch) (D : va_G) (kI kC kB : ClassId) (a : AdT) (b : AdT) (z_characters : RowT) (z_entries : Int32) (o1_alphabet_out : Int32) (o1_signing : Int32) (o1_signs : RowT) (o1_sizes : RowT) (o1_lost : RowT) (o1_pile : RowT) (sz : Nat) (Post : RowT → Int32 → Prop) (hw : wp_X7_write z_characters z_entries o1_alphabet_out o1_signs o1_sizes Post) : CMv l D kI kC kB yX7_write cX7_write 4 none ({ frames := 5, cells := 0, slots := 0, locals := 110 } : Room) [.ref (a 0), .ref (b 0)] (cwWriter kI a z_characters z_entries ++ cwBook kI b o1_alphabet_out o1_signing o1_signs o1_sizes o1_lost o1_pile) sz (fun (u : RowT × Int32) => Post u.1 u.2) (fun u : RowT × Int32 => (cwWriter kI a u.1 u.2 ++ cwBook kI b o1_alphabet_out o1_signing o1_signs o1_sizes o1_lost o1_pile)) := by
  refine entMv (by decide) (Nat.le_of_ble_eq_true rfl) ?_
  intro p e s m args below meth c ls A C hA hP hD hS hl
  obtain ⟨H, hHe⟩ : ∃ H, H = s.heap := ⟨_, rfl⟩
  obtain ⟨locs, hlo⟩ : ∃ lo : List Loc, lo = [] := ⟨_, rfl⟩
  have hS : va_S A s.heap H locs := by rw [hHe, hlo]; exact hS
  rw [← hHe] at hP
  suffices hg : W p l e ({ frames := 5, cells := 0, slots := 0, locals := 110 } : Room) s m args below meth c H locs 0 0 (MQ below (va_Qv (fun (u : RowT × Int32) => Post u.1 u.2) (BB D A (fun u : RowT × Int32 => (cwWriter kI a u.1 u.2 ++ cwBook kI b o1_alphabet_out o1_signing o1_signs o1_sizes o1_lost o1_pile))) A) args s 0 0 A) (F0 m 0 ls []) by rw [hHe, hlo] at hg; exact hg
  replace hl : lv_has ls 4 [(0, .ref (a 0)), (1, .ref (b 0))] := hl
  obtain ⟨hx, hb, hr, hml, hown, hts, hlocks, hK⟩ := id C
  refine lv_aload_n hx hb dX7_write_0 rfl (lv_at hl 0 rfl) ?_
  refine va_get (D := D) (ci := 5) (v := .ref (a 1)) (C := RX7) (T := TX7) (N := 2) hx hb hts inX7 hown hK.1 hP 0 rfl rfl 0 (by decide) (hts _ tw_152) (fun _ h9 => h9) rfl dX7_write_1 ?_
  refine kMVv (q0 := 1) (As := []) (rest := []) C (c_X4_empty l D kI kC kB (fun i => a (i + 1)) z_characters H.size _ hw) ⟨rfl, rfl⟩ ce_X4_empty cv_X4_empty tw_565 ⟨Nat.le_of_ble_eq_true rfl, Nat.le_of_ble_eq_true rfl⟩ hP hD hS hA [1, 2] rfl rfl (fun _ => rfl) rfl rfl rfl hl.1 rfl (Nat.le_of_ble_eq_true rfl) ⟨Nat.zero_le _, Nat.zero_le _⟩ dX7_write_4 (fun u H locs hw hP hD hS => ?_)
  obtain ⟨u12, rfl⟩ : ∃ z, z = u := ⟨_, rfl⟩
  try dsimp only at hw
  replace hP : va_P D vwCl (cwWriter kI a u12 z_entries ++ cwBook kI b o1_alphabet_out o1_signing o1_signs o1_sizes o1_lost o1_pile) H := hP
  replace hD : va_D A (cwWriter kI a u12 z_entries ++ cwBook kI b o1_alphabet_out o1_signing o1_signs o1_sizes o1_lost o1_pile) := hD
  refine lv_aload_n hx hb dX7_write_7 rfl (lv_at hl 0 rfl) ?_
  refine lv_iconst (v := (nI 0)) hx hb dX7_write_8 (by decide) ?_
  refine va_put (D := D) (ci := 5) (v := .int (nI 0)) (ty := .int) (C := RX7) (T := TX7) (N := 2) hx hb hts inX7 tyX7 tyX7_ok nmX7 hown hK.1 hP hD hS 0 rfl rfl 1 (by decide) (hts _ tw_153) (fun _ h9 => h9) rfl (tyX7_ok 1 (by decide)) rfl rfl (Nat.le_of_ble_eq_true rfl) dX7_write_9 (fun H locs hP hD hS => ?_)
  replace hP : va_P D vwCl (cwWriter kI a u12 (nI 0) ++ cwBook kI b o1_alphabet_out o1_signing o1_signs o1_sizes o1_lost o1_pile) H := hP
  replace hD : va_D A (cwWriter kI a u12 (nI 0) ++ cwBook kI b o1_alphabet_out o1_signing o1_signs o1_sizes o1_lost o1_pile) := hD
  refine lv_iconst (v := (nI 0)) hx hb dX7_write_12 (by decide) ?_
  refine lv_istore_n (lv' := [(2, .int (nI 0)), (0, .ref (a 0)), (1, .ref (b 0))]) hx hb dX7_write_13 rfl hl (by decide) rfl (fun ls hl => ?_)
  obtain ⟨n9, hw⟩ := hw
  exact cl_X7_write_14 l D kI kC kB a b o1_alphabet_out o1_signing o1_signs o1_sizes o1_lost o1_pile Post hA C n9 u12 (nI 0) (nI 0) hw H locs hP hD hS ls (lv_sub hl [1, 2, 0] rfl)
set_option maxHeartbeats 4000000 in
set_option maxRecDepth 100000 in
theorem c_X7_length (l : Launch) (D : va_G) (kI kC kB : ClassId) (a : AdT) (z_characters : RowT) (z_entries : Int32) (Post : Int32 → Prop) (hw : wp_X7_length z_characters Post) : CR l D kI kC kB yX7_length cX7_length 1 (some .int) ({ frames := 1, cells := 0, slots := 0, locals := 20 } : Room) [.ref (a 0)] (cwWriter kI a z_characters z_entries) Post := by
  refine entR (by decide) (Nat.le_of_ble_eq_true rfl) ?_
  intro p e s m args below meth c ls C hP hl
  replace hl : lv_has ls 1 [(0, .ref (a 0))] := hl
  obtain ⟨hx, hb, hr, hml, hown, hts, hlocks, hK⟩ := id C
  refine lv_aload_n hx hb dX7_length_0 rfl (lv_at hl 0 rfl) ?_
  refine va_get (D := D) (ci := 5) (v := .ref (a 1)) (C := RX7) (T := TX7) (N := 2) hx hb hts inX7 hown hK.1 hP 0 rfl rfl 0 (by decide) (hts _ tw_152) (fun _ h9 => h9) rfl dX7_length_1 ?_
  refine kRV (As := []) (rest := []) (q0 := 1) C (c_X4_length l D kI kC kB (fun i => a (i + 1)) z_characters _ hw) ⟨rfl, rfl⟩ ce_X4_length cv_X4_length tw_592 ⟨Nat.le_of_ble_eq_true rfl, Nat.le_of_ble_eq_true rfl⟩ hP [1, 2] rfl rfl rfl rfl hl.1 rfl (Nat.le_of_ble_eq_true rfl) ⟨Nat.zero_le _, Nat.zero_le _⟩ dX7_length_4 (fun r1 hw => ?_)
  exact retR C hw dX7_length_7
set_option maxHeartbeats 4000000 in
set_option maxRecDepth 100000 in
theorem c_X7_characterAt (l : Launch) (D : va_G) (kI kC kB : ClassId) (a : AdT) (z_characters : RowT) (z_entries : Int32) (p1 : Int32) (Post : Int32 → Prop) (hw : wp_X7_characterAt z_characters p1 Post) : CR l D kI kC kB yX7_characterAt cX7_characterAt 2 (some .int) ({ frames := 1, cells := 0, slots := 0, locals := 21 } : Room) [.ref (a 0), .int p1] (cwWriter kI a z_characters z_entries) Post := by
  refine entR (by decide) (Nat.le_of_ble_eq_true rfl) ?_
  intro p e s m args below meth c ls C hP hl
  replace hl : lv_has ls 2 [(0, .ref (a 0)), (1, .int p1)] := hl
  obtain ⟨hx, hb, hr, hml, hown, hts, hlocks, hK⟩ := id C
  refine lv_aload_n hx hb dX7_characterAt_0 rfl (lv_at hl 0 rfl) ?_
  refine va_get (D := D) (ci := 5) (v := .ref (a 1)) (C := RX7) (T := TX7) (N := 2) hx hb hts inX7 hown hK.1 hP 0 rfl rfl 0 (by decide) (hts _ tw_152) (fun _ h9 => h9) rfl dX7_characterAt_1 ?_
  refine lv_iload_n hx hb dX7_characterAt_4 rfl (lv_at hl 1 rfl) ?_
  refine kRV (As := [.int p1]) (rest := []) (q0 := 1) C (c_X4_at l D kI kC kB (fun i => a (i + 1)) z_characters p1 _ hw) ⟨rfl, rfl⟩ ce_X4_at cv_X4_at tw_570 ⟨Nat.le_of_ble_eq_true rfl, Nat.le_of_ble_eq_true rfl⟩ hP [1, 2] rfl rfl rfl rfl hl.1 rfl (Nat.le_of_ble_eq_true rfl) ⟨Nat.zero_le _, Nat.zero_le _⟩ dX7_characterAt_5 (fun r1 hw => ?_)
  exact retR C hw dX7_characterAt_8
set_option maxHeartbeats 4000000 in
set_option maxRecDepth 100000 in
theorem c_X7_entries (l : Launch) (D : va_G) (kI kC kB : ClassId) (a : AdT) (z_characters : RowT) (z_entries : Int32) (Post : Int32 → Prop) (hw : wp_X7_entries z_entries Post) : CR l D kI kC kB yX7_entries cX7_entries 1 (some .int) ({ frames := 0, cells := 0, slots := 0, locals := 0 } : Room) [.ref (a 0)] (cwWriter kI a z_characters z_entries) Post := by
  refine entR (by decide) (Nat.le_of_ble_eq_true rfl) ?_
  intro p e s m args below meth c ls C hP hl
  replace hl : lv_has ls 1 [(0, .ref (a 0))] := hl
  obtain ⟨hx, hb, hr, hml, hown, hts, hlocks, hK⟩ := id C
  refine lv_aload_n hx hb dX7_entries_0 rfl (lv_at hl 0 rfl) ?_
  refine va_get (D := D) (ci := 5) (v := .int z_entries) (C := RX7) (T := TX7) (N := 2) hx hb hts inX7 hown hK.1 hP 0 rfl rfl 1 (by decide) (hts _ tw_153) (fun _ h9 => h9) rfl dX7_entries_1 ?_
  exact retR C hw dX7_entries_4
set_option maxHeartbeats 4000000 in
set_option maxRecDepth 100000 in
theorem cl_X3_number_4 (l : Launch) (D : va_G) (kI kC kB : ClassId) (b : AdT) (o1_alphabet_out : Int32) (o1_signing : Int32) (o1_signs : RowT) (o1_sizes : RowT) (o1_lost : RowT) (o1_pile : RowT) (Post : Int32 → Prop) {p : Program} {e : Env} {s : State} {m : MethodId} {args : Array Value} {below : List Frame} {meth : Method} {c : Code} (C : CtxT p s m args meth c cX3_number 3 (some .int) yX3_number.cls D kI kC kB) (hP : va_P D vwCl (cwBook kI b o1_alphabet_out o1_signing o1_signs o1_sizes o1_lost o1_pile) s.heap) : ∀ (n : Nat), ∀ (v1 : Int32) (v2 : Int32), wl_X3_number_4 o1_alphabet_out o1_signs Post n v1 v2 → ∀ (ls : Array Slot), lv_has ls 3 [(0, .ref (b 0)), (1, .int v1), (2, .int v2)] → W p l e ({ frames := 3, cells := 0, slots := 0, locals := 66 } : Room) s m args below meth c s.heap [] 0 0 (MQ below (vp_Si Post) args s 0 0 (fun _ => False)) (F0 m 4 ls []) := by
  obtain ⟨hx, hb, hr, hml, hown, hts, hlocks, hK⟩ := id C
  intro n
  induction n with
  | zero => intro v1 v2 hw; exact hw.elim
  | succ n ih =>
    intro v1 v2 hw ls hl
    refine lv_iload_n hx hb dX3_number_4 rfl (lv_at hl 2 rfl) ?_
    refine lv_aload_n hx hb dX3_number_5 rfl (lv_at hl 0 rfl) ?_
    refine kRV (As := []) (rest := [.int v2]) (q0 := 0) C (c_X1_quires l D kI kC kB b o1_alphabet_out o1_signing o1_signs o1_sizes o1_lost o1_pile _ hw) ⟨rfl, rfl⟩ ce_X1_quires cv_X1_quires tw_535 ⟨Nat.le_of_ble_eq_true rfl, Nat.le_of_ble_eq_true rfl⟩ hP [0, 1, 2, 3, 4, 5, 6, 7, 8, 9] rfl rfl rfl rfl hl.1 rfl (Nat.le_of_ble_eq_true rfl) ⟨Nat.zero_le _, Nat.zero_le _⟩ dX3_number_6 (fun r1 hw => ?_)
    refine lv_icmp_ge (tgt := 30) hx hb dX3_number_9 (by decide) (fun hc => ?_) (fun hc => ?_)
    · replace hw := hw.1 hc
      refine lv_iload_n hx hb dX3_number_30 rfl (lv_at hl 1 rfl) ?_
      exact retR C hw dX3_number_31
    · replace hw := hw.2 hc
      refine lv_aload_n hx hb dX3_number_12 rfl (lv_at hl 0 rfl) ?_
      refine lv_iload_n hx hb dX3_number_13 rfl (lv_at hl 2 rfl) ?_
      refine kRS (As := [.ref (b 0), .int v2]) (rest := []) C (c_X3_kind l D kI kC kB b o1_alphabet_out o1_signing o1_signs o1_sizes o1_lost o1_pile v2 _ hw) ⟨rfl, rfl⟩ ce_X3_kind cv_X3_kind tw_536 ⟨Nat.le_of_ble_eq_true rfl, Nat.le_of_ble_eq_true rfl⟩ hP [0, 1, 2, 3, 4, 5, 6, 7, 8, 9] rfl hl.1 rfl (Nat.le_of_ble_eq_true rfl) ⟨Nat.zero_le _, Nat.zero_le _⟩ dX3_number_14 (fun r2 hw => ?_)
      refine lv_iconst (v := (-1)) hx hb dX3_number_17 (by decide) ?_
      refine lv_icmp_eq (tgt := 24) hx hb dX3_number_18 (by decide) (fun hc => ?_) (fun hc => ?_)
      · replace hw := hw.1 hc
        refine lv_iinc (v := (v2 + nI 1)) (lv' := [(2, .int (v2 + nI 1)), (0, .ref (b 0)), (1, .int v1)]) hx hb dX3_number_24 hl (k := 2) rfl rfl (by decide) rfl (fun ls hl => ?_)
        refine lv_goto (tgt := 4) hx hb dX3_number_27 (by decide) ?_
        exact ih v1 (v2 + nI 1) hw ls (lv_sub hl [1, 2, 0] rfl)
      · replace hw := hw.2 hc
        refine lv_iinc (v := (v1 + nI 1)) (lv' := [(1, .int (v1 + nI 1)), (0, .ref (b 0)), (2, .int v2)]) hx hb dX3_number_21 hl (k := 1) rfl rfl (by decide) rfl (fun ls hl => ?_)
        refine lv_iinc (v := (v2 + nI 1)) (lv' := [(2, .int (v2 + nI 1)), (1, .int (v1 + nI 1)), (0, .ref (b 0))]) hx hb dX3_number_24 hl (k := 2) rfl rfl (by decide) rfl (fun ls hl => ?_)
        refine lv_goto (tgt := 4) hx hb dX3_number_27 (by decide) ?_
        exact ih (v1 + nI 1) (v2 + nI 1) hw ls (lv_sub hl [2, 1, 0] rfl)
set_option maxHeartbeats 4000000 in
set_option maxRecDepth 100000 in
theorem c_X3_number (l : Launch) (D : va_G) (kI kC kB : ClassId) (b : AdT) (o1_alphabet_out : Int32) (o1_signing : Int32) (o1_signs : RowT) (o1_sizes : RowT) (o1_lost : RowT) (o1_pile : RowT) (Post : Int32 → Prop) (hw : wp_X3_number o1_alphabet_out o1_signs Post) : CR l D kI kC kB yX3_number cX3_number 3 (some .int) ({ frames := 3, cells := 0, slots := 0, locals := 66 } : Room) [.ref (b 0)] (cwBook kI b o1_alphabet_out o1_signing o1_signs o1_sizes o1_lost o1_pile) Post := by
  refine entR (by decide) (Nat.le_of_ble_eq_true rfl) ?_
  intro p e s m args below meth c ls C hP hl
  replace hl : lv_has ls 3 [(0, .ref (b 0))] := hl
  obtain ⟨hx, hb, hr, hml, hown, hts, hlocks, hK⟩ := id C
  refine lv_iconst (v := (nI 0)) hx hb dX3_number_0 (by decide) ?_
  refine lv_istore_n (lv' := [(1, .int (nI 0)), (0, .ref (b 0))]) hx hb dX3_number_1 rfl hl (by decide) rfl (fun ls hl => ?_)
  refine lv_iconst (v := (nI 0)) hx hb dX3_number_2 (by decide) ?_
  refine lv_istore_n (lv' := [(2, .int (nI 0)), (1, .int (nI 0)), (0, .ref (b 0))]) hx hb dX3_number_3 rfl hl (by decide) rfl (fun ls hl => ?_)
  obtain ⟨n9, hw⟩ := hw
  exact cl_X3_number_4 l D kI kC kB b o1_alphabet_out o1_signing o1_signs o1_sizes o1_lost o1_pile Post C hP n9 (nI 0) (nI 0) hw ls (lv_sub hl [2, 1, 0] rfl)
