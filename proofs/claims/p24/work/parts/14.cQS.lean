/-! contracts, printed (gen.py) -/
theorem ce_X8_leaveOut : CE yX8_leaveOut cX8_leaveOut 5 (some .int) 2 := ⟨tw_186, tw_17, ⟨by decide, by decide⟩, ce_par (by decide +kernel)⟩
theorem cv_X8_leaveOut : CV yX8_leaveOut := ⟨tw_184, tw_185⟩
theorem ce_X8_setSigning : CE yX8_setSigning cX8_setSigning 2 (some .int) 1 := ⟨tw_243, tw_17, ⟨by decide, by decide⟩, ce_par (by decide +kernel)⟩
theorem cv_X8_setSigning : CV yX8_setSigning := ⟨tw_241, tw_242⟩
theorem ce_X8_readFormula : CE yX8_readFormula cX8_readFormula 3 (some .int) 0 := ⟨tw_265, tw_17, ⟨by decide, by decide⟩, ce_par (by decide +kernel)⟩
theorem cv_X8_readFormula : CV yX8_readFormula := ⟨tw_263, tw_264⟩
theorem ce_X8_signNext : CE yX8_signNext cX8_signNext 3 (some .int) 1 := ⟨tw_373, tw_17, ⟨by decide, by decide⟩, ce_par (by decide +kernel)⟩
theorem cv_X8_signNext : CV yX8_signNext := ⟨tw_371, tw_372⟩
theorem ce_X8_insert : CE yX8_insert cX8_insert 4 (some .int) 3 := ⟨tw_389, tw_17, ⟨by decide, by decide⟩, ce_par (by decide +kernel)⟩
theorem cv_X8_insert : CV yX8_insert := ⟨tw_387, tw_388⟩
theorem ce_X8_remove : CE yX8_remove cX8_remove 2 (some .int) 1 := ⟨tw_402, tw_17, ⟨by decide, by decide⟩, ce_par (by decide +kernel)⟩
theorem cv_X8_remove : CV yX8_remove := ⟨tw_400, tw_401⟩
theorem ce_X8_lose : CE yX8_lose cX8_lose 3 (some .int) 2 := ⟨tw_418, tw_17, ⟨by decide, by decide⟩, ce_par (by decide +kernel)⟩
theorem cv_X8_lose : CV yX8_lose := ⟨tw_416, tw_417⟩
theorem ce_X8_type : CE yX8_type cX8_type 2 (some .int) 1 := ⟨tw_454, tw_17, ⟨by decide, by decide⟩, ce_par (by decide +kernel)⟩
theorem cv_X8_type : CV yX8_type := ⟨tw_452, tw_453⟩
theorem ce_X8_clearText : CE yX8_clearText cX8_clearText 2 (some .int) 0 := ⟨tw_466, tw_17, ⟨by decide, by decide⟩, ce_par (by decide +kernel)⟩
theorem cv_X8_clearText : CV yX8_clearText := ⟨tw_464, tw_465⟩
theorem ce_X8_undo : CE yX8_undo cX8_undo 1 (some .int) 0 := ⟨tw_474, tw_17, ⟨by decide, by decide⟩, ce_par (by decide +kernel)⟩
theorem cv_X8_undo : CV yX8_undo := ⟨tw_472, tw_473⟩
theorem ce_X8_restore : CE yX8_restore cX8_restore 1 (some .int) 0 := ⟨tw_486, tw_17, ⟨by decide, by decide⟩, ce_par (by decide +kernel)⟩
theorem cv_X8_restore : CV yX8_restore := ⟨tw_484, tw_485⟩
theorem ce_X8_quire : CE yX8_quire cX8_quire 4 (some .int) 2 := ⟨tw_491, tw_17, ⟨by decide, by decide⟩, ce_par (by decide +kernel)⟩
theorem cv_X8_quire : CV yX8_quire := ⟨tw_489, tw_490⟩
theorem ce_X8_leaf : CE yX8_leaf cX8_leaf 5 (some .int) 2 := ⟨tw_508, tw_17, ⟨by decide, by decide⟩, ce_par (by decide +kernel)⟩
theorem cv_X8_leaf : CV yX8_leaf := ⟨tw_506, tw_507⟩
theorem ce_X8_find : CE yX8_find cX8_find 3 (some .int) 0 := ⟨tw_519, tw_17, ⟨by decide, by decide⟩, ce_par (by decide +kernel)⟩
theorem cv_X8_find : CV yX8_find := ⟨tw_517, tw_518⟩
theorem ce_X8_lapse : CE yX8_lapse cX8_lapse 4 (some .int) 2 := ⟨tw_531, tw_17, ⟨by decide, by decide⟩, ce_par (by decide +kernel)⟩
theorem cv_X8_lapse : CV yX8_lapse := ⟨tw_529, tw_530⟩
theorem ce_X8_piled : CE yX8_piled cX8_piled 4 (some .int) 2 := ⟨tw_551, tw_17, ⟨by decide, by decide⟩, ce_par (by decide +kernel)⟩
theorem cv_X8_piled : CV yX8_piled := ⟨tw_549, tw_550⟩
theorem ce_X8_sheets : CE yX8_sheets cX8_sheets 4 (some .int) 1 := ⟨tw_556, tw_17, ⟨by decide, by decide⟩, ce_par (by decide +kernel)⟩
theorem cv_X8_sheets : CV yX8_sheets := ⟨tw_554, tw_555⟩
theorem ce_X8_formula : CE yX8_formula cX8_formula 2 (some .int) 1 := ⟨tw_560, tw_17, ⟨by decide, by decide⟩, ce_par (by decide +kernel)⟩
theorem cv_X8_formula : CV yX8_formula := ⟨tw_558, tw_559⟩
theorem ce_X8_count : CE yX8_count cX8_count 2 (some .int) 1 := ⟨tw_600, tw_17, ⟨by decide, by decide⟩, ce_par (by decide +kernel)⟩
theorem cv_X8_count : CV yX8_count := ⟨tw_598, tw_599⟩
theorem ce_X8_isQuireSize : CE yX8_isQuireSize cX8_isQuireSize 1 (some .boolean) 1 := ⟨tw_376, tw_17, ⟨by decide, by decide⟩, ce_par (by decide +kernel)⟩
theorem cv_X8_isQuireSize : Cond.static yX8_isQuireSize ∈ gw := tw_375
theorem ce_X8_quiresOfText : CE yX8_quiresOfText cX8_quiresOfText 5 (some .int) 0 := ⟨tw_334, tw_17, ⟨by decide, by decide⟩, ce_par (by decide +kernel)⟩
theorem cv_X8_quiresOfText : CV yX8_quiresOfText := ⟨tw_333, tw_10⟩
theorem ce_X8_addEntry : CE yX8_addEntry cX8_addEntry 5 none 1 := ⟨tw_358, tw_17, ⟨by decide, by decide⟩, ce_par (by decide +kernel)⟩
theorem cv_X8_addEntry : CV yX8_addEntry := ⟨tw_357, tw_11⟩
theorem ce_X8_leafHangingWith : CE yX8_leafHangingWith cX8_leafHangingWith 5 (some .int) 1 := ⟨tw_514, tw_17, ⟨by decide, by decide⟩, ce_par (by decide +kernel)⟩
theorem cv_X8_leafHangingWith : CV yX8_leafHangingWith := ⟨tw_513, tw_12⟩
set_option maxHeartbeats 4000000 in
set_option maxRecDepth 100000 in
theorem cj_X8_leaveOut_64 (l : Launch) (D : va_G) (kI kC kB : ClassId) (a : AdT) (h_ : Nat → AdT) (z_snapshotTaken : Int32) (z_book_alphabet_out : Int32) (z_book_signing : Int32) (z_book_signs : RowT) (z_book_sizes : RowT) (z_book_lost : RowT) (z_book_pile : RowT) (z_snapshot_alphabet_out : Int32) (z_snapshot_signing : Int32) (z_snapshot_signs : RowT) (z_snapshot_sizes : RowT) (z_snapshot_lost : RowT) (z_snapshot_pile : RowT) (z_history : HistT) (z_text_characters : RowT) (z_text_firstSigns : RowT) (z_text_lastSigns : RowT) (z_text_numbers : RowT) (z_text_at : Int32) (z_text_allLetters_out : Int32) (z_writer_characters : RowT) (z_writer_entries : Int32) (z_found : RowT) (p2 : Int32) (v3 : Int32) (v4 : Int32) (Post : Int32 → Int32 → HistT → Prop) {p : Program} {e : Env} {s : State} {m : MethodId} {args : Array Value} {below : List Frame} {meth : Method} {c : Code} {A : Nat → Prop} (hA : ∀ q : Nat, s.heap.size ≤ q → A q) (C : CtxT p s m args meth c cX8_leaveOut 5 (some .int) yX8_leaveOut.cls D kI kC kB) : wj_X8_leaveOut_64 z_book_alphabet_out z_book_signing z_book_signs z_book_sizes z_book_lost z_book_pile z_history p2 v3 v4 Post → ∀ (H : Heap) (locs : List Loc), va_P D vwCl (cwQS kI kB a h_ z_snapshotTaken z_book_alphabet_out z_book_signing z_book_signs z_book_sizes z_book_lost z_book_pile z_snapshot_alphabet_out z_snapshot_signing z_snapshot_signs z_snapshot_sizes z_snapshot_lost z_snapshot_pile z_history z_text_characters z_text_firstSigns z_text_lastSigns z_text_numbers z_text_at z_text_allLetters_out z_writer_characters z_writer_entries z_found) H → va_D A (cwQS kI kB a h_ z_snapshotTaken z_book_alphabet_out z_book_signing z_book_signs z_book_sizes z_book_lost z_book_pile z_snapshot_alphabet_out z_snapshot_signing z_snapshot_signs z_snapshot_sizes z_snapshot_lost z_snapshot_pile z_history z_text_characters z_text_firstSigns z_text_lastSigns z_text_numbers z_text_at z_text_allLetters_out z_writer_characters z_writer_entries z_found) → va_S A s.heap H locs → ∀ (ls : Array Slot), lv_has ls 5 [(0, .ref (a 0)), (2, .int p2), (3, .int v3), (4, .int v4)] → W p l e ({ frames := 4, cells := 0, slots := 0, locals := 87 } : Room) s m args below meth c H locs 0 0 (MQ below (va_Qi (fun (r : Int32) (u : (Nat → AdT) × Int32 × HistT) => Post r u.2.1 u.2.2) (BB D A (fun u : (Nat → AdT) × Int32 × HistT => (cwQS kI kB a u.1 z_snapshotTaken u.2.1 z_book_signing z_book_signs z_book_sizes z_book_lost z_book_pile z_snapshot_alphabet_out z_snapshot_signing z_snapshot_signs z_snapshot_sizes z_snapshot_lost z_snapshot_pile u.2.2 z_text_characters z_text_firstSigns z_text_lastSigns z_text_numbers z_text_at z_text_allLetters_out z_writer_characters z_writer_entries z_found))) A) args s 0 0 A) (F0 m 64 ls []) := by
  obtain ⟨hx, hb, hr, hml, hown, hts, hlocks, hK⟩ := id C
  intro hw H locs hP hD hS ls hl
  refine lv_iload_n hx hb dX8_leaveOut_64 rfl (lv_at hl 1 rfl) ?_
  refine lv_iload hx hb dX8_leaveOut_65 (lv_at hl 3 rfl) ?_
  refine lv_icmp_ne (tgt := 73) hx hb dX8_leaveOut_67 (by decide) (fun hc => ?_) (fun hc => ?_)
  · replace hw := hw.2 hc
    refine lv_aload_n hx hb dX8_leaveOut_73 rfl (lv_at hl 0 rfl) ?_
    refine va_get (D := D) (ci := 6) (v := .ref (a 21)) (C := RX8) (T := TX8) (N := 7) hx hb hts inX8 hown hK.1 hP 0 rfl rfl 3 (by decide) (hts _ tw_164) (fun _ h9 => h9) rfl dX8_leaveOut_74 ?_
    refine lv_aload_n hx hb dX8_leaveOut_77 rfl (lv_at hl 0 rfl) ?_
    refine va_get (D := D) (ci := 6) (v := .ref (a 1)) (C := RX8) (T := TX8) (N := 7) hx hb hts inX8 hown hK.1 hP 0 rfl rfl 0 (by decide) (hts _ tw_161) (fun _ h9 => h9) rfl dX8_leaveOut_78 ?_
    refine kMBv (q0 := 0) (As := [.ref (a 1)]) (rest := []) (ws' := fun u : (Nat → AdT) × HistT => (cwQS kI kB a u.1 z_snapshotTaken z_book_alphabet_out z_book_signing z_book_signs z_book_sizes z_book_lost z_book_pile z_snapshot_alphabet_out z_snapshot_signing z_snapshot_signs z_snapshot_sizes z_snapshot_lost z_snapshot_pile u.2 z_text_characters z_text_firstSigns z_text_lastSigns z_text_numbers z_text_at z_text_allLetters_out z_writer_characters z_writer_entries z_found)) C (c_X2_record l D kI kC kB (fun i => a (i + 21)) h_ (fun i => a (i + 1)) z_history z_book_alphabet_out z_book_signing z_book_signs z_book_sizes z_book_lost z_book_pile H.size _ hw) ⟨rfl, rfl⟩ ce_X2_record cv_X2_record tw_201 ⟨Nat.le_of_ble_eq_true rfl, Nat.le_of_ble_eq_true rfl⟩ hP hD hS hA (bfl_p2 [_, _, _, _, _, _, _, _] 3 1 rfl rfl) (fun u => (bfl_p2 [_, _, _, _, _, _, _, _] 3 1 rfl rfl)) rfl rfl rfl hl.1 rfl (Nat.le_of_ble_eq_true rfl) ⟨Nat.zero_le _, Nat.zero_le _⟩ dX8_leaveOut_81 (fun u H locs hw hP hD hS => ?_)
    obtain ⟨h2, u1⟩ := u
    try dsimp only at hw
    replace hP : va_P D vwCl (cwQS kI kB a h2 z_snapshotTaken z_book_alphabet_out z_book_signing z_book_signs z_book_sizes z_book_lost z_book_pile z_snapshot_alphabet_out z_snapshot_signing z_snapshot_signs z_snapshot_sizes z_snapshot_lost z_snapshot_pile u1 z_text_characters z_text_firstSigns z_text_lastSigns z_text_numbers z_text_at z_text_allLetters_out z_writer_characters z_writer_entries z_found) H := hP
    replace hD : va_D A (cwQS kI kB a h2 z_snapshotTaken z_book_alphabet_out z_book_signing z_book_signs z_book_sizes z_book_lost z_book_pile z_snapshot_alphabet_out z_snapshot_signing z_snapshot_signs z_snapshot_sizes z_snapshot_lost z_snapshot_pile u1 z_text_characters z_text_firstSigns z_text_lastSigns z_text_numbers z_text_at z_text_allLetters_out z_writer_characters z_writer_entries z_found) := hD
    refine lv_aload_n hx hb dX8_leaveOut_84 rfl (lv_at hl 0 rfl) ?_
    refine va_get (D := D) (ci := 6) (v := .ref (a 1)) (C := RX8) (T := TX8) (N := 7) hx hb hts inX8 hown hK.1 hP 0 rfl rfl 0 (by decide) (hts _ tw_161) (fun _ h9 => h9) rfl dX8_leaveOut_85 ?_
    refine va_getN (D := D) (ci := 1) (v := .ref (a 2)) (C := RX1) (T := TX1) (N := 6) hx hb hts inX1 hown hK.1 hP 1 rfl rfl 0 (by decide) (va_Nw.use rfl (hK.2.1 _ nw_71)) (fun _ h9 => h9) rfl dX8_leaveOut_88 ?_
    refine lv_iload_n hx hb dX8_leaveOut_91 rfl (lv_at hl 2 rfl) ?_
    refine kMVv (q0 := 2) (As := [.int v3]) (rest := []) C (c_X0_turn l D kI kC kB (fun i => a (i + 2)) z_book_alphabet_out H.size v3 _ hw) ⟨rfl, rfl⟩ ce_X0_turn cv_X0_turn tw_236 ⟨Nat.le_of_ble_eq_true rfl, Nat.le_of_ble_eq_true rfl⟩ hP hD hS hA [2] rfl rfl (fun _ => rfl) rfl rfl rfl hl.1 rfl (Nat.le_of_ble_eq_true rfl) ⟨Nat.zero_le _, Nat.zero_le _⟩ dX8_leaveOut_92 (fun u H locs hw hP hD hS => ?_)
    obtain ⟨u3, rfl⟩ : ∃ z, z = u := ⟨_, rfl⟩
    try dsimp only at hw
    replace hP : va_P D vwCl (cwQS kI kB a h2 z_snapshotTaken u3 z_book_signing z_book_signs z_book_sizes z_book_lost z_book_pile z_snapshot_alphabet_out z_snapshot_signing z_snapshot_signs z_snapshot_sizes z_snapshot_lost z_snapshot_pile u1 z_text_characters z_text_firstSigns z_text_lastSigns z_text_numbers z_text_at z_text_allLetters_out z_writer_characters z_writer_entries z_found) H := hP
    replace hD : va_D A (cwQS kI kB a h2 z_snapshotTaken u3 z_book_signing z_book_signs z_book_sizes z_book_lost z_book_pile z_snapshot_alphabet_out z_snapshot_signing z_snapshot_signs z_snapshot_sizes z_snapshot_lost z_snapshot_pile u1 z_text_characters z_text_firstSigns z_text_lastSigns z_text_numbers z_text_at z_text_allLetters_out z_writer_characters z_writer_entries z_found) := hD
    refine lv_aload_n hx hb dX8_leaveOut_95 rfl (lv_at hl 0 rfl) ?_
    refine va_get (D := D) (ci := 6) (v := .ref (a 1)) (C := RX8) (T := TX8) (N := 7) hx hb hts inX8 hown hK.1 hP 0 rfl rfl 0 (by decide) (hts _ tw_161) (fun _ h9 => h9) rfl dX8_leaveOut_96 ?_
    refine va_getN (D := D) (ci := 1) (v := .ref (a 2)) (C := RX1) (T := TX1) (N := 6) hx hb hts inX1 hown hK.1 hP 1 rfl rfl 0 (by decide) (va_Nw.use rfl (hK.2.1 _ nw_71)) (fun _ h9 => h9) rfl dX8_leaveOut_99 ?_
    refine kRV (As := []) (rest := []) (q0 := 2) C (c_X0_letters l D kI kC kB (fun i => a (i + 2)) u3 _ hw) ⟨rfl, rfl⟩ ce_X0_letters cv_X0_letters tw_191 ⟨Nat.le_of_ble_eq_true rfl, Nat.le_of_ble_eq_true rfl⟩ hP [2] rfl rfl rfl rfl hl.1 rfl (Nat.le_of_ble_eq_true rfl) ⟨Nat.zero_le _, Nat.zero_le _⟩ dX8_leaveOut_102 (fun r4 hw => ?_)
    exact retMi C (h2, u3, u1) hw hP hD hS dX8_leaveOut_105
  · replace hw := hw.1 hc
    refine lv_bipush (v := (-5)) hx hb dX8_leaveOut_70 (by decide) ?_
    exact retMi C (h_, z_book_alphabet_out, z_history) hw hP hD hS dX8_leaveOut_72
set_option maxHeartbeats 4000000 in
set_option maxRecDepth 100000 in
theorem cj_X8_leaveOut_36 (l : Launch) (D : va_G) (kI kC kB : ClassId) (a : AdT) (h_ : Nat → AdT) (z_snapshotTaken : Int32) (z_book_alphabet_out : Int32) (z_book_signing : Int32) (z_book_signs : RowT) (z_book_sizes : RowT) (z_book_lost : RowT) (z_book_pile : RowT) (z_snapshot_alphabet_out : Int32) (z_snapshot_signing : Int32) (z_snapshot_signs : RowT) (z_snapshot_sizes : RowT) (z_snapshot_lost : RowT) (z_snapshot_pile : RowT) (z_history : HistT) (z_text_characters : RowT) (z_text_firstSigns : RowT) (z_text_lastSigns : RowT) (z_text_numbers : RowT) (z_text_at : Int32) (z_text_allLetters_out : Int32) (z_writer_characters : RowT) (z_writer_entries : Int32) (z_found : RowT) (p2 : Int32) (v3 : Int32) (Post : Int32 → Int32 → HistT → Prop) {p : Program} {e : Env} {s : State} {m : MethodId} {args : Array Value} {below : List Frame} {meth : Method} {c : Code} {A : Nat → Prop} (hA : ∀ q : Nat, s.heap.size ≤ q → A q) (C : CtxT p s m args meth c cX8_leaveOut 5 (some .int) yX8_leaveOut.cls D kI kC kB) : ∀ (t0 : Int32), wj_X8_leaveOut_36 z_book_alphabet_out z_book_signing z_book_signs z_book_sizes z_book_lost z_book_pile z_history p2 v3 t0 Post → ∀ (H : Heap) (locs : List Loc), va_P D vwCl (cwQS kI kB a h_ z_snapshotTaken z_book_alphabet_out z_book_signing z_book_signs z_book_sizes z_book_lost z_book_pile z_snapshot_alphabet_out z_snapshot_signing z_snapshot_signs z_snapshot_sizes z_snapshot_lost z_snapshot_pile z_history z_text_characters z_text_firstSigns z_text_lastSigns z_text_numbers z_text_at z_text_allLetters_out z_writer_characters z_writer_entries z_found) H → va_D A (cwQS kI kB a h_ z_snapshotTaken z_book_alphabet_out z_book_signing z_book_signs z_book_sizes z_book_lost z_book_pile z_snapshot_alphabet_out z_snapshot_signing z_snapshot_signs z_snapshot_sizes z_snapshot_lost z_snapshot_pile z_history z_text_characters z_text_firstSigns z_text_lastSigns z_text_numbers z_text_at z_text_allLetters_out z_writer_characters z_writer_entries z_found) → va_S A s.heap H locs → ∀ (ls : Array Slot), lv_has ls 5 [(0, .ref (a 0)), (2, .int p2), (3, .int v3)] → W p l e ({ frames := 4, cells := 0, slots := 0, locals := 87 } : Room) s m args below meth c H locs 0 0 (MQ below (va_Qi (fun (r : Int32) (u : (Nat → AdT) × Int32 × HistT) => Post r u.2.1 u.2.2) (BB D A (fun u : (Nat → AdT) × Int32 × HistT => (cwQS kI kB a u.1 z_snapshotTaken u.2.1 z_book_signing z_book_signs z_book_sizes z_book_lost z_book_pile z_snapshot_alphabet_out z_snapshot_signing z_snapshot_signs z_snapshot_sizes z_snapshot_lost z_snapshot_pile u.2.2 z_text_characters z_text_firstSigns z_text_lastSigns z_text_numbers z_text_at z_text_allLetters_out z_writer_characters z_writer_entries z_found))) A) args s 0 0 A) (F0 m 36 ls [.int t0]) := by
  obtain ⟨hx, hb, hr, hml, hown, hts, hlocks, hK⟩ := id C
  intro t0 hw H locs hP hD hS ls hl
  refine lv_istore (lv' := [(4, .int t0), (0, .ref (a 0)), (2, .int p2), (3, .int v3)]) hx hb dX8_leaveOut_36 hl (by decide) rfl (fun ls hl => ?_)
  refine lv_iload_n hx hb dX8_leaveOut_38 rfl (lv_at hl 2 rfl) ?_
  refine lv_if_eq (tgt := 64) hx hb dX8_leaveOut_39 (by decide) (fun hc => ?_) (fun hc => ?_)
  · replace hw := hw.1 hc
    exact cj_X8_leaveOut_64 l D kI kC kB a h_ z_snapshotTaken z_book_alphabet_out z_book_signing z_book_signs z_book_sizes z_book_lost z_book_pile z_snapshot_alphabet_out z_snapshot_signing z_snapshot_signs z_snapshot_sizes z_snapshot_lost z_snapshot_pile z_history z_text_characters z_text_firstSigns z_text_lastSigns z_text_numbers z_text_at z_text_allLetters_out z_writer_characters z_writer_entries z_found p2 v3 t0 Post hA C hw H locs hP hD hS ls (lv_sub hl [1, 2, 3, 0] rfl)
  · replace hw := hw.2 hc
    refine lv_iload hx hb dX8_leaveOut_42 (lv_at hl 0 rfl) ?_
    refine lv_if_ne (tgt := 64) hx hb dX8_leaveOut_44 (by decide) (fun hc => ?_) (fun hc => ?_)
    · replace hw := hw.2 hc
      exact cj_X8_leaveOut_64 l D kI kC kB a h_ z_snapshotTaken z_book_alphabet_out z_book_signing z_book_signs z_book_sizes z_book_lost z_book_pile z_snapshot_alphabet_out z_snapshot_signing z_snapshot_signs z_snapshot_sizes z_snapshot_lost z_snapshot_pile z_history z_text_characters z_text_firstSigns z_text_lastSigns z_text_numbers z_text_at z_text_allLetters_out z_writer_characters z_writer_entries z_found p2 v3 t0 Post hA C hw H locs hP hD hS ls (lv_sub hl [1, 2, 3, 0] rfl)
    · replace hw := hw.1 hc
      refine lv_aload_n hx hb dX8_leaveOut_47 rfl (lv_at hl 1 rfl) ?_
      refine va_get (D := D) (ci := 6) (v := .ref (a 1)) (C := RX8) (T := TX8) (N := 7) hx hb hts inX8 hown hK.1 hP 0 rfl rfl 0 (by decide) (hts _ tw_161) (fun _ h9 => h9) rfl dX8_leaveOut_48 ?_
      refine va_getN (D := D) (ci := 1) (v := .ref (a 2)) (C := RX1) (T := TX1) (N := 6) hx hb hts inX1 hown hK.1 hP 1 rfl rfl 0 (by decide) (va_Nw.use rfl (hK.2.1 _ nw_71)) (fun _ h9 => h9) rfl dX8_leaveOut_51 ?_
      refine kRV (As := []) (rest := []) (q0 := 2) C (c_X0_letters l D kI kC kB (fun i => a (i + 2)) z_book_alphabet_out _ hw) ⟨rfl, rfl⟩ ce_X0_letters cv_X0_letters tw_191 ⟨Nat.le_of_ble_eq_true rfl, Nat.le_of_ble_eq_true rfl⟩ hP [2] rfl rfl rfl rfl hl.1 rfl (Nat.le_of_ble_eq_true rfl) ⟨Nat.zero_le _, Nat.zero_le _⟩ dX8_leaveOut_54 (fun r5 hw => ?_)
      refine lv_iconst (v := (nI 1)) hx hb dX8_leaveOut_57 (by decide) ?_
      refine lv_icmp_ne (tgt := 64) hx hb dX8_leaveOut_58 (by decide) (fun hc => ?_) (fun hc => ?_)
      · replace hw := hw.2 hc
        exact cj_X8_leaveOut_64 l D kI kC kB a h_ z_snapshotTaken z_book_alphabet_out z_book_signing z_book_signs z_book_sizes z_book_lost z_book_pile z_snapshot_alphabet_out z_snapshot_signing z_snapshot_signs z_snapshot_sizes z_snapshot_lost z_snapshot_pile z_history z_text_characters z_text_firstSigns z_text_lastSigns z_text_numbers z_text_at z_text_allLetters_out z_writer_characters z_writer_entries z_found p2 v3 t0 Post hA C hw H locs hP hD hS ls (lv_sub hl [1, 2, 3, 0] rfl)
      · replace hw := hw.1 hc
        refine lv_bipush (v := (-4)) hx hb dX8_leaveOut_61 (by decide) ?_
        exact retMi C (h_, z_book_alphabet_out, z_history) hw hP hD hS dX8_leaveOut_63
set_option maxHeartbeats 4000000 in
set_option maxRecDepth 100000 in
theorem c_X8_leaveOut (l : Launch) (D : va_G) (kI kC kB : ClassId) (a : AdT) (h_ : Nat → AdT) (z_snapshotTaken : Int32) (z_book_alphabet_out : Int32) (z_book_signing : Int32) (z_book_signs : RowT) (z_book_sizes : RowT) (z_book_lost : RowT) (z_book_pile : RowT) (z_snapshot_alphabet_out : Int32) (z_snapshot_signing : Int32) (z_snapshot_signs : RowT) (z_snapshot_sizes : RowT) (z_snapshot_lost : RowT) (z_snapshot_pile : RowT) (z_history : HistT) (z_text_characters : RowT) (z_text_firstSigns : RowT) (z_text_lastSigns : RowT) (z_text_numbers : RowT) (z_text_at : Int32) (z_text_allLetters_out : Int32) (z_writer_characters : RowT) (z_writer_entries : Int32) (z_found : RowT) (sz : Nat) (p1 : Int32) (p2 : Int32) (Post : Int32 → Int32 → HistT → Prop) (hw : wp_X8_leaveOut z_book_alphabet_out z_book_signing z_book_signs z_book_sizes z_book_lost z_book_pile z_history p1 p2 Post) : CMi l D kI kC kB yX8_leaveOut cX8_leaveOut 5 (some .int) ({ frames := 4, cells := 0, slots := 0, locals := 87 } : Room) [.ref (a 0), .int p1, .int p2] (cwQS kI kB a h_ z_snapshotTaken z_book_alphabet_out z_book_signing z_book_signs z_book_sizes z_book_lost z_book_pile z_snapshot_alphabet_out z_snapshot_signing z_snapshot_signs z_snapshot_sizes z_snapshot_lost z_snapshot_pile z_history z_text_characters z_text_firstSigns z_text_lastSigns z_text_numbers z_text_at z_text_allLetters_out z_writer_characters z_writer_entries z_found) sz (fun (r : Int32) (u : (Nat → AdT) × Int32 × HistT) => Post r u.2.1 u.2.2) (fun u : (Nat → AdT) × Int32 × HistT => (cwQS kI kB a u.1 z_snapshotTaken u.2.1 z_book_signing z_book_signs z_book_sizes z_book_lost z_book_pile z_snapshot_alphabet_out z_snapshot_signing z_snapshot_signs z_snapshot_sizes z_snapshot_lost z_snapshot_pile u.2.2 z_text_characters z_text_firstSigns z_text_lastSigns z_text_numbers z_text_at z_text_allLetters_out z_writer_characters z_writer_entries z_found)) := by
  refine entMi (by decide) (Nat.le_of_ble_eq_true rfl) ?_
  intro p e s m args below meth c ls A C hA hP hD hS hl
  obtain ⟨H, hHe⟩ : ∃ H, H = s.heap := ⟨_, rfl⟩
  obtain ⟨locs, hlo⟩ : ∃ lo : List Loc, lo = [] := ⟨_, rfl⟩
  have hS : va_S A s.heap H locs := by rw [hHe, hlo]; exact hS
  rw [← hHe] at hP
  suffices hg : W p l e ({ frames := 4, cells := 0, slots := 0, locals := 87 } : Room) s m args below meth c H locs 0 0 (MQ below (va_Qi (fun (r : Int32) (u : (Nat → AdT) × Int32 × HistT) => Post r u.2.1 u.2.2) (BB D A (fun u : (Nat → AdT) × Int32 × HistT => (cwQS kI kB a u.1 z_snapshotTaken u.2.1 z_book_signing z_book_signs z_book_sizes z_book_lost z_book_pile z_snapshot_alphabet_out z_snapshot_signing z_snapshot_signs z_snapshot_sizes z_snapshot_lost z_snapshot_pile u.2.2 z_text_characters z_text_firstSigns z_text_lastSigns z_text_numbers z_text_at z_text_allLetters_out z_writer_characters z_writer_entries z_found))) A) args s 0 0 A) (F0 m 0 ls []) by rw [hHe, hlo] at hg; exact hg
  replace hl : lv_has ls 5 [(0, .ref (a 0)), (1, .int p1), (2, .int p2)] := hl
  obtain ⟨hx, hb, hr, hml, hown, hts, hlocks, hK⟩ := id C
  refine lv_iload_n hx hb dX8_leaveOut_0 rfl (lv_at hl 1 rfl) ?_
  refine lv_bipush (v := (nI 65)) hx hb dX8_leaveOut_1 (by decide) ?_
  refine lv_isub hx hb dX8_leaveOut_3 ?_
  refine lv_topi (fun y6 ey6 => ?_)
  replace hw := hw y6 ey6
  refine lv_istore_n (lv' := [(3, .int y6), (0, .ref (a 0)), (1, .int p1), (2, .int p2)]) hx hb dX8_leaveOut_4 rfl hl (by decide) rfl (fun ls hl => ?_)
  refine lv_iload_n hx hb dX8_leaveOut_5 rfl (lv_at hl 0 rfl) ?_
  refine lv_if_lt (tgt := 15) hx hb dX8_leaveOut_6 (by decide) (fun hc => ?_) (fun hc => ?_)
  · replace hw := hw.1 hc
    refine lv_iconst (v := (-1)) hx hb dX8_leaveOut_15 (by decide) ?_
    exact retMi C (h_, z_book_alphabet_out, z_history) hw hP hD hS dX8_leaveOut_16
  · replace hw := hw.2 hc
    refine lv_iload_n hx hb dX8_leaveOut_9 rfl (lv_at hl 0 rfl) ?_
    refine lv_bipush (v := (nI 26)) hx hb dX8_leaveOut_10 (by decide) ?_
    refine lv_icmp_lt (tgt := 17) hx hb dX8_leaveOut_12 (by decide) (fun hc => ?_) (fun hc => ?_)
    · replace hw := hw.1 hc
      refine lv_aload_n hx hb dX8_leaveOut_17 rfl (lv_at hl 1 rfl) ?_
      refine va_get (D := D) (ci := 6) (v := .ref (a 1)) (C := RX8) (T := TX8) (N := 7) hx hb hts inX8 hown hK.1 hP 0 rfl rfl 0 (by decide) (hts _ tw_161) (fun _ h9 => h9) rfl dX8_leaveOut_18 ?_
      refine va_getN (D := D) (ci := 1) (v := .ref (a 2)) (C := RX1) (T := TX1) (N := 6) hx hb hts inX1 hown hK.1 hP 1 rfl rfl 0 (by decide) (va_Nw.use rfl (hK.2.1 _ nw_71)) (fun _ h9 => h9) rfl dX8_leaveOut_21 ?_
      refine lv_iload_n hx hb dX8_leaveOut_24 rfl (lv_at hl 0 rfl) ?_
      refine kRV (As := [.int y6]) (rest := []) (q0 := 2) C (c_X0_has l D kI kC kB (fun i => a (i + 2)) z_book_alphabet_out y6 _ hw) ⟨rfl, rfl⟩ ce_X0_has cv_X0_has tw_187 ⟨Nat.le_of_ble_eq_true rfl, Nat.le_of_ble_eq_true rfl⟩ hP [2] rfl rfl rfl rfl hl.1 rfl (Nat.le_of_ble_eq_true rfl) ⟨Nat.zero_le _, Nat.zero_le _⟩ dX8_leaveOut_25 (fun r7 hw => ?_)
      refine lv_if_ne (tgt := 35) hx hb dX8_leaveOut_28 (by decide) (fun hc => ?_) (fun hc => ?_)
      · replace hw := hw.2 hc
        refine lv_iconst (v := (nI 0)) hx hb dX8_leaveOut_35 (by decide) ?_
        exact cj_X8_leaveOut_36 l D kI kC kB a h_ z_snapshotTaken z_book_alphabet_out z_book_signing z_book_signs z_book_sizes z_book_lost z_book_pile z_snapshot_alphabet_out z_snapshot_signing z_snapshot_signs z_snapshot_sizes z_snapshot_lost z_snapshot_pile z_history z_text_characters z_text_firstSigns z_text_lastSigns z_text_numbers z_text_at z_text_allLetters_out z_writer_characters z_writer_entries z_found p2 y6 Post hA C (nI 0) hw H locs hP hD hS ls (lv_sub hl [1, 3, 0] rfl)
      · replace hw := hw.1 hc
        refine lv_iconst (v := (nI 1)) hx hb dX8_leaveOut_31 (by decide) ?_
        refine lv_goto (tgt := 36) hx hb dX8_leaveOut_32 (by decide) ?_
        exact cj_X8_leaveOut_36 l D kI kC kB a h_ z_snapshotTaken z_book_alphabet_out z_book_signing z_book_signs z_book_sizes z_book_lost z_book_pile z_snapshot_alphabet_out z_snapshot_signing z_snapshot_signs z_snapshot_sizes z_snapshot_lost z_snapshot_pile z_history z_text_characters z_text_firstSigns z_text_lastSigns z_text_numbers z_text_at z_text_allLetters_out z_writer_characters z_writer_entries z_found p2 y6 Post hA C (nI 1) hw H locs hP hD hS ls (lv_sub hl [1, 3, 0] rfl)
    · replace hw := hw.2 hc
      refine lv_iconst (v := (-1)) hx hb dX8_leaveOut_15 (by decide) ?_
      exact retMi C (h_, z_book_alphabet_out, z_history) hw hP hD hS dX8_leaveOut_16
set_option maxHeartbeats 4000000 in
set_option maxRecDepth 100000 in
theorem c_X8_setSigning (l : Launch) (D : va_G) (kI kC kB : ClassId) (a : AdT) (h_ : Nat → AdT) (z_snapshotTaken : Int32) (z_book_alphabet_out : Int32) (z_book_signing : Int32) (z_book_signs : RowT) (z_book_sizes : RowT) (z_book_lost : RowT) (z_book_pile : RowT) (z_snapshot_alphabet_out : Int32) (z_snapshot_signing : Int32) (z_snapshot_signs : RowT) (z_snapshot_sizes : RowT) (z_snapshot_lost : RowT) (z_snapshot_pile : RowT) (z_history : HistT) (z_text_characters : RowT) (z_text_firstSigns : RowT) (z_text_lastSigns : RowT) (z_text_numbers : RowT) (z_text_at : Int32) (z_text_allLetters_out : Int32) (z_writer_characters : RowT) (z_writer_entries : Int32) (z_found : RowT) (sz : Nat) (p1 : Int32) (Post : Int32 → Int32 → HistT → Prop) (hw : wp_X8_setSigning z_book_alphabet_out z_book_signing z_book_signs z_book_sizes z_book_lost z_book_pile z_history p1 Post) : CMi l D kI kC kB yX8_setSigning cX8_setSigning 2 (some .int) ({ frames := 4, cells := 0, slots := 0, locals := 87 } : Room) [.ref (a 0), .int p1] (cwQS kI kB a h_ z_snapshotTaken z_book_alphabet_out z_book_signing z_book_signs z_book_sizes z_book_lost z_book_pile z_snapshot_alphabet_out z_snapshot_signing z_snapshot_signs z_snapshot_sizes z_snapshot_lost z_snapshot_pile z_history z_text_characters z_text_firstSigns z_text_lastSigns z_text_numbers z_text_at z_text_allLetters_out z_writer_characters z_writer_entries z_found) sz (fun (r : Int32) (u : (Nat → AdT) × Int32 × HistT) => Post r u.2.1 u.2.2) (fun u : (Nat → AdT) × Int32 × HistT => (cwQS kI kB a u.1 z_snapshotTaken z_book_alphabet_out u.2.1 z_book_signs z_book_sizes z_book_lost z_book_pile z_snapshot_alphabet_out z_snapshot_signing z_snapshot_signs z_snapshot_sizes z_snapshot_lost z_snapshot_pile u.2.2 z_text_characters z_text_firstSigns z_text_lastSigns z_text_numbers z_text_at z_text_allLetters_out z_writer_characters z_writer_entries z_found)) := by
  refine entMi (by decide) (Nat.le_of_ble_eq_true rfl) ?_
  intro p e s m args below meth c ls A C hA hP hD hS hl
  obtain ⟨H, hHe⟩ : ∃ H, H = s.heap := ⟨_, rfl⟩
  obtain ⟨locs, hlo⟩ : ∃ lo : List Loc, lo = [] := ⟨_, rfl⟩
  have hS : va_S A s.heap H locs := by rw [hHe, hlo]; exact hS
  rw [← hHe] at hP
  suffices hg : W p l e ({ frames := 4, cells := 0, slots := 0, locals := 87 } : Room) s m args below meth c H locs 0 0 (MQ below (va_Qi (fun (r : Int32) (u : (Nat → AdT) × Int32 × HistT) => Post r u.2.1 u.2.2) (BB D A (fun u : (Nat → AdT) × Int32 × HistT => (cwQS kI kB a u.1 z_snapshotTaken z_book_alphabet_out u.2.1 z_book_signs z_book_sizes z_book_lost z_book_pile z_snapshot_alphabet_out z_snapshot_signing z_snapshot_signs z_snapshot_sizes z_snapshot_lost z_snapshot_pile u.2.2 z_text_characters z_text_firstSigns z_text_lastSigns z_text_numbers z_text_at z_text_allLetters_out z_writer_characters z_writer_entries z_found))) A) args s 0 0 A) (F0 m 0 ls []) by rw [hHe, hlo] at hg; exact hg
  replace hl : lv_has ls 2 [(0, .ref (a 0)), (1, .int p1)] := hl
  obtain ⟨hx, hb, hr, hml, hown, hts, hlocks, hK⟩ := id C
  refine lv_iload_n hx hb dX8_setSigning_0 rfl (lv_at hl 1 rfl) ?_
  refine lv_if_lt (tgt := 9) hx hb dX8_setSigning_1 (by decide) (fun hc => ?_) (fun hc => ?_)
  · replace hw := hw.1 hc
    refine lv_bipush (v := (-2)) hx hb dX8_setSigning_9 (by decide) ?_
    exact retMi C (h_, z_book_signing, z_history) hw hP hD hS dX8_setSigning_11
  · replace hw := hw.2 hc
    refine lv_iload_n hx hb dX8_setSigning_4 rfl (lv_at hl 1 rfl) ?_
    refine lv_iconst (v := (nI 2)) hx hb dX8_setSigning_5 (by decide) ?_
    refine lv_icmp_le (tgt := 12) hx hb dX8_setSigning_6 (by decide) (fun hc => ?_) (fun hc => ?_)
    · replace hw := hw.1 hc
      refine lv_iload_n hx hb dX8_setSigning_12 rfl (lv_at hl 1 rfl) ?_
      refine lv_aload_n hx hb dX8_setSigning_13 rfl (lv_at hl 0 rfl) ?_
      refine va_get (D := D) (ci := 6) (v := .ref (a 1)) (C := RX8) (T := TX8) (N := 7) hx hb hts inX8 hown hK.1 hP 0 rfl rfl 0 (by decide) (hts _ tw_161) (fun _ h9 => h9) rfl dX8_setSigning_14 ?_
      refine va_getN (D := D) (ci := 1) (v := .int z_book_signing) (C := RX1) (T := TX1) (N := 6) hx hb hts inX1 hown hK.1 hP 1 rfl rfl 1 (by decide) (va_Nw.use rfl (hK.2.1 _ nw_75)) (fun _ h9 => h9) rfl dX8_setSigning_17 ?_
      refine lv_icmp_ne (tgt := 26) hx hb dX8_setSigning_20 (by decide) (fun hc => ?_) (fun hc => ?_)
      · replace hw := hw.2 hc
        refine lv_aload_n hx hb dX8_setSigning_26 rfl (lv_at hl 0 rfl) ?_
        refine va_get (D := D) (ci := 6) (v := .ref (a 21)) (C := RX8) (T := TX8) (N := 7) hx hb hts inX8 hown hK.1 hP 0 rfl rfl 3 (by decide) (hts _ tw_164) (fun _ h9 => h9) rfl dX8_setSigning_27 ?_
        refine lv_aload_n hx hb dX8_setSigning_30 rfl (lv_at hl 0 rfl) ?_
        refine va_get (D := D) (ci := 6) (v := .ref (a 1)) (C := RX8) (T := TX8) (N := 7) hx hb hts inX8 hown hK.1 hP 0 rfl rfl 0 (by decide) (hts _ tw_161) (fun _ h9 => h9) rfl dX8_setSigning_31 ?_
        refine kMBv (q0 := 0) (As := [.ref (a 1)]) (rest := []) (ws' := fun u : (Nat → AdT) × HistT => (cwQS kI kB a u.1 z_snapshotTaken z_book_alphabet_out z_book_signing z_book_signs z_book_sizes z_book_lost z_book_pile z_snapshot_alphabet_out z_snapshot_signing z_snapshot_signs z_snapshot_sizes z_snapshot_lost z_snapshot_pile u.2 z_text_characters z_text_firstSigns z_text_lastSigns z_text_numbers z_text_at z_text_allLetters_out z_writer_characters z_writer_entries z_found)) C (c_X2_record l D kI kC kB (fun i => a (i + 21)) h_ (fun i => a (i + 1)) z_history z_book_alphabet_out z_book_signing z_book_signs z_book_sizes z_book_lost z_book_pile H.size _ hw) ⟨rfl, rfl⟩ ce_X2_record cv_X2_record tw_201 ⟨Nat.le_of_ble_eq_true rfl, Nat.le_of_ble_eq_true rfl⟩ hP hD hS hA (bfl_p2 [_, _, _, _, _, _, _, _] 3 1 rfl rfl) (fun u => (bfl_p2 [_, _, _, _, _, _, _, _] 3 1 rfl rfl)) rfl rfl rfl hl.1 rfl (Nat.le_of_ble_eq_true rfl) ⟨Nat.zero_le _, Nat.zero_le _⟩ dX8_setSigning_34 (fun u H locs hw hP hD hS => ?_)
        obtain ⟨h2, u1⟩ := u
        try dsimp only at hw
        replace hP : va_P D vwCl (cwQS kI kB a h2 z_snapshotTaken z_book_alphabet_out z_book_signing z_book_signs z_book_sizes z_book_lost z_book_pile z_snapshot_alphabet_out z_snapshot_signing z_snapshot_signs z_snapshot_sizes z_snapshot_lost z_snapshot_pile u1 z_text_characters z_text_firstSigns z_text_lastSigns z_text_numbers z_text_at z_text_allLetters_out z_writer_characters z_writer_entries z_found) H := hP
        replace hD : va_D A (cwQS kI kB a h2 z_snapshotTaken z_book_alphabet_out z_book_signing z_book_signs z_book_sizes z_book_lost z_book_pile z_snapshot_alphabet_out z_snapshot_signing z_snapshot_signs z_snapshot_sizes z_snapshot_lost z_snapshot_pile u1 z_text_characters z_text_firstSigns z_text_lastSigns z_text_numbers z_text_at z_text_allLetters_out z_writer_characters z_writer_entries z_found) := hD
        refine lv_aload_n hx hb dX8_setSigning_37 rfl (lv_at hl 0 rfl) ?_
        refine va_get (D := D) (ci := 6) (v := .ref (a 1)) (C := RX8) (T := TX8) (N := 7) hx hb hts inX8 hown hK.1 hP 0 rfl rfl 0 (by decide) (hts _ tw_161) (fun _ h9 => h9) rfl dX8_setSigning_38 ?_
        refine lv_iload_n hx hb dX8_setSigning_41 rfl (lv_at hl 1 rfl) ?_
        refine va_putN (D := D) (ci := 1) (v := .int p1) (ty := .int) (C := RX1) (T := TX1) (N := 6) hx hb hts inX1 tyX1 tyX1_ok nmX1 hown hK.1 hP hD hS 1 rfl rfl 1 (by decide) (va_Nw.use rfl (hK.2.1 _ nw_75)) (fun _ h9 => h9) rfl (tyX1_ok 1 (by decide)) rfl rfl (Nat.le_of_ble_eq_true rfl) dX8_setSigning_42 (fun H locs hP hD hS => ?_)
        replace hP : va_P D vwCl (cwQS kI kB a h2 z_snapshotTaken z_book_alphabet_out p1 z_book_signs z_book_sizes z_book_lost z_book_pile z_snapshot_alphabet_out z_snapshot_signing z_snapshot_signs z_snapshot_sizes z_snapshot_lost z_snapshot_pile u1 z_text_characters z_text_firstSigns z_text_lastSigns z_text_numbers z_text_at z_text_allLetters_out z_writer_characters z_writer_entries z_found) H := hP
        replace hD : va_D A (cwQS kI kB a h2 z_snapshotTaken z_book_alphabet_out p1 z_book_signs z_book_sizes z_book_lost z_book_pile z_snapshot_alphabet_out z_snapshot_signing z_snapshot_signs z_snapshot_sizes z_snapshot_lost z_snapshot_pile u1 z_text_characters z_text_firstSigns z_text_lastSigns z_text_numbers z_text_at z_text_allLetters_out z_writer_characters z_writer_entries z_found) := hD
        refine lv_aload_n hx hb dX8_setSigning_45 rfl (lv_at hl 0 rfl) ?_
        refine va_get (D := D) (ci := 6) (v := .ref (a 1)) (C := RX8) (T := TX8) (N := 7) hx hb hts inX8 hown hK.1 hP 0 rfl rfl 0 (by decide) (hts _ tw_161) (fun _ h9 => h9) rfl dX8_setSigning_46 ?_
        refine kRV (As := []) (rest := []) (q0 := 1) C (c_X1_signedLeaves l D kI kC kB (fun i => a (i + 1)) z_book_alphabet_out p1 z_book_signs z_book_sizes z_book_lost z_book_pile _ hw) ⟨rfl, rfl⟩ ce_X1_signedLeaves cv_X1_signedLeaves tw_244 ⟨Nat.le_of_ble_eq_true rfl, Nat.le_of_ble_eq_true rfl⟩ hP [1, 2, 3, 4, 5, 6, 7, 8, 9, 10] rfl rfl rfl rfl hl.1 rfl (Nat.le_of_ble_eq_true rfl) ⟨Nat.zero_le _, Nat.zero_le _⟩ dX8_setSigning_49 (fun r3 hw => ?_)
        exact retMi C (h2, p1, u1) hw hP hD hS dX8_setSigning_52
      · replace hw := hw.1 hc
        refine lv_bipush (v := (-5)) hx hb dX8_setSigning_23 (by decide) ?_
        exact retMi C (h_, z_book_signing, z_history) hw hP hD hS dX8_setSigning_25
    · replace hw := hw.2 hc
      refine lv_bipush (v := (-2)) hx hb dX8_setSigning_9 (by decide) ?_
      exact retMi C (h_, z_book_signing, z_history) hw hP hD hS dX8_setSigning_11
set_option maxHeartbeats 4000000 in
set_option maxRecDepth 100000 in
theorem cl_X8_quiresOfText_4 (l : Launch) (D : va_G) (kI kC kB : ClassId) (a : AdT) (h_ : Nat → AdT) (z_snapshotTaken : Int32) (z_book_alphabet_out : Int32) (z_book_signing : Int32) (z_book_signs : RowT) (z_book_sizes : RowT) (z_book_lost : RowT) (z_book_pile : RowT) (z_snapshot_alphabet_out : Int32) (z_snapshot_signing : Int32) (z_snapshot_signs : RowT) (z_snapshot_sizes : RowT) (z_snapshot_lost : RowT) (z_snapshot_pile : RowT) (z_history : HistT) (z_text_characters : RowT) (z_text_firstSigns : RowT) (z_text_lastSigns : RowT) (z_text_numbers : RowT) (z_text_at : Int32) (z_text_allLetters_out : Int32) (z_writer_characters : RowT) (z_writer_entries : Int32) (z_found : RowT) (Post : Int32 → Prop) {p : Program} {e : Env} {s : State} {m : MethodId} {args : Array Value} {below : List Frame} {meth : Method} {c : Code} (C : CtxT p s m args meth c cX8_quiresOfText 5 (some .int) yX8_quiresOfText.cls D kI kC kB) (hP : va_P D vwCl (cwQS kI kB a h_ z_snapshotTaken z_book_alphabet_out z_book_signing z_book_signs z_book_sizes z_book_lost z_book_pile z_snapshot_alphabet_out z_snapshot_signing z_snapshot_signs z_snapshot_sizes z_snapshot_lost z_snapshot_pile z_history z_text_characters z_text_firstSigns z_text_lastSigns z_text_numbers z_text_at z_text_allLetters_out z_writer_characters z_writer_entries z_found) s.heap) : ∀ (n : Nat), ∀ (v1 : Int32) (v2 : Int32), wl_X8_quiresOfText_4 z_book_alphabet_out z_text_firstSigns z_text_lastSigns z_text_numbers Post n v1 v2 → ∀ (ls : Array Slot), lv_has ls 5 [(0, .ref (a 0)), (1, .int v1), (2, .int v2)] → W p l e ({ frames := 2, cells := 0, slots := 0, locals := 45 } : Room) s m args below meth c s.heap [] 0 0 (MQ below (vp_Si Post) args s 0 0 (fun _ => False)) (F0 m 4 ls []) := by
  obtain ⟨hx, hb, hr, hml, hown, hts, hlocks, hK⟩ := id C
  intro n
  induction n with
  | zero => intro v1 v2 hw; exact hw.elim
  | succ n ih =>
    intro v1 v2 hw ls hl
    refine lv_iload_n hx hb dX8_quiresOfText_4 rfl (lv_at hl 2 rfl) ?_
    refine lv_aload_n hx hb dX8_quiresOfText_5 rfl (lv_at hl 0 rfl) ?_
    refine va_get (D := D) (ci := 6) (v := .ref (a 23)) (C := RX8) (T := TX8) (N := 7) hx hb hts inX8 hown hK.1 hP 0 rfl rfl 4 (by decide) (hts _ tw_165) (fun _ h9 => h9) rfl dX8_quiresOfText_6 ?_
    refine kRV (As := []) (rest := [.int v2]) (q0 := 63) C (c_X6_entries l D kI kC kB (fun i => a (i + 23)) z_text_characters z_text_firstSigns z_text_lastSigns z_text_numbers z_text_at _ hw) ⟨rfl, rfl⟩ ce_X6_entries cv_X6_entries tw_335 ⟨Nat.le_of_ble_eq_true rfl, Nat.le_of_ble_eq_true rfl⟩ hP [63, 64, 65, 66, 67, 68, 69, 70, 71] rfl rfl rfl rfl hl.1 rfl (Nat.le_of_ble_eq_true rfl) ⟨Nat.zero_le _, Nat.zero_le _⟩ dX8_quiresOfText_9 (fun r1 hw => ?_)
    refine lv_icmp_ge (tgt := 68) hx hb dX8_quiresOfText_12 (by decide) (fun hc => ?_) (fun hc => ?_)
    · replace hw := hw.1 hc
      refine lv_iload_n hx hb dX8_quiresOfText_68 rfl (lv_at hl 1 rfl) ?_
      exact retR C hw dX8_quiresOfText_69
    · replace hw := hw.2 hc
      refine lv_aload_n hx hb dX8_quiresOfText_15 rfl (lv_at hl 0 rfl) ?_
      refine va_get (D := D) (ci := 6) (v := .ref (a 23)) (C := RX8) (T := TX8) (N := 7) hx hb hts inX8 hown hK.1 hP 0 rfl rfl 4 (by decide) (hts _ tw_165) (fun _ h9 => h9) rfl dX8_quiresOfText_16 ?_
      refine lv_iload_n hx hb dX8_quiresOfText_19 rfl (lv_at hl 2 rfl) ?_
      refine kRV (As := [.int v2]) (rest := []) (q0 := 63) C (c_X6_firstSign l D kI kC kB (fun i => a (i + 23)) z_text_characters z_text_firstSigns z_text_lastSigns z_text_numbers z_text_at v2 _ hw) ⟨rfl, rfl⟩ ce_X6_firstSign cv_X6_firstSign tw_339 ⟨Nat.le_of_ble_eq_true rfl, Nat.le_of_ble_eq_true rfl⟩ hP [63, 64, 65, 66, 67, 68, 69, 70, 71] rfl rfl rfl rfl hl.1 rfl (Nat.le_of_ble_eq_true rfl) ⟨Nat.zero_le _, Nat.zero_le _⟩ dX8_quiresOfText_20 (fun r2 hw => ?_)
      refine lv_istore_n (lv' := [(3, .int r2), (0, .ref (a 0)), (1, .int v1), (2, .int v2)]) hx hb dX8_quiresOfText_23 rfl hl (by decide) rfl (fun ls hl => ?_)
      refine lv_aload_n hx hb dX8_quiresOfText_24 rfl (lv_at hl 1 rfl) ?_
      refine va_get (D := D) (ci := 6) (v := .ref (a 23)) (C := RX8) (T := TX8) (N := 7) hx hb hts inX8 hown hK.1 hP 0 rfl rfl 4 (by decide) (hts _ tw_165) (fun _ h9 => h9) rfl dX8_quiresOfText_25 ?_
      refine lv_iload_n hx hb dX8_quiresOfText_28 rfl (lv_at hl 3 rfl) ?_
      refine kRV (As := [.int v2]) (rest := []) (q0 := 63) C (c_X6_lastSign l D kI kC kB (fun i => a (i + 23)) z_text_characters z_text_firstSigns z_text_lastSigns z_text_numbers z_text_at v2 _ hw) ⟨rfl, rfl⟩ ce_X6_lastSign cv_X6_lastSign tw_343 ⟨Nat.le_of_ble_eq_true rfl, Nat.le_of_ble_eq_true rfl⟩ hP [63, 64, 65, 66, 67, 68, 69, 70, 71] rfl rfl rfl rfl hl.1 rfl (Nat.le_of_ble_eq_true rfl) ⟨Nat.zero_le _, Nat.zero_le _⟩ dX8_quiresOfText_29 (fun r3 hw => ?_)
      refine lv_istore (lv' := [(4, .int r3), (3, .int r2), (0, .ref (a 0)), (1, .int v1), (2, .int v2)]) hx hb dX8_quiresOfText_32 hl (by decide) rfl (fun ls hl => ?_)
      refine lv_iload_n hx hb dX8_quiresOfText_34 rfl (lv_at hl 3 rfl) ?_
      refine lv_iload_n hx hb dX8_quiresOfText_35 rfl (lv_at hl 1 rfl) ?_
      refine lv_iload hx hb dX8_quiresOfText_36 (lv_at hl 0 rfl) ?_
      refine lv_icmp_ne (tgt := 45) hx hb dX8_quiresOfText_38 (by decide) (fun hc => ?_) (fun hc => ?_)
      · replace hw := hw.2 hc
        refine lv_aload_n hx hb dX8_quiresOfText_45 rfl (lv_at hl 2 rfl) ?_
        refine va_get (D := D) (ci := 6) (v := .ref (a 1)) (C := RX8) (T := TX8) (N := 7) hx hb hts inX8 hown hK.1 hP 0 rfl rfl 0 (by decide) (hts _ tw_161) (fun _ h9 => h9) rfl dX8_quiresOfText_46 ?_
        refine va_getN (D := D) (ci := 1) (v := .ref (a 2)) (C := RX1) (T := TX1) (N := 6) hx hb hts inX1 hown hK.1 hP 1 rfl rfl 0 (by decide) (va_Nw.use rfl (hK.2.1 _ nw_71)) (fun _ h9 => h9) rfl dX8_quiresOfText_49 ?_
        refine lv_iload_n hx hb dX8_quiresOfText_52 rfl (lv_at hl 1 rfl) ?_
        refine lv_iload hx hb dX8_quiresOfText_53 (lv_at hl 0 rfl) ?_
        refine kRV (As := [.int r2, .int r3]) (rest := [.int v1]) (q0 := 2) C (c_X0_signsBetween l D kI kC kB (fun i => a (i + 2)) z_book_alphabet_out r2 r3 _ hw) ⟨rfl, rfl⟩ ce_X0_signsBetween cv_X0_signsBetween tw_347 ⟨Nat.le_of_ble_eq_true rfl, Nat.le_of_ble_eq_true rfl⟩ hP [2] rfl rfl rfl rfl hl.1 rfl (Nat.le_of_ble_eq_true rfl) ⟨Nat.zero_le _, Nat.zero_le _⟩ dX8_quiresOfText_55 (fun r4 hw => ?_)
        refine lv_iconst (v := (nI 2)) hx hb dX8_quiresOfText_58 (by decide) ?_
        refine lv_iadd hx hb dX8_quiresOfText_59 ?_
        refine lv_iadd hx hb dX8_quiresOfText_60 ?_
        refine lv_topi (fun y5 ey5 => ?_)
        replace hw := hw y5 ey5
        refine lv_istore_n (lv' := [(1, .int y5), (4, .int r3), (3, .int r2), (0, .ref (a 0)), (2, .int v2)]) hx hb dX8_quiresOfText_61 rfl hl (by decide) rfl (fun ls hl => ?_)
        refine lv_iinc (v := (v2 + nI 1)) (lv' := [(2, .int (v2 + nI 1)), (1, .int y5), (4, .int r3), (3, .int r2), (0, .ref (a 0))]) hx hb dX8_quiresOfText_62 hl (k := 4) rfl rfl (by decide) rfl (fun ls hl => ?_)
        refine lv_goto (tgt := 4) hx hb dX8_quiresOfText_65 (by decide) ?_
        exact ih y5 (v2 + nI 1) hw ls (lv_sub hl [4, 1, 0] rfl)
      · replace hw := hw.1 hc
        refine lv_iconst (v := (nI 1)) hx hb dX8_quiresOfText_41 (by decide) ?_
        refine lv_goto (tgt := 60) hx hb dX8_quiresOfText_42 (by decide) ?_
        refine lv_iadd hx hb dX8_quiresOfText_60 ?_
        refine lv_topi (fun y6 ey6 => ?_)
        replace hw := hw y6 ey6
        refine lv_istore_n (lv' := [(1, .int y6), (4, .int r3), (3, .int r2), (0, .ref (a 0)), (2, .int v2)]) hx hb dX8_quiresOfText_61 rfl hl (by decide) rfl (fun ls hl => ?_)
        refine lv_iinc (v := (v2 + nI 1)) (lv' := [(2, .int (v2 + nI 1)), (1, .int y6), (4, .int r3), (3, .int r2), (0, .ref (a 0))]) hx hb dX8_quiresOfText_62 hl (k := 4) rfl rfl (by decide) rfl (fun ls hl => ?_)
        refine lv_goto (tgt := 4) hx hb dX8_quiresOfText_65 (by decide) ?_
        exact ih y6 (v2 + nI 1) hw ls (lv_sub hl [4, 1, 0] rfl)
set_option maxHeartbeats 4000000 in
set_option maxRecDepth 100000 in
theorem c_X8_quiresOfText (l : Launch) (D : va_G) (kI kC kB : ClassId) (a : AdT) (h_ : Nat → AdT) (z_snapshotTaken : Int32) (z_book_alphabet_out : Int32) (z_book_signing : Int32) (z_book_signs : RowT) (z_book_sizes : RowT) (z_book_lost : RowT) (z_book_pile : RowT) (z_snapshot_alphabet_out : Int32) (z_snapshot_signing : Int32) (z_snapshot_signs : RowT) (z_snapshot_sizes : RowT) (z_snapshot_lost : RowT) (z_snapshot_pile : RowT) (z_history : HistT) (z_text_characters : RowT) (z_text_firstSigns : RowT) (z_text_lastSigns : RowT) (z_text_numbers : RowT) (z_text_at : Int32) (z_text_allLetters_out : Int32) (z_writer_characters : RowT) (z_writer_entries : Int32) (z_found : RowT) (Post : Int32 → Prop) (hw : wp_X8_quiresOfText z_book_alphabet_out z_text_firstSigns z_text_lastSigns z_text_numbers Post) : CR l D kI kC kB yX8_quiresOfText cX8_quiresOfText 5 (some .int) ({ frames := 2, cells := 0, slots := 0, locals := 45 } : Room) [.ref (a 0)] (cwQS kI kB a h_ z_snapshotTaken z_book_alphabet_out z_book_signing z_book_signs z_book_sizes z_book_lost z_book_pile z_snapshot_alphabet_out z_snapshot_signing z_snapshot_signs z_snapshot_sizes z_snapshot_lost z_snapshot_pile z_history z_text_characters z_text_firstSigns z_text_lastSigns z_text_numbers z_text_at z_text_allLetters_out z_writer_characters z_writer_entries z_found) Post := by
  refine entR (by decide) (Nat.le_of_ble_eq_true rfl) ?_
  intro p e s m args below meth c ls C hP hl
  replace hl : lv_has ls 5 [(0, .ref (a 0))] := hl
  obtain ⟨hx, hb, hr, hml, hown, hts, hlocks, hK⟩ := id C
  refine lv_iconst (v := (nI 0)) hx hb dX8_quiresOfText_0 (by decide) ?_
  refine lv_istore_n (lv' := [(1, .int (nI 0)), (0, .ref (a 0))]) hx hb dX8_quiresOfText_1 rfl hl (by decide) rfl (fun ls hl => ?_)
  refine lv_iconst (v := (nI 0)) hx hb dX8_quiresOfText_2 (by decide) ?_
  refine lv_istore_n (lv' := [(2, .int (nI 0)), (1, .int (nI 0)), (0, .ref (a 0))]) hx hb dX8_quiresOfText_3 rfl hl (by decide) rfl (fun ls hl => ?_)
  obtain ⟨n9, hw⟩ := hw
  exact cl_X8_quiresOfText_4 l D kI kC kB a h_ z_snapshotTaken z_book_alphabet_out z_book_signing z_book_signs z_book_sizes z_book_lost z_book_pile z_snapshot_alphabet_out z_snapshot_signing z_snapshot_signs z_snapshot_sizes z_snapshot_lost z_snapshot_pile z_history z_text_characters z_text_firstSigns z_text_lastSigns z_text_numbers z_text_at z_text_allLetters_out z_writer_characters z_writer_entries z_found Post C hP n9 (nI 0) (nI 0) hw ls (lv_sub hl [2, 1, 0] rfl)
set_option maxHeartbeats 4000000 in
set_option maxRecDepth 100000 in
theorem cl_X8_addEntry_53 (l : Launch) (D : va_G) (kI kC kB : ClassId) (a : AdT) (h_ : Nat → AdT) (z_snapshotTaken : Int32) (z_book_alphabet_out : Int32) (z_book_signing : Int32) (z_snapshot_alphabet_out : Int32) (z_snapshot_signing : Int32) (z_snapshot_signs : RowT) (z_snapshot_sizes : RowT) (z_snapshot_lost : RowT) (z_snapshot_pile : RowT) (z_history : HistT) (z_text_characters : RowT) (z_text_firstSigns : RowT) (z_text_lastSigns : RowT) (z_text_numbers : RowT) (z_text_at : Int32) (z_text_allLetters_out : Int32) (z_writer_characters : RowT) (z_writer_entries : Int32) (z_found : RowT) (v2 : Int32) (v3 : Int32) (Post : RowT → RowT → RowT → RowT → Prop) {p : Program} {e : Env} {s : State} {m : MethodId} {args : Array Value} {below : List Frame} {meth : Method} {c : Code} {A : Nat → Prop} (hA : ∀ q : Nat, s.heap.size ≤ q → A q) (C : CtxT p s m args meth c cX8_addEntry 5 none yX8_addEntry.cls D kI kC kB) : ∀ (n : Nat), ∀ (z_book_signs : RowT) (z_book_sizes : RowT) (z_book_lost : RowT) (z_book_pile : RowT) (v4 : Int32), wl_X8_addEntry_53 z_book_alphabet_out z_text_firstSigns z_text_lastSigns z_text_numbers v2 v3 Post n z_book_signs z_book_sizes z_book_lost z_book_pile v4 → ∀ (H : Heap) (locs : List Loc), va_P D vwCl (cwQS kI kB a h_ z_snapshotTaken z_book_alphabet_out z_book_signing z_book_signs z_book_sizes z_book_lost z_book_pile z_snapshot_alphabet_out z_snapshot_signing z_snapshot_signs z_snapshot_sizes z_snapshot_lost z_snapshot_pile z_history z_text_characters z_text_firstSigns z_text_lastSigns z_text_numbers z_text_at z_text_allLetters_out z_writer_characters z_writer_entries z_found) H → va_D A (cwQS kI kB a h_ z_snapshotTaken z_book_alphabet_out z_book_signing z_book_signs z_book_sizes z_book_lost z_book_pile z_snapshot_alphabet_out z_snapshot_signing z_snapshot_signs z_snapshot_sizes z_snapshot_lost z_snapshot_pile z_history z_text_characters z_text_firstSigns z_text_lastSigns z_text_numbers z_text_at z_text_allLetters_out z_writer_characters z_writer_entries z_found) → va_S A s.heap H locs → ∀ (ls : Array Slot), lv_has ls 5 [(0, .ref (a 0)), (2, .int v2), (3, .int v3), (4, .int v4)] → W p l e ({ frames := 3, cells := 0, slots := 0, locals := 68 } : Room) s m args below meth c H locs 0 0 (MQ below (va_Qv (fun (u : RowT × RowT × RowT × RowT) => Post u.1 u.2.1 u.2.2.1 u.2.2.2) (BB D A (fun u : RowT × RowT × RowT × RowT => (cwQS kI kB a h_ z_snapshotTaken z_book_alphabet_out z_book_signing u.1 u.2.1 u.2.2.1 u.2.2.2 z_snapshot_alphabet_out z_snapshot_signing z_snapshot_signs z_snapshot_sizes z_snapshot_lost z_snapshot_pile z_history z_text_characters z_text_firstSigns z_text_lastSigns z_text_numbers z_text_at z_text_allLetters_out z_writer_characters z_writer_entries z_found))) A) args s 0 0 A) (F0 m 53 ls []) := by
  obtain ⟨hx, hb, hr, hml, hown, hts, hlocks, hK⟩ := id C
  intro n
  induction n with
  | zero => intro z_book_signs z_book_sizes z_book_lost z_book_pile v4 hw; exact hw.elim
  | succ n ih =>
    intro z_book_signs z_book_sizes z_book_lost z_book_pile v4 hw H locs hP hD hS ls hl
    refine lv_iload hx hb dX8_addEntry_53 (lv_at hl 3 rfl) ?_
    refine lv_iload_n hx hb dX8_addEntry_55 rfl (lv_at hl 1 rfl) ?_
    refine lv_icmp_gt (tgt := 100) hx hb dX8_addEntry_56 (by decide) (fun hc => ?_) (fun hc => ?_)
    · replace hw := hw.1 hc
      exact retMv C (z_book_signs, z_book_sizes, z_book_lost, z_book_pile) hw hP hD hS dX8_addEntry_100
    · replace hw := hw.2 hc
      refine lv_aload_n hx hb dX8_addEntry_59 rfl (lv_at hl 0 rfl) ?_
      refine va_get (D := D) (ci := 6) (v := .ref (a 1)) (C := RX8) (T := TX8) (N := 7) hx hb hts inX8 hown hK.1 hP 0 rfl rfl 0 (by decide) (hts _ tw_161) (fun _ h9 => h9) rfl dX8_addEntry_60 ?_
      refine va_getN (D := D) (ci := 1) (v := .ref (a 2)) (C := RX1) (T := TX1) (N := 6) hx hb hts inX1 hown hK.1 hP 1 rfl rfl 0 (by decide) (va_Nw.use rfl (hK.2.1 _ nw_71)) (fun _ h9 => h9) rfl dX8_addEntry_63 ?_
      refine lv_iload hx hb dX8_addEntry_66 (lv_at hl 3 rfl) ?_
      refine kRS (As := [.int v4]) (rest := [.ref (a 2)]) C (c_X5_letter l D kI kC kB  v4 _ hw) ⟨rfl, rfl⟩ ce_X5_letter cv_X5_letter tw_369 ⟨Nat.le_of_ble_eq_true rfl, Nat.le_of_ble_eq_true rfl⟩ hP [] rfl hl.1 rfl (Nat.le_of_ble_eq_true rfl) ⟨Nat.zero_le _, Nat.zero_le _⟩ dX8_addEntry_68 (fun r1 hw => ?_)
      refine kRV (As := [.int r1]) (rest := []) (q0 := 2) C (c_X0_has l D kI kC kB (fun i => a (i + 2)) z_book_alphabet_out r1 _ hw) ⟨rfl, rfl⟩ ce_X0_has cv_X0_has tw_187 ⟨Nat.le_of_ble_eq_true rfl, Nat.le_of_ble_eq_true rfl⟩ hP [2] rfl rfl rfl rfl hl.1 rfl (Nat.le_of_ble_eq_true rfl) ⟨Nat.zero_le _, Nat.zero_le _⟩ dX8_addEntry_71 (fun r2 hw => ?_)
      refine lv_if_eq (tgt := 94) hx hb dX8_addEntry_74 (by decide) (fun hc => ?_) (fun hc => ?_)
      · replace hw := hw.1 hc
        refine lv_iinc (v := (v4 + nI 1)) (lv' := [(4, .int (v4 + nI 1)), (0, .ref (a 0)), (2, .int v2), (3, .int v3)]) hx hb dX8_addEntry_94 hl (k := 3) rfl rfl (by decide) rfl (fun ls hl => ?_)
        refine lv_goto (tgt := 53) hx hb dX8_addEntry_97 (by decide) ?_
        exact ih z_book_signs z_book_sizes z_book_lost z_book_pile (v4 + nI 1) hw H locs hP hD hS ls (lv_sub hl [1, 2, 3, 0] rfl)
      · replace hw := hw.2 hc
        refine lv_aload_n hx hb dX8_addEntry_77 rfl (lv_at hl 0 rfl) ?_
        refine va_get (D := D) (ci := 6) (v := .ref (a 1)) (C := RX8) (T := TX8) (N := 7) hx hb hts inX8 hown hK.1 hP 0 rfl rfl 0 (by decide) (hts _ tw_161) (fun _ h9 => h9) rfl dX8_addEntry_78 ?_
        refine lv_aload_n hx hb dX8_addEntry_81 rfl (lv_at hl 0 rfl) ?_
        refine va_get (D := D) (ci := 6) (v := .ref (a 1)) (C := RX8) (T := TX8) (N := 7) hx hb hts inX8 hown hK.1 hP 0 rfl rfl 0 (by decide) (hts _ tw_161) (fun _ h9 => h9) rfl dX8_addEntry_82 ?_
        refine kRV (As := []) (rest := [.ref (a 1)]) (q0 := 1) C (c_X1_quires l D kI kC kB (fun i => a (i + 1)) z_book_alphabet_out z_book_signing z_book_signs z_book_sizes z_book_lost z_book_pile _ hw) ⟨rfl, rfl⟩ ce_X1_quires cv_X1_quires tw_330 ⟨Nat.le_of_ble_eq_true rfl, Nat.le_of_ble_eq_true rfl⟩ hP [1, 2, 3, 4, 5, 6, 7, 8, 9, 10] rfl rfl rfl rfl hl.1 rfl (Nat.le_of_ble_eq_true rfl) ⟨Nat.zero_le _, Nat.zero_le _⟩ dX8_addEntry_85 (fun r3 hw => ?_)
        refine lv_iload hx hb dX8_addEntry_88 (lv_at hl 3 rfl) ?_
        refine lv_iload_n hx hb dX8_addEntry_90 rfl (lv_at hl 2 rfl) ?_
        refine kMBv (q0 := 0) (As := [.int r3, .int v4, .int v3]) (rest := []) (ws' := fun u : RowT × RowT × RowT × RowT => (cwQS kI kB a h_ z_snapshotTaken z_book_alphabet_out z_book_signing u.1 u.2.1 u.2.2.1 u.2.2.2 z_snapshot_alphabet_out z_snapshot_signing z_snapshot_signs z_snapshot_sizes z_snapshot_lost z_snapshot_pile z_history z_text_characters z_text_firstSigns z_text_lastSigns z_text_numbers z_text_at z_text_allLetters_out z_writer_characters z_writer_entries z_found)) C (c_X1_addQuire l D kI kC kB (fun i => a (i + 1)) z_book_alphabet_out z_book_signing z_book_signs z_book_sizes z_book_lost z_book_pile H.size r3 v4 v3 _ hw) ⟨rfl, rfl⟩ ce_X1_addQuire cv_X1_addQuire tw_363 ⟨Nat.le_of_ble_eq_true rfl, Nat.le_of_ble_eq_true rfl⟩ hP hD hS hA (bfl_p1 [_, _, _, _, _, _, _, _] 1 rfl) (fun u => (bfl_p1 [_, _, _, _, _, _, _, _] 1 rfl)) rfl rfl rfl hl.1 rfl (Nat.le_of_ble_eq_true rfl) ⟨Nat.zero_le _, Nat.zero_le _⟩ dX8_addEntry_91 (fun u H locs hw hP hD hS => ?_)
        obtain ⟨u4, u5, u6, u7⟩ := u
        try dsimp only at hw
        replace hP : va_P D vwCl (cwQS kI kB a h_ z_snapshotTaken z_book_alphabet_out z_book_signing u4 u5 u6 u7 z_snapshot_alphabet_out z_snapshot_signing z_snapshot_signs z_snapshot_sizes z_snapshot_lost z_snapshot_pile z_history z_text_characters z_text_firstSigns z_text_lastSigns z_text_numbers z_text_at z_text_allLetters_out z_writer_characters z_writer_entries z_found) H := hP
        replace hD : va_D A (cwQS kI kB a h_ z_snapshotTaken z_book_alphabet_out z_book_signing u4 u5 u6 u7 z_snapshot_alphabet_out z_snapshot_signing z_snapshot_signs z_snapshot_sizes z_snapshot_lost z_snapshot_pile z_history z_text_characters z_text_firstSigns z_text_lastSigns z_text_numbers z_text_at z_text_allLetters_out z_writer_characters z_writer_entries z_found) := hD
        refine lv_iinc (v := (v4 + nI 1)) (lv' := [(4, .int (v4 + nI 1)), (0, .ref (a 0)), (2, .int v2), (3, .int v3)]) hx hb dX8_addEntry_94 hl (k := 3) rfl rfl (by decide) rfl (fun ls hl => ?_)
        refine lv_goto (tgt := 53) hx hb dX8_addEntry_97 (by decide) ?_
        exact ih u4 u5 u6 u7 (v4 + nI 1) hw H locs hP hD hS ls (lv_sub hl [1, 2, 3, 0] rfl)
set_option maxHeartbeats 4000000 in
set_option maxRecDepth 100000 in
theorem c_X8_addEntry (l : Launch) (D : va_G) (kI kC kB : ClassId) (a : AdT) (h_ : Nat → AdT) (z_snapshotTaken : Int32) (z_book_alphabet_out : Int32) (z_book_signing : Int32) (z_book_signs : RowT) (z_book_sizes : RowT) (z_book_lost : RowT) (z_book_pile : RowT) (z_snapshot_alphabet_out : Int32) (z_snapshot_signing : Int32) (z_snapshot_signs : RowT) (z_snapshot_sizes : RowT) (z_snapshot_lost : RowT) (z_snapshot_pile : RowT) (z_history : HistT) (z_text_characters : RowT) (z_text_firstSigns : RowT) (z_text_lastSigns : RowT) (z_text_numbers : RowT) (z_text_at : Int32) (z_text_allLetters_out : Int32) (z_writer_characters : RowT) (z_writer_entries : Int32) (z_found : RowT) (sz : Nat) (p1 : Int32) (Post : RowT → RowT → RowT → RowT → Prop) (hw : wp_X8_addEntry z_book_alphabet_out z_book_signs z_book_sizes z_book_lost z_book_pile z_text_firstSigns z_text_lastSigns z_text_numbers p1 Post) : CMv l D kI kC kB yX8_addEntry cX8_addEntry 5 none ({ frames := 3, cells := 0, slots := 0, locals := 68 } : Room) [.ref (a 0), .int p1] (cwQS kI kB a h_ z_snapshotTaken z_book_alphabet_out z_book_signing z_book_signs z_book_sizes z_book_lost z_book_pile z_snapshot_alphabet_out z_snapshot_signing z_snapshot_signs z_snapshot_sizes z_snapshot_lost z_snapshot_pile z_history z_text_characters z_text_firstSigns z_text_lastSigns z_text_numbers z_text_at z_text_allLetters_out z_writer_characters z_writer_entries z_found) sz (fun (u : RowT × RowT × RowT × RowT) => Post u.1 u.2.1 u.2.2.1 u.2.2.2) (fun u : RowT × RowT × RowT × RowT => (cwQS kI kB a h_ z_snapshotTaken z_book_alphabet_out z_book_signing u.1 u.2.1 u.2.2.1 u.2.2.2 z_snapshot_alphabet_out z_snapshot_signing z_snapshot_signs z_snapshot_sizes z_snapshot_lost z_snapshot_pile z_history z_text_characters z_text_firstSigns z_text_lastSigns z_text_numbers z_text_at z_text_allLetters_out z_writer_characters z_writer_entries z_found)) := by
  refine entMv (by decide) (Nat.le_of_ble_eq_true rfl) ?_
  intro p e s m args below meth c ls A C hA hP hD hS hl
  obtain ⟨H, hHe⟩ : ∃ H, H = s.heap := ⟨_, rfl⟩
  obtain ⟨locs, hlo⟩ : ∃ lo : List Loc, lo = [] := ⟨_, rfl⟩
  have hS : va_S A s.heap H locs := by rw [hHe, hlo]; exact hS
  rw [← hHe] at hP
  suffices hg : W p l e ({ frames := 3, cells := 0, slots := 0, locals := 68 } : Room) s m args below meth c H locs 0 0 (MQ below (va_Qv (fun (u : RowT × RowT × RowT × RowT) => Post u.1 u.2.1 u.2.2.1 u.2.2.2) (BB D A (fun u : RowT × RowT × RowT × RowT => (cwQS kI kB a h_ z_snapshotTaken z_book_alphabet_out z_book_signing u.1 u.2.1 u.2.2.1 u.2.2.2 z_snapshot_alphabet_out z_snapshot_signing z_snapshot_signs z_snapshot_sizes z_snapshot_lost z_snapshot_pile z_history z_text_characters z_text_firstSigns z_text_lastSigns z_text_numbers z_text_at z_text_allLetters_out z_writer_characters z_writer_entries z_found))) A) args s 0 0 A) (F0 m 0 ls []) by rw [hHe, hlo] at hg; exact hg
  replace hl : lv_has ls 5 [(0, .ref (a 0)), (1, .int p1)] := hl
  obtain ⟨hx, hb, hr, hml, hown, hts, hlocks, hK⟩ := id C
  refine lv_aload_n hx hb dX8_addEntry_0 rfl (lv_at hl 0 rfl) ?_
  refine va_get (D := D) (ci := 6) (v := .ref (a 23)) (C := RX8) (T := TX8) (N := 7) hx hb hts inX8 hown hK.1 hP 0 rfl rfl 4 (by decide) (hts _ tw_165) (fun _ h9 => h9) rfl dX8_addEntry_1 ?_
  refine lv_iload_n hx hb dX8_addEntry_4 rfl (lv_at hl 1 rfl) ?_
  refine kRV (As := [.int p1]) (rest := []) (q0 := 63) C (c_X6_lastSign l D kI kC kB (fun i => a (i + 23)) z_text_characters z_text_firstSigns z_text_lastSigns z_text_numbers z_text_at p1 _ hw) ⟨rfl, rfl⟩ ce_X6_lastSign cv_X6_lastSign tw_343 ⟨Nat.le_of_ble_eq_true rfl, Nat.le_of_ble_eq_true rfl⟩ hP [63, 64, 65, 66, 67, 68, 69, 70, 71] rfl rfl rfl rfl hl.1 rfl (Nat.le_of_ble_eq_true rfl) ⟨Nat.zero_le _, Nat.zero_le _⟩ dX8_addEntry_5 (fun r8 hw => ?_)
  refine lv_istore_n (lv' := [(2, .int r8), (0, .ref (a 0)), (1, .int p1)]) hx hb dX8_addEntry_8 rfl hl (by decide) rfl (fun ls hl => ?_)
  refine lv_aload_n hx hb dX8_addEntry_9 rfl (lv_at hl 1 rfl) ?_
  refine va_get (D := D) (ci := 6) (v := .ref (a 23)) (C := RX8) (T := TX8) (N := 7) hx hb hts inX8 hown hK.1 hP 0 rfl rfl 4 (by decide) (hts _ tw_165) (fun _ h9 => h9) rfl dX8_addEntry_10 ?_
  refine lv_iload_n hx hb dX8_addEntry_13 rfl (lv_at hl 2 rfl) ?_
  refine kRV (As := [.int p1]) (rest := []) (q0 := 63) C (c_X6_number l D kI kC kB (fun i => a (i + 23)) z_text_characters z_text_firstSigns z_text_lastSigns z_text_numbers z_text_at p1 _ hw) ⟨rfl, rfl⟩ ce_X6_number cv_X6_number tw_359 ⟨Nat.le_of_ble_eq_true rfl, Nat.le_of_ble_eq_true rfl⟩ hP [63, 64, 65, 66, 67, 68, 69, 70, 71] rfl rfl rfl rfl hl.1 rfl (Nat.le_of_ble_eq_true rfl) ⟨Nat.zero_le _, Nat.zero_le _⟩ dX8_addEntry_14 (fun r9 hw => ?_)
  refine lv_istore_n (lv' := [(3, .int r9), (2, .int r8), (0, .ref (a 0)), (1, .int p1)]) hx hb dX8_addEntry_17 rfl hl (by decide) rfl (fun ls hl => ?_)
  refine lv_aload_n hx hb dX8_addEntry_18 rfl (lv_at hl 2 rfl) ?_
  refine va_get (D := D) (ci := 6) (v := .ref (a 1)) (C := RX8) (T := TX8) (N := 7) hx hb hts inX8 hown hK.1 hP 0 rfl rfl 0 (by decide) (hts _ tw_161) (fun _ h9 => h9) rfl dX8_addEntry_19 ?_
  refine lv_aload_n hx hb dX8_addEntry_22 rfl (lv_at hl 2 rfl) ?_
  refine va_get (D := D) (ci := 6) (v := .ref (a 1)) (C := RX8) (T := TX8) (N := 7) hx hb hts inX8 hown hK.1 hP 0 rfl rfl 0 (by decide) (hts _ tw_161) (fun _ h9 => h9) rfl dX8_addEntry_23 ?_
  refine kRV (As := []) (rest := [.ref (a 1)]) (q0 := 1) C (c_X1_quires l D kI kC kB (fun i => a (i + 1)) z_book_alphabet_out z_book_signing z_book_signs z_book_sizes z_book_lost z_book_pile _ hw) ⟨rfl, rfl⟩ ce_X1_quires cv_X1_quires tw_330 ⟨Nat.le_of_ble_eq_true rfl, Nat.le_of_ble_eq_true rfl⟩ hP [1, 2, 3, 4, 5, 6, 7, 8, 9, 10] rfl rfl rfl rfl hl.1 rfl (Nat.le_of_ble_eq_true rfl) ⟨Nat.zero_le _, Nat.zero_le _⟩ dX8_addEntry_26 (fun r10 hw => ?_)
  refine lv_aload_n hx hb dX8_addEntry_29 rfl (lv_at hl 2 rfl) ?_
  refine va_get (D := D) (ci := 6) (v := .ref (a 23)) (C := RX8) (T := TX8) (N := 7) hx hb hts inX8 hown hK.1 hP 0 rfl rfl 4 (by decide) (hts _ tw_165) (fun _ h9 => h9) rfl dX8_addEntry_30 ?_
  refine lv_iload_n hx hb dX8_addEntry_33 rfl (lv_at hl 3 rfl) ?_
  refine kRV (As := [.int p1]) (rest := [.int r10, .ref (a 1)]) (q0 := 63) C (c_X6_firstSign l D kI kC kB (fun i => a (i + 23)) z_text_characters z_text_firstSigns z_text_lastSigns z_text_numbers z_text_at p1 _ hw) ⟨rfl, rfl⟩ ce_X6_firstSign cv_X6_firstSign tw_339 ⟨Nat.le_of_ble_eq_true rfl, Nat.le_of_ble_eq_true rfl⟩ hP [63, 64, 65, 66, 67, 68, 69, 70, 71] rfl rfl rfl rfl hl.1 rfl (Nat.le_of_ble_eq_true rfl) ⟨Nat.zero_le _, Nat.zero_le _⟩ dX8_addEntry_34 (fun r11 hw => ?_)
  refine lv_iload_n hx hb dX8_addEntry_37 rfl (lv_at hl 0 rfl) ?_
  refine kMBv (q0 := 0) (As := [.int r10, .int r11, .int r9]) (rest := []) (ws' := fun u : RowT × RowT × RowT × RowT => (cwQS kI kB a h_ z_snapshotTaken z_book_alphabet_out z_book_signing u.1 u.2.1 u.2.2.1 u.2.2.2 z_snapshot_alphabet_out z_snapshot_signing z_snapshot_signs z_snapshot_sizes z_snapshot_lost z_snapshot_pile z_history z_text_characters z_text_firstSigns z_text_lastSigns z_text_numbers z_text_at z_text_allLetters_out z_writer_characters z_writer_entries z_found)) C (c_X1_addQuire l D kI kC kB (fun i => a (i + 1)) z_book_alphabet_out z_book_signing z_book_signs z_book_sizes z_book_lost z_book_pile H.size r10 r11 r9 _ hw) ⟨rfl, rfl⟩ ce_X1_addQuire cv_X1_addQuire tw_363 ⟨Nat.le_of_ble_eq_true rfl, Nat.le_of_ble_eq_true rfl⟩ hP hD hS hA (bfl_p1 [_, _, _, _, _, _, _, _] 1 rfl) (fun u => (bfl_p1 [_, _, _, _, _, _, _, _] 1 rfl)) rfl rfl rfl hl.1 rfl (Nat.le_of_ble_eq_true rfl) ⟨Nat.zero_le _, Nat.zero_le _⟩ dX8_addEntry_38 (fun u H locs hw hP hD hS => ?_)
  obtain ⟨u12, u13, u14, u15⟩ := u
  try dsimp only at hw
  replace hP : va_P D vwCl (cwQS kI kB a h_ z_snapshotTaken z_book_alphabet_out z_book_signing u12 u13 u14 u15 z_snapshot_alphabet_out z_snapshot_signing z_snapshot_signs z_snapshot_sizes z_snapshot_lost z_snapshot_pile z_history z_text_characters z_text_firstSigns z_text_lastSigns z_text_numbers z_text_at z_text_allLetters_out z_writer_characters z_writer_entries z_found) H := hP
  replace hD : va_D A (cwQS kI kB a h_ z_snapshotTaken z_book_alphabet_out z_book_signing u12 u13 u14 u15 z_snapshot_alphabet_out z_snapshot_signing z_snapshot_signs z_snapshot_sizes z_snapshot_lost z_snapshot_pile z_history z_text_characters z_text_firstSigns z_text_lastSigns z_text_numbers z_text_at z_text_allLetters_out z_writer_characters z_writer_entries z_found) := hD
  refine lv_aload_n hx hb dX8_addEntry_41 rfl (lv_at hl 2 rfl) ?_
  refine va_get (D := D) (ci := 6) (v := .ref (a 23)) (C := RX8) (T := TX8) (N := 7) hx hb hts inX8 hown hK.1 hP 0 rfl rfl 4 (by decide) (hts _ tw_165) (fun _ h9 => h9) rfl dX8_addEntry_42 ?_
  refine lv_iload_n hx hb dX8_addEntry_45 rfl (lv_at hl 3 rfl) ?_
  refine kRV (As := [.int p1]) (rest := []) (q0 := 63) C (c_X6_firstSign l D kI kC kB (fun i => a (i + 23)) z_text_characters z_text_firstSigns z_text_lastSigns z_text_numbers z_text_at p1 _ hw) ⟨rfl, rfl⟩ ce_X6_firstSign cv_X6_firstSign tw_339 ⟨Nat.le_of_ble_eq_true rfl, Nat.le_of_ble_eq_true rfl⟩ hP [63, 64, 65, 66, 67, 68, 69, 70, 71] rfl rfl rfl rfl hl.1 rfl (Nat.le_of_ble_eq_true rfl) ⟨Nat.zero_le _, Nat.zero_le _⟩ dX8_addEntry_46 (fun r16 hw => ?_)
  refine lv_iconst (v := (nI 1)) hx hb dX8_addEntry_49 (by decide) ?_
  refine lv_iadd hx hb dX8_addEntry_50 ?_
  refine lv_topi (fun y17 ey17 => ?_)
  replace hw := hw y17 ey17
  refine lv_istore (lv' := [(4, .int y17), (3, .int r9), (2, .int r8), (0, .ref (a 0)), (1, .int p1)]) hx hb dX8_addEntry_51 hl (by decide) rfl (fun ls hl => ?_)
  obtain ⟨n9, hw⟩ := hw
  exact cl_X8_addEntry_53 l D kI kC kB a h_ z_snapshotTaken z_book_alphabet_out z_book_signing z_snapshot_alphabet_out z_snapshot_signing z_snapshot_signs z_snapshot_sizes z_snapshot_lost z_snapshot_pile z_history z_text_characters z_text_firstSigns z_text_lastSigns z_text_numbers z_text_at z_text_allLetters_out z_writer_characters z_writer_entries z_found r8 r9 Post hA C n9 u12 u13 u14 u15 y17 hw H locs hP hD hS ls (lv_sub hl [3, 2, 1, 0] rfl)
set_option maxHeartbeats 4000000 in
set_option maxRecDepth 100000 in
theorem cl_X8_readFormula_58 (l : Launch) (D : va_G) (kI kC kB : ClassId) (a : AdT) (h_ : Nat → AdT) (z_snapshotTaken : Int32) (z_book_alphabet_out : Int32) (z_book_signing : Int32) (z_snapshot_alphabet_out : Int32) (z_snapshot_signing : Int32) (z_snapshot_signs : RowT) (z_snapshot_sizes : RowT) (z_snapshot_lost : RowT) (z_snapshot_pile : RowT) (z_history : HistT) (z_text_characters : RowT) (z_text_firstSigns : RowT) (z_text_lastSigns : RowT) (z_text_numbers : RowT) (z_text_at : Int32) (z_text_allLetters_out : Int32) (z_writer_characters : RowT) (z_writer_entries : Int32) (z_found : RowT) (Post : Int32 → RowT → RowT → RowT → RowT → HistT → RowT → RowT → RowT → Int32 → Prop) {p : Program} {e : Env} {s : State} {m : MethodId} {args : Array Value} {below : List Frame} {meth : Method} {c : Code} {A : Nat → Prop} (hA : ∀ q : Nat, s.heap.size ≤ q → A q) (C : CtxT p s m args meth c cX8_readFormula 3 (some .int) yX8_readFormula.cls D kI kC kB) : ∀ (n : Nat), ∀ (z_book_signs : RowT) (z_book_sizes : RowT) (z_book_lost : RowT) (z_book_pile : RowT) (v2 : Int32), wl_X8_readFormula_58 z_book_alphabet_out z_book_signing z_history z_text_characters z_text_firstSigns z_text_lastSigns z_text_numbers z_text_at Post n z_book_signs z_book_sizes z_book_lost z_book_pile v2 → ∀ (H : Heap) (locs : List Loc), va_P D vwCl (cwQS kI kB a h_ z_snapshotTaken z_book_alphabet_out z_book_signing z_book_signs z_book_sizes z_book_lost z_book_pile z_snapshot_alphabet_out z_snapshot_signing z_snapshot_signs z_snapshot_sizes z_snapshot_lost z_snapshot_pile z_history z_text_characters z_text_firstSigns z_text_lastSigns z_text_numbers z_text_at z_text_allLetters_out z_writer_characters z_writer_entries z_found) H → va_D A (cwQS kI kB a h_ z_snapshotTaken z_book_alphabet_out z_book_signing z_book_signs z_book_sizes z_book_lost z_book_pile z_snapshot_alphabet_out z_snapshot_signing z_snapshot_signs z_snapshot_sizes z_snapshot_lost z_snapshot_pile z_history z_text_characters z_text_firstSigns z_text_lastSigns z_text_numbers z_text_at z_text_allLetters_out z_writer_characters z_writer_entries z_found) → va_S A s.heap H locs → ∀ (ls : Array Slot), lv_has ls 3 [(0, .ref (a 0)), (2, .int v2)] → W p l e ({ frames := 6, cells := 0, slots := 0, locals := 136 } : Room) s m args below meth c H locs 0 0 (MQ below (va_Qi (fun (r : Int32) (u : (Nat → AdT) × RowT × RowT × RowT × RowT × HistT × RowT × RowT × RowT × Int32) => Post r u.2.1 u.2.2.1 u.2.2.2.1 u.2.2.2.2.1 u.2.2.2.2.2.1 u.2.2.2.2.2.2.1 u.2.2.2.2.2.2.2.1 u.2.2.2.2.2.2.2.2.1 u.2.2.2.2.2.2.2.2.2) (BB D A (fun u : (Nat → AdT) × RowT × RowT × RowT × RowT × HistT × RowT × RowT × RowT × Int32 => (cwQS kI kB a u.1 z_snapshotTaken z_book_alphabet_out z_book_signing u.2.1 u.2.2.1 u.2.2.2.1 u.2.2.2.2.1 z_snapshot_alphabet_out z_snapshot_signing z_snapshot_signs z_snapshot_sizes z_snapshot_lost z_snapshot_pile u.2.2.2.2.2.1 z_text_characters u.2.2.2.2.2.2.1 u.2.2.2.2.2.2.2.1 u.2.2.2.2.2.2.2.2.1 u.2.2.2.2.2.2.2.2.2 z_text_allLetters_out z_writer_characters z_writer_entries z_found))) A) args s 0 0 A) (F0 m 58 ls []) := by
  obtain ⟨hx, hb, hr, hml, hown, hts, hlocks, hK⟩ := id C
  intro n
  induction n with
  | zero => intro z_book_signs z_book_sizes z_book_lost z_book_pile v2 hw; exact hw.elim
  | succ n ih =>
    intro z_book_signs z_book_sizes z_book_lost z_book_pile v2 hw H locs hP hD hS ls hl
    refine lv_iload_n hx hb dX8_readFormula_58 rfl (lv_at hl 1 rfl) ?_
    refine lv_aload_n hx hb dX8_readFormula_59 rfl (lv_at hl 0 rfl) ?_
    refine va_get (D := D) (ci := 6) (v := .ref (a 23)) (C := RX8) (T := TX8) (N := 7) hx hb hts inX8 hown hK.1 hP 0 rfl rfl 4 (by decide) (hts _ tw_165) (fun _ h9 => h9) rfl dX8_readFormula_60 ?_
    refine kRV (As := []) (rest := [.int v2]) (q0 := 63) C (c_X6_entries l D kI kC kB (fun i => a (i + 23)) z_text_characters z_text_firstSigns z_text_lastSigns z_text_numbers z_text_at _ hw) ⟨rfl, rfl⟩ ce_X6_entries cv_X6_entries tw_335 ⟨Nat.le_of_ble_eq_true rfl, Nat.le_of_ble_eq_true rfl⟩ hP [63, 64, 65, 66, 67, 68, 69, 70, 71] rfl rfl rfl rfl hl.1 rfl (Nat.le_of_ble_eq_true rfl) ⟨Nat.zero_le _, Nat.zero_le _⟩ dX8_readFormula_63 (fun r1 hw => ?_)
    refine lv_icmp_ge (tgt := 80) hx hb dX8_readFormula_66 (by decide) (fun hc => ?_) (fun hc => ?_)
    · replace hw := hw.1 hc
      refine lv_aload_n hx hb dX8_readFormula_80 rfl (lv_at hl 0 rfl) ?_
      refine va_get (D := D) (ci := 6) (v := .ref (a 1)) (C := RX8) (T := TX8) (N := 7) hx hb hts inX8 hown hK.1 hP 0 rfl rfl 0 (by decide) (hts _ tw_161) (fun _ h9 => h9) rfl dX8_readFormula_81 ?_
      refine kRV (As := []) (rest := []) (q0 := 1) C (c_X1_quires l D kI kC kB (fun i => a (i + 1)) z_book_alphabet_out z_book_signing z_book_signs z_book_sizes z_book_lost z_book_pile _ hw) ⟨rfl, rfl⟩ ce_X1_quires cv_X1_quires tw_330 ⟨Nat.le_of_ble_eq_true rfl, Nat.le_of_ble_eq_true rfl⟩ hP [1, 2, 3, 4, 5, 6, 7, 8, 9, 10] rfl rfl rfl rfl hl.1 rfl (Nat.le_of_ble_eq_true rfl) ⟨Nat.zero_le _, Nat.zero_le _⟩ dX8_readFormula_84 (fun r2 hw => ?_)
      exact retMi C (h_, z_book_signs, z_book_sizes, z_book_lost, z_book_pile, z_history, z_text_firstSigns, z_text_lastSigns, z_text_numbers, z_text_at) hw hP hD hS dX8_readFormula_87
    · replace hw := hw.2 hc
      refine lv_aload_n hx hb dX8_readFormula_69 rfl (lv_at hl 0 rfl) ?_
      refine lv_iload_n hx hb dX8_readFormula_70 rfl (lv_at hl 1 rfl) ?_
      refine kMBv (q0 := 0) (As := [.int v2]) (rest := []) (ws' := fun u : RowT × RowT × RowT × RowT => (cwQS kI kB a h_ z_snapshotTaken z_book_alphabet_out z_book_signing u.1 u.2.1 u.2.2.1 u.2.2.2 z_snapshot_alphabet_out z_snapshot_signing z_snapshot_signs z_snapshot_sizes z_snapshot_lost z_snapshot_pile z_history z_text_characters z_text_firstSigns z_text_lastSigns z_text_numbers z_text_at z_text_allLetters_out z_writer_characters z_writer_entries z_found)) C (c_X8_addEntry l D kI kC kB a h_ z_snapshotTaken z_book_alphabet_out z_book_signing z_book_signs z_book_sizes z_book_lost z_book_pile z_snapshot_alphabet_out z_snapshot_signing z_snapshot_signs z_snapshot_sizes z_snapshot_lost z_snapshot_pile z_history z_text_characters z_text_firstSigns z_text_lastSigns z_text_numbers z_text_at z_text_allLetters_out z_writer_characters z_writer_entries z_found H.size v2 _ hw) ⟨rfl, rfl⟩ ce_X8_addEntry cv_X8_addEntry tw_355 ⟨Nat.le_of_ble_eq_true rfl, Nat.le_of_ble_eq_true rfl⟩ hP hD hS hA (bfl_p1 [_] 0 rfl) (fun u => (bfl_p1 [_] 0 rfl)) rfl rfl rfl hl.1 rfl (Nat.le_of_ble_eq_true rfl) ⟨Nat.zero_le _, Nat.zero_le _⟩ dX8_readFormula_71 (fun u H locs hw hP hD hS => ?_)
      obtain ⟨u3, u4, u5, u6⟩ := u
      try dsimp only at hw
      replace hP : va_P D vwCl (cwQS kI kB a h_ z_snapshotTaken z_book_alphabet_out z_book_signing u3 u4 u5 u6 z_snapshot_alphabet_out z_snapshot_signing z_snapshot_signs z_snapshot_sizes z_snapshot_lost z_snapshot_pile z_history z_text_characters z_text_firstSigns z_text_lastSigns z_text_numbers z_text_at z_text_allLetters_out z_writer_characters z_writer_entries z_found) H := hP
      replace hD : va_D A (cwQS kI kB a h_ z_snapshotTaken z_book_alphabet_out z_book_signing u3 u4 u5 u6 z_snapshot_alphabet_out z_snapshot_signing z_snapshot_signs z_snapshot_sizes z_snapshot_lost z_snapshot_pile z_history z_text_characters z_text_firstSigns z_text_lastSigns z_text_numbers z_text_at z_text_allLetters_out z_writer_characters z_writer_entries z_found) := hD
      refine lv_iinc (v := (v2 + nI 1)) (lv' := [(2, .int (v2 + nI 1)), (0, .ref (a 0))]) hx hb dX8_readFormula_74 hl (k := 1) rfl rfl (by decide) rfl (fun ls hl => ?_)
      refine lv_goto (tgt := 58) hx hb dX8_readFormula_77 (by decide) ?_
      exact ih u3 u4 u5 u6 (v2 + nI 1) hw H locs hP hD hS ls (lv_sub hl [1, 0] rfl)
set_option maxHeartbeats 4000000 in
set_option maxRecDepth 100000 in
theorem c_X8_readFormula (l : Launch) (D : va_G) (kI kC kB : ClassId) (a : AdT) (h_ : Nat → AdT) (z_snapshotTaken : Int32) (z_book_alphabet_out : Int32) (z_book_signing : Int32) (z_book_signs : RowT) (z_book_sizes : RowT) (z_book_lost : RowT) (z_book_pile : RowT) (z_snapshot_alphabet_out : Int32) (z_snapshot_signing : Int32) (z_snapshot_signs : RowT) (z_snapshot_sizes : RowT) (z_snapshot_lost : RowT) (z_snapshot_pile : RowT) (z_history : HistT) (z_text_characters : RowT) (z_text_firstSigns : RowT) (z_text_lastSigns : RowT) (z_text_numbers : RowT) (z_text_at : Int32) (z_text_allLetters_out : Int32) (z_writer_characters : RowT) (z_writer_entries : Int32) (z_found : RowT) (sz : Nat) (Post : Int32 → RowT → RowT → RowT → RowT → HistT → RowT → RowT → RowT → Int32 → Prop) (hw : wp_X8_readFormula z_book_alphabet_out z_book_signing z_book_signs z_book_sizes z_book_lost z_book_pile z_history z_text_characters z_text_firstSigns z_text_lastSigns z_text_numbers z_text_at Post) : CMi l D kI kC kB yX8_readFormula cX8_readFormula 3 (some .int) ({ frames := 6, cells := 0, slots := 0, locals := 136 } : Room) [.ref (a 0)] (cwQS kI kB a h_ z_snapshotTaken z_book_alphabet_out z_book_signing z_book_signs z_book_sizes z_book_lost z_book_pile z_snapshot_alphabet_out z_snapshot_signing z_snapshot_signs z_snapshot_sizes z_snapshot_lost z_snapshot_pile z_history z_text_characters z_text_firstSigns z_text_lastSigns z_text_numbers z_text_at z_text_allLetters_out z_writer_characters z_writer_entries z_found) sz (fun (r : Int32) (u : (Nat → AdT) × RowT × RowT × RowT × RowT × HistT × RowT × RowT × RowT × Int32) => Post r u.2.1 u.2.2.1 u.2.2.2.1 u.2.2.2.2.1 u.2.2.2.2.2.1 u.2.2.2.2.2.2.1 u.2.2.2.2.2.2.2.1 u.2.2.2.2.2.2.2.2.1 u.2.2.2.2.2.2.2.2.2) (fun u : (Nat → AdT) × RowT × RowT × RowT × RowT × HistT × RowT × RowT × RowT × Int32 => (cwQS kI kB a u.1 z_snapshotTaken z_book_alphabet_out z_book_signing u.2.1 u.2.2.1 u.2.2.2.1 u.2.2.2.2.1 z_snapshot_alphabet_out z_snapshot_signing z_snapshot_signs z_snapshot_sizes z_snapshot_lost z_snapshot_pile u.2.2.2.2.2.1 z_text_characters u.2.2.2.2.2.2.1 u.2.2.2.2.2.2.2.1 u.2.2.2.2.2.2.2.2.1 u.2.2.2.2.2.2.2.2.2 z_text_allLetters_out z_writer_characters z_writer_entries z_found)) := by
  refine entMi (by decide) (Nat.le_of_ble_eq_true rfl) ?_
  intro p e s m args below meth c ls A C hA hP hD hS hl
  obtain ⟨H, hHe⟩ : ∃ H, H = s.heap := ⟨_, rfl⟩
  obtain ⟨locs, hlo⟩ : ∃ lo : List Loc, lo = [] := ⟨_, rfl⟩
  have hS : va_S A s.heap H locs := by rw [hHe, hlo]; exact hS
  rw [← hHe] at hP
  suffices hg : W p l e ({ frames := 6, cells := 0, slots := 0, locals := 136 } : Room) s m args below meth c H locs 0 0 (MQ below (va_Qi (fun (r : Int32) (u : (Nat → AdT) × RowT × RowT × RowT × RowT × HistT × RowT × RowT × RowT × Int32) => Post r u.2.1 u.2.2.1 u.2.2.2.1 u.2.2.2.2.1 u.2.2.2.2.2.1 u.2.2.2.2.2.2.1 u.2.2.2.2.2.2.2.1 u.2.2.2.2.2.2.2.2.1 u.2.2.2.2.2.2.2.2.2) (BB D A (fun u : (Nat → AdT) × RowT × RowT × RowT × RowT × HistT × RowT × RowT × RowT × Int32 => (cwQS kI kB a u.1 z_snapshotTaken z_book_alphabet_out z_book_signing u.2.1 u.2.2.1 u.2.2.2.1 u.2.2.2.2.1 z_snapshot_alphabet_out z_snapshot_signing z_snapshot_signs z_snapshot_sizes z_snapshot_lost z_snapshot_pile u.2.2.2.2.2.1 z_text_characters u.2.2.2.2.2.2.1 u.2.2.2.2.2.2.2.1 u.2.2.2.2.2.2.2.2.1 u.2.2.2.2.2.2.2.2.2 z_text_allLetters_out z_writer_characters z_writer_entries z_found))) A) args s 0 0 A) (F0 m 0 ls []) by rw [hHe, hlo] at hg; exact hg
  replace hl : lv_has ls 3 [(0, .ref (a 0))] := hl
  obtain ⟨hx, hb, hr, hml, hown, hts, hlocks, hK⟩ := id C
  refine lv_aload_n hx hb dX8_readFormula_0 rfl (lv_at hl 0 rfl) ?_
  refine va_get (D := D) (ci := 6) (v := .ref (a 23)) (C := RX8) (T := TX8) (N := 7) hx hb hts inX8 hown hK.1 hP 0 rfl rfl 4 (by decide) (hts _ tw_165) (fun _ h9 => h9) rfl dX8_readFormula_1 ?_
  refine lv_aload_n hx hb dX8_readFormula_4 rfl (lv_at hl 0 rfl) ?_
  refine va_get (D := D) (ci := 6) (v := .ref (a 1)) (C := RX8) (T := TX8) (N := 7) hx hb hts inX8 hown hK.1 hP 0 rfl rfl 0 (by decide) (hts _ tw_161) (fun _ h9 => h9) rfl dX8_readFormula_5 ?_
  refine va_getN (D := D) (ci := 1) (v := .ref (a 2)) (C := RX1) (T := TX1) (N := 6) hx hb hts inX1 hown hK.1 hP 1 rfl rfl 0 (by decide) (va_Nw.use rfl (hK.2.1 _ nw_71)) (fun _ h9 => h9) rfl dX8_readFormula_8 ?_
  rw [qs_split] at hP hD
  refine kMBi (q0 := 0) (As := [.ref (a 2)]) (rest := []) (ws' := fun u : RowT × RowT × RowT × Int32 => (cwQS kI kB a h_ z_snapshotTaken z_book_alphabet_out z_book_signing z_book_signs z_book_sizes z_book_lost z_book_pile z_snapshot_alphabet_out z_snapshot_signing z_snapshot_signs z_snapshot_sizes z_snapshot_lost z_snapshot_pile z_history z_text_characters u.1 u.2.1 u.2.2.1 u.2.2.2 z_text_allLetters_out z_writer_characters z_writer_entries z_found)) C (c_X6_readAsFormula l D kI kC kB (fun i => a (i + 23)) (fun i => a (i + 2)) z_text_characters z_text_firstSigns z_text_lastSigns z_text_numbers z_text_at z_book_alphabet_out H.size _ hw) ⟨rfl, rfl⟩ ce_X6_readAsFormula cv_X6_readAsFormula tw_266 ⟨Nat.le_of_ble_eq_true rfl, Nat.le_of_ble_eq_true rfl⟩ hP hD hS hA (bfl_p2 [_, _, _, _, _, _, _, _, _, _] 6 2 rfl rfl) (fun u => by rw [qs_split]; exact (bfl_p2 [_, _, _, _, _, _, _, _, _, _] 6 2 rfl rfl)) rfl rfl rfl hl.1 rfl (Nat.le_of_ble_eq_true rfl) ⟨Nat.zero_le _, Nat.zero_le _⟩ dX8_readFormula_11 (fun r7 u H locs hw hP hD hS => ?_)
  obtain ⟨u8, u9, u10, u11⟩ := u
  try dsimp only at hw
  replace hP : va_P D vwCl (cwQS kI kB a h_ z_snapshotTaken z_book_alphabet_out z_book_signing z_book_signs z_book_sizes z_book_lost z_book_pile z_snapshot_alphabet_out z_snapshot_signing z_snapshot_signs z_snapshot_sizes z_snapshot_lost z_snapshot_pile z_history z_text_characters u8 u9 u10 u11 z_text_allLetters_out z_writer_characters z_writer_entries z_found) H := hP
  replace hD : va_D A (cwQS kI kB a h_ z_snapshotTaken z_book_alphabet_out z_book_signing z_book_signs z_book_sizes z_book_lost z_book_pile z_snapshot_alphabet_out z_snapshot_signing z_snapshot_signs z_snapshot_sizes z_snapshot_lost z_snapshot_pile z_history z_text_characters u8 u9 u10 u11 z_text_allLetters_out z_writer_characters z_writer_entries z_found) := hD
  refine lv_istore_n (lv' := [(1, .int r7), (0, .ref (a 0))]) hx hb dX8_readFormula_14 rfl hl (by decide) rfl (fun ls hl => ?_)
  refine lv_iload_n hx hb dX8_readFormula_15 rfl (lv_at hl 0 rfl) ?_
  refine lv_iconst (v := (-1)) hx hb dX8_readFormula_16 (by decide) ?_
  refine lv_icmp_eq (tgt := 25) hx hb dX8_readFormula_17 (by decide) (fun hc => ?_) (fun hc => ?_)
  · replace hw := hw.1 hc
    refine lv_aload_n hx hb dX8_readFormula_25 rfl (lv_at hl 1 rfl) ?_
    refine va_get (D := D) (ci := 6) (v := .ref (a 1)) (C := RX8) (T := TX8) (N := 7) hx hb hts inX8 hown hK.1 hP 0 rfl rfl 0 (by decide) (hts _ tw_161) (fun _ h9 => h9) rfl dX8_readFormula_26 ?_
    refine kRV (As := []) (rest := []) (q0 := 1) C (c_X1_quires l D kI kC kB (fun i => a (i + 1)) z_book_alphabet_out z_book_signing z_book_signs z_book_sizes z_book_lost z_book_pile _ hw) ⟨rfl, rfl⟩ ce_X1_quires cv_X1_quires tw_330 ⟨Nat.le_of_ble_eq_true rfl, Nat.le_of_ble_eq_true rfl⟩ hP [1, 2, 3, 4, 5, 6, 7, 8, 9, 10] rfl rfl rfl rfl hl.1 rfl (Nat.le_of_ble_eq_true rfl) ⟨Nat.zero_le _, Nat.zero_le _⟩ dX8_readFormula_29 (fun r12 hw => ?_)
    refine lv_aload_n hx hb dX8_readFormula_32 rfl (lv_at hl 1 rfl) ?_
    refine kRV (As := []) (rest := [.int r12]) (q0 := 0) C (c_X8_quiresOfText l D kI kC kB a h_ z_snapshotTaken z_book_alphabet_out z_book_signing z_book_signs z_book_sizes z_book_lost z_book_pile z_snapshot_alphabet_out z_snapshot_signing z_snapshot_signs z_snapshot_sizes z_snapshot_lost z_snapshot_pile z_history z_text_characters u8 u9 u10 u11 z_text_allLetters_out z_writer_characters z_writer_entries z_found _ hw) ⟨rfl, rfl⟩ ce_X8_quiresOfText cv_X8_quiresOfText tw_331 ⟨Nat.le_of_ble_eq_true rfl, Nat.le_of_ble_eq_true rfl⟩ hP [0, 1, 2, 3, 4, 5, 6, 7, 8, 9, 10, 11, 12, 13, 14, 15, 16, 17, 18, 19, 20, 21, 22, 23, 24, 25, 26, 27, 28, 29, 30, 31, 32, 33, 34, 35, 36, 37, 38, 39, 40, 41, 42, 43, 44, 45, 46, 47, 48, 49, 50, 51, 52, 53, 54, 55, 56, 57, 58, 59, 60, 61, 62, 63, 64, 65, 66, 67, 68, 69, 70, 71, 72, 73, 74, 75, 76, 77] rfl rfl rfl rfl hl.1 rfl (Nat.le_of_ble_eq_true rfl) ⟨Nat.zero_le _, Nat.zero_le _⟩ dX8_readFormula_33 (fun r13 hw => ?_)
    refine lv_iadd hx hb dX8_readFormula_36 ?_
    refine lv_bipush (v := (nI 40)) hx hb dX8_readFormula_37 (by decide) ?_
    refine lv_icmp_le (tgt := 45) hx hb dX8_readFormula_39 (by decide) (fun hc => ?_) (fun hc => ?_)
    · replace hw := hw.1 hc
      refine lv_aload_n hx hb dX8_readFormula_45 rfl (lv_at hl 1 rfl) ?_
      refine va_get (D := D) (ci := 6) (v := .ref (a 21)) (C := RX8) (T := TX8) (N := 7) hx hb hts inX8 hown hK.1 hP 0 rfl rfl 3 (by decide) (hts _ tw_164) (fun _ h9 => h9) rfl dX8_readFormula_46 ?_
      refine lv_aload_n hx hb dX8_readFormula_49 rfl (lv_at hl 1 rfl) ?_
      refine va_get (D := D) (ci := 6) (v := .ref (a 1)) (C := RX8) (T := TX8) (N := 7) hx hb hts inX8 hown hK.1 hP 0 rfl rfl 0 (by decide) (hts _ tw_161) (fun _ h9 => h9) rfl dX8_readFormula_50 ?_
      refine kMBv (q0 := 0) (As := [.ref (a 1)]) (rest := []) (ws' := fun u : (Nat → AdT) × HistT => (cwQS kI kB a u.1 z_snapshotTaken z_book_alphabet_out z_book_signing z_book_signs z_book_sizes z_book_lost z_book_pile z_snapshot_alphabet_out z_snapshot_signing z_snapshot_signs z_snapshot_sizes z_snapshot_lost z_snapshot_pile u.2 z_text_characters u8 u9 u10 u11 z_text_allLetters_out z_writer_characters z_writer_entries z_found)) C (c_X2_record l D kI kC kB (fun i => a (i + 21)) h_ (fun i => a (i + 1)) z_history z_book_alphabet_out z_book_signing z_book_signs z_book_sizes z_book_lost z_book_pile H.size _ hw) ⟨rfl, rfl⟩ ce_X2_record cv_X2_record tw_201 ⟨Nat.le_of_ble_eq_true rfl, Nat.le_of_ble_eq_true rfl⟩ hP hD hS hA (bfl_p2 [_, _, _, _, _, _, _, _] 3 1 rfl rfl) (fun u => (bfl_p2 [_, _, _, _, _, _, _, _] 3 1 rfl rfl)) rfl rfl rfl hl.1 rfl (Nat.le_of_ble_eq_true rfl) ⟨Nat.zero_le _, Nat.zero_le _⟩ dX8_readFormula_53 (fun u H locs hw hP hD hS => ?_)
      obtain ⟨h15, u14⟩ := u
      try dsimp only at hw
      replace hP : va_P D vwCl (cwQS kI kB a h15 z_snapshotTaken z_book_alphabet_out z_book_signing z_book_signs z_book_sizes z_book_lost z_book_pile z_snapshot_alphabet_out z_snapshot_signing z_snapshot_signs z_snapshot_sizes z_snapshot_lost z_snapshot_pile u14 z_text_characters u8 u9 u10 u11 z_text_allLetters_out z_writer_characters z_writer_entries z_found) H := hP
      replace hD : va_D A (cwQS kI kB a h15 z_snapshotTaken z_book_alphabet_out z_book_signing z_book_signs z_book_sizes z_book_lost z_book_pile z_snapshot_alphabet_out z_snapshot_signing z_snapshot_signs z_snapshot_sizes z_snapshot_lost z_snapshot_pile u14 z_text_characters u8 u9 u10 u11 z_text_allLetters_out z_writer_characters z_writer_entries z_found) := hD
      refine lv_iconst (v := (nI 0)) hx hb dX8_readFormula_56 (by decide) ?_
      refine lv_istore_n (lv' := [(2, .int (nI 0)), (1, .int r7), (0, .ref (a 0))]) hx hb dX8_readFormula_57 rfl hl (by decide) rfl (fun ls hl => ?_)
      obtain ⟨n9, hw⟩ := hw
      exact cl_X8_readFormula_58 l D kI kC kB a h15 z_snapshotTaken z_book_alphabet_out z_book_signing z_snapshot_alphabet_out z_snapshot_signing z_snapshot_signs z_snapshot_sizes z_snapshot_lost z_snapshot_pile u14 z_text_characters u8 u9 u10 u11 z_text_allLetters_out z_writer_characters z_writer_entries z_found Post hA C n9 z_book_signs z_book_sizes z_book_lost z_book_pile (nI 0) hw H locs hP hD hS ls (lv_sub hl [2, 0] rfl)
    · replace hw := hw.2 hc
      refine lv_bipush (v := (-3)) hx hb dX8_readFormula_42 (by decide) ?_
      exact retMi C (h_, z_book_signs, z_book_sizes, z_book_lost, z_book_pile, z_history, u8, u9, u10, u11) hw hP hD hS dX8_readFormula_44
  · replace hw := hw.2 hc
    refine lv_bipush (v := (-100)) hx hb dX8_readFormula_20 (by decide) ?_
    refine lv_iload_n hx hb dX8_readFormula_22 rfl (lv_at hl 0 rfl) ?_
    refine lv_isub hx hb dX8_readFormula_23 ?_
    exact retMi C (h_, z_book_signs, z_book_sizes, z_book_lost, z_book_pile, z_history, u8, u9, u10, u11) hw hP hD hS dX8_readFormula_24
set_option maxHeartbeats 4000000 in
set_option maxRecDepth 100000 in
theorem c_X8_isQuireSize (l : Launch) (D : va_G) (kI kC kB : ClassId)  (p1 : Int32) (Post : Int32 → Prop) (hw : wp_X8_isQuireSize p1 Post) : CR l D kI kC kB yX8_isQuireSize cX8_isQuireSize 1 (some .boolean) ({ frames := 0, cells := 0, slots := 0, locals := 0 } : Room) [.int p1] ([] : va_W) Post := by
  refine entR (by decide) (Nat.le_of_ble_eq_true rfl) ?_
  intro p e s m args below meth c ls C hP hl
  replace hl : lv_has ls 1 [(0, .int p1)] := hl
  obtain ⟨hx, hb, hr, hml, hown, hts, hlocks, hK⟩ := id C
  refine lv_iload_n hx hb dX8_isQuireSize_0 rfl (lv_at hl 0 rfl) ?_
  refine lv_iconst (v := (nI 1)) hx hb dX8_isQuireSize_1 (by decide) ?_
  refine lv_icmp_lt (tgt := 15) hx hb dX8_isQuireSize_2 (by decide) (fun hc => ?_) (fun hc => ?_)
  · replace hw := hw.1 hc
    refine lv_iconst (v := (nI 0)) hx hb dX8_isQuireSize_15 (by decide) ?_
    exact retRz C (by decide) hw dX8_isQuireSize_16
  · replace hw := hw.2 hc
    refine lv_iload_n hx hb dX8_isQuireSize_5 rfl (lv_at hl 0 rfl) ?_
    refine lv_bipush (v := (nI 24)) hx hb dX8_isQuireSize_6 (by decide) ?_
    refine lv_icmp_gt (tgt := 15) hx hb dX8_isQuireSize_8 (by decide) (fun hc => ?_) (fun hc => ?_)
    · replace hw := hw.1 hc
      refine lv_iconst (v := (nI 0)) hx hb dX8_isQuireSize_15 (by decide) ?_
      exact retRz C (by decide) hw dX8_isQuireSize_16
    · replace hw := hw.2 hc
      refine lv_iconst (v := (nI 1)) hx hb dX8_isQuireSize_11 (by decide) ?_
      refine lv_goto (tgt := 16) hx hb dX8_isQuireSize_12 (by decide) ?_
      exact retRz C (by decide) hw dX8_isQuireSize_16
set_option maxHeartbeats 4000000 in
set_option maxRecDepth 100000 in
theorem c_X8_signNext (l : Launch) (D : va_G) (kI kC kB : ClassId) (a : AdT) (h_ : Nat → AdT) (z_snapshotTaken : Int32) (z_book_alphabet_out : Int32) (z_book_signing : Int32) (z_book_signs : RowT) (z_book_sizes : RowT) (z_book_lost : RowT) (z_book_pile : RowT) (z_snapshot_alphabet_out : Int32) (z_snapshot_signing : Int32) (z_snapshot_signs : RowT) (z_snapshot_sizes : RowT) (z_snapshot_lost : RowT) (z_snapshot_pile : RowT) (z_history : HistT) (z_text_characters : RowT) (z_text_firstSigns : RowT) (z_text_lastSigns : RowT) (z_text_numbers : RowT) (z_text_at : Int32) (z_text_allLetters_out : Int32) (z_writer_characters : RowT) (z_writer_entries : Int32) (z_found : RowT) (sz : Nat) (p1 : Int32) (Post : Int32 → RowT → RowT → RowT → RowT → HistT → Prop) (hw : wp_X8_signNext z_book_alphabet_out z_book_signing z_book_signs z_book_sizes z_book_lost z_book_pile z_history p1 Post) : CMi l D kI kC kB yX8_signNext cX8_signNext 3 (some .int) ({ frames := 4, cells := 0, slots := 0, locals := 87 } : Room) [.ref (a 0), .int p1] (cwQS kI kB a h_ z_snapshotTaken z_book_alphabet_out z_book_signing z_book_signs z_book_sizes z_book_lost z_book_pile z_snapshot_alphabet_out z_snapshot_signing z_snapshot_signs z_snapshot_sizes z_snapshot_lost z_snapshot_pile z_history z_text_characters z_text_firstSigns z_text_lastSigns z_text_numbers z_text_at z_text_allLetters_out z_writer_characters z_writer_entries z_found) sz (fun (r : Int32) (u : (Nat → AdT) × RowT × RowT × RowT × RowT × HistT) => Post r u.2.1 u.2.2.1 u.2.2.2.1 u.2.2.2.2.1 u.2.2.2.2.2) (fun u : (Nat → AdT) × RowT × RowT × RowT × RowT × HistT => (cwQS kI kB a u.1 z_snapshotTaken z_book_alphabet_out z_book_signing u.2.1 u.2.2.1 u.2.2.2.1 u.2.2.2.2.1 z_snapshot_alphabet_out z_snapshot_signing z_snapshot_signs z_snapshot_sizes z_snapshot_lost z_snapshot_pile u.2.2.2.2.2 z_text_characters z_text_firstSigns z_text_lastSigns z_text_numbers z_text_at z_text_allLetters_out z_writer_characters z_writer_entries z_found)) := by
  refine entMi (by decide) (Nat.le_of_ble_eq_true rfl) ?_
  intro p e s m args below meth c ls A C hA hP hD hS hl
  obtain ⟨H, hHe⟩ : ∃ H, H = s.heap := ⟨_, rfl⟩
  obtain ⟨locs, hlo⟩ : ∃ lo : List Loc, lo = [] := ⟨_, rfl⟩
  have hS : va_S A s.heap H locs := by rw [hHe, hlo]; exact hS
  rw [← hHe] at hP
  suffices hg : W p l e ({ frames := 4, cells := 0, slots := 0, locals := 87 } : Room) s m args below meth c H locs 0 0 (MQ below (va_Qi (fun (r : Int32) (u : (Nat → AdT) × RowT × RowT × RowT × RowT × HistT) => Post r u.2.1 u.2.2.1 u.2.2.2.1 u.2.2.2.2.1 u.2.2.2.2.2) (BB D A (fun u : (Nat → AdT) × RowT × RowT × RowT × RowT × HistT => (cwQS kI kB a u.1 z_snapshotTaken z_book_alphabet_out z_book_signing u.2.1 u.2.2.1 u.2.2.2.1 u.2.2.2.2.1 z_snapshot_alphabet_out z_snapshot_signing z_snapshot_signs z_snapshot_sizes z_snapshot_lost z_snapshot_pile u.2.2.2.2.2 z_text_characters z_text_firstSigns z_text_lastSigns z_text_numbers z_text_at z_text_allLetters_out z_writer_characters z_writer_entries z_found))) A) args s 0 0 A) (F0 m 0 ls []) by rw [hHe, hlo] at hg; exact hg
  replace hl : lv_has ls 3 [(0, .ref (a 0)), (1, .int p1)] := hl
  obtain ⟨hx, hb, hr, hml, hown, hts, hlocks, hK⟩ := id C
  refine lv_iload_n hx hb dX8_signNext_0 rfl (lv_at hl 1 rfl) ?_
  refine kRS (As := [.int p1]) (rest := []) C (c_X8_isQuireSize l D kI kC kB  p1 _ hw) ⟨rfl, rfl⟩ ce_X8_isQuireSize cv_X8_isQuireSize tw_374 ⟨Nat.le_of_ble_eq_true rfl, Nat.le_of_ble_eq_true rfl⟩ hP [] rfl hl.1 rfl (Nat.le_of_ble_eq_true rfl) ⟨Nat.zero_le _, Nat.zero_le _⟩ dX8_signNext_1 (fun r1 hw => ?_)
  refine lv_if_ne (tgt := 10) hx hb dX8_signNext_4 (by decide) (fun hc => ?_) (fun hc => ?_)
  · replace hw := hw.2 hc
    refine lv_aload_n hx hb dX8_signNext_10 rfl (lv_at hl 0 rfl) ?_
    refine va_get (D := D) (ci := 6) (v := .ref (a 1)) (C := RX8) (T := TX8) (N := 7) hx hb hts inX8 hown hK.1 hP 0 rfl rfl 0 (by decide) (hts _ tw_161) (fun _ h9 => h9) rfl dX8_signNext_11 ?_
    refine kRV (As := []) (rest := []) (q0 := 1) C (c_X1_quires l D kI kC kB (fun i => a (i + 1)) z_book_alphabet_out z_book_signing z_book_signs z_book_sizes z_book_lost z_book_pile _ hw) ⟨rfl, rfl⟩ ce_X1_quires cv_X1_quires tw_330 ⟨Nat.le_of_ble_eq_true rfl, Nat.le_of_ble_eq_true rfl⟩ hP [1, 2, 3, 4, 5, 6, 7, 8, 9, 10] rfl rfl rfl rfl hl.1 rfl (Nat.le_of_ble_eq_true rfl) ⟨Nat.zero_le _, Nat.zero_le _⟩ dX8_signNext_14 (fun r2 hw => ?_)
    refine lv_bipush (v := (nI 40)) hx hb dX8_signNext_17 (by decide) ?_
    refine lv_icmp_lt (tgt := 25) hx hb dX8_signNext_19 (by decide) (fun hc => ?_) (fun hc => ?_)
    · replace hw := hw.1 hc
      refine lv_aload_n hx hb dX8_signNext_25 rfl (lv_at hl 0 rfl) ?_
      refine va_get (D := D) (ci := 6) (v := .ref (a 1)) (C := RX8) (T := TX8) (N := 7) hx hb hts inX8 hown hK.1 hP 0 rfl rfl 0 (by decide) (hts _ tw_161) (fun _ h9 => h9) rfl dX8_signNext_26 ?_
      refine va_getN (D := D) (ci := 1) (v := .ref (a 2)) (C := RX1) (T := TX1) (N := 6) hx hb hts inX1 hown hK.1 hP 1 rfl rfl 0 (by decide) (va_Nw.use rfl (hK.2.1 _ nw_71)) (fun _ h9 => h9) rfl dX8_signNext_29 ?_
      refine lv_aload_n hx hb dX8_signNext_32 rfl (lv_at hl 0 rfl) ?_
      refine va_get (D := D) (ci := 6) (v := .ref (a 1)) (C := RX8) (T := TX8) (N := 7) hx hb hts inX8 hown hK.1 hP 0 rfl rfl 0 (by decide) (hts _ tw_161) (fun _ h9 => h9) rfl dX8_signNext_33 ?_
      refine lv_aload_n hx hb dX8_signNext_36 rfl (lv_at hl 0 rfl) ?_
      refine va_get (D := D) (ci := 6) (v := .ref (a 1)) (C := RX8) (T := TX8) (N := 7) hx hb hts inX8 hown hK.1 hP 0 rfl rfl 0 (by decide) (hts _ tw_161) (fun _ h9 => h9) rfl dX8_signNext_37 ?_
      refine kRV (As := []) (rest := [.ref (a 1), .ref (a 2)]) (q0 := 1) C (c_X1_quires l D kI kC kB (fun i => a (i + 1)) z_book_alphabet_out z_book_signing z_book_signs z_book_sizes z_book_lost z_book_pile _ hw) ⟨rfl, rfl⟩ ce_X1_quires cv_X1_quires tw_330 ⟨Nat.le_of_ble_eq_true rfl, Nat.le_of_ble_eq_true rfl⟩ hP [1, 2, 3, 4, 5, 6, 7, 8, 9, 10] rfl rfl rfl rfl hl.1 rfl (Nat.le_of_ble_eq_true rfl) ⟨Nat.zero_le _, Nat.zero_le _⟩ dX8_signNext_40 (fun r3 hw => ?_)
      refine kRV (As := [.int r3]) (rest := [.ref (a 2)]) (q0 := 1) C (c_X1_lastLettersAhead l D kI kC kB (fun i => a (i + 1)) z_book_alphabet_out z_book_signing z_book_signs z_book_sizes z_book_lost z_book_pile r3 _ hw) ⟨rfl, rfl⟩ ce_X1_lastLettersAhead cv_X1_lastLettersAhead tw_377 ⟨Nat.le_of_ble_eq_true rfl, Nat.le_of_ble_eq_true rfl⟩ hP [1, 2, 3, 4, 5, 6, 7, 8, 9, 10] rfl rfl rfl rfl hl.1 rfl (Nat.le_of_ble_eq_true rfl) ⟨Nat.zero_le _, Nat.zero_le _⟩ dX8_signNext_43 (fun r4 hw => ?_)
      refine kRV (As := [.int r4]) (rest := []) (q0 := 2) C (c_X0_nextSign l D kI kC kB (fun i => a (i + 2)) z_book_alphabet_out r4 _ hw) ⟨rfl, rfl⟩ ce_X0_nextSign cv_X0_nextSign tw_382 ⟨Nat.le_of_ble_eq_true rfl, Nat.le_of_ble_eq_true rfl⟩ hP [2] rfl rfl rfl rfl hl.1 rfl (Nat.le_of_ble_eq_true rfl) ⟨Nat.zero_le _, Nat.zero_le _⟩ dX8_signNext_46 (fun r5 hw => ?_)
      refine lv_istore_n (lv' := [(2, .int r5), (0, .ref (a 0)), (1, .int p1)]) hx hb dX8_signNext_49 rfl hl (by decide) rfl (fun ls hl => ?_)
      refine lv_iload_n hx hb dX8_signNext_50 rfl (lv_at hl 0 rfl) ?_
      refine lv_iconst (v := (-1)) hx hb dX8_signNext_51 (by decide) ?_
      refine lv_icmp_ne (tgt := 58) hx hb dX8_signNext_52 (by decide) (fun hc => ?_) (fun hc => ?_)
      · replace hw := hw.2 hc
        refine lv_aload_n hx hb dX8_signNext_58 rfl (lv_at hl 1 rfl) ?_
        refine va_get (D := D) (ci := 6) (v := .ref (a 21)) (C := RX8) (T := TX8) (N := 7) hx hb hts inX8 hown hK.1 hP 0 rfl rfl 3 (by decide) (hts _ tw_164) (fun _ h9 => h9) rfl dX8_signNext_59 ?_
        refine lv_aload_n hx hb dX8_signNext_62 rfl (lv_at hl 1 rfl) ?_
        refine va_get (D := D) (ci := 6) (v := .ref (a 1)) (C := RX8) (T := TX8) (N := 7) hx hb hts inX8 hown hK.1 hP 0 rfl rfl 0 (by decide) (hts _ tw_161) (fun _ h9 => h9) rfl dX8_signNext_63 ?_
        refine kMBv (q0 := 0) (As := [.ref (a 1)]) (rest := []) (ws' := fun u : (Nat → AdT) × HistT => (cwQS kI kB a u.1 z_snapshotTaken z_book_alphabet_out z_book_signing z_book_signs z_book_sizes z_book_lost z_book_pile z_snapshot_alphabet_out z_snapshot_signing z_snapshot_signs z_snapshot_sizes z_snapshot_lost z_snapshot_pile u.2 z_text_characters z_text_firstSigns z_text_lastSigns z_text_numbers z_text_at z_text_allLetters_out z_writer_characters z_writer_entries z_found)) C (c_X2_record l D kI kC kB (fun i => a (i + 21)) h_ (fun i => a (i + 1)) z_history z_book_alphabet_out z_book_signing z_book_signs z_book_sizes z_book_lost z_book_pile H.size _ hw) ⟨rfl, rfl⟩ ce_X2_record cv_X2_record tw_201 ⟨Nat.le_of_ble_eq_true rfl, Nat.le_of_ble_eq_true rfl⟩ hP hD hS hA (bfl_p2 [_, _, _, _, _, _, _, _] 3 1 rfl rfl) (fun u => (bfl_p2 [_, _, _, _, _, _, _, _] 3 1 rfl rfl)) rfl rfl rfl hl.1 rfl (Nat.le_of_ble_eq_true rfl) ⟨Nat.zero_le _, Nat.zero_le _⟩ dX8_signNext_66 (fun u H locs hw hP hD hS => ?_)
        obtain ⟨h7, u6⟩ := u
        try dsimp only at hw
        replace hP : va_P D vwCl (cwQS kI kB a h7 z_snapshotTaken z_book_alphabet_out z_book_signing z_book_signs z_book_sizes z_book_lost z_book_pile z_snapshot_alphabet_out z_snapshot_signing z_snapshot_signs z_snapshot_sizes z_snapshot_lost z_snapshot_pile u6 z_text_characters z_text_firstSigns z_text_lastSigns z_text_numbers z_text_at z_text_allLetters_out z_writer_characters z_writer_entries z_found) H := hP
        replace hD : va_D A (cwQS kI kB a h7 z_snapshotTaken z_book_alphabet_out z_book_signing z_book_signs z_book_sizes z_book_lost z_book_pile z_snapshot_alphabet_out z_snapshot_signing z_snapshot_signs z_snapshot_sizes z_snapshot_lost z_snapshot_pile u6 z_text_characters z_text_firstSigns z_text_lastSigns z_text_numbers z_text_at z_text_allLetters_out z_writer_characters z_writer_entries z_found) := hD
        refine lv_aload_n hx hb dX8_signNext_69 rfl (lv_at hl 1 rfl) ?_
        refine va_get (D := D) (ci := 6) (v := .ref (a 1)) (C := RX8) (T := TX8) (N := 7) hx hb hts inX8 hown hK.1 hP 0 rfl rfl 0 (by decide) (hts _ tw_161) (fun _ h9 => h9) rfl dX8_signNext_70 ?_
        refine lv_aload_n hx hb dX8_signNext_73 rfl (lv_at hl 1 rfl) ?_
        refine va_get (D := D) (ci := 6) (v := .ref (a 1)) (C := RX8) (T := TX8) (N := 7) hx hb hts inX8 hown hK.1 hP 0 rfl rfl 0 (by decide) (hts _ tw_161) (fun _ h9 => h9) rfl dX8_signNext_74 ?_
        refine kRV (As := []) (rest := [.ref (a 1)]) (q0 := 1) C (c_X1_quires l D kI kC kB (fun i => a (i + 1)) z_book_alphabet_out z_book_signing z_book_signs z_book_sizes z_book_lost z_book_pile _ hw) ⟨rfl, rfl⟩ ce_X1_quires cv_X1_quires tw_330 ⟨Nat.le_of_ble_eq_true rfl, Nat.le_of_ble_eq_true rfl⟩ hP [1, 2, 3, 4, 5, 6, 7, 8, 9, 10] rfl rfl rfl rfl hl.1 rfl (Nat.le_of_ble_eq_true rfl) ⟨Nat.zero_le _, Nat.zero_le _⟩ dX8_signNext_77 (fun r8 hw => ?_)
        refine lv_iload_n hx hb dX8_signNext_80 rfl (lv_at hl 0 rfl) ?_
        refine lv_iload_n hx hb dX8_signNext_81 rfl (lv_at hl 2 rfl) ?_
        refine kMBv (q0 := 0) (As := [.int r8, .int r5, .int p1]) (rest := []) (ws' := fun u : RowT × RowT × RowT × RowT => (cwQS kI kB a h7 z_snapshotTaken z_book_alphabet_out z_book_signing u.1 u.2.1 u.2.2.1 u.2.2.2 z_snapshot_alphabet_out z_snapshot_signing z_snapshot_signs z_snapshot_sizes z_snapshot_lost z_snapshot_pile u6 z_text_characters z_text_firstSigns z_text_lastSigns z_text_numbers z_text_at z_text_allLetters_out z_writer_characters z_writer_entries z_found)) C (c_X1_addQuire l D kI kC kB (fun i => a (i + 1)) z_book_alphabet_out z_book_signing z_book_signs z_book_sizes z_book_lost z_book_pile H.size r8 r5 p1 _ hw) ⟨rfl, rfl⟩ ce_X1_addQuire cv_X1_addQuire tw_363 ⟨Nat.le_of_ble_eq_true rfl, Nat.le_of_ble_eq_true rfl⟩ hP hD hS hA (bfl_p1 [_, _, _, _, _, _, _, _] 1 rfl) (fun u => (bfl_p1 [_, _, _, _, _, _, _, _] 1 rfl)) rfl rfl rfl hl.1 rfl (Nat.le_of_ble_eq_true rfl) ⟨Nat.zero_le _, Nat.zero_le _⟩ dX8_signNext_82 (fun u H locs hw hP hD hS => ?_)
        obtain ⟨u9, u10, u11, u12⟩ := u
        try dsimp only at hw
        replace hP : va_P D vwCl (cwQS kI kB a h7 z_snapshotTaken z_book_alphabet_out z_book_signing u9 u10 u11 u12 z_snapshot_alphabet_out z_snapshot_signing z_snapshot_signs z_snapshot_sizes z_snapshot_lost z_snapshot_pile u6 z_text_characters z_text_firstSigns z_text_lastSigns z_text_numbers z_text_at z_text_allLetters_out z_writer_characters z_writer_entries z_found) H := hP
        replace hD : va_D A (cwQS kI kB a h7 z_snapshotTaken z_book_alphabet_out z_book_signing u9 u10 u11 u12 z_snapshot_alphabet_out z_snapshot_signing z_snapshot_signs z_snapshot_sizes z_snapshot_lost z_snapshot_pile u6 z_text_characters z_text_firstSigns z_text_lastSigns z_text_numbers z_text_at z_text_allLetters_out z_writer_characters z_writer_entries z_found) := hD
        refine lv_aload_n hx hb dX8_signNext_85 rfl (lv_at hl 1 rfl) ?_
        refine va_get (D := D) (ci := 6) (v := .ref (a 1)) (C := RX8) (T := TX8) (N := 7) hx hb hts inX8 hown hK.1 hP 0 rfl rfl 0 (by decide) (hts _ tw_161) (fun _ h9 => h9) rfl dX8_signNext_86 ?_
        refine kRV (As := []) (rest := []) (q0 := 1) C (c_X1_quires l D kI kC kB (fun i => a (i + 1)) z_book_alphabet_out z_book_signing u9 u10 u11 u12 _ hw) ⟨rfl, rfl⟩ ce_X1_quires cv_X1_quires tw_330 ⟨Nat.le_of_ble_eq_true rfl, Nat.le_of_ble_eq_true rfl⟩ hP [1, 2, 3, 4, 5, 6, 7, 8, 9, 10] rfl rfl rfl rfl hl.1 rfl (Nat.le_of_ble_eq_true rfl) ⟨Nat.zero_le _, Nat.zero_le _⟩ dX8_signNext_89 (fun r13 hw => ?_)
        refine lv_iconst (v := (nI 1)) hx hb dX8_signNext_92 (by decide) ?_
        refine lv_isub hx hb dX8_signNext_93 ?_
        exact retMi C (h7, u9, u10, u11, u12, u6) hw hP hD hS dX8_signNext_94
      · replace hw := hw.1 hc
        refine lv_bipush (v := (-4)) hx hb dX8_signNext_55 (by decide) ?_
        exact retMi C (h_, z_book_signs, z_book_sizes, z_book_lost, z_book_pile, z_history) hw hP hD hS dX8_signNext_57
    · replace hw := hw.2 hc
      refine lv_bipush (v := (-3)) hx hb dX8_signNext_22 (by decide) ?_
      exact retMi C (h_, z_book_signs, z_book_sizes, z_book_lost, z_book_pile, z_history) hw hP hD hS dX8_signNext_24
  · replace hw := hw.1 hc
    refine lv_bipush (v := (-2)) hx hb dX8_signNext_7 (by decide) ?_
    exact retMi C (h_, z_book_signs, z_book_sizes, z_book_lost, z_book_pile, z_history) hw hP hD hS dX8_signNext_9
set_option maxHeartbeats 4000000 in
set_option maxRecDepth 100000 in
theorem c_X8_insert (l : Launch) (D : va_G) (kI kC kB : ClassId) (a : AdT) (h_ : Nat → AdT) (z_snapshotTaken : Int32) (z_book_alphabet_out : Int32) (z_book_signing : Int32) (z_book_signs : RowT) (z_book_sizes : RowT) (z_book_lost : RowT) (z_book_pile : RowT) (z_snapshot_alphabet_out : Int32) (z_snapshot_signing : Int32) (z_snapshot_signs : RowT) (z_snapshot_sizes : RowT) (z_snapshot_lost : RowT) (z_snapshot_pile : RowT) (z_history : HistT) (z_text_characters : RowT) (z_text_firstSigns : RowT) (z_text_lastSigns : RowT) (z_text_numbers : RowT) (z_text_at : Int32) (z_text_allLetters_out : Int32) (z_writer_characters : RowT) (z_writer_entries : Int32) (z_found : RowT) (sz : Nat) (p1 : Int32) (p2 : Int32) (p3 : Int32) (Post : Int32 → RowT → RowT → RowT → RowT → HistT → Prop) (hw : wp_X8_insert z_book_alphabet_out z_book_signing z_book_signs z_book_sizes z_book_lost z_book_pile z_history p1 p2 p3 Post) : CMi l D kI kC kB yX8_insert cX8_insert 4 (some .int) ({ frames := 4, cells := 0, slots := 0, locals := 87 } : Room) [.ref (a 0), .int p1, .int p2, .int p3] (cwQS kI kB a h_ z_snapshotTaken z_book_alphabet_out z_book_signing z_book_signs z_book_sizes z_book_lost z_book_pile z_snapshot_alphabet_out z_snapshot_signing z_snapshot_signs z_snapshot_sizes z_snapshot_lost z_snapshot_pile z_history z_text_characters z_text_firstSigns z_text_lastSigns z_text_numbers z_text_at z_text_allLetters_out z_writer_characters z_writer_entries z_found) sz (fun (r : Int32) (u : (Nat → AdT) × RowT × RowT × RowT × RowT × HistT) => Post r u.2.1 u.2.2.1 u.2.2.2.1 u.2.2.2.2.1 u.2.2.2.2.2) (fun u : (Nat → AdT) × RowT × RowT × RowT × RowT × HistT => (cwQS kI kB a u.1 z_snapshotTaken z_book_alphabet_out z_book_signing u.2.1 u.2.2.1 u.2.2.2.1 u.2.2.2.2.1 z_snapshot_alphabet_out z_snapshot_signing z_snapshot_signs z_snapshot_sizes z_snapshot_lost z_snapshot_pile u.2.2.2.2.2 z_text_characters z_text_firstSigns z_text_lastSigns z_text_numbers z_text_at z_text_allLetters_out z_writer_characters z_writer_entries z_found)) := by
  refine entMi (by decide) (Nat.le_of_ble_eq_true rfl) ?_
  intro p e s m args below meth c ls A C hA hP hD hS hl
  obtain ⟨H, hHe⟩ : ∃ H, H = s.heap := ⟨_, rfl⟩
  obtain ⟨locs, hlo⟩ : ∃ lo : List Loc, lo = [] := ⟨_, rfl⟩
  have hS : va_S A s.heap H locs := by rw [hHe, hlo]; exact hS
  rw [← hHe] at hP
  suffices hg : W p l e ({ frames := 4, cells := 0, slots := 0, locals := 87 } : Room) s m args below meth c H locs 0 0 (MQ below (va_Qi (fun (r : Int32) (u : (Nat → AdT) × RowT × RowT × RowT × RowT × HistT) => Post r u.2.1 u.2.2.1 u.2.2.2.1 u.2.2.2.2.1 u.2.2.2.2.2) (BB D A (fun u : (Nat → AdT) × RowT × RowT × RowT × RowT × HistT => (cwQS kI kB a u.1 z_snapshotTaken z_book_alphabet_out z_book_signing u.2.1 u.2.2.1 u.2.2.2.1 u.2.2.2.2.1 z_snapshot_alphabet_out z_snapshot_signing z_snapshot_signs z_snapshot_sizes z_snapshot_lost z_snapshot_pile u.2.2.2.2.2 z_text_characters z_text_firstSigns z_text_lastSigns z_text_numbers z_text_at z_text_allLetters_out z_writer_characters z_writer_entries z_found))) A) args s 0 0 A) (F0 m 0 ls []) by rw [hHe, hlo] at hg; exact hg
  replace hl : lv_has ls 4 [(0, .ref (a 0)), (1, .int p1), (2, .int p2), (3, .int p3)] := hl
  obtain ⟨hx, hb, hr, hml, hown, hts, hlocks, hK⟩ := id C
  refine lv_iload_n hx hb dX8_insert_0 rfl (lv_at hl 1 rfl) ?_
  refine lv_if_lt (tgt := 15) hx hb dX8_insert_1 (by decide) (fun hc => ?_) (fun hc => ?_)
  · replace hw := hw.1 hc
    refine lv_iconst (v := (-1)) hx hb dX8_insert_15 (by decide) ?_
    exact retMi C (h_, z_book_signs, z_book_sizes, z_book_lost, z_book_pile, z_history) hw hP hD hS dX8_insert_16
  · replace hw := hw.2 hc
    refine lv_iload_n hx hb dX8_insert_4 rfl (lv_at hl 1 rfl) ?_
    refine lv_aload_n hx hb dX8_insert_5 rfl (lv_at hl 0 rfl) ?_
    refine va_get (D := D) (ci := 6) (v := .ref (a 1)) (C := RX8) (T := TX8) (N := 7) hx hb hts inX8 hown hK.1 hP 0 rfl rfl 0 (by decide) (hts _ tw_161) (fun _ h9 => h9) rfl dX8_insert_6 ?_
    refine kRV (As := []) (rest := [.int p1]) (q0 := 1) C (c_X1_quires l D kI kC kB (fun i => a (i + 1)) z_book_alphabet_out z_book_signing z_book_signs z_book_sizes z_book_lost z_book_pile _ hw) ⟨rfl, rfl⟩ ce_X1_quires cv_X1_quires tw_330 ⟨Nat.le_of_ble_eq_true rfl, Nat.le_of_ble_eq_true rfl⟩ hP [1, 2, 3, 4, 5, 6, 7, 8, 9, 10] rfl rfl rfl rfl hl.1 rfl (Nat.le_of_ble_eq_true rfl) ⟨Nat.zero_le _, Nat.zero_le _⟩ dX8_insert_9 (fun r1 hw => ?_)
    refine lv_icmp_le (tgt := 17) hx hb dX8_insert_12 (by decide) (fun hc => ?_) (fun hc => ?_)
    · replace hw := hw.1 hc
      refine lv_iload_n hx hb dX8_insert_17 rfl (lv_at hl 2 rfl) ?_
      refine lv_iconst (v := (nI 1)) hx hb dX8_insert_18 (by decide) ?_
      refine lv_icmp_lt (tgt := 34) hx hb dX8_insert_19 (by decide) (fun hc => ?_) (fun hc => ?_)
      · replace hw := hw.1 hc
        refine lv_bipush (v := (-2)) hx hb dX8_insert_34 (by decide) ?_
        exact retMi C (h_, z_book_signs, z_book_sizes, z_book_lost, z_book_pile, z_history) hw hP hD hS dX8_insert_36
      · replace hw := hw.2 hc
        refine lv_iload_n hx hb dX8_insert_22 rfl (lv_at hl 2 rfl) ?_
        refine lv_iconst (v := (nI 5)) hx hb dX8_insert_23 (by decide) ?_
        refine lv_icmp_gt (tgt := 34) hx hb dX8_insert_24 (by decide) (fun hc => ?_) (fun hc => ?_)
        · replace hw := hw.1 hc
          refine lv_bipush (v := (-2)) hx hb dX8_insert_34 (by decide) ?_
          exact retMi C (h_, z_book_signs, z_book_sizes, z_book_lost, z_book_pile, z_history) hw hP hD hS dX8_insert_36
        · replace hw := hw.2 hc
          refine lv_iload_n hx hb dX8_insert_27 rfl (lv_at hl 3 rfl) ?_
          refine kRS (As := [.int p3]) (rest := []) C (c_X8_isQuireSize l D kI kC kB  p3 _ hw) ⟨rfl, rfl⟩ ce_X8_isQuireSize cv_X8_isQuireSize tw_374 ⟨Nat.le_of_ble_eq_true rfl, Nat.le_of_ble_eq_true rfl⟩ hP [] rfl hl.1 rfl (Nat.le_of_ble_eq_true rfl) ⟨Nat.zero_le _, Nat.zero_le _⟩ dX8_insert_28 (fun r2 hw => ?_)
          refine lv_if_ne (tgt := 37) hx hb dX8_insert_31 (by decide) (fun hc => ?_) (fun hc => ?_)
          · replace hw := hw.2 hc
            refine lv_aload_n hx hb dX8_insert_37 rfl (lv_at hl 0 rfl) ?_
            refine va_get (D := D) (ci := 6) (v := .ref (a 1)) (C := RX8) (T := TX8) (N := 7) hx hb hts inX8 hown hK.1 hP 0 rfl rfl 0 (by decide) (hts _ tw_161) (fun _ h9 => h9) rfl dX8_insert_38 ?_
            refine kRV (As := []) (rest := []) (q0 := 1) C (c_X1_quires l D kI kC kB (fun i => a (i + 1)) z_book_alphabet_out z_book_signing z_book_signs z_book_sizes z_book_lost z_book_pile _ hw) ⟨rfl, rfl⟩ ce_X1_quires cv_X1_quires tw_330 ⟨Nat.le_of_ble_eq_true rfl, Nat.le_of_ble_eq_true rfl⟩ hP [1, 2, 3, 4, 5, 6, 7, 8, 9, 10] rfl rfl rfl rfl hl.1 rfl (Nat.le_of_ble_eq_true rfl) ⟨Nat.zero_le _, Nat.zero_le _⟩ dX8_insert_41 (fun r3 hw => ?_)
            refine lv_bipush (v := (nI 40)) hx hb dX8_insert_44 (by decide) ?_
            refine lv_icmp_lt (tgt := 52) hx hb dX8_insert_46 (by decide) (fun hc => ?_) (fun hc => ?_)
            · replace hw := hw.1 hc
              refine lv_aload_n hx hb dX8_insert_52 rfl (lv_at hl 0 rfl) ?_
              refine va_get (D := D) (ci := 6) (v := .ref (a 21)) (C := RX8) (T := TX8) (N := 7) hx hb hts inX8 hown hK.1 hP 0 rfl rfl 3 (by decide) (hts _ tw_164) (fun _ h9 => h9) rfl dX8_insert_53 ?_
              refine lv_aload_n hx hb dX8_insert_56 rfl (lv_at hl 0 rfl) ?_
              refine va_get (D := D) (ci := 6) (v := .ref (a 1)) (C := RX8) (T := TX8) (N := 7) hx hb hts inX8 hown hK.1 hP 0 rfl rfl 0 (by decide) (hts _ tw_161) (fun _ h9 => h9) rfl dX8_insert_57 ?_
              refine kMBv (q0 := 0) (As := [.ref (a 1)]) (rest := []) (ws' := fun u : (Nat → AdT) × HistT => (cwQS kI kB a u.1 z_snapshotTaken z_book_alphabet_out z_book_signing z_book_signs z_book_sizes z_book_lost z_book_pile z_snapshot_alphabet_out z_snapshot_signing z_snapshot_signs z_snapshot_sizes z_snapshot_lost z_snapshot_pile u.2 z_text_characters z_text_firstSigns z_text_lastSigns z_text_numbers z_text_at z_text_allLetters_out z_writer_characters z_writer_entries z_found)) C (c_X2_record l D kI kC kB (fun i => a (i + 21)) h_ (fun i => a (i + 1)) z_history z_book_alphabet_out z_book_signing z_book_signs z_book_sizes z_book_lost z_book_pile H.size _ hw) ⟨rfl, rfl⟩ ce_X2_record cv_X2_record tw_201 ⟨Nat.le_of_ble_eq_true rfl, Nat.le_of_ble_eq_true rfl⟩ hP hD hS hA (bfl_p2 [_, _, _, _, _, _, _, _] 3 1 rfl rfl) (fun u => (bfl_p2 [_, _, _, _, _, _, _, _] 3 1 rfl rfl)) rfl rfl rfl hl.1 rfl (Nat.le_of_ble_eq_true rfl) ⟨Nat.zero_le _, Nat.zero_le _⟩ dX8_insert_60 (fun u H locs hw hP hD hS => ?_)
              obtain ⟨h5, u4⟩ := u
              try dsimp only at hw
              replace hP : va_P D vwCl (cwQS kI kB a h5 z_snapshotTaken z_book_alphabet_out z_book_signing z_book_signs z_book_sizes z_book_lost z_book_pile z_snapshot_alphabet_out z_snapshot_signing z_snapshot_signs z_snapshot_sizes z_snapshot_lost z_snapshot_pile u4 z_text_characters z_text_firstSigns z_text_lastSigns z_text_numbers z_text_at z_text_allLetters_out z_writer_characters z_writer_entries z_found) H := hP
              replace hD : va_D A (cwQS kI kB a h5 z_snapshotTaken z_book_alphabet_out z_book_signing z_book_signs z_book_sizes z_book_lost z_book_pile z_snapshot_alphabet_out z_snapshot_signing z_snapshot_signs z_snapshot_sizes z_snapshot_lost z_snapshot_pile u4 z_text_characters z_text_firstSigns z_text_lastSigns z_text_numbers z_text_at z_text_allLetters_out z_writer_characters z_writer_entries z_found) := hD
              refine lv_aload_n hx hb dX8_insert_63 rfl (lv_at hl 0 rfl) ?_
              refine va_get (D := D) (ci := 6) (v := .ref (a 1)) (C := RX8) (T := TX8) (N := 7) hx hb hts inX8 hown hK.1 hP 0 rfl rfl 0 (by decide) (hts _ tw_161) (fun _ h9 => h9) rfl dX8_insert_64 ?_
              refine lv_iload_n hx hb dX8_insert_67 rfl (lv_at hl 1 rfl) ?_
              refine lv_iload_n hx hb dX8_insert_68 rfl (lv_at hl 2 rfl) ?_
              refine kRS (As := [.int p2]) (rest := [.int p1, .ref (a 1)]) C (c_X5_ofStars l D kI kC kB  p2 _ hw) ⟨rfl, rfl⟩ ce_X5_ofStars cv_X5_ofStars tw_390 ⟨Nat.le_of_ble_eq_true rfl, Nat.le_of_ble_eq_true rfl⟩ hP [] rfl hl.1 rfl (Nat.le_of_ble_eq_true rfl) ⟨Nat.zero_le _, Nat.zero_le _⟩ dX8_insert_69 (fun r6 hw => ?_)
              refine lv_iload_n hx hb dX8_insert_72 rfl (lv_at hl 3 rfl) ?_
              refine kMBv (q0 := 0) (As := [.int p1, .int r6, .int p3]) (rest := []) (ws' := fun u : RowT × RowT × RowT × RowT => (cwQS kI kB a h5 z_snapshotTaken z_book_alphabet_out z_book_signing u.1 u.2.1 u.2.2.1 u.2.2.2 z_snapshot_alphabet_out z_snapshot_signing z_snapshot_signs z_snapshot_sizes z_snapshot_lost z_snapshot_pile u4 z_text_characters z_text_firstSigns z_text_lastSigns z_text_numbers z_text_at z_text_allLetters_out z_writer_characters z_writer_entries z_found)) C (c_X1_addQuire l D kI kC kB (fun i => a (i + 1)) z_book_alphabet_out z_book_signing z_book_signs z_book_sizes z_book_lost z_book_pile H.size p1 r6 p3 _ hw) ⟨rfl, rfl⟩ ce_X1_addQuire cv_X1_addQuire tw_363 ⟨Nat.le_of_ble_eq_true rfl, Nat.le_of_ble_eq_true rfl⟩ hP hD hS hA (bfl_p1 [_, _, _, _, _, _, _, _] 1 rfl) (fun u => (bfl_p1 [_, _, _, _, _, _, _, _] 1 rfl)) rfl rfl rfl hl.1 rfl (Nat.le_of_ble_eq_true rfl) ⟨Nat.zero_le _, Nat.zero_le _⟩ dX8_insert_73 (fun u H locs hw hP hD hS => ?_)
              obtain ⟨u7, u8, u9, u10⟩ := u
              try dsimp only at hw
              replace hP : va_P D vwCl (cwQS kI kB a h5 z_snapshotTaken z_book_alphabet_out z_book_signing u7 u8 u9 u10 z_snapshot_alphabet_out z_snapshot_signing z_snapshot_signs z_snapshot_sizes z_snapshot_lost z_snapshot_pile u4 z_text_characters z_text_firstSigns z_text_lastSigns z_text_numbers z_text_at z_text_allLetters_out z_writer_characters z_writer_entries z_found) H := hP
              replace hD : va_D A (cwQS kI kB a h5 z_snapshotTaken z_book_alphabet_out z_book_signing u7 u8 u9 u10 z_snapshot_alphabet_out z_snapshot_signing z_snapshot_signs z_snapshot_sizes z_snapshot_lost z_snapshot_pile u4 z_text_characters z_text_firstSigns z_text_lastSigns z_text_numbers z_text_at z_text_allLetters_out z_writer_characters z_writer_entries z_found) := hD
              refine lv_aload_n hx hb dX8_insert_76 rfl (lv_at hl 0 rfl) ?_
              refine va_get (D := D) (ci := 6) (v := .ref (a 1)) (C := RX8) (T := TX8) (N := 7) hx hb hts inX8 hown hK.1 hP 0 rfl rfl 0 (by decide) (hts _ tw_161) (fun _ h9 => h9) rfl dX8_insert_77 ?_
              refine kRV (As := []) (rest := []) (q0 := 1) C (c_X1_leaves l D kI kC kB (fun i => a (i + 1)) z_book_alphabet_out z_book_signing u7 u8 u9 u10 _ hw) ⟨rfl, rfl⟩ ce_X1_leaves cv_X1_leaves tw_391 ⟨Nat.le_of_ble_eq_true rfl, Nat.le_of_ble_eq_true rfl⟩ hP [1, 2, 3, 4, 5, 6, 7, 8, 9, 10] rfl rfl rfl rfl hl.1 rfl (Nat.le_of_ble_eq_true rfl) ⟨Nat.zero_le _, Nat.zero_le _⟩ dX8_insert_80 (fun r11 hw => ?_)
              exact retMi C (h5, u7, u8, u9, u10, u4) hw hP hD hS dX8_insert_83
            · replace hw := hw.2 hc
              refine lv_bipush (v := (-3)) hx hb dX8_insert_49 (by decide) ?_
              exact retMi C (h_, z_book_signs, z_book_sizes, z_book_lost, z_book_pile, z_history) hw hP hD hS dX8_insert_51
          · replace hw := hw.1 hc
            refine lv_bipush (v := (-2)) hx hb dX8_insert_34 (by decide) ?_
            exact retMi C (h_, z_book_signs, z_book_sizes, z_book_lost, z_book_pile, z_history) hw hP hD hS dX8_insert_36
    · replace hw := hw.2 hc
      refine lv_iconst (v := (-1)) hx hb dX8_insert_15 (by decide) ?_
      exact retMi C (h_, z_book_signs, z_book_sizes, z_book_lost, z_book_pile, z_history) hw hP hD hS dX8_insert_16
set_option maxHeartbeats 4000000 in
set_option maxRecDepth 100000 in
theorem c_X8_remove (l : Launch) (D : va_G) (kI kC kB : ClassId) (a : AdT) (h_ : Nat → AdT) (z_snapshotTaken : Int32) (z_book_alphabet_out : Int32) (z_book_signing : Int32) (z_book_signs : RowT) (z_book_sizes : RowT) (z_book_lost : RowT) (z_book_pile : RowT) (z_snapshot_alphabet_out : Int32) (z_snapshot_signing : Int32) (z_snapshot_signs : RowT) (z_snapshot_sizes : RowT) (z_snapshot_lost : RowT) (z_snapshot_pile : RowT) (z_history : HistT) (z_text_characters : RowT) (z_text_firstSigns : RowT) (z_text_lastSigns : RowT) (z_text_numbers : RowT) (z_text_at : Int32) (z_text_allLetters_out : Int32) (z_writer_characters : RowT) (z_writer_entries : Int32) (z_found : RowT) (sz : Nat) (p1 : Int32) (Post : Int32 → RowT → RowT → RowT → RowT → HistT → Prop) (hw : wp_X8_remove z_book_alphabet_out z_book_signing z_book_signs z_book_sizes z_book_lost z_book_pile z_history p1 Post) : CMi l D kI kC kB yX8_remove cX8_remove 2 (some .int) ({ frames := 4, cells := 0, slots := 0, locals := 87 } : Room) [.ref (a 0), .int p1] (cwQS kI kB a h_ z_snapshotTaken z_book_alphabet_out z_book_signing z_book_signs z_book_sizes z_book_lost z_book_pile z_snapshot_alphabet_out z_snapshot_signing z_snapshot_signs z_snapshot_sizes z_snapshot_lost z_snapshot_pile z_history z_text_characters z_text_firstSigns z_text_lastSigns z_text_numbers z_text_at z_text_allLetters_out z_writer_characters z_writer_entries z_found) sz (fun (r : Int32) (u : (Nat → AdT) × RowT × RowT × RowT × RowT × HistT) => Post r u.2.1 u.2.2.1 u.2.2.2.1 u.2.2.2.2.1 u.2.2.2.2.2) (fun u : (Nat → AdT) × RowT × RowT × RowT × RowT × HistT => (cwQS kI kB a u.1 z_snapshotTaken z_book_alphabet_out z_book_signing u.2.1 u.2.2.1 u.2.2.2.1 u.2.2.2.2.1 z_snapshot_alphabet_out z_snapshot_signing z_snapshot_signs z_snapshot_sizes z_snapshot_lost z_snapshot_pile u.2.2.2.2.2 z_text_characters z_text_firstSigns z_text_lastSigns z_text_numbers z_text_at z_text_allLetters_out z_writer_characters z_writer_entries z_found)) := by
  refine entMi (by decide) (Nat.le_of_ble_eq_true rfl) ?_
  intro p e s m args below meth c ls A C hA hP hD hS hl
  obtain ⟨H, hHe⟩ : ∃ H, H = s.heap := ⟨_, rfl⟩
  obtain ⟨locs, hlo⟩ : ∃ lo : List Loc, lo = [] := ⟨_, rfl⟩
  have hS : va_S A s.heap H locs := by rw [hHe, hlo]; exact hS
  rw [← hHe] at hP
  suffices hg : W p l e ({ frames := 4, cells := 0, slots := 0, locals := 87 } : Room) s m args below meth c H locs 0 0 (MQ below (va_Qi (fun (r : Int32) (u : (Nat → AdT) × RowT × RowT × RowT × RowT × HistT) => Post r u.2.1 u.2.2.1 u.2.2.2.1 u.2.2.2.2.1 u.2.2.2.2.2) (BB D A (fun u : (Nat → AdT) × RowT × RowT × RowT × RowT × HistT => (cwQS kI kB a u.1 z_snapshotTaken z_book_alphabet_out z_book_signing u.2.1 u.2.2.1 u.2.2.2.1 u.2.2.2.2.1 z_snapshot_alphabet_out z_snapshot_signing z_snapshot_signs z_snapshot_sizes z_snapshot_lost z_snapshot_pile u.2.2.2.2.2 z_text_characters z_text_firstSigns z_text_lastSigns z_text_numbers z_text_at z_text_allLetters_out z_writer_characters z_writer_entries z_found))) A) args s 0 0 A) (F0 m 0 ls []) by rw [hHe, hlo] at hg; exact hg
  replace hl : lv_has ls 2 [(0, .ref (a 0)), (1, .int p1)] := hl
  obtain ⟨hx, hb, hr, hml, hown, hts, hlocks, hK⟩ := id C
  refine lv_aload_n hx hb dX8_remove_0 rfl (lv_at hl 0 rfl) ?_
  refine va_get (D := D) (ci := 6) (v := .ref (a 1)) (C := RX8) (T := TX8) (N := 7) hx hb hts inX8 hown hK.1 hP 0 rfl rfl 0 (by decide) (hts _ tw_161) (fun _ h9 => h9) rfl dX8_remove_1 ?_
  refine lv_iload_n hx hb dX8_remove_4 rfl (lv_at hl 1 rfl) ?_
  refine kRV (As := [.int p1]) (rest := []) (q0 := 1) C (c_X1_hasQuire l D kI kC kB (fun i => a (i + 1)) z_book_alphabet_out z_book_signing z_book_signs z_book_sizes z_book_lost z_book_pile p1 _ hw) ⟨rfl, rfl⟩ ce_X1_hasQuire cv_X1_hasQuire tw_403 ⟨Nat.le_of_ble_eq_true rfl, Nat.le_of_ble_eq_true rfl⟩ hP [1, 2, 3, 4, 5, 6, 7, 8, 9, 10] rfl rfl rfl rfl hl.1 rfl (Nat.le_of_ble_eq_true rfl) ⟨Nat.zero_le _, Nat.zero_le _⟩ dX8_remove_5 (fun r1 hw => ?_)
  refine lv_if_ne (tgt := 13) hx hb dX8_remove_8 (by decide) (fun hc => ?_) (fun hc => ?_)
  · replace hw := hw.2 hc
    refine lv_aload_n hx hb dX8_remove_13 rfl (lv_at hl 0 rfl) ?_
    refine va_get (D := D) (ci := 6) (v := .ref (a 21)) (C := RX8) (T := TX8) (N := 7) hx hb hts inX8 hown hK.1 hP 0 rfl rfl 3 (by decide) (hts _ tw_164) (fun _ h9 => h9) rfl dX8_remove_14 ?_
    refine lv_aload_n hx hb dX8_remove_17 rfl (lv_at hl 0 rfl) ?_
    refine va_get (D := D) (ci := 6) (v := .ref (a 1)) (C := RX8) (T := TX8) (N := 7) hx hb hts inX8 hown hK.1 hP 0 rfl rfl 0 (by decide) (hts _ tw_161) (fun _ h9 => h9) rfl dX8_remove_18 ?_
    refine kMBv (q0 := 0) (As := [.ref (a 1)]) (rest := []) (ws' := fun u : (Nat → AdT) × HistT => (cwQS kI kB a u.1 z_snapshotTaken z_book_alphabet_out z_book_signing z_book_signs z_book_sizes z_book_lost z_book_pile z_snapshot_alphabet_out z_snapshot_signing z_snapshot_signs z_snapshot_sizes z_snapshot_lost z_snapshot_pile u.2 z_text_characters z_text_firstSigns z_text_lastSigns z_text_numbers z_text_at z_text_allLetters_out z_writer_characters z_writer_entries z_found)) C (c_X2_record l D kI kC kB (fun i => a (i + 21)) h_ (fun i => a (i + 1)) z_history z_book_alphabet_out z_book_signing z_book_signs z_book_sizes z_book_lost z_book_pile H.size _ hw) ⟨rfl, rfl⟩ ce_X2_record cv_X2_record tw_201 ⟨Nat.le_of_ble_eq_true rfl, Nat.le_of_ble_eq_true rfl⟩ hP hD hS hA (bfl_p2 [_, _, _, _, _, _, _, _] 3 1 rfl rfl) (fun u => (bfl_p2 [_, _, _, _, _, _, _, _] 3 1 rfl rfl)) rfl rfl rfl hl.1 rfl (Nat.le_of_ble_eq_true rfl) ⟨Nat.zero_le _, Nat.zero_le _⟩ dX8_remove_21 (fun u H locs hw hP hD hS => ?_)
    obtain ⟨h3, u2⟩ := u
    try dsimp only at hw
    replace hP : va_P D vwCl (cwQS kI kB a h3 z_snapshotTaken z_book_alphabet_out z_book_signing z_book_signs z_book_sizes z_book_lost z_book_pile z_snapshot_alphabet_out z_snapshot_signing z_snapshot_signs z_snapshot_sizes z_snapshot_lost z_snapshot_pile u2 z_text_characters z_text_firstSigns z_text_lastSigns z_text_numbers z_text_at z_text_allLetters_out z_writer_characters z_writer_entries z_found) H := hP
    replace hD : va_D A (cwQS kI kB a h3 z_snapshotTaken z_book_alphabet_out z_book_signing z_book_signs z_book_sizes z_book_lost z_book_pile z_snapshot_alphabet_out z_snapshot_signing z_snapshot_signs z_snapshot_sizes z_snapshot_lost z_snapshot_pile u2 z_text_characters z_text_firstSigns z_text_lastSigns z_text_numbers z_text_at z_text_allLetters_out z_writer_characters z_writer_entries z_found) := hD
    refine lv_aload_n hx hb dX8_remove_24 rfl (lv_at hl 0 rfl) ?_
    refine va_get (D := D) (ci := 6) (v := .ref (a 1)) (C := RX8) (T := TX8) (N := 7) hx hb hts inX8 hown hK.1 hP 0 rfl rfl 0 (by decide) (hts _ tw_161) (fun _ h9 => h9) rfl dX8_remove_25 ?_
    refine lv_iload_n hx hb dX8_remove_28 rfl (lv_at hl 1 rfl) ?_
    refine kMBv (q0 := 0) (As := [.int p1]) (rest := []) (ws' := fun u : RowT × RowT × RowT × RowT => (cwQS kI kB a h3 z_snapshotTaken z_book_alphabet_out z_book_signing u.1 u.2.1 u.2.2.1 u.2.2.2 z_snapshot_alphabet_out z_snapshot_signing z_snapshot_signs z_snapshot_sizes z_snapshot_lost z_snapshot_pile u2 z_text_characters z_text_firstSigns z_text_lastSigns z_text_numbers z_text_at z_text_allLetters_out z_writer_characters z_writer_entries z_found)) C (c_X1_dropQuire l D kI kC kB (fun i => a (i + 1)) z_book_alphabet_out z_book_signing z_book_signs z_book_sizes z_book_lost z_book_pile H.size p1 _ hw) ⟨rfl, rfl⟩ ce_X1_dropQuire cv_X1_dropQuire tw_407 ⟨Nat.le_of_ble_eq_true rfl, Nat.le_of_ble_eq_true rfl⟩ hP hD hS hA (bfl_p1 [_, _, _, _, _, _, _, _] 1 rfl) (fun u => (bfl_p1 [_, _, _, _, _, _, _, _] 1 rfl)) rfl rfl rfl hl.1 rfl (Nat.le_of_ble_eq_true rfl) ⟨Nat.zero_le _, Nat.zero_le _⟩ dX8_remove_29 (fun u H locs hw hP hD hS => ?_)
    obtain ⟨u4, u5, u6, u7⟩ := u
    try dsimp only at hw
    replace hP : va_P D vwCl (cwQS kI kB a h3 z_snapshotTaken z_book_alphabet_out z_book_signing u4 u5 u6 u7 z_snapshot_alphabet_out z_snapshot_signing z_snapshot_signs z_snapshot_sizes z_snapshot_lost z_snapshot_pile u2 z_text_characters z_text_firstSigns z_text_lastSigns z_text_numbers z_text_at z_text_allLetters_out z_writer_characters z_writer_entries z_found) H := hP
    replace hD : va_D A (cwQS kI kB a h3 z_snapshotTaken z_book_alphabet_out z_book_signing u4 u5 u6 u7 z_snapshot_alphabet_out z_snapshot_signing z_snapshot_signs z_snapshot_sizes z_snapshot_lost z_snapshot_pile u2 z_text_characters z_text_firstSigns z_text_lastSigns z_text_numbers z_text_at z_text_allLetters_out z_writer_characters z_writer_entries z_found) := hD
    refine lv_aload_n hx hb dX8_remove_32 rfl (lv_at hl 0 rfl) ?_
    refine va_get (D := D) (ci := 6) (v := .ref (a 1)) (C := RX8) (T := TX8) (N := 7) hx hb hts inX8 hown hK.1 hP 0 rfl rfl 0 (by decide) (hts _ tw_161) (fun _ h9 => h9) rfl dX8_remove_33 ?_
    refine kRV (As := []) (rest := []) (q0 := 1) C (c_X1_leaves l D kI kC kB (fun i => a (i + 1)) z_book_alphabet_out z_book_signing u4 u5 u6 u7 _ hw) ⟨rfl, rfl⟩ ce_X1_leaves cv_X1_leaves tw_391 ⟨Nat.le_of_ble_eq_true rfl, Nat.le_of_ble_eq_true rfl⟩ hP [1, 2, 3, 4, 5, 6, 7, 8, 9, 10] rfl rfl rfl rfl hl.1 rfl (Nat.le_of_ble_eq_true rfl) ⟨Nat.zero_le _, Nat.zero_le _⟩ dX8_remove_36 (fun r8 hw => ?_)
    exact retMi C (h3, u4, u5, u6, u7, u2) hw hP hD hS dX8_remove_39
  · replace hw := hw.1 hc
    refine lv_iconst (v := (-1)) hx hb dX8_remove_11 (by decide) ?_
    exact retMi C (h_, z_book_signs, z_book_sizes, z_book_lost, z_book_pile, z_history) hw hP hD hS dX8_remove_12
set_option maxHeartbeats 4000000 in
set_option maxRecDepth 100000 in
theorem c_X8_lose (l : Launch) (D : va_G) (kI kC kB : ClassId) (a : AdT) (h_ : Nat → AdT) (z_snapshotTaken : Int32) (z_book_alphabet_out : Int32) (z_book_signing : Int32) (z_book_signs : RowT) (z_book_sizes : RowT) (z_book_lost : RowT) (z_book_pile : RowT) (z_snapshot_alphabet_out : Int32) (z_snapshot_signing : Int32) (z_snapshot_signs : RowT) (z_snapshot_sizes : RowT) (z_snapshot_lost : RowT) (z_snapshot_pile : RowT) (z_history : HistT) (z_text_characters : RowT) (z_text_firstSigns : RowT) (z_text_lastSigns : RowT) (z_text_numbers : RowT) (z_text_at : Int32) (z_text_allLetters_out : Int32) (z_writer_characters : RowT) (z_writer_entries : Int32) (z_found : RowT) (sz : Nat) (p1 : Int32) (p2 : Int32) (Post : Int32 → RowT → RowT → HistT → Prop) (hw : wp_X8_lose z_book_alphabet_out z_book_signing z_book_signs z_book_sizes z_book_lost z_book_pile z_history p1 p2 Post) : CMi l D kI kC kB yX8_lose cX8_lose 3 (some .int) ({ frames := 5, cells := 0, slots := 0, locals := 106 } : Room) [.ref (a 0), .int p1, .int p2] (cwQS kI kB a h_ z_snapshotTaken z_book_alphabet_out z_book_signing z_book_signs z_book_sizes z_book_lost z_book_pile z_snapshot_alphabet_out z_snapshot_signing z_snapshot_signs z_snapshot_sizes z_snapshot_lost z_snapshot_pile z_history z_text_characters z_text_firstSigns z_text_lastSigns z_text_numbers z_text_at z_text_allLetters_out z_writer_characters z_writer_entries z_found) sz (fun (r : Int32) (u : (Nat → AdT) × RowT × RowT × HistT) => Post r u.2.1 u.2.2.1 u.2.2.2) (fun u : (Nat → AdT) × RowT × RowT × HistT => (cwQS kI kB a u.1 z_snapshotTaken z_book_alphabet_out z_book_signing z_book_signs z_book_sizes u.2.1 u.2.2.1 z_snapshot_alphabet_out z_snapshot_signing z_snapshot_signs z_snapshot_sizes z_snapshot_lost z_snapshot_pile u.2.2.2 z_text_characters z_text_firstSigns z_text_lastSigns z_text_numbers z_text_at z_text_allLetters_out z_writer_characters z_writer_entries z_found)) := by
  refine entMi (by decide) (Nat.le_of_ble_eq_true rfl) ?_
  intro p e s m args below meth c ls A C hA hP hD hS hl
  obtain ⟨H, hHe⟩ : ∃ H, H = s.heap := ⟨_, rfl⟩
  obtain ⟨locs, hlo⟩ : ∃ lo : List Loc, lo = [] := ⟨_, rfl⟩
  have hS : va_S A s.heap H locs := by rw [hHe, hlo]; exact hS
  rw [← hHe] at hP
  suffices hg : W p l e ({ frames := 5, cells := 0, slots := 0, locals := 106 } : Room) s m args below meth c H locs 0 0 (MQ below (va_Qi (fun (r : Int32) (u : (Nat → AdT) × RowT × RowT × HistT) => Post r u.2.1 u.2.2.1 u.2.2.2) (BB D A (fun u : (Nat → AdT) × RowT × RowT × HistT => (cwQS kI kB a u.1 z_snapshotTaken z_book_alphabet_out z_book_signing z_book_signs z_book_sizes u.2.1 u.2.2.1 z_snapshot_alphabet_out z_snapshot_signing z_snapshot_signs z_snapshot_sizes z_snapshot_lost z_snapshot_pile u.2.2.2 z_text_characters z_text_firstSigns z_text_lastSigns z_text_numbers z_text_at z_text_allLetters_out z_writer_characters z_writer_entries z_found))) A) args s 0 0 A) (F0 m 0 ls []) by rw [hHe, hlo] at hg; exact hg
  replace hl : lv_has ls 3 [(0, .ref (a 0)), (1, .int p1), (2, .int p2)] := hl
  obtain ⟨hx, hb, hr, hml, hown, hts, hlocks, hK⟩ := id C
  refine lv_aload_n hx hb dX8_lose_0 rfl (lv_at hl 0 rfl) ?_
  refine va_get (D := D) (ci := 6) (v := .ref (a 1)) (C := RX8) (T := TX8) (N := 7) hx hb hts inX8 hown hK.1 hP 0 rfl rfl 0 (by decide) (hts _ tw_161) (fun _ h9 => h9) rfl dX8_lose_1 ?_
  refine lv_iload_n hx hb dX8_lose_4 rfl (lv_at hl 1 rfl) ?_
  refine kRV (As := [.int p1]) (rest := []) (q0 := 1) C (c_X1_hasLeaf l D kI kC kB (fun i => a (i + 1)) z_book_alphabet_out z_book_signing z_book_signs z_book_sizes z_book_lost z_book_pile p1 _ hw) ⟨rfl, rfl⟩ ce_X1_hasLeaf cv_X1_hasLeaf tw_419 ⟨Nat.le_of_ble_eq_true rfl, Nat.le_of_ble_eq_true rfl⟩ hP [1, 2, 3, 4, 5, 6, 7, 8, 9, 10] rfl rfl rfl rfl hl.1 rfl (Nat.le_of_ble_eq_true rfl) ⟨Nat.zero_le _, Nat.zero_le _⟩ dX8_lose_5 (fun r1 hw => ?_)
  refine lv_if_ne (tgt := 13) hx hb dX8_lose_8 (by decide) (fun hc => ?_) (fun hc => ?_)
  · replace hw := hw.2 hc
    refine lv_aload_n hx hb dX8_lose_13 rfl (lv_at hl 0 rfl) ?_
    refine va_get (D := D) (ci := 6) (v := .ref (a 1)) (C := RX8) (T := TX8) (N := 7) hx hb hts inX8 hown hK.1 hP 0 rfl rfl 0 (by decide) (hts _ tw_161) (fun _ h9 => h9) rfl dX8_lose_14 ?_
    refine lv_iload_n hx hb dX8_lose_17 rfl (lv_at hl 1 rfl) ?_
    refine kRV (As := [.int p1]) (rest := []) (q0 := 1) C (c_X1_isLost l D kI kC kB (fun i => a (i + 1)) z_book_alphabet_out z_book_signing z_book_signs z_book_sizes z_book_lost z_book_pile p1 _ hw) ⟨rfl, rfl⟩ ce_X1_isLost cv_X1_isLost tw_424 ⟨Nat.le_of_ble_eq_true rfl, Nat.le_of_ble_eq_true rfl⟩ hP [1, 2, 3, 4, 5, 6, 7, 8, 9, 10] rfl rfl rfl rfl hl.1 rfl (Nat.le_of_ble_eq_true rfl) ⟨Nat.zero_le _, Nat.zero_le _⟩ dX8_lose_18 (fun r2 hw => ?_)
    refine lv_iload_n hx hb dX8_lose_21 rfl (lv_at hl 2 rfl) ?_
    refine lv_icmp_ne (tgt := 28) hx hb dX8_lose_22 (by decide) (fun hc => ?_) (fun hc => ?_)
    · replace hw := hw.2 hc
      refine lv_aload_n hx hb dX8_lose_28 rfl (lv_at hl 0 rfl) ?_
      refine va_get (D := D) (ci := 6) (v := .ref (a 21)) (C := RX8) (T := TX8) (N := 7) hx hb hts inX8 hown hK.1 hP 0 rfl rfl 3 (by decide) (hts _ tw_164) (fun _ h9 => h9) rfl dX8_lose_29 ?_
      refine lv_aload_n hx hb dX8_lose_32 rfl (lv_at hl 0 rfl) ?_
      refine va_get (D := D) (ci := 6) (v := .ref (a 1)) (C := RX8) (T := TX8) (N := 7) hx hb hts inX8 hown hK.1 hP 0 rfl rfl 0 (by decide) (hts _ tw_161) (fun _ h9 => h9) rfl dX8_lose_33 ?_
      refine kMBv (q0 := 0) (As := [.ref (a 1)]) (rest := []) (ws' := fun u : (Nat → AdT) × HistT => (cwQS kI kB a u.1 z_snapshotTaken z_book_alphabet_out z_book_signing z_book_signs z_book_sizes z_book_lost z_book_pile z_snapshot_alphabet_out z_snapshot_signing z_snapshot_signs z_snapshot_sizes z_snapshot_lost z_snapshot_pile u.2 z_text_characters z_text_firstSigns z_text_lastSigns z_text_numbers z_text_at z_text_allLetters_out z_writer_characters z_writer_entries z_found)) C (c_X2_record l D kI kC kB (fun i => a (i + 21)) h_ (fun i => a (i + 1)) z_history z_book_alphabet_out z_book_signing z_book_signs z_book_sizes z_book_lost z_book_pile H.size _ hw) ⟨rfl, rfl⟩ ce_X2_record cv_X2_record tw_201 ⟨Nat.le_of_ble_eq_true rfl, Nat.le_of_ble_eq_true rfl⟩ hP hD hS hA (bfl_p2 [_, _, _, _, _, _, _, _] 3 1 rfl rfl) (fun u => (bfl_p2 [_, _, _, _, _, _, _, _] 3 1 rfl rfl)) rfl rfl rfl hl.1 rfl (Nat.le_of_ble_eq_true rfl) ⟨Nat.zero_le _, Nat.zero_le _⟩ dX8_lose_36 (fun u H locs hw hP hD hS => ?_)
      obtain ⟨h4, u3⟩ := u
      try dsimp only at hw
      replace hP : va_P D vwCl (cwQS kI kB a h4 z_snapshotTaken z_book_alphabet_out z_book_signing z_book_signs z_book_sizes z_book_lost z_book_pile z_snapshot_alphabet_out z_snapshot_signing z_snapshot_signs z_snapshot_sizes z_snapshot_lost z_snapshot_pile u3 z_text_characters z_text_firstSigns z_text_lastSigns z_text_numbers z_text_at z_text_allLetters_out z_writer_characters z_writer_entries z_found) H := hP
      replace hD : va_D A (cwQS kI kB a h4 z_snapshotTaken z_book_alphabet_out z_book_signing z_book_signs z_book_sizes z_book_lost z_book_pile z_snapshot_alphabet_out z_snapshot_signing z_snapshot_signs z_snapshot_sizes z_snapshot_lost z_snapshot_pile u3 z_text_characters z_text_firstSigns z_text_lastSigns z_text_numbers z_text_at z_text_allLetters_out z_writer_characters z_writer_entries z_found) := hD
      refine lv_aload_n hx hb dX8_lose_39 rfl (lv_at hl 0 rfl) ?_
      refine va_get (D := D) (ci := 6) (v := .ref (a 1)) (C := RX8) (T := TX8) (N := 7) hx hb hts inX8 hown hK.1 hP 0 rfl rfl 0 (by decide) (hts _ tw_161) (fun _ h9 => h9) rfl dX8_lose_40 ?_
      refine lv_iload_n hx hb dX8_lose_43 rfl (lv_at hl 1 rfl) ?_
      refine kMBv (q0 := 0) (As := [.int p1]) (rest := []) (ws' := fun u : RowT × RowT => (cwQS kI kB a h4 z_snapshotTaken z_book_alphabet_out z_book_signing z_book_signs z_book_sizes u.1 u.2 z_snapshot_alphabet_out z_snapshot_signing z_snapshot_signs z_snapshot_sizes z_snapshot_lost z_snapshot_pile u3 z_text_characters z_text_firstSigns z_text_lastSigns z_text_numbers z_text_at z_text_allLetters_out z_writer_characters z_writer_entries z_found)) C (c_X1_turnLost l D kI kC kB (fun i => a (i + 1)) z_book_alphabet_out z_book_signing z_book_signs z_book_sizes z_book_lost z_book_pile H.size p1 _ hw) ⟨rfl, rfl⟩ ce_X1_turnLost cv_X1_turnLost tw_436 ⟨Nat.le_of_ble_eq_true rfl, Nat.le_of_ble_eq_true rfl⟩ hP hD hS hA (bfl_p1 [_, _, _, _, _, _, _, _] 1 rfl) (fun u => (bfl_p1 [_, _, _, _, _, _, _, _] 1 rfl)) rfl rfl rfl hl.1 rfl (Nat.le_of_ble_eq_true rfl) ⟨Nat.zero_le _, Nat.zero_le _⟩ dX8_lose_44 (fun u H locs hw hP hD hS => ?_)
      obtain ⟨u5, u6⟩ := u
      try dsimp only at hw
      replace hP : va_P D vwCl (cwQS kI kB a h4 z_snapshotTaken z_book_alphabet_out z_book_signing z_book_signs z_book_sizes u5 u6 z_snapshot_alphabet_out z_snapshot_signing z_snapshot_signs z_snapshot_sizes z_snapshot_lost z_snapshot_pile u3 z_text_characters z_text_firstSigns z_text_lastSigns z_text_numbers z_text_at z_text_allLetters_out z_writer_characters z_writer_entries z_found) H := hP
      replace hD : va_D A (cwQS kI kB a h4 z_snapshotTaken z_book_alphabet_out z_book_signing z_book_signs z_book_sizes u5 u6 z_snapshot_alphabet_out z_snapshot_signing z_snapshot_signs z_snapshot_sizes z_snapshot_lost z_snapshot_pile u3 z_text_characters z_text_firstSigns z_text_lastSigns z_text_numbers z_text_at z_text_allLetters_out z_writer_characters z_writer_entries z_found) := hD
      refine lv_aload_n hx hb dX8_lose_47 rfl (lv_at hl 0 rfl) ?_
      refine va_get (D := D) (ci := 6) (v := .ref (a 1)) (C := RX8) (T := TX8) (N := 7) hx hb hts inX8 hown hK.1 hP 0 rfl rfl 0 (by decide) (hts _ tw_161) (fun _ h9 => h9) rfl dX8_lose_48 ?_
      refine kRV (As := []) (rest := []) (q0 := 1) C (c_X1_leavesThere l D kI kC kB (fun i => a (i + 1)) z_book_alphabet_out z_book_signing z_book_signs z_book_sizes u5 u6 _ hw) ⟨rfl, rfl⟩ ce_X1_leavesThere cv_X1_leavesThere tw_441 ⟨Nat.le_of_ble_eq_true rfl, Nat.le_of_ble_eq_true rfl⟩ hP [1, 2, 3, 4, 5, 6, 7, 8, 9, 10] rfl rfl rfl rfl hl.1 rfl (Nat.le_of_ble_eq_true rfl) ⟨Nat.zero_le _, Nat.zero_le _⟩ dX8_lose_51 (fun r7 hw => ?_)
      exact retMi C (h4, u5, u6, u3) hw hP hD hS dX8_lose_54
    · replace hw := hw.1 hc
      refine lv_bipush (v := (-5)) hx hb dX8_lose_25 (by decide) ?_
      exact retMi C (h_, z_book_lost, z_book_pile, z_history) hw hP hD hS dX8_lose_27
  · replace hw := hw.1 hc
    refine lv_iconst (v := (-1)) hx hb dX8_lose_11 (by decide) ?_
    exact retMi C (h_, z_book_lost, z_book_pile, z_history) hw hP hD hS dX8_lose_12
set_option maxHeartbeats 4000000 in
set_option maxRecDepth 100000 in
theorem c_X8_type (l : Launch) (D : va_G) (kI kC kB : ClassId) (a : AdT) (h_ : Nat → AdT) (z_snapshotTaken : Int32) (z_book_alphabet_out : Int32) (z_book_signing : Int32) (z_book_signs : RowT) (z_book_sizes : RowT) (z_book_lost : RowT) (z_book_pile : RowT) (z_snapshot_alphabet_out : Int32) (z_snapshot_signing : Int32) (z_snapshot_signs : RowT) (z_snapshot_sizes : RowT) (z_snapshot_lost : RowT) (z_snapshot_pile : RowT) (z_history : HistT) (z_text_characters : RowT) (z_text_firstSigns : RowT) (z_text_lastSigns : RowT) (z_text_numbers : RowT) (z_text_at : Int32) (z_text_allLetters_out : Int32) (z_writer_characters : RowT) (z_writer_entries : Int32) (z_found : RowT) (sz : Nat) (p1 : Int32) (Post : Int32 → RowT → Prop) (hw : wp_X8_type z_text_characters p1 Post) : CMi l D kI kC kB yX8_type cX8_type 2 (some .int) ({ frames := 4, cells := 0, slots := 0, locals := 87 } : Room) [.ref (a 0), .int p1] (cwQS kI kB a h_ z_snapshotTaken z_book_alphabet_out z_book_signing z_book_signs z_book_sizes z_book_lost z_book_pile z_snapshot_alphabet_out z_snapshot_signing z_snapshot_signs z_snapshot_sizes z_snapshot_lost z_snapshot_pile z_history z_text_characters z_text_firstSigns z_text_lastSigns z_text_numbers z_text_at z_text_allLetters_out z_writer_characters z_writer_entries z_found) sz (fun (r : Int32) (u : RowT) => Post r u) (fun u : RowT => (cwQS kI kB a h_ z_snapshotTaken z_book_alphabet_out z_book_signing z_book_signs z_book_sizes z_book_lost z_book_pile z_snapshot_alphabet_out z_snapshot_signing z_snapshot_signs z_snapshot_sizes z_snapshot_lost z_snapshot_pile z_history u z_text_firstSigns z_text_lastSigns z_text_numbers z_text_at z_text_allLetters_out z_writer_characters z_writer_entries z_found)) := by
  refine entMi (by decide) (Nat.le_of_ble_eq_true rfl) ?_
  intro p e s m args below meth c ls A C hA hP hD hS hl
  obtain ⟨H, hHe⟩ : ∃ H, H = s.heap := ⟨_, rfl⟩
  obtain ⟨locs, hlo⟩ : ∃ lo : List Loc, lo = [] := ⟨_, rfl⟩
  have hS : va_S A s.heap H locs := by rw [hHe, hlo]; exact hS
  rw [← hHe] at hP
  suffices hg : W p l e ({ frames := 4, cells := 0, slots := 0, locals := 87 } : Room) s m args below meth c H locs 0 0 (MQ below (va_Qi (fun (r : Int32) (u : RowT) => Post r u) (BB D A (fun u : RowT => (cwQS kI kB a h_ z_snapshotTaken z_book_alphabet_out z_book_signing z_book_signs z_book_sizes z_book_lost z_book_pile z_snapshot_alphabet_out z_snapshot_signing z_snapshot_signs z_snapshot_sizes z_snapshot_lost z_snapshot_pile z_history u z_text_firstSigns z_text_lastSigns z_text_numbers z_text_at z_text_allLetters_out z_writer_characters z_writer_entries z_found))) A) args s 0 0 A) (F0 m 0 ls []) by rw [hHe, hlo] at hg; exact hg
  replace hl : lv_has ls 2 [(0, .ref (a 0)), (1, .int p1)] := hl
  obtain ⟨hx, hb, hr, hml, hown, hts, hlocks, hK⟩ := id C
  refine lv_aload_n hx hb dX8_type_0 rfl (lv_at hl 0 rfl) ?_
  refine va_get (D := D) (ci := 6) (v := .ref (a 23)) (C := RX8) (T := TX8) (N := 7) hx hb hts inX8 hown hK.1 hP 0 rfl rfl 4 (by decide) (hts _ tw_165) (fun _ h9 => h9) rfl dX8_type_1 ?_
  refine kRV (As := []) (rest := []) (q0 := 63) C (c_X6_length l D kI kC kB (fun i => a (i + 23)) z_text_characters z_text_firstSigns z_text_lastSigns z_text_numbers z_text_at _ hw) ⟨rfl, rfl⟩ ce_X6_length cv_X6_length tw_455 ⟨Nat.le_of_ble_eq_true rfl, Nat.le_of_ble_eq_true rfl⟩ hP [63, 64, 65, 66, 67, 68, 69, 70, 71] rfl rfl rfl rfl hl.1 rfl (Nat.le_of_ble_eq_true rfl) ⟨Nat.zero_le _, Nat.zero_le _⟩ dX8_type_4 (fun r1 hw => ?_)
  refine lv_bipush (v := (nI 60)) hx hb dX8_type_7 (by decide) ?_
  refine lv_icmp_lt (tgt := 15) hx hb dX8_type_9 (by decide) (fun hc => ?_) (fun hc => ?_)
  · replace hw := hw.1 hc
    refine lv_aload_n hx hb dX8_type_15 rfl (lv_at hl 0 rfl) ?_
    refine va_get (D := D) (ci := 6) (v := .ref (a 23)) (C := RX8) (T := TX8) (N := 7) hx hb hts inX8 hown hK.1 hP 0 rfl rfl 4 (by decide) (hts _ tw_165) (fun _ h9 => h9) rfl dX8_type_16 ?_
    refine lv_iload_n hx hb dX8_type_19 rfl (lv_at hl 1 rfl) ?_
    refine kMBv (q0 := 0) (As := [.int p1]) (rest := []) (ws' := fun u : RowT => (cwQS kI kB a h_ z_snapshotTaken z_book_alphabet_out z_book_signing z_book_signs z_book_sizes z_book_lost z_book_pile z_snapshot_alphabet_out z_snapshot_signing z_snapshot_signs z_snapshot_sizes z_snapshot_lost z_snapshot_pile z_history u z_text_firstSigns z_text_lastSigns z_text_numbers z_text_at z_text_allLetters_out z_writer_characters z_writer_entries z_found)) C (c_X6_add l D kI kC kB (fun i => a (i + 23)) z_text_characters z_text_firstSigns z_text_lastSigns z_text_numbers z_text_at H.size p1 _ hw) ⟨rfl, rfl⟩ ce_X6_add cv_X6_add tw_459 ⟨Nat.le_of_ble_eq_true rfl, Nat.le_of_ble_eq_true rfl⟩ hP hD hS hA (bfl_p1 [_, _, _, _, _, _, _, _] 4 rfl) (fun u => (bfl_p1 [_, _, _, _, _, _, _, _] 4 rfl)) rfl rfl rfl hl.1 rfl (Nat.le_of_ble_eq_true rfl) ⟨Nat.zero_le _, Nat.zero_le _⟩ dX8_type_20 (fun u H locs hw hP hD hS => ?_)
    obtain ⟨u2, rfl⟩ : ∃ z, z = u := ⟨_, rfl⟩
    try dsimp only at hw
    replace hP : va_P D vwCl (cwQS kI kB a h_ z_snapshotTaken z_book_alphabet_out z_book_signing z_book_signs z_book_sizes z_book_lost z_book_pile z_snapshot_alphabet_out z_snapshot_signing z_snapshot_signs z_snapshot_sizes z_snapshot_lost z_snapshot_pile z_history u2 z_text_firstSigns z_text_lastSigns z_text_numbers z_text_at z_text_allLetters_out z_writer_characters z_writer_entries z_found) H := hP
    replace hD : va_D A (cwQS kI kB a h_ z_snapshotTaken z_book_alphabet_out z_book_signing z_book_signs z_book_sizes z_book_lost z_book_pile z_snapshot_alphabet_out z_snapshot_signing z_snapshot_signs z_snapshot_sizes z_snapshot_lost z_snapshot_pile z_history u2 z_text_firstSigns z_text_lastSigns z_text_numbers z_text_at z_text_allLetters_out z_writer_characters z_writer_entries z_found) := hD
    refine lv_aload_n hx hb dX8_type_23 rfl (lv_at hl 0 rfl) ?_
    refine va_get (D := D) (ci := 6) (v := .ref (a 23)) (C := RX8) (T := TX8) (N := 7) hx hb hts inX8 hown hK.1 hP 0 rfl rfl 4 (by decide) (hts _ tw_165) (fun _ h9 => h9) rfl dX8_type_24 ?_
    refine kRV (As := []) (rest := []) (q0 := 63) C (c_X6_length l D kI kC kB (fun i => a (i + 23)) u2 z_text_firstSigns z_text_lastSigns z_text_numbers z_text_at _ hw) ⟨rfl, rfl⟩ ce_X6_length cv_X6_length tw_455 ⟨Nat.le_of_ble_eq_true rfl, Nat.le_of_ble_eq_true rfl⟩ hP [63, 64, 65, 66, 67, 68, 69, 70, 71] rfl rfl rfl rfl hl.1 rfl (Nat.le_of_ble_eq_true rfl) ⟨Nat.zero_le _, Nat.zero_le _⟩ dX8_type_27 (fun r3 hw => ?_)
    exact retMi C (u2) hw hP hD hS dX8_type_30
  · replace hw := hw.2 hc
    refine lv_bipush (v := (-3)) hx hb dX8_type_12 (by decide) ?_
    exact retMi C (z_text_characters) hw hP hD hS dX8_type_14
set_option maxHeartbeats 4000000 in
set_option maxRecDepth 100000 in
theorem c_X8_clearText (l : Launch) (D : va_G) (kI kC kB : ClassId) (a : AdT) (h_ : Nat → AdT) (z_snapshotTaken : Int32) (z_book_alphabet_out : Int32) (z_book_signing : Int32) (z_book_signs : RowT) (z_book_sizes : RowT) (z_book_lost : RowT) (z_book_pile : RowT) (z_snapshot_alphabet_out : Int32) (z_snapshot_signing : Int32) (z_snapshot_signs : RowT) (z_snapshot_sizes : RowT) (z_snapshot_lost : RowT) (z_snapshot_pile : RowT) (z_history : HistT) (z_text_characters : RowT) (z_text_firstSigns : RowT) (z_text_lastSigns : RowT) (z_text_numbers : RowT) (z_text_at : Int32) (z_text_allLetters_out : Int32) (z_writer_characters : RowT) (z_writer_entries : Int32) (z_found : RowT) (sz : Nat) (Post : Int32 → RowT → Prop) (hw : wp_X8_clearText z_text_characters Post) : CMi l D kI kC kB yX8_clearText cX8_clearText 2 (some .int) ({ frames := 2, cells := 0, slots := 0, locals := 40 } : Room) [.ref (a 0)] (cwQS kI kB a h_ z_snapshotTaken z_book_alphabet_out z_book_signing z_book_signs z_book_sizes z_book_lost z_book_pile z_snapshot_alphabet_out z_snapshot_signing z_snapshot_signs z_snapshot_sizes z_snapshot_lost z_snapshot_pile z_history z_text_characters z_text_firstSigns z_text_lastSigns z_text_numbers z_text_at z_text_allLetters_out z_writer_characters z_writer_entries z_found) sz (fun (r : Int32) (u : RowT) => Post r u) (fun u : RowT => (cwQS kI kB a h_ z_snapshotTaken z_book_alphabet_out z_book_signing z_book_signs z_book_sizes z_book_lost z_book_pile z_snapshot_alphabet_out z_snapshot_signing z_snapshot_signs z_snapshot_sizes z_snapshot_lost z_snapshot_pile z_history u z_text_firstSigns z_text_lastSigns z_text_numbers z_text_at z_text_allLetters_out z_writer_characters z_writer_entries z_found)) := by
  refine entMi (by decide) (Nat.le_of_ble_eq_true rfl) ?_
  intro p e s m args below meth c ls A C hA hP hD hS hl
  obtain ⟨H, hHe⟩ : ∃ H, H = s.heap := ⟨_, rfl⟩
  obtain ⟨locs, hlo⟩ : ∃ lo : List Loc, lo = [] := ⟨_, rfl⟩
  have hS : va_S A s.heap H locs := by rw [hHe, hlo]; exact hS
  rw [← hHe] at hP
  suffices hg : W p l e ({ frames := 2, cells := 0, slots := 0, locals := 40 } : Room) s m args below meth c H locs 0 0 (MQ below (va_Qi (fun (r : Int32) (u : RowT) => Post r u) (BB D A (fun u : RowT => (cwQS kI kB a h_ z_snapshotTaken z_book_alphabet_out z_book_signing z_book_signs z_book_sizes z_book_lost z_book_pile z_snapshot_alphabet_out z_snapshot_signing z_snapshot_signs z_snapshot_sizes z_snapshot_lost z_snapshot_pile z_history u z_text_firstSigns z_text_lastSigns z_text_numbers z_text_at z_text_allLetters_out z_writer_characters z_writer_entries z_found))) A) args s 0 0 A) (F0 m 0 ls []) by rw [hHe, hlo] at hg; exact hg
  replace hl : lv_has ls 2 [(0, .ref (a 0))] := hl
  obtain ⟨hx, hb, hr, hml, hown, hts, hlocks, hK⟩ := id C
  refine lv_aload_n hx hb dX8_clearText_0 rfl (lv_at hl 0 rfl) ?_
  refine va_get (D := D) (ci := 6) (v := .ref (a 23)) (C := RX8) (T := TX8) (N := 7) hx hb hts inX8 hown hK.1 hP 0 rfl rfl 4 (by decide) (hts _ tw_165) (fun _ h9 => h9) rfl dX8_clearText_1 ?_
  refine kRV (As := []) (rest := []) (q0 := 63) C (c_X6_length l D kI kC kB (fun i => a (i + 23)) z_text_characters z_text_firstSigns z_text_lastSigns z_text_numbers z_text_at _ hw) ⟨rfl, rfl⟩ ce_X6_length cv_X6_length tw_455 ⟨Nat.le_of_ble_eq_true rfl, Nat.le_of_ble_eq_true rfl⟩ hP [63, 64, 65, 66, 67, 68, 69, 70, 71] rfl rfl rfl rfl hl.1 rfl (Nat.le_of_ble_eq_true rfl) ⟨Nat.zero_le _, Nat.zero_le _⟩ dX8_clearText_4 (fun r1 hw => ?_)
  refine lv_istore_n (lv' := [(1, .int r1), (0, .ref (a 0))]) hx hb dX8_clearText_7 rfl hl (by decide) rfl (fun ls hl => ?_)
  refine lv_aload_n hx hb dX8_clearText_8 rfl (lv_at hl 1 rfl) ?_
  refine va_get (D := D) (ci := 6) (v := .ref (a 23)) (C := RX8) (T := TX8) (N := 7) hx hb hts inX8 hown hK.1 hP 0 rfl rfl 4 (by decide) (hts _ tw_165) (fun _ h9 => h9) rfl dX8_clearText_9 ?_
  refine kMBv (q0 := 0) (As := []) (rest := []) (ws' := fun u : RowT => (cwQS kI kB a h_ z_snapshotTaken z_book_alphabet_out z_book_signing z_book_signs z_book_sizes z_book_lost z_book_pile z_snapshot_alphabet_out z_snapshot_signing z_snapshot_signs z_snapshot_sizes z_snapshot_lost z_snapshot_pile z_history u z_text_firstSigns z_text_lastSigns z_text_numbers z_text_at z_text_allLetters_out z_writer_characters z_writer_entries z_found)) C (c_X6_empty l D kI kC kB (fun i => a (i + 23)) z_text_characters z_text_firstSigns z_text_lastSigns z_text_numbers z_text_at H.size _ hw) ⟨rfl, rfl⟩ ce_X6_empty cv_X6_empty tw_467 ⟨Nat.le_of_ble_eq_true rfl, Nat.le_of_ble_eq_true rfl⟩ hP hD hS hA (bfl_p1 [_, _, _, _, _, _, _, _] 4 rfl) (fun u => (bfl_p1 [_, _, _, _, _, _, _, _] 4 rfl)) rfl rfl rfl hl.1 rfl (Nat.le_of_ble_eq_true rfl) ⟨Nat.zero_le _, Nat.zero_le _⟩ dX8_clearText_12 (fun u H locs hw hP hD hS => ?_)
  obtain ⟨u2, rfl⟩ : ∃ z, z = u := ⟨_, rfl⟩
  try dsimp only at hw
  replace hP : va_P D vwCl (cwQS kI kB a h_ z_snapshotTaken z_book_alphabet_out z_book_signing z_book_signs z_book_sizes z_book_lost z_book_pile z_snapshot_alphabet_out z_snapshot_signing z_snapshot_signs z_snapshot_sizes z_snapshot_lost z_snapshot_pile z_history u2 z_text_firstSigns z_text_lastSigns z_text_numbers z_text_at z_text_allLetters_out z_writer_characters z_writer_entries z_found) H := hP
  replace hD : va_D A (cwQS kI kB a h_ z_snapshotTaken z_book_alphabet_out z_book_signing z_book_signs z_book_sizes z_book_lost z_book_pile z_snapshot_alphabet_out z_snapshot_signing z_snapshot_signs z_snapshot_sizes z_snapshot_lost z_snapshot_pile z_history u2 z_text_firstSigns z_text_lastSigns z_text_numbers z_text_at z_text_allLetters_out z_writer_characters z_writer_entries z_found) := hD
  refine lv_iload_n hx hb dX8_clearText_15 rfl (lv_at hl 0 rfl) ?_
  exact retMi C (u2) hw hP hD hS dX8_clearText_16
set_option maxHeartbeats 4000000 in
set_option maxRecDepth 100000 in
theorem c_X8_undo (l : Launch) (D : va_G) (kI kC kB : ClassId) (a : AdT) (h_ : Nat → AdT) (z_snapshotTaken : Int32) (z_book_alphabet_out : Int32) (z_book_signing : Int32) (z_book_signs : RowT) (z_book_sizes : RowT) (z_book_lost : RowT) (z_book_pile : RowT) (z_snapshot_alphabet_out : Int32) (z_snapshot_signing : Int32) (z_snapshot_signs : RowT) (z_snapshot_sizes : RowT) (z_snapshot_lost : RowT) (z_snapshot_pile : RowT) (z_history : HistT) (z_text_characters : RowT) (z_text_firstSigns : RowT) (z_text_lastSigns : RowT) (z_text_numbers : RowT) (z_text_at : Int32) (z_text_allLetters_out : Int32) (z_writer_characters : RowT) (z_writer_entries : Int32) (z_found : RowT) (sz : Nat) (Post : Int32 → Int32 → Int32 → RowT → RowT → RowT → RowT → HistT → Prop) (hw : wp_X8_undo z_book_alphabet_out z_book_signing z_book_signs z_book_sizes z_book_lost z_book_pile z_history Post) : CMi l D kI kC kB yX8_undo cX8_undo 1 (some .int) ({ frames := 4, cells := 0, slots := 0, locals := 87 } : Room) [.ref (a 0)] (cwQS kI kB a h_ z_snapshotTaken z_book_alphabet_out z_book_signing z_book_signs z_book_sizes z_book_lost z_book_pile z_snapshot_alphabet_out z_snapshot_signing z_snapshot_signs z_snapshot_sizes z_snapshot_lost z_snapshot_pile z_history z_text_characters z_text_firstSigns z_text_lastSigns z_text_numbers z_text_at z_text_allLetters_out z_writer_characters z_writer_entries z_found) sz (fun (r : Int32) (u : Int32 × Int32 × RowT × RowT × RowT × RowT × HistT) => Post r u.1 u.2.1 u.2.2.1 u.2.2.2.1 u.2.2.2.2.1 u.2.2.2.2.2.1 u.2.2.2.2.2.2) (fun u : Int32 × Int32 × RowT × RowT × RowT × RowT × HistT => (cwQS kI kB a h_ z_snapshotTaken u.1 u.2.1 u.2.2.1 u.2.2.2.1 u.2.2.2.2.1 u.2.2.2.2.2.1 z_snapshot_alphabet_out z_snapshot_signing z_snapshot_signs z_snapshot_sizes z_snapshot_lost z_snapshot_pile u.2.2.2.2.2.2 z_text_characters z_text_firstSigns z_text_lastSigns z_text_numbers z_text_at z_text_allLetters_out z_writer_characters z_writer_entries z_found)) := by
  refine entMi (by decide) (Nat.le_of_ble_eq_true rfl) ?_
  intro p e s m args below meth c ls A C hA hP hD hS hl
  obtain ⟨H, hHe⟩ : ∃ H, H = s.heap := ⟨_, rfl⟩
  obtain ⟨locs, hlo⟩ : ∃ lo : List Loc, lo = [] := ⟨_, rfl⟩
  have hS : va_S A s.heap H locs := by rw [hHe, hlo]; exact hS
  rw [← hHe] at hP
  suffices hg : W p l e ({ frames := 4, cells := 0, slots := 0, locals := 87 } : Room) s m args below meth c H locs 0 0 (MQ below (va_Qi (fun (r : Int32) (u : Int32 × Int32 × RowT × RowT × RowT × RowT × HistT) => Post r u.1 u.2.1 u.2.2.1 u.2.2.2.1 u.2.2.2.2.1 u.2.2.2.2.2.1 u.2.2.2.2.2.2) (BB D A (fun u : Int32 × Int32 × RowT × RowT × RowT × RowT × HistT => (cwQS kI kB a h_ z_snapshotTaken u.1 u.2.1 u.2.2.1 u.2.2.2.1 u.2.2.2.2.1 u.2.2.2.2.2.1 z_snapshot_alphabet_out z_snapshot_signing z_snapshot_signs z_snapshot_sizes z_snapshot_lost z_snapshot_pile u.2.2.2.2.2.2 z_text_characters z_text_firstSigns z_text_lastSigns z_text_numbers z_text_at z_text_allLetters_out z_writer_characters z_writer_entries z_found))) A) args s 0 0 A) (F0 m 0 ls []) by rw [hHe, hlo] at hg; exact hg
  replace hl : lv_has ls 1 [(0, .ref (a 0))] := hl
  obtain ⟨hx, hb, hr, hml, hown, hts, hlocks, hK⟩ := id C
  refine lv_aload_n hx hb dX8_undo_0 rfl (lv_at hl 0 rfl) ?_
  refine va_get (D := D) (ci := 6) (v := .ref (a 21)) (C := RX8) (T := TX8) (N := 7) hx hb hts inX8 hown hK.1 hP 0 rfl rfl 3 (by decide) (hts _ tw_164) (fun _ h9 => h9) rfl dX8_undo_1 ?_
  refine kRV (As := []) (rest := []) (q0 := 21) C (c_X2_states l D kI kC kB (fun i => a (i + 21)) h_ z_history _ hw) ⟨rfl, rfl⟩ ce_X2_states cv_X2_states tw_475 ⟨Nat.le_of_ble_eq_true rfl, Nat.le_of_ble_eq_true rfl⟩ hP [21, 22, 23, 24, 25, 26, 27, 28, 29, 30, 31, 32, 33, 34, 35, 36, 37, 38, 39, 40, 41, 42, 43, 44, 45, 46, 47, 48, 49, 50, 51, 52, 53, 54, 55, 56, 57, 58, 59, 60, 61, 62] rfl rfl rfl rfl hl.1 rfl (Nat.le_of_ble_eq_true rfl) ⟨Nat.zero_le _, Nat.zero_le _⟩ dX8_undo_4 (fun r1 hw => ?_)
  refine lv_if_ne (tgt := 13) hx hb dX8_undo_7 (by decide) (fun hc => ?_) (fun hc => ?_)
  · replace hw := hw.2 hc
    refine lv_aload_n hx hb dX8_undo_13 rfl (lv_at hl 0 rfl) ?_
    refine va_get (D := D) (ci := 6) (v := .ref (a 21)) (C := RX8) (T := TX8) (N := 7) hx hb hts inX8 hown hK.1 hP 0 rfl rfl 3 (by decide) (hts _ tw_164) (fun _ h9 => h9) rfl dX8_undo_14 ?_
    refine lv_aload_n hx hb dX8_undo_17 rfl (lv_at hl 0 rfl) ?_
    refine va_get (D := D) (ci := 6) (v := .ref (a 1)) (C := RX8) (T := TX8) (N := 7) hx hb hts inX8 hown hK.1 hP 0 rfl rfl 0 (by decide) (hts _ tw_161) (fun _ h9 => h9) rfl dX8_undo_18 ?_
    refine kMBv (q0 := 0) (As := [.ref (a 1)]) (rest := []) (ws' := fun u : HistT × Int32 × Int32 × RowT × RowT × RowT × RowT => (cwQS kI kB a h_ z_snapshotTaken u.2.1 u.2.2.1 u.2.2.2.1 u.2.2.2.2.1 u.2.2.2.2.2.1 u.2.2.2.2.2.2 z_snapshot_alphabet_out z_snapshot_signing z_snapshot_signs z_snapshot_sizes z_snapshot_lost z_snapshot_pile u.1 z_text_characters z_text_firstSigns z_text_lastSigns z_text_numbers z_text_at z_text_allLetters_out z_writer_characters z_writer_entries z_found)) C (c_X2_takeBack l D kI kC kB (fun i => a (i + 21)) h_ (fun i => a (i + 1)) z_history z_book_alphabet_out z_book_signing z_book_signs z_book_sizes z_book_lost z_book_pile H.size _ hw) ⟨rfl, rfl⟩ ce_X2_takeBack cv_X2_takeBack tw_479 ⟨Nat.le_of_ble_eq_true rfl, Nat.le_of_ble_eq_true rfl⟩ hP hD hS hA (bfl_p2 [_, _, _, _, _, _, _, _] 3 1 rfl rfl) (fun u => (bfl_p2 [_, _, _, _, _, _, _, _] 3 1 rfl rfl)) rfl rfl rfl hl.1 rfl (Nat.le_of_ble_eq_true rfl) ⟨Nat.zero_le _, Nat.zero_le _⟩ dX8_undo_21 (fun u H locs hw hP hD hS => ?_)
    obtain ⟨u2, u3, u4, u5, u6, u7, u8⟩ := u
    try dsimp only at hw
    replace hP : va_P D vwCl (cwQS kI kB a h_ z_snapshotTaken u3 u4 u5 u6 u7 u8 z_snapshot_alphabet_out z_snapshot_signing z_snapshot_signs z_snapshot_sizes z_snapshot_lost z_snapshot_pile u2 z_text_characters z_text_firstSigns z_text_lastSigns z_text_numbers z_text_at z_text_allLetters_out z_writer_characters z_writer_entries z_found) H := hP
    replace hD : va_D A (cwQS kI kB a h_ z_snapshotTaken u3 u4 u5 u6 u7 u8 z_snapshot_alphabet_out z_snapshot_signing z_snapshot_signs z_snapshot_sizes z_snapshot_lost z_snapshot_pile u2 z_text_characters z_text_firstSigns z_text_lastSigns z_text_numbers z_text_at z_text_allLetters_out z_writer_characters z_writer_entries z_found) := hD
    refine lv_aload_n hx hb dX8_undo_24 rfl (lv_at hl 0 rfl) ?_
    refine va_get (D := D) (ci := 6) (v := .ref (a 21)) (C := RX8) (T := TX8) (N := 7) hx hb hts inX8 hown hK.1 hP 0 rfl rfl 3 (by decide) (hts _ tw_164) (fun _ h9 => h9) rfl dX8_undo_25 ?_
    refine kRV (As := []) (rest := []) (q0 := 21) C (c_X2_states l D kI kC kB (fun i => a (i + 21)) h_ u2 _ hw) ⟨rfl, rfl⟩ ce_X2_states cv_X2_states tw_475 ⟨Nat.le_of_ble_eq_true rfl, Nat.le_of_ble_eq_true rfl⟩ hP [21, 22, 23, 24, 25, 26, 27, 28, 29, 30, 31, 32, 33, 34, 35, 36, 37, 38, 39, 40, 41, 42, 43, 44, 45, 46, 47, 48, 49, 50, 51, 52, 53, 54, 55, 56, 57, 58, 59, 60, 61, 62] rfl rfl rfl rfl hl.1 rfl (Nat.le_of_ble_eq_true rfl) ⟨Nat.zero_le _, Nat.zero_le _⟩ dX8_undo_28 (fun r9 hw => ?_)
    exact retMi C (u3, u4, u5, u6, u7, u8, u2) hw hP hD hS dX8_undo_31
  · replace hw := hw.1 hc
    refine lv_bipush (v := (-5)) hx hb dX8_undo_10 (by decide) ?_
    exact retMi C (z_book_alphabet_out, z_book_signing, z_book_signs, z_book_sizes, z_book_lost, z_book_pile, z_history) hw hP hD hS dX8_undo_12
set_option maxHeartbeats 4000000 in
set_option maxRecDepth 100000 in
theorem c_X8_restore (l : Launch) (D : va_G) (kI kC kB : ClassId) (a : AdT) (h_ : Nat → AdT) (z_snapshotTaken : Int32) (z_book_alphabet_out : Int32) (z_book_signing : Int32) (z_book_signs : RowT) (z_book_sizes : RowT) (z_book_lost : RowT) (z_book_pile : RowT) (z_snapshot_alphabet_out : Int32) (z_snapshot_signing : Int32) (z_snapshot_signs : RowT) (z_snapshot_sizes : RowT) (z_snapshot_lost : RowT) (z_snapshot_pile : RowT) (z_history : HistT) (z_text_characters : RowT) (z_text_firstSigns : RowT) (z_text_lastSigns : RowT) (z_text_numbers : RowT) (z_text_at : Int32) (z_text_allLetters_out : Int32) (z_writer_characters : RowT) (z_writer_entries : Int32) (z_found : RowT) (sz : Nat) (Post : Int32 → Int32 → Int32 → RowT → RowT → RowT → RowT → HistT → Prop) (hw : wp_X8_restore z_snapshotTaken z_book_alphabet_out z_book_signing z_book_signs z_book_sizes z_book_lost z_book_pile z_snapshot_alphabet_out z_snapshot_signing z_snapshot_signs z_snapshot_sizes z_snapshot_lost z_snapshot_pile z_history Post) : CMi l D kI kC kB yX8_restore cX8_restore 1 (some .int) ({ frames := 4, cells := 0, slots := 0, locals := 87 } : Room) [.ref (a 0)] (cwQS kI kB a h_ z_snapshotTaken z_book_alphabet_out z_book_signing z_book_signs z_book_sizes z_book_lost z_book_pile z_snapshot_alphabet_out z_snapshot_signing z_snapshot_signs z_snapshot_sizes z_snapshot_lost z_snapshot_pile z_history z_text_characters z_text_firstSigns z_text_lastSigns z_text_numbers z_text_at z_text_allLetters_out z_writer_characters z_writer_entries z_found) sz (fun (r : Int32) (u : (Nat → AdT) × Int32 × Int32 × RowT × RowT × RowT × RowT × HistT) => Post r u.2.1 u.2.2.1 u.2.2.2.1 u.2.2.2.2.1 u.2.2.2.2.2.1 u.2.2.2.2.2.2.1 u.2.2.2.2.2.2.2) (fun u : (Nat → AdT) × Int32 × Int32 × RowT × RowT × RowT × RowT × HistT => (cwQS kI kB a u.1 z_snapshotTaken u.2.1 u.2.2.1 u.2.2.2.1 u.2.2.2.2.1 u.2.2.2.2.2.1 u.2.2.2.2.2.2.1 z_snapshot_alphabet_out z_snapshot_signing z_snapshot_signs z_snapshot_sizes z_snapshot_lost z_snapshot_pile u.2.2.2.2.2.2.2 z_text_characters z_text_firstSigns z_text_lastSigns z_text_numbers z_text_at z_text_allLetters_out z_writer_characters z_writer_entries z_found)) := by
  refine entMi (by decide) (Nat.le_of_ble_eq_true rfl) ?_
  intro p e s m args below meth c ls A C hA hP hD hS hl
  obtain ⟨H, hHe⟩ : ∃ H, H = s.heap := ⟨_, rfl⟩
  obtain ⟨locs, hlo⟩ : ∃ lo : List Loc, lo = [] := ⟨_, rfl⟩
  have hS : va_S A s.heap H locs := by rw [hHe, hlo]; exact hS
  rw [← hHe] at hP
  suffices hg : W p l e ({ frames := 4, cells := 0, slots := 0, locals := 87 } : Room) s m args below meth c H locs 0 0 (MQ below (va_Qi (fun (r : Int32) (u : (Nat → AdT) × Int32 × Int32 × RowT × RowT × RowT × RowT × HistT) => Post r u.2.1 u.2.2.1 u.2.2.2.1 u.2.2.2.2.1 u.2.2.2.2.2.1 u.2.2.2.2.2.2.1 u.2.2.2.2.2.2.2) (BB D A (fun u : (Nat → AdT) × Int32 × Int32 × RowT × RowT × RowT × RowT × HistT => (cwQS kI kB a u.1 z_snapshotTaken u.2.1 u.2.2.1 u.2.2.2.1 u.2.2.2.2.1 u.2.2.2.2.2.1 u.2.2.2.2.2.2.1 z_snapshot_alphabet_out z_snapshot_signing z_snapshot_signs z_snapshot_sizes z_snapshot_lost z_snapshot_pile u.2.2.2.2.2.2.2 z_text_characters z_text_firstSigns z_text_lastSigns z_text_numbers z_text_at z_text_allLetters_out z_writer_characters z_writer_entries z_found))) A) args s 0 0 A) (F0 m 0 ls []) by rw [hHe, hlo] at hg; exact hg
  replace hl : lv_has ls 1 [(0, .ref (a 0))] := hl
  obtain ⟨hx, hb, hr, hml, hown, hts, hlocks, hK⟩ := id C
  refine lv_aload_n hx hb dX8_restore_0 rfl (lv_at hl 0 rfl) ?_
  refine va_get (D := D) (ci := 6) (v := .int z_snapshotTaken) (C := RX8) (T := TX8) (N := 7) hx hb hts inX8 hown hK.1 hP 0 rfl rfl 2 (by decide) (hts _ tw_163) (fun _ h9 => h9) rfl dX8_restore_1 ?_
  refine lv_if_ne (tgt := 10) hx hb dX8_restore_4 (by decide) (fun hc => ?_) (fun hc => ?_)
  · replace hw := hw.2 hc
    refine lv_aload_n hx hb dX8_restore_10 rfl (lv_at hl 0 rfl) ?_
    refine va_get (D := D) (ci := 6) (v := .ref (a 21)) (C := RX8) (T := TX8) (N := 7) hx hb hts inX8 hown hK.1 hP 0 rfl rfl 3 (by decide) (hts _ tw_164) (fun _ h9 => h9) rfl dX8_restore_11 ?_
    refine lv_aload_n hx hb dX8_restore_14 rfl (lv_at hl 0 rfl) ?_
    refine va_get (D := D) (ci := 6) (v := .ref (a 1)) (C := RX8) (T := TX8) (N := 7) hx hb hts inX8 hown hK.1 hP 0 rfl rfl 0 (by decide) (hts _ tw_161) (fun _ h9 => h9) rfl dX8_restore_15 ?_
    refine kMBv (q0 := 0) (As := [.ref (a 1)]) (rest := []) (ws' := fun u : (Nat → AdT) × HistT => (cwQS kI kB a u.1 z_snapshotTaken z_book_alphabet_out z_book_signing z_book_signs z_book_sizes z_book_lost z_book_pile z_snapshot_alphabet_out z_snapshot_signing z_snapshot_signs z_snapshot_sizes z_snapshot_lost z_snapshot_pile u.2 z_text_characters z_text_firstSigns z_text_lastSigns z_text_numbers z_text_at z_text_allLetters_out z_writer_characters z_writer_entries z_found)) C (c_X2_record l D kI kC kB (fun i => a (i + 21)) h_ (fun i => a (i + 1)) z_history z_book_alphabet_out z_book_signing z_book_signs z_book_sizes z_book_lost z_book_pile H.size _ hw) ⟨rfl, rfl⟩ ce_X2_record cv_X2_record tw_201 ⟨Nat.le_of_ble_eq_true rfl, Nat.le_of_ble_eq_true rfl⟩ hP hD hS hA (bfl_p2 [_, _, _, _, _, _, _, _] 3 1 rfl rfl) (fun u => (bfl_p2 [_, _, _, _, _, _, _, _] 3 1 rfl rfl)) rfl rfl rfl hl.1 rfl (Nat.le_of_ble_eq_true rfl) ⟨Nat.zero_le _, Nat.zero_le _⟩ dX8_restore_18 (fun u H locs hw hP hD hS => ?_)
    obtain ⟨h2, u1⟩ := u
    try dsimp only at hw
    replace hP : va_P D vwCl (cwQS kI kB a h2 z_snapshotTaken z_book_alphabet_out z_book_signing z_book_signs z_book_sizes z_book_lost z_book_pile z_snapshot_alphabet_out z_snapshot_signing z_snapshot_signs z_snapshot_sizes z_snapshot_lost z_snapshot_pile u1 z_text_characters z_text_firstSigns z_text_lastSigns z_text_numbers z_text_at z_text_allLetters_out z_writer_characters z_writer_entries z_found) H := hP
    replace hD : va_D A (cwQS kI kB a h2 z_snapshotTaken z_book_alphabet_out z_book_signing z_book_signs z_book_sizes z_book_lost z_book_pile z_snapshot_alphabet_out z_snapshot_signing z_snapshot_signs z_snapshot_sizes z_snapshot_lost z_snapshot_pile u1 z_text_characters z_text_firstSigns z_text_lastSigns z_text_numbers z_text_at z_text_allLetters_out z_writer_characters z_writer_entries z_found) := hD
    refine lv_aload_n hx hb dX8_restore_21 rfl (lv_at hl 0 rfl) ?_
    refine va_get (D := D) (ci := 6) (v := .ref (a 1)) (C := RX8) (T := TX8) (N := 7) hx hb hts inX8 hown hK.1 hP 0 rfl rfl 0 (by decide) (hts _ tw_161) (fun _ h9 => h9) rfl dX8_restore_22 ?_
    refine lv_aload_n hx hb dX8_restore_25 rfl (lv_at hl 0 rfl) ?_
    refine va_get (D := D) (ci := 6) (v := .ref (a 11)) (C := RX8) (T := TX8) (N := 7) hx hb hts inX8 hown hK.1 hP 0 rfl rfl 1 (by decide) (hts _ tw_162) (fun _ h9 => h9) rfl dX8_restore_26 ?_
    refine kMBv (q0 := 0) (As := [.ref (a 11)]) (rest := []) (ws' := fun u : Int32 × Int32 × RowT × RowT × RowT × RowT => (cwQS kI kB a h2 z_snapshotTaken u.1 u.2.1 u.2.2.1 u.2.2.2.1 u.2.2.2.2.1 u.2.2.2.2.2 z_snapshot_alphabet_out z_snapshot_signing z_snapshot_signs z_snapshot_sizes z_snapshot_lost z_snapshot_pile u1 z_text_characters z_text_firstSigns z_text_lastSigns z_text_numbers z_text_at z_text_allLetters_out z_writer_characters z_writer_entries z_found)) C (c_X1_become l D kI kC kB (fun i => a (i + 1)) (fun i => a (i + 11)) z_book_alphabet_out z_book_signing z_book_signs z_book_sizes z_book_lost z_book_pile z_snapshot_alphabet_out z_snapshot_signing z_snapshot_signs z_snapshot_sizes z_snapshot_lost z_snapshot_pile H.size _ hw) ⟨rfl, rfl⟩ ce_X1_become cv_X1_become tw_487 ⟨Nat.le_of_ble_eq_true rfl, Nat.le_of_ble_eq_true rfl⟩ hP hD hS hA (bfl_p2 [_, _, _, _, _, _, _, _] 1 1 rfl rfl) (fun u => (bfl_p2 [_, _, _, _, _, _, _, _] 1 1 rfl rfl)) rfl rfl rfl hl.1 rfl (Nat.le_of_ble_eq_true rfl) ⟨Nat.zero_le _, Nat.zero_le _⟩ dX8_restore_29 (fun u H locs hw hP hD hS => ?_)
    obtain ⟨u3, u4, u5, u6, u7, u8⟩ := u
    try dsimp only at hw
    replace hP : va_P D vwCl (cwQS kI kB a h2 z_snapshotTaken u3 u4 u5 u6 u7 u8 z_snapshot_alphabet_out z_snapshot_signing z_snapshot_signs z_snapshot_sizes z_snapshot_lost z_snapshot_pile u1 z_text_characters z_text_firstSigns z_text_lastSigns z_text_numbers z_text_at z_text_allLetters_out z_writer_characters z_writer_entries z_found) H := hP
    replace hD : va_D A (cwQS kI kB a h2 z_snapshotTaken u3 u4 u5 u6 u7 u8 z_snapshot_alphabet_out z_snapshot_signing z_snapshot_signs z_snapshot_sizes z_snapshot_lost z_snapshot_pile u1 z_text_characters z_text_firstSigns z_text_lastSigns z_text_numbers z_text_at z_text_allLetters_out z_writer_characters z_writer_entries z_found) := hD
    refine lv_aload_n hx hb dX8_restore_32 rfl (lv_at hl 0 rfl) ?_
    refine va_get (D := D) (ci := 6) (v := .ref (a 1)) (C := RX8) (T := TX8) (N := 7) hx hb hts inX8 hown hK.1 hP 0 rfl rfl 0 (by decide) (hts _ tw_161) (fun _ h9 => h9) rfl dX8_restore_33 ?_
    refine kRV (As := []) (rest := []) (q0 := 1) C (c_X1_quires l D kI kC kB (fun i => a (i + 1)) u3 u4 u5 u6 u7 u8 _ hw) ⟨rfl, rfl⟩ ce_X1_quires cv_X1_quires tw_330 ⟨Nat.le_of_ble_eq_true rfl, Nat.le_of_ble_eq_true rfl⟩ hP [1, 2, 3, 4, 5, 6, 7, 8, 9, 10] rfl rfl rfl rfl hl.1 rfl (Nat.le_of_ble_eq_true rfl) ⟨Nat.zero_le _, Nat.zero_le _⟩ dX8_restore_36 (fun r9 hw => ?_)
    exact retMi C (h2, u3, u4, u5, u6, u7, u8, u1) hw hP hD hS dX8_restore_39
  · replace hw := hw.1 hc
    refine lv_bipush (v := (-5)) hx hb dX8_restore_7 (by decide) ?_
    exact retMi C (h_, z_book_alphabet_out, z_book_signing, z_book_signs, z_book_sizes, z_book_lost, z_book_pile, z_history) hw hP hD hS dX8_restore_9
set_option maxHeartbeats 4000000 in
set_option maxRecDepth 100000 in
theorem c_X8_quire (l : Launch) (D : va_G) (kI kC kB : ClassId) (a : AdT) (h_ : Nat → AdT) (z_snapshotTaken : Int32) (z_book_alphabet_out : Int32) (z_book_signing : Int32) (z_book_signs : RowT) (z_book_sizes : RowT) (z_book_lost : RowT) (z_book_pile : RowT) (z_snapshot_alphabet_out : Int32) (z_snapshot_signing : Int32) (z_snapshot_signs : RowT) (z_snapshot_sizes : RowT) (z_snapshot_lost : RowT) (z_snapshot_pile : RowT) (z_history : HistT) (z_text_characters : RowT) (z_text_firstSigns : RowT) (z_text_lastSigns : RowT) (z_text_numbers : RowT) (z_text_at : Int32) (z_text_allLetters_out : Int32) (z_writer_characters : RowT) (z_writer_entries : Int32) (z_found : RowT) (p1 : Int32) (p2 : Int32) (Post : Int32 → Prop) (hw : wp_X8_quire z_book_signing z_book_signs z_book_sizes z_book_lost p1 p2 Post) : CR l D kI kC kB yX8_quire cX8_quire 4 (some .int) ({ frames := 3, cells := 0, slots := 0, locals := 61 } : Room) [.ref (a 0), .int p1, .int p2] (cwQS kI kB a h_ z_snapshotTaken z_book_alphabet_out z_book_signing z_book_signs z_book_sizes z_book_lost z_book_pile z_snapshot_alphabet_out z_snapshot_signing z_snapshot_signs z_snapshot_sizes z_snapshot_lost z_snapshot_pile z_history z_text_characters z_text_firstSigns z_text_lastSigns z_text_numbers z_text_at z_text_allLetters_out z_writer_characters z_writer_entries z_found) Post := by
  refine entR (by decide) (Nat.le_of_ble_eq_true rfl) ?_
  intro p e s m args below meth c ls C hP hl
  replace hl : lv_has ls 4 [(0, .ref (a 0)), (1, .int p1), (2, .int p2)] := hl
  obtain ⟨hx, hb, hr, hml, hown, hts, hlocks, hK⟩ := id C
  refine lv_aload_n hx hb dX8_quire_0 rfl (lv_at hl 0 rfl) ?_
  refine va_get (D := D) (ci := 6) (v := .ref (a 1)) (C := RX8) (T := TX8) (N := 7) hx hb hts inX8 hown hK.1 hP 0 rfl rfl 0 (by decide) (hts _ tw_161) (fun _ h9 => h9) rfl dX8_quire_1 ?_
  refine lv_iload_n hx hb dX8_quire_4 rfl (lv_at hl 1 rfl) ?_
  refine kRV (As := [.int p1]) (rest := []) (q0 := 1) C (c_X1_hasQuire l D kI kC kB (fun i => a (i + 1)) z_book_alphabet_out z_book_signing z_book_signs z_book_sizes z_book_lost z_book_pile p1 _ hw) ⟨rfl, rfl⟩ ce_X1_hasQuire cv_X1_hasQuire tw_403 ⟨Nat.le_of_ble_eq_true rfl, Nat.le_of_ble_eq_true rfl⟩ hP [1, 2, 3, 4, 5, 6, 7, 8, 9, 10] rfl rfl rfl rfl hl.1 rfl (Nat.le_of_ble_eq_true rfl) ⟨Nat.zero_le _, Nat.zero_le _⟩ dX8_quire_5 (fun r1 hw => ?_)
  refine lv_if_ne (tgt := 13) hx hb dX8_quire_8 (by decide) (fun hc => ?_) (fun hc => ?_)
  · replace hw := hw.2 hc
    refine lv_aload_n hx hb dX8_quire_13 rfl (lv_at hl 0 rfl) ?_
    refine va_get (D := D) (ci := 6) (v := .ref (a 1)) (C := RX8) (T := TX8) (N := 7) hx hb hts inX8 hown hK.1 hP 0 rfl rfl 0 (by decide) (hts _ tw_161) (fun _ h9 => h9) rfl dX8_quire_14 ?_
    refine va_getN (D := D) (ci := 1) (v := .ref (a 3)) (C := RX1) (T := TX1) (N := 6) hx hb hts inX1 hown hK.1 hP 1 rfl rfl 2 (by decide) (va_Nw.use rfl (hK.2.1 _ nw_79)) (fun _ h9 => h9) rfl dX8_quire_17 ?_
    refine lv_iload_n hx hb dX8_quire_20 rfl (lv_at hl 1 rfl) ?_
    refine kRV (As := [.int p1]) (rest := []) (q0 := 3) C (c_X4_at l D kI kC kB (fun i => a (i + 3)) z_book_signs p1 _ hw) ⟨rfl, rfl⟩ ce_X4_at cv_X4_at tw_492 ⟨Nat.le_of_ble_eq_true rfl, Nat.le_of_ble_eq_true rfl⟩ hP [3, 4] rfl rfl rfl rfl hl.1 rfl (Nat.le_of_ble_eq_true rfl) ⟨Nat.zero_le _, Nat.zero_le _⟩ dX8_quire_21 (fun r2 hw => ?_)
    refine lv_istore_n (lv' := [(3, .int r2), (0, .ref (a 0)), (1, .int p1), (2, .int p2)]) hx hb dX8_quire_24 rfl hl (by decide) rfl (fun ls hl => ?_)
    refine lv_iload_n hx hb dX8_quire_25 rfl (lv_at hl 3 rfl) ?_
    by_cases hc0 : p2 = 0
    · replace hw := hw.1 hc0
      refine lv_tableIn (tgt := 68) (off := 42) hx hb dX8_quire_26 (by rw [hc0]; decide) (by rw [hc0]; decide) (by rw [hc0]; rfl) (by decide) ?_
      refine lv_iload_n hx hb dX8_quire_68 rfl (lv_at hl 0 rfl) ?_
      refine kRS (As := [.int r2]) (rest := []) C (c_X5_times l D kI kC kB  r2 _ hw) ⟨rfl, rfl⟩ ce_X5_times cv_X5_times tw_493 ⟨Nat.le_of_ble_eq_true rfl, Nat.le_of_ble_eq_true rfl⟩ hP [] rfl hl.1 rfl (Nat.le_of_ble_eq_true rfl) ⟨Nat.zero_le _, Nat.zero_le _⟩ dX8_quire_69 (fun r3 hw => ?_)
      exact retR C hw dX8_quire_72
    · replace hw := hw.2 hc0
      by_cases hc1 : p2 = 1
      · replace hw := hw.1 hc1
        refine lv_tableIn (tgt := 73) (off := 47) hx hb dX8_quire_26 (by rw [hc1]; decide) (by rw [hc1]; decide) (by rw [hc1]; rfl) (by decide) ?_
        refine lv_iload_n hx hb dX8_quire_73 rfl (lv_at hl 0 rfl) ?_
        refine kRS (As := [.int r2]) (rest := []) C (c_X5_isStarred l D kI kC kB  r2 _ hw) ⟨rfl, rfl⟩ ce_X5_isStarred cv_X5_isStarred tw_494 ⟨Nat.le_of_ble_eq_true rfl, Nat.le_of_ble_eq_true rfl⟩ hP [] rfl hl.1 rfl (Nat.le_of_ble_eq_true rfl) ⟨Nat.zero_le _, Nat.zero_le _⟩ dX8_quire_74 (fun r4 hw => ?_)
        refine lv_if_eq (tgt := 85) hx hb dX8_quire_77 (by decide) (fun hc => ?_) (fun hc => ?_)
        · replace hw := hw.1 hc
          refine lv_bipush (v := (nI 65)) hx hb dX8_quire_85 (by decide) ?_
          refine lv_iload_n hx hb dX8_quire_87 rfl (lv_at hl 0 rfl) ?_
          refine kRS (As := [.int r2]) (rest := [.int (nI 65)]) C (c_X5_letter l D kI kC kB  r2 _ hw) ⟨rfl, rfl⟩ ce_X5_letter cv_X5_letter tw_369 ⟨Nat.le_of_ble_eq_true rfl, Nat.le_of_ble_eq_true rfl⟩ hP [] rfl hl.1 rfl (Nat.le_of_ble_eq_true rfl) ⟨Nat.zero_le _, Nat.zero_le _⟩ dX8_quire_88 (fun r5 hw => ?_)
          refine lv_iadd hx hb dX8_quire_91 ?_
          exact retR C hw dX8_quire_92
        · replace hw := hw.2 hc
          refine lv_bipush (v := (-5)) hx hb dX8_quire_80 (by decide) ?_
          refine lv_goto (tgt := 92) hx hb dX8_quire_82 (by decide) ?_
          exact retR C hw dX8_quire_92
      · replace hw := hw.2 hc1
        by_cases hc2 : p2 = 2
        · replace hw := hw.1 hc2
          refine lv_tableIn (tgt := 93) (off := 67) hx hb dX8_quire_26 (by rw [hc2]; decide) (by rw [hc2]; decide) (by rw [hc2]; rfl) (by decide) ?_
          refine lv_aload_n hx hb dX8_quire_93 rfl (lv_at hl 1 rfl) ?_
          refine va_get (D := D) (ci := 6) (v := .ref (a 1)) (C := RX8) (T := TX8) (N := 7) hx hb hts inX8 hown hK.1 hP 0 rfl rfl 0 (by decide) (hts _ tw_161) (fun _ h9 => h9) rfl dX8_quire_94 ?_
          refine va_getN (D := D) (ci := 1) (v := .ref (a 5)) (C := RX1) (T := TX1) (N := 6) hx hb hts inX1 hown hK.1 hP 1 rfl rfl 3 (by decide) (va_Nw.use rfl (hK.2.1 _ nw_82)) (fun _ h9 => h9) rfl dX8_quire_97 ?_
          refine lv_iload_n hx hb dX8_quire_100 rfl (lv_at hl 2 rfl) ?_
          refine kRV (As := [.int p1]) (rest := []) (q0 := 5) C (c_X4_at l D kI kC kB (fun i => a (i + 5)) z_book_sizes p1 _ hw) ⟨rfl, rfl⟩ ce_X4_at cv_X4_at tw_492 ⟨Nat.le_of_ble_eq_true rfl, Nat.le_of_ble_eq_true rfl⟩ hP [5, 6] rfl rfl rfl rfl hl.1 rfl (Nat.le_of_ble_eq_true rfl) ⟨Nat.zero_le _, Nat.zero_le _⟩ dX8_quire_101 (fun r6 hw => ?_)
          exact retR C hw dX8_quire_104
        · replace hw := hw.2 hc2
          by_cases hc3 : p2 = 3
          · replace hw := hw.1 hc3
            refine lv_tableIn (tgt := 105) (off := 79) hx hb dX8_quire_26 (by rw [hc3]; decide) (by rw [hc3]; decide) (by rw [hc3]; rfl) (by decide) ?_
            refine lv_aload_n hx hb dX8_quire_105 rfl (lv_at hl 1 rfl) ?_
            refine va_get (D := D) (ci := 6) (v := .ref (a 1)) (C := RX8) (T := TX8) (N := 7) hx hb hts inX8 hown hK.1 hP 0 rfl rfl 0 (by decide) (hts _ tw_161) (fun _ h9 => h9) rfl dX8_quire_106 ?_
            refine lv_iload_n hx hb dX8_quire_109 rfl (lv_at hl 2 rfl) ?_
            refine kRV (As := [.int p1]) (rest := []) (q0 := 1) C (c_X1_firstLeaf l D kI kC kB (fun i => a (i + 1)) z_book_alphabet_out z_book_signing z_book_signs z_book_sizes z_book_lost z_book_pile p1 _ hw) ⟨rfl, rfl⟩ ce_X1_firstLeaf cv_X1_firstLeaf tw_495 ⟨Nat.le_of_ble_eq_true rfl, Nat.le_of_ble_eq_true rfl⟩ hP [1, 2, 3, 4, 5, 6, 7, 8, 9, 10] rfl rfl rfl rfl hl.1 rfl (Nat.le_of_ble_eq_true rfl) ⟨Nat.zero_le _, Nat.zero_le _⟩ dX8_quire_110 (fun r7 hw => ?_)
            exact retR C hw dX8_quire_113
          · replace hw := hw.2 hc3
            by_cases hc4 : p2 = 4
            · replace hw := hw.1 hc4
              refine lv_tableIn (tgt := 114) (off := 88) hx hb dX8_quire_26 (by rw [hc4]; decide) (by rw [hc4]; decide) (by rw [hc4]; rfl) (by decide) ?_
              refine lv_aload_n hx hb dX8_quire_114 rfl (lv_at hl 1 rfl) ?_
              refine va_get (D := D) (ci := 6) (v := .ref (a 1)) (C := RX8) (T := TX8) (N := 7) hx hb hts inX8 hown hK.1 hP 0 rfl rfl 0 (by decide) (hts _ tw_161) (fun _ h9 => h9) rfl dX8_quire_115 ?_
              refine lv_iload_n hx hb dX8_quire_118 rfl (lv_at hl 2 rfl) ?_
              refine kRV (As := [.int p1]) (rest := []) (q0 := 1) C (c_X1_signedIn l D kI kC kB (fun i => a (i + 1)) z_book_alphabet_out z_book_signing z_book_signs z_book_sizes z_book_lost z_book_pile p1 _ hw) ⟨rfl, rfl⟩ ce_X1_signedIn cv_X1_signedIn tw_496 ⟨Nat.le_of_ble_eq_true rfl, Nat.le_of_ble_eq_true rfl⟩ hP [1, 2, 3, 4, 5, 6, 7, 8, 9, 10] rfl rfl rfl rfl hl.1 rfl (Nat.le_of_ble_eq_true rfl) ⟨Nat.zero_le _, Nat.zero_le _⟩ dX8_quire_119 (fun r8 hw => ?_)
              exact retR C hw dX8_quire_122
            · replace hw := hw.2 hc4
              by_cases hc5 : p2 = 5
              · replace hw := hw.1 hc5
                refine lv_tableIn (tgt := 123) (off := 97) hx hb dX8_quire_26 (by rw [hc5]; decide) (by rw [hc5]; decide) (by rw [hc5]; rfl) (by decide) ?_
                refine lv_aload_n hx hb dX8_quire_123 rfl (lv_at hl 1 rfl) ?_
                refine va_get (D := D) (ci := 6) (v := .ref (a 1)) (C := RX8) (T := TX8) (N := 7) hx hb hts inX8 hown hK.1 hP 0 rfl rfl 0 (by decide) (hts _ tw_161) (fun _ h9 => h9) rfl dX8_quire_124 ?_
                refine lv_iload_n hx hb dX8_quire_127 rfl (lv_at hl 2 rfl) ?_
                refine kRV (As := [.int p1]) (rest := []) (q0 := 1) C (c_X1_thereIn l D kI kC kB (fun i => a (i + 1)) z_book_alphabet_out z_book_signing z_book_signs z_book_sizes z_book_lost z_book_pile p1 _ hw) ⟨rfl, rfl⟩ ce_X1_thereIn cv_X1_thereIn tw_497 ⟨Nat.le_of_ble_eq_true rfl, Nat.le_of_ble_eq_true rfl⟩ hP [1, 2, 3, 4, 5, 6, 7, 8, 9, 10] rfl rfl rfl rfl hl.1 rfl (Nat.le_of_ble_eq_true rfl) ⟨Nat.zero_le _, Nat.zero_le _⟩ dX8_quire_128 (fun r9 hw => ?_)
                exact retR C hw dX8_quire_131
              · replace hw := hw.2 hc5
                by_cases hc6 : p2 = 6
                · replace hw := hw.1 hc6
                  refine lv_tableIn (tgt := 132) (off := 106) hx hb dX8_quire_26 (by rw [hc6]; decide) (by rw [hc6]; decide) (by rw [hc6]; rfl) (by decide) ?_
                  refine lv_aload_n hx hb dX8_quire_132 rfl (lv_at hl 1 rfl) ?_
                  refine va_get (D := D) (ci := 6) (v := .ref (a 1)) (C := RX8) (T := TX8) (N := 7) hx hb hts inX8 hown hK.1 hP 0 rfl rfl 0 (by decide) (hts _ tw_161) (fun _ h9 => h9) rfl dX8_quire_133 ?_
                  refine lv_iload_n hx hb dX8_quire_136 rfl (lv_at hl 2 rfl) ?_
                  refine kRV (As := [.int p1]) (rest := []) (q0 := 1) C (c_X1_sameAhead l D kI kC kB (fun i => a (i + 1)) z_book_alphabet_out z_book_signing z_book_signs z_book_sizes z_book_lost z_book_pile p1 _ hw) ⟨rfl, rfl⟩ ce_X1_sameAhead cv_X1_sameAhead tw_501 ⟨Nat.le_of_ble_eq_true rfl, Nat.le_of_ble_eq_true rfl⟩ hP [1, 2, 3, 4, 5, 6, 7, 8, 9, 10] rfl rfl rfl rfl hl.1 rfl (Nat.le_of_ble_eq_true rfl) ⟨Nat.zero_le _, Nat.zero_le _⟩ dX8_quire_137 (fun r10 hw => ?_)
                  exact retR C hw dX8_quire_140
                · replace hw := hw.2 hc6
                  refine lv_tableOut (tgt := 141) hx hb dX8_quire_26 (by have := lv_neT hc0 (a := 0) (by decide); have := lv_neT hc1 (a := 1) (by decide); have := lv_neT hc2 (a := 2) (by decide); have := lv_neT hc3 (a := 3) (by decide); have := lv_neT hc4 (a := 4) (by decide); have := lv_neT hc5 (a := 5) (by decide); have := lv_neT hc6 (a := 6) (by decide); omega) (by decide) ?_
                  refine lv_bipush (v := (-2)) hx hb dX8_quire_141 (by decide) ?_
                  exact retR C hw dX8_quire_143
  · replace hw := hw.1 hc
    refine lv_iconst (v := (-1)) hx hb dX8_quire_11 (by decide) ?_
    exact retR C hw dX8_quire_12
set_option maxHeartbeats 4000000 in
set_option maxRecDepth 100000 in
theorem c_X8_leafHangingWith (l : Launch) (D : va_G) (kI kC kB : ClassId) (a : AdT) (h_ : Nat → AdT) (z_snapshotTaken : Int32) (z_book_alphabet_out : Int32) (z_book_signing : Int32) (z_book_signs : RowT) (z_book_sizes : RowT) (z_book_lost : RowT) (z_book_pile : RowT) (z_snapshot_alphabet_out : Int32) (z_snapshot_signing : Int32) (z_snapshot_signs : RowT) (z_snapshot_sizes : RowT) (z_snapshot_lost : RowT) (z_snapshot_pile : RowT) (z_history : HistT) (z_text_characters : RowT) (z_text_firstSigns : RowT) (z_text_lastSigns : RowT) (z_text_numbers : RowT) (z_text_at : Int32) (z_text_allLetters_out : Int32) (z_writer_characters : RowT) (z_writer_entries : Int32) (z_found : RowT) (p1 : Int32) (Post : Int32 → Prop) (hw : wp_X8_leafHangingWith z_book_signs z_book_sizes p1 Post) : CR l D kI kC kB yX8_leafHangingWith cX8_leafHangingWith 5 (some .int) ({ frames := 4, cells := 0, slots := 0, locals := 84 } : Room) [.ref (a 0), .int p1] (cwQS kI kB a h_ z_snapshotTaken z_book_alphabet_out z_book_signing z_book_signs z_book_sizes z_book_lost z_book_pile z_snapshot_alphabet_out z_snapshot_signing z_snapshot_signs z_snapshot_sizes z_snapshot_lost z_snapshot_pile z_history z_text_characters z_text_firstSigns z_text_lastSigns z_text_numbers z_text_at z_text_allLetters_out z_writer_characters z_writer_entries z_found) Post := by
  refine entR (by decide) (Nat.le_of_ble_eq_true rfl) ?_
  intro p e s m args below meth c ls C hP hl
  replace hl : lv_has ls 5 [(0, .ref (a 0)), (1, .int p1)] := hl
  obtain ⟨hx, hb, hr, hml, hown, hts, hlocks, hK⟩ := id C
  refine lv_aload_n hx hb dX8_leafHangingWith_0 rfl (lv_at hl 0 rfl) ?_
  refine va_get (D := D) (ci := 6) (v := .ref (a 1)) (C := RX8) (T := TX8) (N := 7) hx hb hts inX8 hown hK.1 hP 0 rfl rfl 0 (by decide) (hts _ tw_161) (fun _ h9 => h9) rfl dX8_leafHangingWith_1 ?_
  refine lv_iload_n hx hb dX8_leafHangingWith_4 rfl (lv_at hl 1 rfl) ?_
  refine kRV (As := [.int p1]) (rest := []) (q0 := 1) C (c_X1_quireOf l D kI kC kB (fun i => a (i + 1)) z_book_alphabet_out z_book_signing z_book_signs z_book_sizes z_book_lost z_book_pile p1 _ hw) ⟨rfl, rfl⟩ ce_X1_quireOf cv_X1_quireOf tw_509 ⟨Nat.le_of_ble_eq_true rfl, Nat.le_of_ble_eq_true rfl⟩ hP [1, 2, 3, 4, 5, 6, 7, 8, 9, 10] rfl rfl rfl rfl hl.1 rfl (Nat.le_of_ble_eq_true rfl) ⟨Nat.zero_le _, Nat.zero_le _⟩ dX8_leafHangingWith_5 (fun r1 hw => ?_)
  refine lv_istore_n (lv' := [(2, .int r1), (0, .ref (a 0)), (1, .int p1)]) hx hb dX8_leafHangingWith_8 rfl hl (by decide) rfl (fun ls hl => ?_)
  refine lv_aload_n hx hb dX8_leafHangingWith_9 rfl (lv_at hl 1 rfl) ?_
  refine va_get (D := D) (ci := 6) (v := .ref (a 1)) (C := RX8) (T := TX8) (N := 7) hx hb hts inX8 hown hK.1 hP 0 rfl rfl 0 (by decide) (hts _ tw_161) (fun _ h9 => h9) rfl dX8_leafHangingWith_10 ?_
  refine lv_iload_n hx hb dX8_leafHangingWith_13 rfl (lv_at hl 2 rfl) ?_
  refine kRV (As := [.int p1]) (rest := []) (q0 := 1) C (c_X1_numberOf l D kI kC kB (fun i => a (i + 1)) z_book_alphabet_out z_book_signing z_book_signs z_book_sizes z_book_lost z_book_pile p1 _ hw) ⟨rfl, rfl⟩ ce_X1_numberOf cv_X1_numberOf tw_510 ⟨Nat.le_of_ble_eq_true rfl, Nat.le_of_ble_eq_true rfl⟩ hP [1, 2, 3, 4, 5, 6, 7, 8, 9, 10] rfl rfl rfl rfl hl.1 rfl (Nat.le_of_ble_eq_true rfl) ⟨Nat.zero_le _, Nat.zero_le _⟩ dX8_leafHangingWith_14 (fun r2 hw => ?_)
  refine lv_istore_n (lv' := [(3, .int r2), (2, .int r1), (0, .ref (a 0)), (1, .int p1)]) hx hb dX8_leafHangingWith_17 rfl hl (by decide) rfl (fun ls hl => ?_)
  refine lv_aload_n hx hb dX8_leafHangingWith_18 rfl (lv_at hl 2 rfl) ?_
  refine va_get (D := D) (ci := 6) (v := .ref (a 1)) (C := RX8) (T := TX8) (N := 7) hx hb hts inX8 hown hK.1 hP 0 rfl rfl 0 (by decide) (hts _ tw_161) (fun _ h9 => h9) rfl dX8_leafHangingWith_19 ?_
  refine va_getN (D := D) (ci := 1) (v := .ref (a 5)) (C := RX1) (T := TX1) (N := 6) hx hb hts inX1 hown hK.1 hP 1 rfl rfl 3 (by decide) (va_Nw.use rfl (hK.2.1 _ nw_82)) (fun _ h9 => h9) rfl dX8_leafHangingWith_22 ?_
  refine lv_iload_n hx hb dX8_leafHangingWith_25 rfl (lv_at hl 1 rfl) ?_
  refine kRV (As := [.int r1]) (rest := []) (q0 := 5) C (c_X4_at l D kI kC kB (fun i => a (i + 5)) z_book_sizes r1 _ hw) ⟨rfl, rfl⟩ ce_X4_at cv_X4_at tw_492 ⟨Nat.le_of_ble_eq_true rfl, Nat.le_of_ble_eq_true rfl⟩ hP [5, 6] rfl rfl rfl rfl hl.1 rfl (Nat.le_of_ble_eq_true rfl) ⟨Nat.zero_le _, Nat.zero_le _⟩ dX8_leafHangingWith_26 (fun r3 hw => ?_)
  refine lv_iconst (v := (nI 1)) hx hb dX8_leafHangingWith_29 (by decide) ?_
  refine lv_iadd hx hb dX8_leafHangingWith_30 ?_
  refine lv_iload_n hx hb dX8_leafHangingWith_31 rfl (lv_at hl 0 rfl) ?_
  refine lv_isub hx hb dX8_leafHangingWith_32 ?_
  refine lv_topi (fun y4 ey4 => ?_)
  replace hw := hw y4 ey4
  refine lv_istore (lv' := [(4, .int y4), (3, .int r2), (2, .int r1), (0, .ref (a 0)), (1, .int p1)]) hx hb dX8_leafHangingWith_33 hl (by decide) rfl (fun ls hl => ?_)
  refine lv_iload hx hb dX8_leafHangingWith_35 (lv_at hl 0 rfl) ?_
  refine lv_iload_n hx hb dX8_leafHangingWith_37 rfl (lv_at hl 1 rfl) ?_
  refine lv_icmp_ne (tgt := 46) hx hb dX8_leafHangingWith_38 (by decide) (fun hc => ?_) (fun hc => ?_)
  · replace hw := hw.2 hc
    refine lv_aload_n hx hb dX8_leafHangingWith_46 rfl (lv_at hl 3 rfl) ?_
    refine va_get (D := D) (ci := 6) (v := .ref (a 1)) (C := RX8) (T := TX8) (N := 7) hx hb hts inX8 hown hK.1 hP 0 rfl rfl 0 (by decide) (hts _ tw_161) (fun _ h9 => h9) rfl dX8_leafHangingWith_47 ?_
    refine lv_iload_n hx hb dX8_leafHangingWith_50 rfl (lv_at hl 2 rfl) ?_
    refine kRV (As := [.int r1]) (rest := []) (q0 := 1) C (c_X1_firstLeaf l D kI kC kB (fun i => a (i + 1)) z_book_alphabet_out z_book_signing z_book_signs z_book_sizes z_book_lost z_book_pile r1 _ hw) ⟨rfl, rfl⟩ ce_X1_firstLeaf cv_X1_firstLeaf tw_495 ⟨Nat.le_of_ble_eq_true rfl, Nat.le_of_ble_eq_true rfl⟩ hP [1, 2, 3, 4, 5, 6, 7, 8, 9, 10] rfl rfl rfl rfl hl.1 rfl (Nat.le_of_ble_eq_true rfl) ⟨Nat.zero_le _, Nat.zero_le _⟩ dX8_leafHangingWith_51 (fun r5 hw => ?_)
    refine lv_iload hx hb dX8_leafHangingWith_54 (lv_at hl 0 rfl) ?_
    refine lv_iadd hx hb dX8_leafHangingWith_56 ?_
    refine lv_iconst (v := (nI 1)) hx hb dX8_leafHangingWith_57 (by decide) ?_
    refine lv_isub hx hb dX8_leafHangingWith_58 ?_
    exact retR C hw dX8_leafHangingWith_59
  · replace hw := hw.1 hc
    refine lv_bipush (v := (-5)) hx hb dX8_leafHangingWith_41 (by decide) ?_
    refine lv_goto (tgt := 59) hx hb dX8_leafHangingWith_43 (by decide) ?_
    exact retR C hw dX8_leafHangingWith_59
set_option maxHeartbeats 4000000 in
set_option maxRecDepth 100000 in
theorem c_X8_leaf (l : Launch) (D : va_G) (kI kC kB : ClassId) (a : AdT) (h_ : Nat → AdT) (z_snapshotTaken : Int32) (z_book_alphabet_out : Int32) (z_book_signing : Int32) (z_book_signs : RowT) (z_book_sizes : RowT) (z_book_lost : RowT) (z_book_pile : RowT) (z_snapshot_alphabet_out : Int32) (z_snapshot_signing : Int32) (z_snapshot_signs : RowT) (z_snapshot_sizes : RowT) (z_snapshot_lost : RowT) (z_snapshot_pile : RowT) (z_history : HistT) (z_text_characters : RowT) (z_text_firstSigns : RowT) (z_text_lastSigns : RowT) (z_text_numbers : RowT) (z_text_at : Int32) (z_text_allLetters_out : Int32) (z_writer_characters : RowT) (z_writer_entries : Int32) (z_found : RowT) (p1 : Int32) (p2 : Int32) (Post : Int32 → Prop) (hw : wp_X8_leaf z_book_signing z_book_signs z_book_sizes z_book_lost p1 p2 Post) : CR l D kI kC kB yX8_leaf cX8_leaf 5 (some .int) ({ frames := 5, cells := 0, slots := 0, locals := 108 } : Room) [.ref (a 0), .int p1, .int p2] (cwQS kI kB a h_ z_snapshotTaken z_book_alphabet_out z_book_signing z_book_signs z_book_sizes z_book_lost z_book_pile z_snapshot_alphabet_out z_snapshot_signing z_snapshot_signs z_snapshot_sizes z_snapshot_lost z_snapshot_pile z_history z_text_characters z_text_firstSigns z_text_lastSigns z_text_numbers z_text_at z_text_allLetters_out z_writer_characters z_writer_entries z_found) Post := by
  refine entR (by decide) (Nat.le_of_ble_eq_true rfl) ?_
  intro p e s m args below meth c ls C hP hl
  replace hl : lv_has ls 5 [(0, .ref (a 0)), (1, .int p1), (2, .int p2)] := hl
  obtain ⟨hx, hb, hr, hml, hown, hts, hlocks, hK⟩ := id C
  refine lv_aload_n hx hb dX8_leaf_0 rfl (lv_at hl 0 rfl) ?_
  refine va_get (D := D) (ci := 6) (v := .ref (a 1)) (C := RX8) (T := TX8) (N := 7) hx hb hts inX8 hown hK.1 hP 0 rfl rfl 0 (by decide) (hts _ tw_161) (fun _ h9 => h9) rfl dX8_leaf_1 ?_
  refine lv_iload_n hx hb dX8_leaf_4 rfl (lv_at hl 1 rfl) ?_
  refine kRV (As := [.int p1]) (rest := []) (q0 := 1) C (c_X1_hasLeaf l D kI kC kB (fun i => a (i + 1)) z_book_alphabet_out z_book_signing z_book_signs z_book_sizes z_book_lost z_book_pile p1 _ hw) ⟨rfl, rfl⟩ ce_X1_hasLeaf cv_X1_hasLeaf tw_419 ⟨Nat.le_of_ble_eq_true rfl, Nat.le_of_ble_eq_true rfl⟩ hP [1, 2, 3, 4, 5, 6, 7, 8, 9, 10] rfl rfl rfl rfl hl.1 rfl (Nat.le_of_ble_eq_true rfl) ⟨Nat.zero_le _, Nat.zero_le _⟩ dX8_leaf_5 (fun r1 hw => ?_)
  refine lv_if_ne (tgt := 13) hx hb dX8_leaf_8 (by decide) (fun hc => ?_) (fun hc => ?_)
  · replace hw := hw.2 hc
    refine lv_aload_n hx hb dX8_leaf_13 rfl (lv_at hl 0 rfl) ?_
    refine va_get (D := D) (ci := 6) (v := .ref (a 1)) (C := RX8) (T := TX8) (N := 7) hx hb hts inX8 hown hK.1 hP 0 rfl rfl 0 (by decide) (hts _ tw_161) (fun _ h9 => h9) rfl dX8_leaf_14 ?_
    refine lv_iload_n hx hb dX8_leaf_17 rfl (lv_at hl 1 rfl) ?_
    refine kRV (As := [.int p1]) (rest := []) (q0 := 1) C (c_X1_quireOf l D kI kC kB (fun i => a (i + 1)) z_book_alphabet_out z_book_signing z_book_signs z_book_sizes z_book_lost z_book_pile p1 _ hw) ⟨rfl, rfl⟩ ce_X1_quireOf cv_X1_quireOf tw_509 ⟨Nat.le_of_ble_eq_true rfl, Nat.le_of_ble_eq_true rfl⟩ hP [1, 2, 3, 4, 5, 6, 7, 8, 9, 10] rfl rfl rfl rfl hl.1 rfl (Nat.le_of_ble_eq_true rfl) ⟨Nat.zero_le _, Nat.zero_le _⟩ dX8_leaf_18 (fun r2 hw => ?_)
    refine lv_istore_n (lv' := [(3, .int r2), (0, .ref (a 0)), (1, .int p1), (2, .int p2)]) hx hb dX8_leaf_21 rfl hl (by decide) rfl (fun ls hl => ?_)
    refine lv_aload_n hx hb dX8_leaf_22 rfl (lv_at hl 1 rfl) ?_
    refine va_get (D := D) (ci := 6) (v := .ref (a 1)) (C := RX8) (T := TX8) (N := 7) hx hb hts inX8 hown hK.1 hP 0 rfl rfl 0 (by decide) (hts _ tw_161) (fun _ h9 => h9) rfl dX8_leaf_23 ?_
    refine lv_iload_n hx hb dX8_leaf_26 rfl (lv_at hl 2 rfl) ?_
    refine kRV (As := [.int p1]) (rest := []) (q0 := 1) C (c_X1_numberOf l D kI kC kB (fun i => a (i + 1)) z_book_alphabet_out z_book_signing z_book_signs z_book_sizes z_book_lost z_book_pile p1 _ hw) ⟨rfl, rfl⟩ ce_X1_numberOf cv_X1_numberOf tw_510 ⟨Nat.le_of_ble_eq_true rfl, Nat.le_of_ble_eq_true rfl⟩ hP [1, 2, 3, 4, 5, 6, 7, 8, 9, 10] rfl rfl rfl rfl hl.1 rfl (Nat.le_of_ble_eq_true rfl) ⟨Nat.zero_le _, Nat.zero_le _⟩ dX8_leaf_27 (fun r3 hw => ?_)
    refine lv_istore (lv' := [(4, .int r3), (3, .int r2), (0, .ref (a 0)), (1, .int p1), (2, .int p2)]) hx hb dX8_leaf_30 hl (by decide) rfl (fun ls hl => ?_)
    refine lv_iload_n hx hb dX8_leaf_32 rfl (lv_at hl 4 rfl) ?_
    by_cases hc0 : p2 = 0
    · replace hw := hw.1 hc0
      refine lv_tableIn (tgt := 72) (off := 39) hx hb dX8_leaf_33 (by rw [hc0]; decide) (by rw [hc0]; decide) (by rw [hc0]; rfl) (by decide) ?_
      refine lv_iload_n hx hb dX8_leaf_72 rfl (lv_at hl 1 rfl) ?_
      exact retR C hw dX8_leaf_73
    · replace hw := hw.2 hc0
      by_cases hc1 : p2 = 1
      · replace hw := hw.1 hc1
        refine lv_tableIn (tgt := 74) (off := 41) hx hb dX8_leaf_33 (by rw [hc1]; decide) (by rw [hc1]; decide) (by rw [hc1]; rfl) (by decide) ?_
        refine lv_iload hx hb dX8_leaf_74 (lv_at hl 0 rfl) ?_
        exact retR C hw dX8_leaf_76
      · replace hw := hw.2 hc1
        by_cases hc2 : p2 = 2
        · replace hw := hw.1 hc2
          refine lv_tableIn (tgt := 77) (off := 44) hx hb dX8_leaf_33 (by rw [hc2]; decide) (by rw [hc2]; decide) (by rw [hc2]; rfl) (by decide) ?_
          refine lv_iload hx hb dX8_leaf_77 (lv_at hl 0 rfl) ?_
          refine lv_aload_n hx hb dX8_leaf_79 rfl (lv_at hl 2 rfl) ?_
          refine va_get (D := D) (ci := 6) (v := .ref (a 1)) (C := RX8) (T := TX8) (N := 7) hx hb hts inX8 hown hK.1 hP 0 rfl rfl 0 (by decide) (hts _ tw_161) (fun _ h9 => h9) rfl dX8_leaf_80 ?_
          refine lv_iload_n hx hb dX8_leaf_83 rfl (lv_at hl 1 rfl) ?_
          refine kRV (As := [.int r2]) (rest := [.int r3]) (q0 := 1) C (c_X1_signedIn l D kI kC kB (fun i => a (i + 1)) z_book_alphabet_out z_book_signing z_book_signs z_book_sizes z_book_lost z_book_pile r2 _ hw) ⟨rfl, rfl⟩ ce_X1_signedIn cv_X1_signedIn tw_496 ⟨Nat.le_of_ble_eq_true rfl, Nat.le_of_ble_eq_true rfl⟩ hP [1, 2, 3, 4, 5, 6, 7, 8, 9, 10] rfl rfl rfl rfl hl.1 rfl (Nat.le_of_ble_eq_true rfl) ⟨Nat.zero_le _, Nat.zero_le _⟩ dX8_leaf_84 (fun r4 hw => ?_)
          refine lv_icmp_gt (tgt := 94) hx hb dX8_leaf_87 (by decide) (fun hc => ?_) (fun hc => ?_)
          · replace hw := hw.1 hc
            refine lv_iconst (v := (nI 0)) hx hb dX8_leaf_94 (by decide) ?_
            exact retR C hw dX8_leaf_95
          · replace hw := hw.2 hc
            refine lv_iconst (v := (nI 1)) hx hb dX8_leaf_90 (by decide) ?_
            refine lv_goto (tgt := 95) hx hb dX8_leaf_91 (by decide) ?_
            exact retR C hw dX8_leaf_95
        · replace hw := hw.2 hc2
          by_cases hc3 : p2 = 3
          · replace hw := hw.1 hc3
            refine lv_tableIn (tgt := 96) (off := 63) hx hb dX8_leaf_33 (by rw [hc3]; decide) (by rw [hc3]; decide) (by rw [hc3]; rfl) (by decide) ?_
            refine lv_aload_n hx hb dX8_leaf_96 rfl (lv_at hl 2 rfl) ?_
            refine lv_iload_n hx hb dX8_leaf_97 rfl (lv_at hl 3 rfl) ?_
            refine kRV (As := [.int p1]) (rest := []) (q0 := 0) C (c_X8_leafHangingWith l D kI kC kB a h_ z_snapshotTaken z_book_alphabet_out z_book_signing z_book_signs z_book_sizes z_book_lost z_book_pile z_snapshot_alphabet_out z_snapshot_signing z_snapshot_signs z_snapshot_sizes z_snapshot_lost z_snapshot_pile z_history z_text_characters z_text_firstSigns z_text_lastSigns z_text_numbers z_text_at z_text_allLetters_out z_writer_characters z_writer_entries z_found p1 _ hw) ⟨rfl, rfl⟩ ce_X8_leafHangingWith cv_X8_leafHangingWith tw_511 ⟨Nat.le_of_ble_eq_true rfl, Nat.le_of_ble_eq_true rfl⟩ hP [0, 1, 2, 3, 4, 5, 6, 7, 8, 9, 10, 11, 12, 13, 14, 15, 16, 17, 18, 19, 20, 21, 22, 23, 24, 25, 26, 27, 28, 29, 30, 31, 32, 33, 34, 35, 36, 37, 38, 39, 40, 41, 42, 43, 44, 45, 46, 47, 48, 49, 50, 51, 52, 53, 54, 55, 56, 57, 58, 59, 60, 61, 62, 63, 64, 65, 66, 67, 68, 69, 70, 71, 72, 73, 74, 75, 76, 77] rfl rfl rfl rfl hl.1 rfl (Nat.le_of_ble_eq_true rfl) ⟨Nat.zero_le _, Nat.zero_le _⟩ dX8_leaf_98 (fun r5 hw => ?_)
            exact retR C hw dX8_leaf_101
          · replace hw := hw.2 hc3
            by_cases hc4 : p2 = 4
            · replace hw := hw.1 hc4
              refine lv_tableIn (tgt := 102) (off := 69) hx hb dX8_leaf_33 (by rw [hc4]; decide) (by rw [hc4]; decide) (by rw [hc4]; rfl) (by decide) ?_
              refine lv_aload_n hx hb dX8_leaf_102 rfl (lv_at hl 2 rfl) ?_
              refine va_get (D := D) (ci := 6) (v := .ref (a 1)) (C := RX8) (T := TX8) (N := 7) hx hb hts inX8 hown hK.1 hP 0 rfl rfl 0 (by decide) (hts _ tw_161) (fun _ h9 => h9) rfl dX8_leaf_103 ?_
              refine lv_iload_n hx hb dX8_leaf_106 rfl (lv_at hl 3 rfl) ?_
              refine kRV (As := [.int p1]) (rest := []) (q0 := 1) C (c_X1_isLost l D kI kC kB (fun i => a (i + 1)) z_book_alphabet_out z_book_signing z_book_signs z_book_sizes z_book_lost z_book_pile p1 _ hw) ⟨rfl, rfl⟩ ce_X1_isLost cv_X1_isLost tw_424 ⟨Nat.le_of_ble_eq_true rfl, Nat.le_of_ble_eq_true rfl⟩ hP [1, 2, 3, 4, 5, 6, 7, 8, 9, 10] rfl rfl rfl rfl hl.1 rfl (Nat.le_of_ble_eq_true rfl) ⟨Nat.zero_le _, Nat.zero_le _⟩ dX8_leaf_107 (fun r6 hw => ?_)
              refine lv_if_eq (tgt := 117) hx hb dX8_leaf_110 (by decide) (fun hc => ?_) (fun hc => ?_)
              · replace hw := hw.1 hc
                refine lv_iconst (v := (nI 0)) hx hb dX8_leaf_117 (by decide) ?_
                exact retR C hw dX8_leaf_118
              · replace hw := hw.2 hc
                refine lv_iconst (v := (nI 1)) hx hb dX8_leaf_113 (by decide) ?_
                refine lv_goto (tgt := 118) hx hb dX8_leaf_114 (by decide) ?_
                exact retR C hw dX8_leaf_118
            · replace hw := hw.2 hc4
              by_cases hc5 : p2 = 5
              · replace hw := hw.1 hc5
                refine lv_tableIn (tgt := 119) (off := 86) hx hb dX8_leaf_33 (by rw [hc5]; decide) (by rw [hc5]; decide) (by rw [hc5]; rfl) (by decide) ?_
                refine lv_aload_n hx hb dX8_leaf_119 rfl (lv_at hl 2 rfl) ?_
                refine va_get (D := D) (ci := 6) (v := .ref (a 1)) (C := RX8) (T := TX8) (N := 7) hx hb hts inX8 hown hK.1 hP 0 rfl rfl 0 (by decide) (hts _ tw_161) (fun _ h9 => h9) rfl dX8_leaf_120 ?_
                refine lv_iload_n hx hb dX8_leaf_123 rfl (lv_at hl 3 rfl) ?_
                refine kRV (As := [.int p1]) (rest := []) (q0 := 1) C (c_X1_thereAhead l D kI kC kB (fun i => a (i + 1)) z_book_alphabet_out z_book_signing z_book_signs z_book_sizes z_book_lost z_book_pile p1 _ hw) ⟨rfl, rfl⟩ ce_X1_thereAhead cv_X1_thereAhead tw_515 ⟨Nat.le_of_ble_eq_true rfl, Nat.le_of_ble_eq_true rfl⟩ hP [1, 2, 3, 4, 5, 6, 7, 8, 9, 10] rfl rfl rfl rfl hl.1 rfl (Nat.le_of_ble_eq_true rfl) ⟨Nat.zero_le _, Nat.zero_le _⟩ dX8_leaf_124 (fun r7 hw => ?_)
                exact retR C hw dX8_leaf_127
              · replace hw := hw.2 hc5
                refine lv_tableOut (tgt := 128) hx hb dX8_leaf_33 (by have := lv_neT hc0 (a := 0) (by decide); have := lv_neT hc1 (a := 1) (by decide); have := lv_neT hc2 (a := 2) (by decide); have := lv_neT hc3 (a := 3) (by decide); have := lv_neT hc4 (a := 4) (by decide); have := lv_neT hc5 (a := 5) (by decide); omega) (by decide) ?_
                refine lv_bipush (v := (-2)) hx hb dX8_leaf_128 (by decide) ?_
                exact retR C hw dX8_leaf_130
  · replace hw := hw.1 hc
    refine lv_iconst (v := (-1)) hx hb dX8_leaf_11 (by decide) ?_
    exact retR C hw dX8_leaf_12
set_option maxHeartbeats 4000000 in
set_option maxRecDepth 100000 in
theorem c_X8_find (l : Launch) (D : va_G) (kI kC kB : ClassId) (a : AdT) (h_ : Nat → AdT) (z_snapshotTaken : Int32) (z_book_alphabet_out : Int32) (z_book_signing : Int32) (z_book_signs : RowT) (z_book_sizes : RowT) (z_book_lost : RowT) (z_book_pile : RowT) (z_snapshot_alphabet_out : Int32) (z_snapshot_signing : Int32) (z_snapshot_signs : RowT) (z_snapshot_sizes : RowT) (z_snapshot_lost : RowT) (z_snapshot_pile : RowT) (z_history : HistT) (z_text_characters : RowT) (z_text_firstSigns : RowT) (z_text_lastSigns : RowT) (z_text_numbers : RowT) (z_text_at : Int32) (z_text_allLetters_out : Int32) (z_writer_characters : RowT) (z_writer_entries : Int32) (z_found : RowT) (sz : Nat) (Post : Int32 → RowT → RowT → RowT → Int32 → Prop) (hw : wp_X8_find z_book_signs z_book_sizes z_text_characters z_text_firstSigns z_text_lastSigns z_text_numbers z_text_at z_text_allLetters_out Post) : CMi l D kI kC kB yX8_find cX8_find 3 (some .int) ({ frames := 6, cells := 0, slots := 0, locals := 135 } : Room) [.ref (a 0)] (cwQS kI kB a h_ z_snapshotTaken z_book_alphabet_out z_book_signing z_book_signs z_book_sizes z_book_lost z_book_pile z_snapshot_alphabet_out z_snapshot_signing z_snapshot_signs z_snapshot_sizes z_snapshot_lost z_snapshot_pile z_history z_text_characters z_text_firstSigns z_text_lastSigns z_text_numbers z_text_at z_text_allLetters_out z_writer_characters z_writer_entries z_found) sz (fun (r : Int32) (u : RowT × RowT × RowT × Int32) => Post r u.1 u.2.1 u.2.2.1 u.2.2.2) (fun u : RowT × RowT × RowT × Int32 => (cwQS kI kB a h_ z_snapshotTaken z_book_alphabet_out z_book_signing z_book_signs z_book_sizes z_book_lost z_book_pile z_snapshot_alphabet_out z_snapshot_signing z_snapshot_signs z_snapshot_sizes z_snapshot_lost z_snapshot_pile z_history z_text_characters u.1 u.2.1 u.2.2.1 u.2.2.2 z_text_allLetters_out z_writer_characters z_writer_entries z_found)) := by
  refine entMi (by decide) (Nat.le_of_ble_eq_true rfl) ?_
  intro p e s m args below meth c ls A C hA hP hD hS hl
  obtain ⟨H, hHe⟩ : ∃ H, H = s.heap := ⟨_, rfl⟩
  obtain ⟨locs, hlo⟩ : ∃ lo : List Loc, lo = [] := ⟨_, rfl⟩
  have hS : va_S A s.heap H locs := by rw [hHe, hlo]; exact hS
  rw [← hHe] at hP
  suffices hg : W p l e ({ frames := 6, cells := 0, slots := 0, locals := 135 } : Room) s m args below meth c H locs 0 0 (MQ below (va_Qi (fun (r : Int32) (u : RowT × RowT × RowT × Int32) => Post r u.1 u.2.1 u.2.2.1 u.2.2.2) (BB D A (fun u : RowT × RowT × RowT × Int32 => (cwQS kI kB a h_ z_snapshotTaken z_book_alphabet_out z_book_signing z_book_signs z_book_sizes z_book_lost z_book_pile z_snapshot_alphabet_out z_snapshot_signing z_snapshot_signs z_snapshot_sizes z_snapshot_lost z_snapshot_pile z_history z_text_characters u.1 u.2.1 u.2.2.1 u.2.2.2 z_text_allLetters_out z_writer_characters z_writer_entries z_found))) A) args s 0 0 A) (F0 m 0 ls []) by rw [hHe, hlo] at hg; exact hg
  replace hl : lv_has ls 3 [(0, .ref (a 0))] := hl
  obtain ⟨hx, hb, hr, hml, hown, hts, hlocks, hK⟩ := id C
  refine lv_aload_n hx hb dX8_find_0 rfl (lv_at hl 0 rfl) ?_
  refine va_get (D := D) (ci := 6) (v := .ref (a 23)) (C := RX8) (T := TX8) (N := 7) hx hb hts inX8 hown hK.1 hP 0 rfl rfl 4 (by decide) (hts _ tw_165) (fun _ h9 => h9) rfl dX8_find_1 ?_
  refine kMBi (q0 := 0) (As := []) (rest := []) (ws' := fun u : RowT × RowT × RowT × Int32 => (cwQS kI kB a h_ z_snapshotTaken z_book_alphabet_out z_book_signing z_book_signs z_book_sizes z_book_lost z_book_pile z_snapshot_alphabet_out z_snapshot_signing z_snapshot_signs z_snapshot_sizes z_snapshot_lost z_snapshot_pile z_history z_text_characters u.1 u.2.1 u.2.2.1 u.2.2.2 z_text_allLetters_out z_writer_characters z_writer_entries z_found)) C (c_X6_readAsPile l D kI kC kB (fun i => a (i + 23)) z_text_characters z_text_firstSigns z_text_lastSigns z_text_numbers z_text_at z_text_allLetters_out H.size _ hw) ⟨rfl, rfl⟩ ce_X6_readAsPile cv_X6_readAsPile tw_520 ⟨Nat.le_of_ble_eq_true rfl, Nat.le_of_ble_eq_true rfl⟩ hP hD hS hA (bfl_p2 [_, _, _, _, _, _, _, _] 4 4 rfl rfl) (fun u => (bfl_p2 [_, _, _, _, _, _, _, _] 4 4 rfl rfl)) rfl rfl rfl hl.1 rfl (Nat.le_of_ble_eq_true rfl) ⟨Nat.zero_le _, Nat.zero_le _⟩ dX8_find_4 (fun r1 u H locs hw hP hD hS => ?_)
  obtain ⟨u2, u3, u4, u5⟩ := u
  try dsimp only at hw
  replace hP : va_P D vwCl (cwQS kI kB a h_ z_snapshotTaken z_book_alphabet_out z_book_signing z_book_signs z_book_sizes z_book_lost z_book_pile z_snapshot_alphabet_out z_snapshot_signing z_snapshot_signs z_snapshot_sizes z_snapshot_lost z_snapshot_pile z_history z_text_characters u2 u3 u4 u5 z_text_allLetters_out z_writer_characters z_writer_entries z_found) H := hP
  replace hD : va_D A (cwQS kI kB a h_ z_snapshotTaken z_book_alphabet_out z_book_signing z_book_signs z_book_sizes z_book_lost z_book_pile z_snapshot_alphabet_out z_snapshot_signing z_snapshot_signs z_snapshot_sizes z_snapshot_lost z_snapshot_pile z_history z_text_characters u2 u3 u4 u5 z_text_allLetters_out z_writer_characters z_writer_entries z_found) := hD
  refine lv_istore_n (lv' := [(1, .int r1), (0, .ref (a 0))]) hx hb dX8_find_7 rfl hl (by decide) rfl (fun ls hl => ?_)
  refine lv_iload_n hx hb dX8_find_8 rfl (lv_at hl 0 rfl) ?_
  refine lv_iconst (v := (-1)) hx hb dX8_find_9 (by decide) ?_
  refine lv_icmp_eq (tgt := 18) hx hb dX8_find_10 (by decide) (fun hc => ?_) (fun hc => ?_)
  · replace hw := hw.1 hc
    refine lv_aload_n hx hb dX8_find_18 rfl (lv_at hl 1 rfl) ?_
    refine va_get (D := D) (ci := 6) (v := .ref (a 23)) (C := RX8) (T := TX8) (N := 7) hx hb hts inX8 hown hK.1 hP 0 rfl rfl 4 (by decide) (hts _ tw_165) (fun _ h9 => h9) rfl dX8_find_19 ?_
    refine kRV (As := []) (rest := []) (q0 := 63) C (c_X6_entries l D kI kC kB (fun i => a (i + 23)) z_text_characters u2 u3 u4 u5 _ hw) ⟨rfl, rfl⟩ ce_X6_entries cv_X6_entries tw_335 ⟨Nat.le_of_ble_eq_true rfl, Nat.le_of_ble_eq_true rfl⟩ hP [63, 64, 65, 66, 67, 68, 69, 70, 71] rfl rfl rfl rfl hl.1 rfl (Nat.le_of_ble_eq_true rfl) ⟨Nat.zero_le _, Nat.zero_le _⟩ dX8_find_22 (fun r6 hw => ?_)
    refine lv_iconst (v := (nI 1)) hx hb dX8_find_25 (by decide) ?_
    refine lv_icmp_eq (tgt := 32) hx hb dX8_find_26 (by decide) (fun hc => ?_) (fun hc => ?_)
    · replace hw := hw.1 hc
      refine lv_aload_n hx hb dX8_find_32 rfl (lv_at hl 1 rfl) ?_
      refine va_get (D := D) (ci := 6) (v := .ref (a 1)) (C := RX8) (T := TX8) (N := 7) hx hb hts inX8 hown hK.1 hP 0 rfl rfl 0 (by decide) (hts _ tw_161) (fun _ h9 => h9) rfl dX8_find_33 ?_
      refine lv_aload_n hx hb dX8_find_36 rfl (lv_at hl 1 rfl) ?_
      refine va_get (D := D) (ci := 6) (v := .ref (a 23)) (C := RX8) (T := TX8) (N := 7) hx hb hts inX8 hown hK.1 hP 0 rfl rfl 4 (by decide) (hts _ tw_165) (fun _ h9 => h9) rfl dX8_find_37 ?_
      refine lv_iconst (v := (nI 0)) hx hb dX8_find_40 (by decide) ?_
      refine kRV (As := [.int (nI 0)]) (rest := [.ref (a 1)]) (q0 := 63) C (c_X6_firstSign l D kI kC kB (fun i => a (i + 23)) z_text_characters u2 u3 u4 u5 (nI 0) _ hw) ⟨rfl, rfl⟩ ce_X6_firstSign cv_X6_firstSign tw_339 ⟨Nat.le_of_ble_eq_true rfl, Nat.le_of_ble_eq_true rfl⟩ hP [63, 64, 65, 66, 67, 68, 69, 70, 71] rfl rfl rfl rfl hl.1 rfl (Nat.le_of_ble_eq_true rfl) ⟨Nat.zero_le _, Nat.zero_le _⟩ dX8_find_41 (fun r7 hw => ?_)
      refine lv_aload_n hx hb dX8_find_44 rfl (lv_at hl 1 rfl) ?_
      refine va_get (D := D) (ci := 6) (v := .ref (a 23)) (C := RX8) (T := TX8) (N := 7) hx hb hts inX8 hown hK.1 hP 0 rfl rfl 4 (by decide) (hts _ tw_165) (fun _ h9 => h9) rfl dX8_find_45 ?_
      refine lv_iconst (v := (nI 0)) hx hb dX8_find_48 (by decide) ?_
      refine kRV (As := [.int (nI 0)]) (rest := [.int r7, .ref (a 1)]) (q0 := 63) C (c_X6_number l D kI kC kB (fun i => a (i + 23)) z_text_characters u2 u3 u4 u5 (nI 0) _ hw) ⟨rfl, rfl⟩ ce_X6_number cv_X6_number tw_359 ⟨Nat.le_of_ble_eq_true rfl, Nat.le_of_ble_eq_true rfl⟩ hP [63, 64, 65, 66, 67, 68, 69, 70, 71] rfl rfl rfl rfl hl.1 rfl (Nat.le_of_ble_eq_true rfl) ⟨Nat.zero_le _, Nat.zero_le _⟩ dX8_find_49 (fun r8 hw => ?_)
      refine kRV (As := [.int r7, .int r8]) (rest := []) (q0 := 1) C (c_X1_leafSigned l D kI kC kB (fun i => a (i + 1)) z_book_alphabet_out z_book_signing z_book_signs z_book_sizes z_book_lost z_book_pile r7 r8 _ hw) ⟨rfl, rfl⟩ ce_X1_leafSigned cv_X1_leafSigned tw_524 ⟨Nat.le_of_ble_eq_true rfl, Nat.le_of_ble_eq_true rfl⟩ hP [1, 2, 3, 4, 5, 6, 7, 8, 9, 10] rfl rfl rfl rfl hl.1 rfl (Nat.le_of_ble_eq_true rfl) ⟨Nat.zero_le _, Nat.zero_le _⟩ dX8_find_52 (fun r9 hw => ?_)
      refine lv_istore_n (lv' := [(2, .int r9), (1, .int r1), (0, .ref (a 0))]) hx hb dX8_find_55 rfl hl (by decide) rfl (fun ls hl => ?_)
      refine lv_iload_n hx hb dX8_find_56 rfl (lv_at hl 0 rfl) ?_
      refine lv_iconst (v := (-1)) hx hb dX8_find_57 (by decide) ?_
      refine lv_icmp_ne (tgt := 66) hx hb dX8_find_58 (by decide) (fun hc => ?_) (fun hc => ?_)
      · replace hw := hw.2 hc
        refine lv_iload_n hx hb dX8_find_66 rfl (lv_at hl 0 rfl) ?_
        exact retMi C (u2, u3, u4, u5) hw hP hD hS dX8_find_67
      · replace hw := hw.1 hc
        refine lv_bipush (v := (-5)) hx hb dX8_find_61 (by decide) ?_
        refine lv_goto (tgt := 67) hx hb dX8_find_63 (by decide) ?_
        exact retMi C (u2, u3, u4, u5) hw hP hD hS dX8_find_67
    · replace hw := hw.2 hc
      refine lv_bipush (v := (-2)) hx hb dX8_find_29 (by decide) ?_
      exact retMi C (u2, u3, u4, u5) hw hP hD hS dX8_find_31
  · replace hw := hw.2 hc
    refine lv_bipush (v := (-100)) hx hb dX8_find_13 (by decide) ?_
    refine lv_iload_n hx hb dX8_find_15 rfl (lv_at hl 0 rfl) ?_
    refine lv_isub hx hb dX8_find_16 ?_
    exact retMi C (u2, u3, u4, u5) hw hP hD hS dX8_find_17
set_option maxHeartbeats 4000000 in
set_option maxRecDepth 100000 in
theorem c_X8_lapse (l : Launch) (D : va_G) (kI kC kB : ClassId) (a : AdT) (h_ : Nat → AdT) (z_snapshotTaken : Int32) (z_book_alphabet_out : Int32) (z_book_signing : Int32) (z_book_signs : RowT) (z_book_sizes : RowT) (z_book_lost : RowT) (z_book_pile : RowT) (z_snapshot_alphabet_out : Int32) (z_snapshot_signing : Int32) (z_snapshot_signs : RowT) (z_snapshot_sizes : RowT) (z_snapshot_lost : RowT) (z_snapshot_pile : RowT) (z_history : HistT) (z_text_characters : RowT) (z_text_firstSigns : RowT) (z_text_lastSigns : RowT) (z_text_numbers : RowT) (z_text_at : Int32) (z_text_allLetters_out : Int32) (z_writer_characters : RowT) (z_writer_entries : Int32) (z_found : RowT) (p1 : Int32) (p2 : Int32) (Post : Int32 → Prop) (hw : wp_X8_lapse z_book_alphabet_out z_book_signs p1 p2 Post) : CR l D kI kC kB yX8_lapse cX8_lapse 4 (some .int) ({ frames := 4, cells := 0, slots := 0, locals := 89 } : Room) [.ref (a 0), .int p1, .int p2] (cwQS kI kB a h_ z_snapshotTaken z_book_alphabet_out z_book_signing z_book_signs z_book_sizes z_book_lost z_book_pile z_snapshot_alphabet_out z_snapshot_signing z_snapshot_signs z_snapshot_sizes z_snapshot_lost z_snapshot_pile z_history z_text_characters z_text_firstSigns z_text_lastSigns z_text_numbers z_text_at z_text_allLetters_out z_writer_characters z_writer_entries z_found) Post := by
  refine entR (by decide) (Nat.le_of_ble_eq_true rfl) ?_
  intro p e s m args below meth c ls C hP hl
  replace hl : lv_has ls 4 [(0, .ref (a 0)), (1, .int p1), (2, .int p2)] := hl
  obtain ⟨hx, hb, hr, hml, hown, hts, hlocks, hK⟩ := id C
  refine lv_iload_n hx hb dX8_lapse_0 rfl (lv_at hl 1 rfl) ?_
  refine lv_if_lt (tgt := 13) hx hb dX8_lapse_1 (by decide) (fun hc => ?_) (fun hc => ?_)
  · replace hw := hw.1 hc
    refine lv_bipush (v := (-2)) hx hb dX8_lapse_13 (by decide) ?_
    exact retR C hw dX8_lapse_15
  · replace hw := hw.2 hc
    refine lv_iload_n hx hb dX8_lapse_4 rfl (lv_at hl 2 rfl) ?_
    refine lv_if_lt (tgt := 13) hx hb dX8_lapse_5 (by decide) (fun hc => ?_) (fun hc => ?_)
    · replace hw := hw.1 hc
      refine lv_bipush (v := (-2)) hx hb dX8_lapse_13 (by decide) ?_
      exact retR C hw dX8_lapse_15
    · replace hw := hw.2 hc
      refine lv_iload_n hx hb dX8_lapse_8 rfl (lv_at hl 2 rfl) ?_
      refine lv_iconst (v := (nI 2)) hx hb dX8_lapse_9 (by decide) ?_
      refine lv_icmp_le (tgt := 16) hx hb dX8_lapse_10 (by decide) (fun hc => ?_) (fun hc => ?_)
      · replace hw := hw.1 hc
        refine lv_aload_n hx hb dX8_lapse_16 rfl (lv_at hl 0 rfl) ?_
        refine va_get (D := D) (ci := 6) (v := .ref (a 1)) (C := RX8) (T := TX8) (N := 7) hx hb hts inX8 hown hK.1 hP 0 rfl rfl 0 (by decide) (hts _ tw_161) (fun _ h9 => h9) rfl dX8_lapse_17 ?_
        refine lv_iload_n hx hb dX8_lapse_20 rfl (lv_at hl 1 rfl) ?_
        refine kRS (As := [.ref (a 1), .int p1]) (rest := []) C (c_X3_quireAt l D kI kC kB (fun i => a (i + 1)) z_book_alphabet_out z_book_signing z_book_signs z_book_sizes z_book_lost z_book_pile p1 _ hw) ⟨rfl, rfl⟩ ce_X3_quireAt cv_X3_quireAt tw_532 ⟨Nat.le_of_ble_eq_true rfl, Nat.le_of_ble_eq_true rfl⟩ hP [1, 2, 3, 4, 5, 6, 7, 8, 9, 10] rfl hl.1 rfl (Nat.le_of_ble_eq_true rfl) ⟨Nat.zero_le _, Nat.zero_le _⟩ dX8_lapse_21 (fun r1 hw => ?_)
        refine lv_istore_n (lv' := [(3, .int r1), (0, .ref (a 0)), (1, .int p1), (2, .int p2)]) hx hb dX8_lapse_24 rfl hl (by decide) rfl (fun ls hl => ?_)
        refine lv_iload_n hx hb dX8_lapse_25 rfl (lv_at hl 0 rfl) ?_
        refine lv_iconst (v := (-1)) hx hb dX8_lapse_26 (by decide) ?_
        refine lv_icmp_ne (tgt := 33) hx hb dX8_lapse_27 (by decide) (fun hc => ?_) (fun hc => ?_)
        · replace hw := hw.2 hc
          refine lv_iload_n hx hb dX8_lapse_33 rfl (lv_at hl 3 rfl) ?_
          by_cases hc0 : p2 = 0
          · replace hw := hw.1 hc0
            refine lv_lookup (tgt := 60) (off := 26) hx hb dX8_lapse_34 rfl (by rw [hc0]; rfl) (by decide) ?_
            refine lv_iload_n hx hb dX8_lapse_60 rfl (lv_at hl 0 rfl) ?_
            exact retR C hw dX8_lapse_61
          · replace hw := hw.2 hc0
            by_cases hc1 : p2 = 1
            · replace hw := hw.1 hc1
              refine lv_lookup (tgt := 62) (off := 28) hx hb dX8_lapse_34 rfl (by rw [hc1]; rfl) (by decide) ?_
              refine lv_aload_n hx hb dX8_lapse_62 rfl (lv_at hl 1 rfl) ?_
              refine va_get (D := D) (ci := 6) (v := .ref (a 1)) (C := RX8) (T := TX8) (N := 7) hx hb hts inX8 hown hK.1 hP 0 rfl rfl 0 (by decide) (hts _ tw_161) (fun _ h9 => h9) rfl dX8_lapse_63 ?_
              refine lv_iload_n hx hb dX8_lapse_66 rfl (lv_at hl 0 rfl) ?_
              refine kRS (As := [.ref (a 1), .int r1]) (rest := []) C (c_X3_kind l D kI kC kB (fun i => a (i + 1)) z_book_alphabet_out z_book_signing z_book_signs z_book_sizes z_book_lost z_book_pile r1 _ hw) ⟨rfl, rfl⟩ ce_X3_kind cv_X3_kind tw_543 ⟨Nat.le_of_ble_eq_true rfl, Nat.le_of_ble_eq_true rfl⟩ hP [1, 2, 3, 4, 5, 6, 7, 8, 9, 10] rfl hl.1 rfl (Nat.le_of_ble_eq_true rfl) ⟨Nat.zero_le _, Nat.zero_le _⟩ dX8_lapse_67 (fun r2 hw => ?_)
              exact retR C hw dX8_lapse_70
            · replace hw := hw.2 hc1
              refine lv_lookup (tgt := 71) (off := 37) hx hb dX8_lapse_34 rfl (by show Op.lookupswitch.offset [(0, 26), (1, 28)] 37 _ = _; rw [lv_osw hc0 (a := 0) (by decide)]; rw [lv_osw hc1 (a := 1) (by decide)]; rfl) (by decide) ?_
              refine lv_aload_n hx hb dX8_lapse_71 rfl (lv_at hl 1 rfl) ?_
              refine va_get (D := D) (ci := 6) (v := .ref (a 1)) (C := RX8) (T := TX8) (N := 7) hx hb hts inX8 hown hK.1 hP 0 rfl rfl 0 (by decide) (hts _ tw_161) (fun _ h9 => h9) rfl dX8_lapse_72 ?_
              refine lv_iload_n hx hb dX8_lapse_75 rfl (lv_at hl 0 rfl) ?_
              refine kRS (As := [.ref (a 1), .int r1]) (rest := []) C (c_X3_width l D kI kC kB (fun i => a (i + 1)) z_book_alphabet_out z_book_signing z_book_signs z_book_sizes z_book_lost z_book_pile r1 _ hw) ⟨rfl, rfl⟩ ce_X3_width cv_X3_width tw_544 ⟨Nat.le_of_ble_eq_true rfl, Nat.le_of_ble_eq_true rfl⟩ hP [1, 2, 3, 4, 5, 6, 7, 8, 9, 10] rfl hl.1 rfl (Nat.le_of_ble_eq_true rfl) ⟨Nat.zero_le _, Nat.zero_le _⟩ dX8_lapse_76 (fun r3 hw => ?_)
              exact retR C hw dX8_lapse_79
        · replace hw := hw.1 hc
          refine lv_bipush (v := (-5)) hx hb dX8_lapse_30 (by decide) ?_
          exact retR C hw dX8_lapse_32
      · replace hw := hw.2 hc
        refine lv_bipush (v := (-2)) hx hb dX8_lapse_13 (by decide) ?_
        exact retR C hw dX8_lapse_15
set_option maxHeartbeats 4000000 in
set_option maxRecDepth 100000 in
theorem c_X8_piled (l : Launch) (D : va_G) (kI kC kB : ClassId) (a : AdT) (h_ : Nat → AdT) (z_snapshotTaken : Int32) (z_book_alphabet_out : Int32) (z_book_signing : Int32) (z_book_signs : RowT) (z_book_sizes : RowT) (z_book_lost : RowT) (z_book_pile : RowT) (z_snapshot_alphabet_out : Int32) (z_snapshot_signing : Int32) (z_snapshot_signs : RowT) (z_snapshot_sizes : RowT) (z_snapshot_lost : RowT) (z_snapshot_pile : RowT) (z_history : HistT) (z_text_characters : RowT) (z_text_firstSigns : RowT) (z_text_lastSigns : RowT) (z_text_numbers : RowT) (z_text_at : Int32) (z_text_allLetters_out : Int32) (z_writer_characters : RowT) (z_writer_entries : Int32) (z_found : RowT) (p1 : Int32) (p2 : Int32) (Post : Int32 → Prop) (hw : wp_X8_piled z_book_signs z_book_sizes z_book_lost z_book_pile p1 p2 Post) : CR l D kI kC kB yX8_piled cX8_piled 4 (some .int) ({ frames := 3, cells := 0, slots := 0, locals := 66 } : Room) [.ref (a 0), .int p1, .int p2] (cwQS kI kB a h_ z_snapshotTaken z_book_alphabet_out z_book_signing z_book_signs z_book_sizes z_book_lost z_book_pile z_snapshot_alphabet_out z_snapshot_signing z_snapshot_signs z_snapshot_sizes z_snapshot_lost z_snapshot_pile z_history z_text_characters z_text_firstSigns z_text_lastSigns z_text_numbers z_text_at z_text_allLetters_out z_writer_characters z_writer_entries z_found) Post := by
  refine entR (by decide) (Nat.le_of_ble_eq_true rfl) ?_
  intro p e s m args below meth c ls C hP hl
  replace hl : lv_has ls 4 [(0, .ref (a 0)), (1, .int p1), (2, .int p2)] := hl
  obtain ⟨hx, hb, hr, hml, hown, hts, hlocks, hK⟩ := id C
  refine lv_iload_n hx hb dX8_piled_0 rfl (lv_at hl 1 rfl) ?_
  refine lv_if_lt (tgt := 13) hx hb dX8_piled_1 (by decide) (fun hc => ?_) (fun hc => ?_)
  · replace hw := hw.1 hc
    refine lv_bipush (v := (-2)) hx hb dX8_piled_13 (by decide) ?_
    exact retR C hw dX8_piled_15
  · replace hw := hw.2 hc
    refine lv_iload_n hx hb dX8_piled_4 rfl (lv_at hl 2 rfl) ?_
    refine lv_if_lt (tgt := 13) hx hb dX8_piled_5 (by decide) (fun hc => ?_) (fun hc => ?_)
    · replace hw := hw.1 hc
      refine lv_bipush (v := (-2)) hx hb dX8_piled_13 (by decide) ?_
      exact retR C hw dX8_piled_15
    · replace hw := hw.2 hc
      refine lv_iload_n hx hb dX8_piled_8 rfl (lv_at hl 2 rfl) ?_
      refine lv_iconst (v := (nI 1)) hx hb dX8_piled_9 (by decide) ?_
      refine lv_icmp_le (tgt := 16) hx hb dX8_piled_10 (by decide) (fun hc => ?_) (fun hc => ?_)
      · replace hw := hw.1 hc
        refine lv_iload_n hx hb dX8_piled_16 rfl (lv_at hl 1 rfl) ?_
        refine lv_aload_n hx hb dX8_piled_17 rfl (lv_at hl 0 rfl) ?_
        refine va_get (D := D) (ci := 6) (v := .ref (a 1)) (C := RX8) (T := TX8) (N := 7) hx hb hts inX8 hown hK.1 hP 0 rfl rfl 0 (by decide) (hts _ tw_161) (fun _ h9 => h9) rfl dX8_piled_18 ?_
        refine va_getN (D := D) (ci := 1) (v := .ref (a 9)) (C := RX1) (T := TX1) (N := 6) hx hb hts inX1 hown hK.1 hP 1 rfl rfl 5 (by decide) (va_Nw.use rfl (hK.2.1 _ nw_85)) (fun _ h9 => h9) rfl dX8_piled_21 ?_
        refine kRV (As := []) (rest := [.int p1]) (q0 := 9) C (c_X4_length l D kI kC kB (fun i => a (i + 9)) z_book_pile _ hw) ⟨rfl, rfl⟩ ce_X4_length cv_X4_length tw_552 ⟨Nat.le_of_ble_eq_true rfl, Nat.le_of_ble_eq_true rfl⟩ hP [9, 10] rfl rfl rfl rfl hl.1 rfl (Nat.le_of_ble_eq_true rfl) ⟨Nat.zero_le _, Nat.zero_le _⟩ dX8_piled_24 (fun r1 hw => ?_)
        refine lv_icmp_lt (tgt := 33) hx hb dX8_piled_27 (by decide) (fun hc => ?_) (fun hc => ?_)
        · replace hw := hw.1 hc
          refine lv_aload_n hx hb dX8_piled_33 rfl (lv_at hl 0 rfl) ?_
          refine va_get (D := D) (ci := 6) (v := .ref (a 1)) (C := RX8) (T := TX8) (N := 7) hx hb hts inX8 hown hK.1 hP 0 rfl rfl 0 (by decide) (hts _ tw_161) (fun _ h9 => h9) rfl dX8_piled_34 ?_
          refine va_getN (D := D) (ci := 1) (v := .ref (a 9)) (C := RX1) (T := TX1) (N := 6) hx hb hts inX1 hown hK.1 hP 1 rfl rfl 5 (by decide) (va_Nw.use rfl (hK.2.1 _ nw_85)) (fun _ h9 => h9) rfl dX8_piled_37 ?_
          refine lv_iload_n hx hb dX8_piled_40 rfl (lv_at hl 1 rfl) ?_
          refine kRV (As := [.int p1]) (rest := []) (q0 := 9) C (c_X4_at l D kI kC kB (fun i => a (i + 9)) z_book_pile p1 _ hw) ⟨rfl, rfl⟩ ce_X4_at cv_X4_at tw_492 ⟨Nat.le_of_ble_eq_true rfl, Nat.le_of_ble_eq_true rfl⟩ hP [9, 10] rfl rfl rfl rfl hl.1 rfl (Nat.le_of_ble_eq_true rfl) ⟨Nat.zero_le _, Nat.zero_le _⟩ dX8_piled_41 (fun r2 hw => ?_)
          refine lv_istore_n (lv' := [(3, .int r2), (0, .ref (a 0)), (1, .int p1), (2, .int p2)]) hx hb dX8_piled_44 rfl hl (by decide) rfl (fun ls hl => ?_)
          refine lv_iload_n hx hb dX8_piled_45 rfl (lv_at hl 3 rfl) ?_
          refine lv_if_ne (tgt := 51) hx hb dX8_piled_46 (by decide) (fun hc => ?_) (fun hc => ?_)
          · replace hw := hw.2 hc
            refine lv_iload_n hx hb dX8_piled_51 rfl (lv_at hl 2 rfl) ?_
            refine lv_aload_n hx hb dX8_piled_52 rfl (lv_at hl 1 rfl) ?_
            refine va_get (D := D) (ci := 6) (v := .ref (a 1)) (C := RX8) (T := TX8) (N := 7) hx hb hts inX8 hown hK.1 hP 0 rfl rfl 0 (by decide) (hts _ tw_161) (fun _ h9 => h9) rfl dX8_piled_53 ?_
            refine va_getN (D := D) (ci := 1) (v := .ref (a 9)) (C := RX1) (T := TX1) (N := 6) hx hb hts inX1 hown hK.1 hP 1 rfl rfl 5 (by decide) (va_Nw.use rfl (hK.2.1 _ nw_85)) (fun _ h9 => h9) rfl dX8_piled_56 ?_
            refine kRV (As := []) (rest := [.int p1]) (q0 := 9) C (c_X4_length l D kI kC kB (fun i => a (i + 9)) z_book_pile _ hw) ⟨rfl, rfl⟩ ce_X4_length cv_X4_length tw_552 ⟨Nat.le_of_ble_eq_true rfl, Nat.le_of_ble_eq_true rfl⟩ hP [9, 10] rfl rfl rfl rfl hl.1 rfl (Nat.le_of_ble_eq_true rfl) ⟨Nat.zero_le _, Nat.zero_le _⟩ dX8_piled_59 (fun r3 hw => ?_)
            refine lv_iconst (v := (nI 1)) hx hb dX8_piled_62 (by decide) ?_
            refine lv_isub hx hb dX8_piled_63 ?_
            refine lv_icmp_ne (tgt := 70) hx hb dX8_piled_64 (by decide) (fun hc => ?_) (fun hc => ?_)
            · replace hw := hw.2 hc
              refine lv_aload_n hx hb dX8_piled_70 rfl (lv_at hl 1 rfl) ?_
              refine va_get (D := D) (ci := 6) (v := .ref (a 1)) (C := RX8) (T := TX8) (N := 7) hx hb hts inX8 hown hK.1 hP 0 rfl rfl 0 (by decide) (hts _ tw_161) (fun _ h9 => h9) rfl dX8_piled_71 ?_
              refine lv_aload_n hx hb dX8_piled_74 rfl (lv_at hl 1 rfl) ?_
              refine va_get (D := D) (ci := 6) (v := .ref (a 1)) (C := RX8) (T := TX8) (N := 7) hx hb hts inX8 hown hK.1 hP 0 rfl rfl 0 (by decide) (hts _ tw_161) (fun _ h9 => h9) rfl dX8_piled_75 ?_
              refine va_getN (D := D) (ci := 1) (v := .ref (a 9)) (C := RX1) (T := TX1) (N := 6) hx hb hts inX1 hown hK.1 hP 1 rfl rfl 5 (by decide) (va_Nw.use rfl (hK.2.1 _ nw_85)) (fun _ h9 => h9) rfl dX8_piled_78 ?_
              refine lv_iload_n hx hb dX8_piled_81 rfl (lv_at hl 2 rfl) ?_
              refine lv_iconst (v := (nI 1)) hx hb dX8_piled_82 (by decide) ?_
              refine lv_iadd hx hb dX8_piled_83 ?_
              refine kRV (As := [.int (p1 + (nI 1))]) (rest := [.ref (a 1)]) (q0 := 9) C (c_X4_at l D kI kC kB (fun i => a (i + 9)) z_book_pile (p1 + (nI 1)) _ hw) ⟨rfl, rfl⟩ ce_X4_at cv_X4_at tw_492 ⟨Nat.le_of_ble_eq_true rfl, Nat.le_of_ble_eq_true rfl⟩ hP [9, 10] rfl rfl rfl rfl hl.1 rfl (Nat.le_of_ble_eq_true rfl) ⟨Nat.zero_le _, Nat.zero_le _⟩ dX8_piled_84 (fun r4 hw => ?_)
              refine kRV (As := [.int r4]) (rest := []) (q0 := 1) C (c_X1_thereAhead l D kI kC kB (fun i => a (i + 1)) z_book_alphabet_out z_book_signing z_book_signs z_book_sizes z_book_lost z_book_pile r4 _ hw) ⟨rfl, rfl⟩ ce_X1_thereAhead cv_X1_thereAhead tw_515 ⟨Nat.le_of_ble_eq_true rfl, Nat.le_of_ble_eq_true rfl⟩ hP [1, 2, 3, 4, 5, 6, 7, 8, 9, 10] rfl rfl rfl rfl hl.1 rfl (Nat.le_of_ble_eq_true rfl) ⟨Nat.zero_le _, Nat.zero_le _⟩ dX8_piled_87 (fun r5 hw => ?_)
              refine lv_aload_n hx hb dX8_piled_90 rfl (lv_at hl 1 rfl) ?_
              refine va_get (D := D) (ci := 6) (v := .ref (a 1)) (C := RX8) (T := TX8) (N := 7) hx hb hts inX8 hown hK.1 hP 0 rfl rfl 0 (by decide) (hts _ tw_161) (fun _ h9 => h9) rfl dX8_piled_91 ?_
              refine lv_iload_n hx hb dX8_piled_94 rfl (lv_at hl 0 rfl) ?_
              refine lv_iconst (v := (nI 1)) hx hb dX8_piled_95 (by decide) ?_
              refine lv_iadd hx hb dX8_piled_96 ?_
              refine kRV (As := [.int (r2 + (nI 1))]) (rest := [.int r5]) (q0 := 1) C (c_X1_thereAhead l D kI kC kB (fun i => a (i + 1)) z_book_alphabet_out z_book_signing z_book_signs z_book_sizes z_book_lost z_book_pile (r2 + (nI 1)) _ hw) ⟨rfl, rfl⟩ ce_X1_thereAhead cv_X1_thereAhead tw_515 ⟨Nat.le_of_ble_eq_true rfl, Nat.le_of_ble_eq_true rfl⟩ hP [1, 2, 3, 4, 5, 6, 7, 8, 9, 10] rfl rfl rfl rfl hl.1 rfl (Nat.le_of_ble_eq_true rfl) ⟨Nat.zero_le _, Nat.zero_le _⟩ dX8_piled_97 (fun r6 hw => ?_)
              refine lv_isub hx hb dX8_piled_100 ?_
              exact retR C hw dX8_piled_101
            · replace hw := hw.1 hc
              refine lv_bipush (v := (-5)) hx hb dX8_piled_67 (by decide) ?_
              exact retR C hw dX8_piled_69
          · replace hw := hw.1 hc
            refine lv_iload_n hx hb dX8_piled_49 rfl (lv_at hl 0 rfl) ?_
            exact retR C hw dX8_piled_50
        · replace hw := hw.2 hc
          refine lv_bipush (v := (-5)) hx hb dX8_piled_30 (by decide) ?_
          exact retR C hw dX8_piled_32
      · replace hw := hw.2 hc
        refine lv_bipush (v := (-2)) hx hb dX8_piled_13 (by decide) ?_
        exact retR C hw dX8_piled_15
set_option maxHeartbeats 4000000 in
set_option maxRecDepth 100000 in
theorem cl_X8_sheets_29 (l : Launch) (D : va_G) (kI kC kB : ClassId) (a : AdT) (h_ : Nat → AdT) (z_snapshotTaken : Int32) (z_book_alphabet_out : Int32) (z_book_signing : Int32) (z_book_signs : RowT) (z_book_sizes : RowT) (z_book_lost : RowT) (z_book_pile : RowT) (z_snapshot_alphabet_out : Int32) (z_snapshot_signing : Int32) (z_snapshot_signs : RowT) (z_snapshot_sizes : RowT) (z_snapshot_lost : RowT) (z_snapshot_pile : RowT) (z_history : HistT) (z_text_characters : RowT) (z_text_firstSigns : RowT) (z_text_lastSigns : RowT) (z_text_numbers : RowT) (z_text_at : Int32) (z_text_allLetters_out : Int32) (z_writer_characters : RowT) (z_writer_entries : Int32) (z_found : RowT) (p1 : Int32) (Post : Int32 → Prop) {p : Program} {e : Env} {s : State} {m : MethodId} {args : Array Value} {below : List Frame} {meth : Method} {c : Code} (C : CtxT p s m args meth c cX8_sheets 4 (some .int) yX8_sheets.cls D kI kC kB) (hP : va_P D vwCl (cwQS kI kB a h_ z_snapshotTaken z_book_alphabet_out z_book_signing z_book_signs z_book_sizes z_book_lost z_book_pile z_snapshot_alphabet_out z_snapshot_signing z_snapshot_signs z_snapshot_sizes z_snapshot_lost z_snapshot_pile z_history z_text_characters z_text_firstSigns z_text_lastSigns z_text_numbers z_text_at z_text_allLetters_out z_writer_characters z_writer_entries z_found) s.heap) : ∀ (n : Nat), ∀ (v2 : Int32) (v3 : Int32), wl_X8_sheets_29 z_book_signs z_book_sizes p1 Post n v2 v3 → ∀ (ls : Array Slot), lv_has ls 4 [(0, .ref (a 0)), (1, .int p1), (2, .int v2), (3, .int v3)] → W p l e ({ frames := 2, cells := 0, slots := 0, locals := 40 } : Room) s m args below meth c s.heap [] 0 0 (MQ below (vp_Si Post) args s 0 0 (fun _ => False)) (F0 m 29 ls []) := by
  obtain ⟨hx, hb, hr, hml, hown, hts, hlocks, hK⟩ := id C
  intro n
  induction n with
  | zero => intro v2 v3 hw; exact hw.elim
  | succ n ih =>
    intro v2 v3 hw ls hl
    refine lv_iload_n hx hb dX8_sheets_29 rfl (lv_at hl 3 rfl) ?_
    refine lv_aload_n hx hb dX8_sheets_30 rfl (lv_at hl 0 rfl) ?_
    refine va_get (D := D) (ci := 6) (v := .ref (a 1)) (C := RX8) (T := TX8) (N := 7) hx hb hts inX8 hown hK.1 hP 0 rfl rfl 0 (by decide) (hts _ tw_161) (fun _ h9 => h9) rfl dX8_sheets_31 ?_
    refine kRV (As := []) (rest := [.int v3]) (q0 := 1) C (c_X1_quires l D kI kC kB (fun i => a (i + 1)) z_book_alphabet_out z_book_signing z_book_signs z_book_sizes z_book_lost z_book_pile _ hw) ⟨rfl, rfl⟩ ce_X1_quires cv_X1_quires tw_330 ⟨Nat.le_of_ble_eq_true rfl, Nat.le_of_ble_eq_true rfl⟩ hP [1, 2, 3, 4, 5, 6, 7, 8, 9, 10] rfl rfl rfl rfl hl.1 rfl (Nat.le_of_ble_eq_true rfl) ⟨Nat.zero_le _, Nat.zero_le _⟩ dX8_sheets_34 (fun r1 hw => ?_)
    refine lv_icmp_ge (tgt := 66) hx hb dX8_sheets_37 (by decide) (fun hc => ?_) (fun hc => ?_)
    · replace hw := hw.1 hc
      refine lv_iload_n hx hb dX8_sheets_66 rfl (lv_at hl 2 rfl) ?_
      exact retR C hw dX8_sheets_67
    · replace hw := hw.2 hc
      refine lv_iload_n hx hb dX8_sheets_40 rfl (lv_at hl 2 rfl) ?_
      refine lv_aload_n hx hb dX8_sheets_41 rfl (lv_at hl 0 rfl) ?_
      refine va_get (D := D) (ci := 6) (v := .ref (a 1)) (C := RX8) (T := TX8) (N := 7) hx hb hts inX8 hown hK.1 hP 0 rfl rfl 0 (by decide) (hts _ tw_161) (fun _ h9 => h9) rfl dX8_sheets_42 ?_
      refine va_getN (D := D) (ci := 1) (v := .ref (a 5)) (C := RX1) (T := TX1) (N := 6) hx hb hts inX1 hown hK.1 hP 1 rfl rfl 3 (by decide) (va_Nw.use rfl (hK.2.1 _ nw_82)) (fun _ h9 => h9) rfl dX8_sheets_45 ?_
      refine lv_iload_n hx hb dX8_sheets_48 rfl (lv_at hl 3 rfl) ?_
      refine kRV (As := [.int v3]) (rest := [.int v2]) (q0 := 5) C (c_X4_at l D kI kC kB (fun i => a (i + 5)) z_book_sizes v3 _ hw) ⟨rfl, rfl⟩ ce_X4_at cv_X4_at tw_492 ⟨Nat.le_of_ble_eq_true rfl, Nat.le_of_ble_eq_true rfl⟩ hP [5, 6] rfl rfl rfl rfl hl.1 rfl (Nat.le_of_ble_eq_true rfl) ⟨Nat.zero_le _, Nat.zero_le _⟩ dX8_sheets_49 (fun r2 hw => ?_)
      refine lv_iload_n hx hb dX8_sheets_52 rfl (lv_at hl 1 rfl) ?_
      refine lv_iadd hx hb dX8_sheets_53 ?_
      refine lv_iconst (v := (nI 1)) hx hb dX8_sheets_54 (by decide) ?_
      refine lv_isub hx hb dX8_sheets_55 ?_
      refine lv_iload_n hx hb dX8_sheets_56 rfl (lv_at hl 1 rfl) ?_
      have hne := hw.1
      replace hw := hw.2
      refine lv_idiv hx hb dX8_sheets_57 hne ?_
      refine lv_iadd hx hb dX8_sheets_58 ?_
      refine lv_topi (fun y3 ey3 => ?_)
      replace hw := hw y3 ey3
      refine lv_istore_n (lv' := [(2, .int y3), (0, .ref (a 0)), (1, .int p1), (3, .int v3)]) hx hb dX8_sheets_59 rfl hl (by decide) rfl (fun ls hl => ?_)
      refine lv_iinc (v := (v3 + nI 1)) (lv' := [(3, .int (v3 + nI 1)), (2, .int y3), (0, .ref (a 0)), (1, .int p1)]) hx hb dX8_sheets_60 hl (k := 3) rfl rfl (by decide) rfl (fun ls hl => ?_)
      refine lv_goto (tgt := 29) hx hb dX8_sheets_63 (by decide) ?_
      exact ih y3 (v3 + nI 1) hw ls (lv_sub hl [2, 3, 1, 0] rfl)
set_option maxHeartbeats 4000000 in
set_option maxRecDepth 100000 in
theorem c_X8_sheets (l : Launch) (D : va_G) (kI kC kB : ClassId) (a : AdT) (h_ : Nat → AdT) (z_snapshotTaken : Int32) (z_book_alphabet_out : Int32) (z_book_signing : Int32) (z_book_signs : RowT) (z_book_sizes : RowT) (z_book_lost : RowT) (z_book_pile : RowT) (z_snapshot_alphabet_out : Int32) (z_snapshot_signing : Int32) (z_snapshot_signs : RowT) (z_snapshot_sizes : RowT) (z_snapshot_lost : RowT) (z_snapshot_pile : RowT) (z_history : HistT) (z_text_characters : RowT) (z_text_firstSigns : RowT) (z_text_lastSigns : RowT) (z_text_numbers : RowT) (z_text_at : Int32) (z_text_allLetters_out : Int32) (z_writer_characters : RowT) (z_writer_entries : Int32) (z_found : RowT) (p1 : Int32) (Post : Int32 → Prop) (hw : wp_X8_sheets z_book_signs z_book_sizes p1 Post) : CR l D kI kC kB yX8_sheets cX8_sheets 4 (some .int) ({ frames := 2, cells := 0, slots := 0, locals := 40 } : Room) [.ref (a 0), .int p1] (cwQS kI kB a h_ z_snapshotTaken z_book_alphabet_out z_book_signing z_book_signs z_book_sizes z_book_lost z_book_pile z_snapshot_alphabet_out z_snapshot_signing z_snapshot_signs z_snapshot_sizes z_snapshot_lost z_snapshot_pile z_history z_text_characters z_text_firstSigns z_text_lastSigns z_text_numbers z_text_at z_text_allLetters_out z_writer_characters z_writer_entries z_found) Post := by
  refine entR (by decide) (Nat.le_of_ble_eq_true rfl) ?_
  intro p e s m args below meth c ls C hP hl
  replace hl : lv_has ls 4 [(0, .ref (a 0)), (1, .int p1)] := hl
  obtain ⟨hx, hb, hr, hml, hown, hts, hlocks, hK⟩ := id C
  refine lv_iload_n hx hb dX8_sheets_0 rfl (lv_at hl 1 rfl) ?_
  refine lv_iconst (v := (nI 2)) hx hb dX8_sheets_1 (by decide) ?_
  refine lv_icmp_eq (tgt := 25) hx hb dX8_sheets_2 (by decide) (fun hc => ?_) (fun hc => ?_)
  · replace hw := hw.1 hc
    refine lv_iconst (v := (nI 0)) hx hb dX8_sheets_25 (by decide) ?_
    refine lv_istore_n (lv' := [(2, .int (nI 0)), (0, .ref (a 0)), (1, .int p1)]) hx hb dX8_sheets_26 rfl hl (by decide) rfl (fun ls hl => ?_)
    refine lv_iconst (v := (nI 0)) hx hb dX8_sheets_27 (by decide) ?_
    refine lv_istore_n (lv' := [(3, .int (nI 0)), (2, .int (nI 0)), (0, .ref (a 0)), (1, .int p1)]) hx hb dX8_sheets_28 rfl hl (by decide) rfl (fun ls hl => ?_)
    obtain ⟨n9, hw⟩ := hw
    exact cl_X8_sheets_29 l D kI kC kB a h_ z_snapshotTaken z_book_alphabet_out z_book_signing z_book_signs z_book_sizes z_book_lost z_book_pile z_snapshot_alphabet_out z_snapshot_signing z_snapshot_signs z_snapshot_sizes z_snapshot_lost z_snapshot_pile z_history z_text_characters z_text_firstSigns z_text_lastSigns z_text_numbers z_text_at z_text_allLetters_out z_writer_characters z_writer_entries z_found p1 Post C hP n9 (nI 0) (nI 0) hw ls (lv_sub hl [2, 3, 1, 0] rfl)
  · replace hw := hw.2 hc
    refine lv_iload_n hx hb dX8_sheets_5 rfl (lv_at hl 1 rfl) ?_
    refine lv_iconst (v := (nI 4)) hx hb dX8_sheets_6 (by decide) ?_
    refine lv_icmp_eq (tgt := 25) hx hb dX8_sheets_7 (by decide) (fun hc => ?_) (fun hc => ?_)
    · replace hw := hw.1 hc
      refine lv_iconst (v := (nI 0)) hx hb dX8_sheets_25 (by decide) ?_
      refine lv_istore_n (lv' := [(2, .int (nI 0)), (0, .ref (a 0)), (1, .int p1)]) hx hb dX8_sheets_26 rfl hl (by decide) rfl (fun ls hl => ?_)
      refine lv_iconst (v := (nI 0)) hx hb dX8_sheets_27 (by decide) ?_
      refine lv_istore_n (lv' := [(3, .int (nI 0)), (2, .int (nI 0)), (0, .ref (a 0)), (1, .int p1)]) hx hb dX8_sheets_28 rfl hl (by decide) rfl (fun ls hl => ?_)
      obtain ⟨n9, hw⟩ := hw
      exact cl_X8_sheets_29 l D kI kC kB a h_ z_snapshotTaken z_book_alphabet_out z_book_signing z_book_signs z_book_sizes z_book_lost z_book_pile z_snapshot_alphabet_out z_snapshot_signing z_snapshot_signs z_snapshot_sizes z_snapshot_lost z_snapshot_pile z_history z_text_characters z_text_firstSigns z_text_lastSigns z_text_numbers z_text_at z_text_allLetters_out z_writer_characters z_writer_entries z_found p1 Post C hP n9 (nI 0) (nI 0) hw ls (lv_sub hl [2, 3, 1, 0] rfl)
    · replace hw := hw.2 hc
      refine lv_iload_n hx hb dX8_sheets_10 rfl (lv_at hl 1 rfl) ?_
      refine lv_bipush (v := (nI 8)) hx hb dX8_sheets_11 (by decide) ?_
      refine lv_icmp_eq (tgt := 25) hx hb dX8_sheets_13 (by decide) (fun hc => ?_) (fun hc => ?_)
      · replace hw := hw.1 hc
        refine lv_iconst (v := (nI 0)) hx hb dX8_sheets_25 (by decide) ?_
        refine lv_istore_n (lv' := [(2, .int (nI 0)), (0, .ref (a 0)), (1, .int p1)]) hx hb dX8_sheets_26 rfl hl (by decide) rfl (fun ls hl => ?_)
        refine lv_iconst (v := (nI 0)) hx hb dX8_sheets_27 (by decide) ?_
        refine lv_istore_n (lv' := [(3, .int (nI 0)), (2, .int (nI 0)), (0, .ref (a 0)), (1, .int p1)]) hx hb dX8_sheets_28 rfl hl (by decide) rfl (fun ls hl => ?_)
        obtain ⟨n9, hw⟩ := hw
        exact cl_X8_sheets_29 l D kI kC kB a h_ z_snapshotTaken z_book_alphabet_out z_book_signing z_book_signs z_book_sizes z_book_lost z_book_pile z_snapshot_alphabet_out z_snapshot_signing z_snapshot_signs z_snapshot_sizes z_snapshot_lost z_snapshot_pile z_history z_text_characters z_text_firstSigns z_text_lastSigns z_text_numbers z_text_at z_text_allLetters_out z_writer_characters z_writer_entries z_found p1 Post C hP n9 (nI 0) (nI 0) hw ls (lv_sub hl [2, 3, 1, 0] rfl)
      · replace hw := hw.2 hc
        refine lv_iload_n hx hb dX8_sheets_16 rfl (lv_at hl 1 rfl) ?_
        refine lv_bipush (v := (nI 12)) hx hb dX8_sheets_17 (by decide) ?_
        refine lv_icmp_eq (tgt := 25) hx hb dX8_sheets_19 (by decide) (fun hc => ?_) (fun hc => ?_)
        · replace hw := hw.1 hc
          refine lv_iconst (v := (nI 0)) hx hb dX8_sheets_25 (by decide) ?_
          refine lv_istore_n (lv' := [(2, .int (nI 0)), (0, .ref (a 0)), (1, .int p1)]) hx hb dX8_sheets_26 rfl hl (by decide) rfl (fun ls hl => ?_)
          refine lv_iconst (v := (nI 0)) hx hb dX8_sheets_27 (by decide) ?_
          refine lv_istore_n (lv' := [(3, .int (nI 0)), (2, .int (nI 0)), (0, .ref (a 0)), (1, .int p1)]) hx hb dX8_sheets_28 rfl hl (by decide) rfl (fun ls hl => ?_)
          obtain ⟨n9, hw⟩ := hw
          exact cl_X8_sheets_29 l D kI kC kB a h_ z_snapshotTaken z_book_alphabet_out z_book_signing z_book_signs z_book_sizes z_book_lost z_book_pile z_snapshot_alphabet_out z_snapshot_signing z_snapshot_signs z_snapshot_sizes z_snapshot_lost z_snapshot_pile z_history z_text_characters z_text_firstSigns z_text_lastSigns z_text_numbers z_text_at z_text_allLetters_out z_writer_characters z_writer_entries z_found p1 Post C hP n9 (nI 0) (nI 0) hw ls (lv_sub hl [2, 3, 1, 0] rfl)
        · replace hw := hw.2 hc
          refine lv_bipush (v := (-2)) hx hb dX8_sheets_22 (by decide) ?_
          exact retR C hw dX8_sheets_24
set_option maxHeartbeats 4000000 in
set_option maxRecDepth 100000 in
theorem c_X8_formula (l : Launch) (D : va_G) (kI kC kB : ClassId) (a : AdT) (h_ : Nat → AdT) (z_snapshotTaken : Int32) (z_book_alphabet_out : Int32) (z_book_signing : Int32) (z_book_signs : RowT) (z_book_sizes : RowT) (z_book_lost : RowT) (z_book_pile : RowT) (z_snapshot_alphabet_out : Int32) (z_snapshot_signing : Int32) (z_snapshot_signs : RowT) (z_snapshot_sizes : RowT) (z_snapshot_lost : RowT) (z_snapshot_pile : RowT) (z_history : HistT) (z_text_characters : RowT) (z_text_firstSigns : RowT) (z_text_lastSigns : RowT) (z_text_numbers : RowT) (z_text_at : Int32) (z_text_allLetters_out : Int32) (z_writer_characters : RowT) (z_writer_entries : Int32) (z_found : RowT) (sz : Nat) (p1 : Int32) (Post : Int32 → RowT → Int32 → Prop) (hw : wp_X8_formula z_book_alphabet_out z_book_signs z_book_sizes z_writer_characters z_writer_entries p1 Post) : CMi l D kI kC kB yX8_formula cX8_formula 2 (some .int) ({ frames := 6, cells := 0, slots := 0, locals := 133 } : Room) [.ref (a 0), .int p1] (cwQS kI kB a h_ z_snapshotTaken z_book_alphabet_out z_book_signing z_book_signs z_book_sizes z_book_lost z_book_pile z_snapshot_alphabet_out z_snapshot_signing z_snapshot_signs z_snapshot_sizes z_snapshot_lost z_snapshot_pile z_history z_text_characters z_text_firstSigns z_text_lastSigns z_text_numbers z_text_at z_text_allLetters_out z_writer_characters z_writer_entries z_found) sz (fun (r : Int32) (u : RowT × Int32) => Post r u.1 u.2) (fun u : RowT × Int32 => (cwQS kI kB a h_ z_snapshotTaken z_book_alphabet_out z_book_signing z_book_signs z_book_sizes z_book_lost z_book_pile z_snapshot_alphabet_out z_snapshot_signing z_snapshot_signs z_snapshot_sizes z_snapshot_lost z_snapshot_pile z_history z_text_characters z_text_firstSigns z_text_lastSigns z_text_numbers z_text_at z_text_allLetters_out u.1 u.2 z_found)) := by
  refine entMi (by decide) (Nat.le_of_ble_eq_true rfl) ?_
  intro p e s m args below meth c ls A C hA hP hD hS hl
  obtain ⟨H, hHe⟩ : ∃ H, H = s.heap := ⟨_, rfl⟩
  obtain ⟨locs, hlo⟩ : ∃ lo : List Loc, lo = [] := ⟨_, rfl⟩
  have hS : va_S A s.heap H locs := by rw [hHe, hlo]; exact hS
  rw [← hHe] at hP
  suffices hg : W p l e ({ frames := 6, cells := 0, slots := 0, locals := 133 } : Room) s m args below meth c H locs 0 0 (MQ below (va_Qi (fun (r : Int32) (u : RowT × Int32) => Post r u.1 u.2) (BB D A (fun u : RowT × Int32 => (cwQS kI kB a h_ z_snapshotTaken z_book_alphabet_out z_book_signing z_book_signs z_book_sizes z_book_lost z_book_pile z_snapshot_alphabet_out z_snapshot_signing z_snapshot_signs z_snapshot_sizes z_snapshot_lost z_snapshot_pile z_history z_text_characters z_text_firstSigns z_text_lastSigns z_text_numbers z_text_at z_text_allLetters_out u.1 u.2 z_found))) A) args s 0 0 A) (F0 m 0 ls []) by rw [hHe, hlo] at hg; exact hg
  replace hl : lv_has ls 2 [(0, .ref (a 0)), (1, .int p1)] := hl
  obtain ⟨hx, hb, hr, hml, hown, hts, hlocks, hK⟩ := id C
  refine lv_iload_n hx hb dX8_formula_0 rfl (lv_at hl 1 rfl) ?_
  refine lv_if_ge (tgt := 7) hx hb dX8_formula_1 (by decide) (fun hc => ?_) (fun hc => ?_)
  · replace hw := hw.1 hc
    refine lv_aload_n hx hb dX8_formula_7 rfl (lv_at hl 0 rfl) ?_
    refine va_get (D := D) (ci := 6) (v := .ref (a 33)) (C := RX8) (T := TX8) (N := 7) hx hb hts inX8 hown hK.1 hP 0 rfl rfl 5 (by decide) (hts _ tw_166) (fun _ h9 => h9) rfl dX8_formula_8 ?_
    refine lv_aload_n hx hb dX8_formula_11 rfl (lv_at hl 0 rfl) ?_
    refine va_get (D := D) (ci := 6) (v := .ref (a 1)) (C := RX8) (T := TX8) (N := 7) hx hb hts inX8 hown hK.1 hP 0 rfl rfl 0 (by decide) (hts _ tw_161) (fun _ h9 => h9) rfl dX8_formula_12 ?_
    refine kMBv (q0 := 0) (As := [.ref (a 1)]) (rest := []) (ws' := fun u : RowT × Int32 => (cwQS kI kB a h_ z_snapshotTaken z_book_alphabet_out z_book_signing z_book_signs z_book_sizes z_book_lost z_book_pile z_snapshot_alphabet_out z_snapshot_signing z_snapshot_signs z_snapshot_sizes z_snapshot_lost z_snapshot_pile z_history z_text_characters z_text_firstSigns z_text_lastSigns z_text_numbers z_text_at z_text_allLetters_out u.1 u.2 z_found)) C (c_X7_write l D kI kC kB (fun i => a (i + 33)) (fun i => a (i + 1)) z_writer_characters z_writer_entries z_book_alphabet_out z_book_signing z_book_signs z_book_sizes z_book_lost z_book_pile H.size _ hw) ⟨rfl, rfl⟩ ce_X7_write cv_X7_write tw_561 ⟨Nat.le_of_ble_eq_true rfl, Nat.le_of_ble_eq_true rfl⟩ hP hD hS hA (bfl_p2 [_, _, _, _, _, _, _, _] 6 1 rfl rfl) (fun u => (bfl_p2 [_, _, _, _, _, _, _, _] 6 1 rfl rfl)) rfl rfl rfl hl.1 rfl (Nat.le_of_ble_eq_true rfl) ⟨Nat.zero_le _, Nat.zero_le _⟩ dX8_formula_15 (fun u H locs hw hP hD hS => ?_)
    obtain ⟨u1, u2⟩ := u
    try dsimp only at hw
    replace hP : va_P D vwCl (cwQS kI kB a h_ z_snapshotTaken z_book_alphabet_out z_book_signing z_book_signs z_book_sizes z_book_lost z_book_pile z_snapshot_alphabet_out z_snapshot_signing z_snapshot_signs z_snapshot_sizes z_snapshot_lost z_snapshot_pile z_history z_text_characters z_text_firstSigns z_text_lastSigns z_text_numbers z_text_at z_text_allLetters_out u1 u2 z_found) H := hP
    replace hD : va_D A (cwQS kI kB a h_ z_snapshotTaken z_book_alphabet_out z_book_signing z_book_signs z_book_sizes z_book_lost z_book_pile z_snapshot_alphabet_out z_snapshot_signing z_snapshot_signs z_snapshot_sizes z_snapshot_lost z_snapshot_pile z_history z_text_characters z_text_firstSigns z_text_lastSigns z_text_numbers z_text_at z_text_allLetters_out u1 u2 z_found) := hD
    refine lv_iload_n hx hb dX8_formula_18 rfl (lv_at hl 1 rfl) ?_
    refine lv_aload_n hx hb dX8_formula_19 rfl (lv_at hl 0 rfl) ?_
    refine va_get (D := D) (ci := 6) (v := .ref (a 33)) (C := RX8) (T := TX8) (N := 7) hx hb hts inX8 hown hK.1 hP 0 rfl rfl 5 (by decide) (hts _ tw_166) (fun _ h9 => h9) rfl dX8_formula_20 ?_
    refine kRV (As := []) (rest := [.int p1]) (q0 := 73) C (c_X7_length l D kI kC kB (fun i => a (i + 33)) u1 u2 _ hw) ⟨rfl, rfl⟩ ce_X7_length cv_X7_length tw_588 ⟨Nat.le_of_ble_eq_true rfl, Nat.le_of_ble_eq_true rfl⟩ hP [73, 74, 75] rfl rfl rfl rfl hl.1 rfl (Nat.le_of_ble_eq_true rfl) ⟨Nat.zero_le _, Nat.zero_le _⟩ dX8_formula_23 (fun r3 hw => ?_)
    refine lv_icmp_ge (tgt := 40) hx hb dX8_formula_26 (by decide) (fun hc => ?_) (fun hc => ?_)
    · replace hw := hw.1 hc
      refine lv_bipush (v := (-5)) hx hb dX8_formula_40 (by decide) ?_
      exact retMi C (u1, u2) hw hP hD hS dX8_formula_42
    · replace hw := hw.2 hc
      refine lv_aload_n hx hb dX8_formula_29 rfl (lv_at hl 0 rfl) ?_
      refine va_get (D := D) (ci := 6) (v := .ref (a 33)) (C := RX8) (T := TX8) (N := 7) hx hb hts inX8 hown hK.1 hP 0 rfl rfl 5 (by decide) (hts _ tw_166) (fun _ h9 => h9) rfl dX8_formula_30 ?_
      refine lv_iload_n hx hb dX8_formula_33 rfl (lv_at hl 1 rfl) ?_
      refine kRV (As := [.int p1]) (rest := []) (q0 := 73) C (c_X7_characterAt l D kI kC kB (fun i => a (i + 33)) u1 u2 p1 _ hw) ⟨rfl, rfl⟩ ce_X7_characterAt cv_X7_characterAt tw_593 ⟨Nat.le_of_ble_eq_true rfl, Nat.le_of_ble_eq_true rfl⟩ hP [73, 74, 75] rfl rfl rfl rfl hl.1 rfl (Nat.le_of_ble_eq_true rfl) ⟨Nat.zero_le _, Nat.zero_le _⟩ dX8_formula_34 (fun r4 hw => ?_)
      refine lv_goto (tgt := 42) hx hb dX8_formula_37 (by decide) ?_
      exact retMi C (u1, u2) hw hP hD hS dX8_formula_42
  · replace hw := hw.2 hc
    refine lv_bipush (v := (-2)) hx hb dX8_formula_4 (by decide) ?_
    exact retMi C (z_writer_characters, z_writer_entries) hw hP hD hS dX8_formula_6
set_option maxHeartbeats 4000000 in
set_option maxRecDepth 100000 in
theorem c_X8_count (l : Launch) (D : va_G) (kI kC kB : ClassId) (a : AdT) (h_ : Nat → AdT) (z_snapshotTaken : Int32) (z_book_alphabet_out : Int32) (z_book_signing : Int32) (z_book_signs : RowT) (z_book_sizes : RowT) (z_book_lost : RowT) (z_book_pile : RowT) (z_snapshot_alphabet_out : Int32) (z_snapshot_signing : Int32) (z_snapshot_signs : RowT) (z_snapshot_sizes : RowT) (z_snapshot_lost : RowT) (z_snapshot_pile : RowT) (z_history : HistT) (z_text_characters : RowT) (z_text_firstSigns : RowT) (z_text_lastSigns : RowT) (z_text_numbers : RowT) (z_text_at : Int32) (z_text_allLetters_out : Int32) (z_writer_characters : RowT) (z_writer_entries : Int32) (z_found : RowT) (sz : Nat) (p1 : Int32) (Post : Int32 → RowT → Int32 → Prop) (hw : wp_X8_count z_book_alphabet_out z_book_signing z_book_signs z_book_sizes z_book_lost z_book_pile z_history z_text_characters z_writer_characters z_writer_entries p1 Post) : CMi l D kI kC kB yX8_count cX8_count 2 (some .int) ({ frames := 6, cells := 0, slots := 0, locals := 133 } : Room) [.ref (a 0), .int p1] (cwQS kI kB a h_ z_snapshotTaken z_book_alphabet_out z_book_signing z_book_signs z_book_sizes z_book_lost z_book_pile z_snapshot_alphabet_out z_snapshot_signing z_snapshot_signs z_snapshot_sizes z_snapshot_lost z_snapshot_pile z_history z_text_characters z_text_firstSigns z_text_lastSigns z_text_numbers z_text_at z_text_allLetters_out z_writer_characters z_writer_entries z_found) sz (fun (r : Int32) (u : RowT × Int32) => Post r u.1 u.2) (fun u : RowT × Int32 => (cwQS kI kB a h_ z_snapshotTaken z_book_alphabet_out z_book_signing z_book_signs z_book_sizes z_book_lost z_book_pile z_snapshot_alphabet_out z_snapshot_signing z_snapshot_signs z_snapshot_sizes z_snapshot_lost z_snapshot_pile z_history z_text_characters z_text_firstSigns z_text_lastSigns z_text_numbers z_text_at z_text_allLetters_out u.1 u.2 z_found)) := by
  refine entMi (by decide) (Nat.le_of_ble_eq_true rfl) ?_
  intro p e s m args below meth c ls A C hA hP hD hS hl
  obtain ⟨H, hHe⟩ : ∃ H, H = s.heap := ⟨_, rfl⟩
  obtain ⟨locs, hlo⟩ : ∃ lo : List Loc, lo = [] := ⟨_, rfl⟩
  have hS : va_S A s.heap H locs := by rw [hHe, hlo]; exact hS
  rw [← hHe] at hP
  suffices hg : W p l e ({ frames := 6, cells := 0, slots := 0, locals := 133 } : Room) s m args below meth c H locs 0 0 (MQ below (va_Qi (fun (r : Int32) (u : RowT × Int32) => Post r u.1 u.2) (BB D A (fun u : RowT × Int32 => (cwQS kI kB a h_ z_snapshotTaken z_book_alphabet_out z_book_signing z_book_signs z_book_sizes z_book_lost z_book_pile z_snapshot_alphabet_out z_snapshot_signing z_snapshot_signs z_snapshot_sizes z_snapshot_lost z_snapshot_pile z_history z_text_characters z_text_firstSigns z_text_lastSigns z_text_numbers z_text_at z_text_allLetters_out u.1 u.2 z_found))) A) args s 0 0 A) (F0 m 0 ls []) by rw [hHe, hlo] at hg; exact hg
  replace hl : lv_has ls 2 [(0, .ref (a 0)), (1, .int p1)] := hl
  obtain ⟨hx, hb, hr, hml, hown, hts, hlocks, hK⟩ := id C
  refine lv_iload_n hx hb dX8_count_0 rfl (lv_at hl 1 rfl) ?_
  by_cases hc0 : p1 = 0
  · replace hw := hw.1 hc0
    refine lv_tableIn (tgt := 68) (off := 67) hx hb dX8_count_1 (by rw [hc0]; decide) (by rw [hc0]; decide) (by rw [hc0]; rfl) (by decide) ?_
    refine lv_aload_n hx hb dX8_count_68 rfl (lv_at hl 0 rfl) ?_
    refine va_get (D := D) (ci := 6) (v := .ref (a 1)) (C := RX8) (T := TX8) (N := 7) hx hb hts inX8 hown hK.1 hP 0 rfl rfl 0 (by decide) (hts _ tw_161) (fun _ h9 => h9) rfl dX8_count_69 ?_
    refine kRV (As := []) (rest := []) (q0 := 1) C (c_X1_quires l D kI kC kB (fun i => a (i + 1)) z_book_alphabet_out z_book_signing z_book_signs z_book_sizes z_book_lost z_book_pile _ hw) ⟨rfl, rfl⟩ ce_X1_quires cv_X1_quires tw_330 ⟨Nat.le_of_ble_eq_true rfl, Nat.le_of_ble_eq_true rfl⟩ hP [1, 2, 3, 4, 5, 6, 7, 8, 9, 10] rfl rfl rfl rfl hl.1 rfl (Nat.le_of_ble_eq_true rfl) ⟨Nat.zero_le _, Nat.zero_le _⟩ dX8_count_72 (fun r1 hw => ?_)
    exact retMi C (z_writer_characters, z_writer_entries) hw hP hD hS dX8_count_75
  · replace hw := hw.2 hc0
    by_cases hc1 : p1 = 1
    · replace hw := hw.1 hc1
      refine lv_tableIn (tgt := 76) (off := 75) hx hb dX8_count_1 (by rw [hc1]; decide) (by rw [hc1]; decide) (by rw [hc1]; rfl) (by decide) ?_
      refine lv_aload_n hx hb dX8_count_76 rfl (lv_at hl 0 rfl) ?_
      refine va_get (D := D) (ci := 6) (v := .ref (a 1)) (C := RX8) (T := TX8) (N := 7) hx hb hts inX8 hown hK.1 hP 0 rfl rfl 0 (by decide) (hts _ tw_161) (fun _ h9 => h9) rfl dX8_count_77 ?_
      refine kRV (As := []) (rest := []) (q0 := 1) C (c_X1_leaves l D kI kC kB (fun i => a (i + 1)) z_book_alphabet_out z_book_signing z_book_signs z_book_sizes z_book_lost z_book_pile _ hw) ⟨rfl, rfl⟩ ce_X1_leaves cv_X1_leaves tw_391 ⟨Nat.le_of_ble_eq_true rfl, Nat.le_of_ble_eq_true rfl⟩ hP [1, 2, 3, 4, 5, 6, 7, 8, 9, 10] rfl rfl rfl rfl hl.1 rfl (Nat.le_of_ble_eq_true rfl) ⟨Nat.zero_le _, Nat.zero_le _⟩ dX8_count_80 (fun r2 hw => ?_)
      exact retMi C (z_writer_characters, z_writer_entries) hw hP hD hS dX8_count_83
    · replace hw := hw.2 hc1
      by_cases hc2 : p1 = 2
      · replace hw := hw.1 hc2
        refine lv_tableIn (tgt := 84) (off := 83) hx hb dX8_count_1 (by rw [hc2]; decide) (by rw [hc2]; decide) (by rw [hc2]; rfl) (by decide) ?_
        refine lv_aload_n hx hb dX8_count_84 rfl (lv_at hl 0 rfl) ?_
        refine va_get (D := D) (ci := 6) (v := .ref (a 1)) (C := RX8) (T := TX8) (N := 7) hx hb hts inX8 hown hK.1 hP 0 rfl rfl 0 (by decide) (hts _ tw_161) (fun _ h9 => h9) rfl dX8_count_85 ?_
        refine kRV (As := []) (rest := []) (q0 := 1) C (c_X1_leaves l D kI kC kB (fun i => a (i + 1)) z_book_alphabet_out z_book_signing z_book_signs z_book_sizes z_book_lost z_book_pile _ hw) ⟨rfl, rfl⟩ ce_X1_leaves cv_X1_leaves tw_391 ⟨Nat.le_of_ble_eq_true rfl, Nat.le_of_ble_eq_true rfl⟩ hP [1, 2, 3, 4, 5, 6, 7, 8, 9, 10] rfl rfl rfl rfl hl.1 rfl (Nat.le_of_ble_eq_true rfl) ⟨Nat.zero_le _, Nat.zero_le _⟩ dX8_count_88 (fun r3 hw => ?_)
        refine lv_aload_n hx hb dX8_count_91 rfl (lv_at hl 0 rfl) ?_
        refine va_get (D := D) (ci := 6) (v := .ref (a 1)) (C := RX8) (T := TX8) (N := 7) hx hb hts inX8 hown hK.1 hP 0 rfl rfl 0 (by decide) (hts _ tw_161) (fun _ h9 => h9) rfl dX8_count_92 ?_
        refine kRV (As := []) (rest := [.int r3]) (q0 := 1) C (c_X1_leavesThere l D kI kC kB (fun i => a (i + 1)) z_book_alphabet_out z_book_signing z_book_signs z_book_sizes z_book_lost z_book_pile _ hw) ⟨rfl, rfl⟩ ce_X1_leavesThere cv_X1_leavesThere tw_441 ⟨Nat.le_of_ble_eq_true rfl, Nat.le_of_ble_eq_true rfl⟩ hP [1, 2, 3, 4, 5, 6, 7, 8, 9, 10] rfl rfl rfl rfl hl.1 rfl (Nat.le_of_ble_eq_true rfl) ⟨Nat.zero_le _, Nat.zero_le _⟩ dX8_count_95 (fun r4 hw => ?_)
        refine lv_isub hx hb dX8_count_98 ?_
        exact retMi C (z_writer_characters, z_writer_entries) hw hP hD hS dX8_count_99
      · replace hw := hw.2 hc2
        by_cases hc3 : p1 = 3
        · replace hw := hw.1 hc3
          refine lv_tableIn (tgt := 100) (off := 99) hx hb dX8_count_1 (by rw [hc3]; decide) (by rw [hc3]; decide) (by rw [hc3]; rfl) (by decide) ?_
          refine lv_aload_n hx hb dX8_count_100 rfl (lv_at hl 0 rfl) ?_
          refine va_get (D := D) (ci := 6) (v := .ref (a 1)) (C := RX8) (T := TX8) (N := 7) hx hb hts inX8 hown hK.1 hP 0 rfl rfl 0 (by decide) (hts _ tw_161) (fun _ h9 => h9) rfl dX8_count_101 ?_
          refine kRV (As := []) (rest := []) (q0 := 1) C (c_X1_signedLeaves l D kI kC kB (fun i => a (i + 1)) z_book_alphabet_out z_book_signing z_book_signs z_book_sizes z_book_lost z_book_pile _ hw) ⟨rfl, rfl⟩ ce_X1_signedLeaves cv_X1_signedLeaves tw_244 ⟨Nat.le_of_ble_eq_true rfl, Nat.le_of_ble_eq_true rfl⟩ hP [1, 2, 3, 4, 5, 6, 7, 8, 9, 10] rfl rfl rfl rfl hl.1 rfl (Nat.le_of_ble_eq_true rfl) ⟨Nat.zero_le _, Nat.zero_le _⟩ dX8_count_104 (fun r5 hw => ?_)
          exact retMi C (z_writer_characters, z_writer_entries) hw hP hD hS dX8_count_107
        · replace hw := hw.2 hc3
          by_cases hc4 : p1 = 4
          · replace hw := hw.1 hc4
            refine lv_tableIn (tgt := 108) (off := 107) hx hb dX8_count_1 (by rw [hc4]; decide) (by rw [hc4]; decide) (by rw [hc4]; rfl) (by decide) ?_
            refine lv_aload_n hx hb dX8_count_108 rfl (lv_at hl 0 rfl) ?_
            refine va_get (D := D) (ci := 6) (v := .ref (a 1)) (C := RX8) (T := TX8) (N := 7) hx hb hts inX8 hown hK.1 hP 0 rfl rfl 0 (by decide) (hts _ tw_161) (fun _ h9 => h9) rfl dX8_count_109 ?_
            refine va_getN (D := D) (ci := 1) (v := .ref (a 2)) (C := RX1) (T := TX1) (N := 6) hx hb hts inX1 hown hK.1 hP 1 rfl rfl 0 (by decide) (va_Nw.use rfl (hK.2.1 _ nw_71)) (fun _ h9 => h9) rfl dX8_count_112 ?_
            refine kRV (As := []) (rest := []) (q0 := 2) C (c_X0_letters l D kI kC kB (fun i => a (i + 2)) z_book_alphabet_out _ hw) ⟨rfl, rfl⟩ ce_X0_letters cv_X0_letters tw_191 ⟨Nat.le_of_ble_eq_true rfl, Nat.le_of_ble_eq_true rfl⟩ hP [2] rfl rfl rfl rfl hl.1 rfl (Nat.le_of_ble_eq_true rfl) ⟨Nat.zero_le _, Nat.zero_le _⟩ dX8_count_115 (fun r6 hw => ?_)
            exact retMi C (z_writer_characters, z_writer_entries) hw hP hD hS dX8_count_118
          · replace hw := hw.2 hc4
            by_cases hc5 : p1 = 5
            · replace hw := hw.1 hc5
              refine lv_tableIn (tgt := 119) (off := 118) hx hb dX8_count_1 (by rw [hc5]; decide) (by rw [hc5]; decide) (by rw [hc5]; rfl) (by decide) ?_
              refine lv_aload_n hx hb dX8_count_119 rfl (lv_at hl 0 rfl) ?_
              refine va_get (D := D) (ci := 6) (v := .ref (a 1)) (C := RX8) (T := TX8) (N := 7) hx hb hts inX8 hown hK.1 hP 0 rfl rfl 0 (by decide) (hts _ tw_161) (fun _ h9 => h9) rfl dX8_count_120 ?_
              refine kRV (As := []) (rest := []) (q0 := 1) C (c_X1_starredQuires l D kI kC kB (fun i => a (i + 1)) z_book_alphabet_out z_book_signing z_book_signs z_book_sizes z_book_lost z_book_pile _ hw) ⟨rfl, rfl⟩ ce_X1_starredQuires cv_X1_starredQuires tw_601 ⟨Nat.le_of_ble_eq_true rfl, Nat.le_of_ble_eq_true rfl⟩ hP [1, 2, 3, 4, 5, 6, 7, 8, 9, 10] rfl rfl rfl rfl hl.1 rfl (Nat.le_of_ble_eq_true rfl) ⟨Nat.zero_le _, Nat.zero_le _⟩ dX8_count_123 (fun r7 hw => ?_)
              exact retMi C (z_writer_characters, z_writer_entries) hw hP hD hS dX8_count_126
            · replace hw := hw.2 hc5
              by_cases hc6 : p1 = 6
              · replace hw := hw.1 hc6
                refine lv_tableIn (tgt := 127) (off := 126) hx hb dX8_count_1 (by rw [hc6]; decide) (by rw [hc6]; decide) (by rw [hc6]; rfl) (by decide) ?_
                refine lv_aload_n hx hb dX8_count_127 rfl (lv_at hl 0 rfl) ?_
                refine va_get (D := D) (ci := 6) (v := .ref (a 1)) (C := RX8) (T := TX8) (N := 7) hx hb hts inX8 hown hK.1 hP 0 rfl rfl 0 (by decide) (hts _ tw_161) (fun _ h9 => h9) rfl dX8_count_128 ?_
                refine kRS (As := [.ref (a 1)]) (rest := []) C (c_X3_number l D kI kC kB (fun i => a (i + 1)) z_book_alphabet_out z_book_signing z_book_signs z_book_sizes z_book_lost z_book_pile _ hw) ⟨rfl, rfl⟩ ce_X3_number cv_X3_number tw_605 ⟨Nat.le_of_ble_eq_true rfl, Nat.le_of_ble_eq_true rfl⟩ hP [1, 2, 3, 4, 5, 6, 7, 8, 9, 10] rfl hl.1 rfl (Nat.le_of_ble_eq_true rfl) ⟨Nat.zero_le _, Nat.zero_le _⟩ dX8_count_131 (fun r8 hw => ?_)
                exact retMi C (z_writer_characters, z_writer_entries) hw hP hD hS dX8_count_134
              · replace hw := hw.2 hc6
                by_cases hc7 : p1 = 7
                · replace hw := hw.1 hc7
                  refine lv_tableIn (tgt := 135) (off := 134) hx hb dX8_count_1 (by rw [hc7]; decide) (by rw [hc7]; decide) (by rw [hc7]; rfl) (by decide) ?_
                  refine lv_aload_n hx hb dX8_count_135 rfl (lv_at hl 0 rfl) ?_
                  refine va_get (D := D) (ci := 6) (v := .ref (a 33)) (C := RX8) (T := TX8) (N := 7) hx hb hts inX8 hown hK.1 hP 0 rfl rfl 5 (by decide) (hts _ tw_166) (fun _ h9 => h9) rfl dX8_count_136 ?_
                  refine lv_aload_n hx hb dX8_count_139 rfl (lv_at hl 0 rfl) ?_
                  refine va_get (D := D) (ci := 6) (v := .ref (a 1)) (C := RX8) (T := TX8) (N := 7) hx hb hts inX8 hown hK.1 hP 0 rfl rfl 0 (by decide) (hts _ tw_161) (fun _ h9 => h9) rfl dX8_count_140 ?_
                  refine kMBv (q0 := 0) (As := [.ref (a 1)]) (rest := []) (ws' := fun u : RowT × Int32 => (cwQS kI kB a h_ z_snapshotTaken z_book_alphabet_out z_book_signing z_book_signs z_book_sizes z_book_lost z_book_pile z_snapshot_alphabet_out z_snapshot_signing z_snapshot_signs z_snapshot_sizes z_snapshot_lost z_snapshot_pile z_history z_text_characters z_text_firstSigns z_text_lastSigns z_text_numbers z_text_at z_text_allLetters_out u.1 u.2 z_found)) C (c_X7_write l D kI kC kB (fun i => a (i + 33)) (fun i => a (i + 1)) z_writer_characters z_writer_entries z_book_alphabet_out z_book_signing z_book_signs z_book_sizes z_book_lost z_book_pile H.size _ hw) ⟨rfl, rfl⟩ ce_X7_write cv_X7_write tw_561 ⟨Nat.le_of_ble_eq_true rfl, Nat.le_of_ble_eq_true rfl⟩ hP hD hS hA (bfl_p2 [_, _, _, _, _, _, _, _] 6 1 rfl rfl) (fun u => (bfl_p2 [_, _, _, _, _, _, _, _] 6 1 rfl rfl)) rfl rfl rfl hl.1 rfl (Nat.le_of_ble_eq_true rfl) ⟨Nat.zero_le _, Nat.zero_le _⟩ dX8_count_143 (fun u H locs hw hP hD hS => ?_)
                  obtain ⟨u9, u10⟩ := u
                  try dsimp only at hw
                  replace hP : va_P D vwCl (cwQS kI kB a h_ z_snapshotTaken z_book_alphabet_out z_book_signing z_book_signs z_book_sizes z_book_lost z_book_pile z_snapshot_alphabet_out z_snapshot_signing z_snapshot_signs z_snapshot_sizes z_snapshot_lost z_snapshot_pile z_history z_text_characters z_text_firstSigns z_text_lastSigns z_text_numbers z_text_at z_text_allLetters_out u9 u10 z_found) H := hP
                  replace hD : va_D A (cwQS kI kB a h_ z_snapshotTaken z_book_alphabet_out z_book_signing z_book_signs z_book_sizes z_book_lost z_book_pile z_snapshot_alphabet_out z_snapshot_signing z_snapshot_signs z_snapshot_sizes z_snapshot_lost z_snapshot_pile z_history z_text_characters z_text_firstSigns z_text_lastSigns z_text_numbers z_text_at z_text_allLetters_out u9 u10 z_found) := hD
                  refine lv_aload_n hx hb dX8_count_146 rfl (lv_at hl 0 rfl) ?_
                  refine va_get (D := D) (ci := 6) (v := .ref (a 33)) (C := RX8) (T := TX8) (N := 7) hx hb hts inX8 hown hK.1 hP 0 rfl rfl 5 (by decide) (hts _ tw_166) (fun _ h9 => h9) rfl dX8_count_147 ?_
                  refine kRV (As := []) (rest := []) (q0 := 73) C (c_X7_length l D kI kC kB (fun i => a (i + 33)) u9 u10 _ hw) ⟨rfl, rfl⟩ ce_X7_length cv_X7_length tw_588 ⟨Nat.le_of_ble_eq_true rfl, Nat.le_of_ble_eq_true rfl⟩ hP [73, 74, 75] rfl rfl rfl rfl hl.1 rfl (Nat.le_of_ble_eq_true rfl) ⟨Nat.zero_le _, Nat.zero_le _⟩ dX8_count_150 (fun r11 hw => ?_)
                  exact retMi C (u9, u10) hw hP hD hS dX8_count_153
                · replace hw := hw.2 hc7
                  by_cases hc8 : p1 = 8
                  · replace hw := hw.1 hc8
                    refine lv_tableIn (tgt := 154) (off := 153) hx hb dX8_count_1 (by rw [hc8]; decide) (by rw [hc8]; decide) (by rw [hc8]; rfl) (by decide) ?_
                    refine lv_aload_n hx hb dX8_count_154 rfl (lv_at hl 0 rfl) ?_
                    refine va_get (D := D) (ci := 6) (v := .ref (a 33)) (C := RX8) (T := TX8) (N := 7) hx hb hts inX8 hown hK.1 hP 0 rfl rfl 5 (by decide) (hts _ tw_166) (fun _ h9 => h9) rfl dX8_count_155 ?_
                    refine lv_aload_n hx hb dX8_count_158 rfl (lv_at hl 0 rfl) ?_
                    refine va_get (D := D) (ci := 6) (v := .ref (a 1)) (C := RX8) (T := TX8) (N := 7) hx hb hts inX8 hown hK.1 hP 0 rfl rfl 0 (by decide) (hts _ tw_161) (fun _ h9 => h9) rfl dX8_count_159 ?_
                    refine kMBv (q0 := 0) (As := [.ref (a 1)]) (rest := []) (ws' := fun u : RowT × Int32 => (cwQS kI kB a h_ z_snapshotTaken z_book_alphabet_out z_book_signing z_book_signs z_book_sizes z_book_lost z_book_pile z_snapshot_alphabet_out z_snapshot_signing z_snapshot_signs z_snapshot_sizes z_snapshot_lost z_snapshot_pile z_history z_text_characters z_text_firstSigns z_text_lastSigns z_text_numbers z_text_at z_text_allLetters_out u.1 u.2 z_found)) C (c_X7_write l D kI kC kB (fun i => a (i + 33)) (fun i => a (i + 1)) z_writer_characters z_writer_entries z_book_alphabet_out z_book_signing z_book_signs z_book_sizes z_book_lost z_book_pile H.size _ hw) ⟨rfl, rfl⟩ ce_X7_write cv_X7_write tw_561 ⟨Nat.le_of_ble_eq_true rfl, Nat.le_of_ble_eq_true rfl⟩ hP hD hS hA (bfl_p2 [_, _, _, _, _, _, _, _] 6 1 rfl rfl) (fun u => (bfl_p2 [_, _, _, _, _, _, _, _] 6 1 rfl rfl)) rfl rfl rfl hl.1 rfl (Nat.le_of_ble_eq_true rfl) ⟨Nat.zero_le _, Nat.zero_le _⟩ dX8_count_162 (fun u H locs hw hP hD hS => ?_)
                    obtain ⟨u12, u13⟩ := u
                    try dsimp only at hw
                    replace hP : va_P D vwCl (cwQS kI kB a h_ z_snapshotTaken z_book_alphabet_out z_book_signing z_book_signs z_book_sizes z_book_lost z_book_pile z_snapshot_alphabet_out z_snapshot_signing z_snapshot_signs z_snapshot_sizes z_snapshot_lost z_snapshot_pile z_history z_text_characters z_text_firstSigns z_text_lastSigns z_text_numbers z_text_at z_text_allLetters_out u12 u13 z_found) H := hP
                    replace hD : va_D A (cwQS kI kB a h_ z_snapshotTaken z_book_alphabet_out z_book_signing z_book_signs z_book_sizes z_book_lost z_book_pile z_snapshot_alphabet_out z_snapshot_signing z_snapshot_signs z_snapshot_sizes z_snapshot_lost z_snapshot_pile z_history z_text_characters z_text_firstSigns z_text_lastSigns z_text_numbers z_text_at z_text_allLetters_out u12 u13 z_found) := hD
                    refine lv_aload_n hx hb dX8_count_165 rfl (lv_at hl 0 rfl) ?_
                    refine va_get (D := D) (ci := 6) (v := .ref (a 33)) (C := RX8) (T := TX8) (N := 7) hx hb hts inX8 hown hK.1 hP 0 rfl rfl 5 (by decide) (hts _ tw_166) (fun _ h9 => h9) rfl dX8_count_166 ?_
                    refine kRV (As := []) (rest := []) (q0 := 73) C (c_X7_entries l D kI kC kB (fun i => a (i + 33)) u12 u13 _ hw) ⟨rfl, rfl⟩ ce_X7_entries cv_X7_entries tw_608 ⟨Nat.le_of_ble_eq_true rfl, Nat.le_of_ble_eq_true rfl⟩ hP [73, 74, 75] rfl rfl rfl rfl hl.1 rfl (Nat.le_of_ble_eq_true rfl) ⟨Nat.zero_le _, Nat.zero_le _⟩ dX8_count_169 (fun r14 hw => ?_)
                    exact retMi C (u12, u13) hw hP hD hS dX8_count_172
                  · replace hw := hw.2 hc8
                    by_cases hc9 : p1 = 9
                    · replace hw := hw.1 hc9
                      refine lv_tableIn (tgt := 173) (off := 172) hx hb dX8_count_1 (by rw [hc9]; decide) (by rw [hc9]; decide) (by rw [hc9]; rfl) (by decide) ?_
                      refine lv_aload_n hx hb dX8_count_173 rfl (lv_at hl 0 rfl) ?_
                      refine va_get (D := D) (ci := 6) (v := .ref (a 1)) (C := RX8) (T := TX8) (N := 7) hx hb hts inX8 hown hK.1 hP 0 rfl rfl 0 (by decide) (hts _ tw_161) (fun _ h9 => h9) rfl dX8_count_174 ?_
                      refine va_getN (D := D) (ci := 1) (v := .ref (a 9)) (C := RX1) (T := TX1) (N := 6) hx hb hts inX1 hown hK.1 hP 1 rfl rfl 5 (by decide) (va_Nw.use rfl (hK.2.1 _ nw_85)) (fun _ h9 => h9) rfl dX8_count_177 ?_
                      refine kRV (As := []) (rest := []) (q0 := 9) C (c_X4_length l D kI kC kB (fun i => a (i + 9)) z_book_pile _ hw) ⟨rfl, rfl⟩ ce_X4_length cv_X4_length tw_552 ⟨Nat.le_of_ble_eq_true rfl, Nat.le_of_ble_eq_true rfl⟩ hP [9, 10] rfl rfl rfl rfl hl.1 rfl (Nat.le_of_ble_eq_true rfl) ⟨Nat.zero_le _, Nat.zero_le _⟩ dX8_count_180 (fun r15 hw => ?_)
                      exact retMi C (z_writer_characters, z_writer_entries) hw hP hD hS dX8_count_183
                    · replace hw := hw.2 hc9
                      by_cases hc10 : p1 = 10
                      · replace hw := hw.1 hc10
                        refine lv_tableIn (tgt := 184) (off := 183) hx hb dX8_count_1 (by rw [hc10]; decide) (by rw [hc10]; decide) (by rw [hc10]; rfl) (by decide) ?_
                        refine lv_aload_n hx hb dX8_count_184 rfl (lv_at hl 0 rfl) ?_
                        refine va_get (D := D) (ci := 6) (v := .ref (a 1)) (C := RX8) (T := TX8) (N := 7) hx hb hts inX8 hown hK.1 hP 0 rfl rfl 0 (by decide) (hts _ tw_161) (fun _ h9 => h9) rfl dX8_count_185 ?_
                        refine va_getN (D := D) (ci := 1) (v := .int z_book_signing) (C := RX1) (T := TX1) (N := 6) hx hb hts inX1 hown hK.1 hP 1 rfl rfl 1 (by decide) (va_Nw.use rfl (hK.2.1 _ nw_75)) (fun _ h9 => h9) rfl dX8_count_188 ?_
                        exact retMi C (z_writer_characters, z_writer_entries) hw hP hD hS dX8_count_191
                      · replace hw := hw.2 hc10
                        by_cases hc11 : p1 = 11
                        · replace hw := hw.1 hc11
                          refine lv_tableIn (tgt := 192) (off := 191) hx hb dX8_count_1 (by rw [hc11]; decide) (by rw [hc11]; decide) (by rw [hc11]; rfl) (by decide) ?_
                          refine lv_aload_n hx hb dX8_count_192 rfl (lv_at hl 0 rfl) ?_
                          refine va_get (D := D) (ci := 6) (v := .ref (a 21)) (C := RX8) (T := TX8) (N := 7) hx hb hts inX8 hown hK.1 hP 0 rfl rfl 3 (by decide) (hts _ tw_164) (fun _ h9 => h9) rfl dX8_count_193 ?_
                          refine kRV (As := []) (rest := []) (q0 := 21) C (c_X2_states l D kI kC kB (fun i => a (i + 21)) h_ z_history _ hw) ⟨rfl, rfl⟩ ce_X2_states cv_X2_states tw_475 ⟨Nat.le_of_ble_eq_true rfl, Nat.le_of_ble_eq_true rfl⟩ hP [21, 22, 23, 24, 25, 26, 27, 28, 29, 30, 31, 32, 33, 34, 35, 36, 37, 38, 39, 40, 41, 42, 43, 44, 45, 46, 47, 48, 49, 50, 51, 52, 53, 54, 55, 56, 57, 58, 59, 60, 61, 62] rfl rfl rfl rfl hl.1 rfl (Nat.le_of_ble_eq_true rfl) ⟨Nat.zero_le _, Nat.zero_le _⟩ dX8_count_196 (fun r16 hw => ?_)
                          exact retMi C (z_writer_characters, z_writer_entries) hw hP hD hS dX8_count_199
                        · replace hw := hw.2 hc11
                          by_cases hc12 : p1 = 12
                          · replace hw := hw.1 hc12
                            refine lv_tableIn (tgt := 200) (off := 199) hx hb dX8_count_1 (by rw [hc12]; decide) (by rw [hc12]; decide) (by rw [hc12]; rfl) (by decide) ?_
                            refine lv_aload_n hx hb dX8_count_200 rfl (lv_at hl 0 rfl) ?_
                            refine va_get (D := D) (ci := 6) (v := .ref (a 23)) (C := RX8) (T := TX8) (N := 7) hx hb hts inX8 hown hK.1 hP 0 rfl rfl 4 (by decide) (hts _ tw_165) (fun _ h9 => h9) rfl dX8_count_201 ?_
                            refine kRV (As := []) (rest := []) (q0 := 63) C (c_X6_length l D kI kC kB (fun i => a (i + 23)) z_text_characters z_text_firstSigns z_text_lastSigns z_text_numbers z_text_at _ hw) ⟨rfl, rfl⟩ ce_X6_length cv_X6_length tw_455 ⟨Nat.le_of_ble_eq_true rfl, Nat.le_of_ble_eq_true rfl⟩ hP [63, 64, 65, 66, 67, 68, 69, 70, 71] rfl rfl rfl rfl hl.1 rfl (Nat.le_of_ble_eq_true rfl) ⟨Nat.zero_le _, Nat.zero_le _⟩ dX8_count_204 (fun r17 hw => ?_)
                            exact retMi C (z_writer_characters, z_writer_entries) hw hP hD hS dX8_count_207
                          · replace hw := hw.2 hc12
                            refine lv_tableOut (tgt := 208) hx hb dX8_count_1 (by have := lv_neT hc0 (a := 0) (by decide); have := lv_neT hc1 (a := 1) (by decide); have := lv_neT hc2 (a := 2) (by decide); have := lv_neT hc3 (a := 3) (by decide); have := lv_neT hc4 (a := 4) (by decide); have := lv_neT hc5 (a := 5) (by decide); have := lv_neT hc6 (a := 6) (by decide); have := lv_neT hc7 (a := 7) (by decide); have := lv_neT hc8 (a := 8) (by decide); have := lv_neT hc9 (a := 9) (by decide); have := lv_neT hc10 (a := 10) (by decide); have := lv_neT hc11 (a := 11) (by decide); have := lv_neT hc12 (a := 12) (by decide); omega) (by decide) ?_
                            refine lv_bipush (v := (-2)) hx hb dX8_count_208 (by decide) ?_
                            exact retMi C (z_writer_characters, z_writer_entries) hw hP hD hS dX8_count_210
