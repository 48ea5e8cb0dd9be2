/-! contracts, printed (gen.py) -/
theorem ce_X9_in : CE yX9_in cX9_in 3 (some .boolean) 3 := ⟨tw_735, tw_64, ⟨by decide, by decide⟩, ce_par (by decide +kernel)⟩
theorem cv_X9_in : Cond.static yX9_in ∈ gw := tw_734
theorem ce_X9_copies : CE yX9_copies cX9_copies 4 none 2 := ⟨tw_751, tw_64, ⟨by decide, by decide⟩, ce_par (by decide +kernel)⟩
theorem cv_X9_copies : CV yX9_copies := ⟨tw_750, tw_21⟩
theorem ce_X9_records : CE yX9_records cX9_records 2 none 0 := ⟨tw_747, tw_64, ⟨by decide, by decide⟩, ce_par (by decide +kernel)⟩
theorem cv_X9_records : CV yX9_records := ⟨tw_746, tw_20⟩
theorem ce_X9_isOut : CE yX9_isOut cX9_isOut 2 (some .boolean) 1 := ⟨tw_739, tw_64, ⟨by decide, by decide⟩, ce_par (by decide +kernel)⟩
theorem cv_X9_isOut : CV yX9_isOut := ⟨tw_738, tw_18⟩
theorem ce_X9_letters : CE yX9_letters cX9_letters 3 (some .int) 0 := ⟨tw_743, tw_64, ⟨by decide, by decide⟩, ce_par (by decide +kernel)⟩
theorem cv_X9_letters : CV yX9_letters := ⟨tw_742, tw_19⟩
theorem ce_X9_next : CE yX9_next cX9_next 3 (some .int) 1 := ⟨tw_810, tw_64, ⟨by decide, by decide⟩, ce_par (by decide +kernel)⟩
theorem cv_X9_next : CV yX9_next := ⟨tw_809, tw_32⟩
theorem ce_X9_of : CE yX9_of cX9_of 2 (some .int) 2 := ⟨tw_766, tw_64, ⟨by decide, by decide⟩, ce_par (by decide +kernel)⟩
theorem cv_X9_of : Cond.static yX9_of ∈ gw := tw_765
theorem ce_X9_isStarred : CE yX9_isStarred cX9_isStarred 2 (some .boolean) 1 := ⟨tw_802, tw_64, ⟨by decide, by decide⟩, ce_par (by decide +kernel)⟩
theorem cv_X9_isStarred : CV yX9_isStarred := ⟨tw_801, tw_30⟩
theorem ce_X9_sign : CE yX9_sign cX9_sign 2 (some .int) 1 := ⟨tw_806, tw_64, ⟨by decide, by decide⟩, ce_par (by decide +kernel)⟩
theorem cv_X9_sign : CV yX9_sign := ⟨tw_805, tw_31⟩
theorem ce_X9_areSame : CE yX9_areSame cX9_areSame 3 (some .boolean) 2 := ⟨tw_894, tw_64, ⟨by decide, by decide⟩, ce_par (by decide +kernel)⟩
theorem cv_X9_areSame : CV yX9_areSame := ⟨tw_893, tw_43⟩
theorem ce_X9_isQuire : CE yX9_isQuire cX9_isQuire 2 (some .boolean) 1 := ⟨tw_826, tw_64, ⟨by decide, by decide⟩, ce_par (by decide +kernel)⟩
theorem cv_X9_isQuire : CV yX9_isQuire := ⟨tw_825, tw_34⟩
theorem ce_X9_leaves : CE yX9_leaves cX9_leaves 3 (some .int) 0 := ⟨tw_818, tw_64, ⟨by decide, by decide⟩, ce_par (by decide +kernel)⟩
theorem cv_X9_leaves : CV yX9_leaves := ⟨tw_817, tw_33⟩
theorem ce_X9_first : CE yX9_first cX9_first 4 (some .int) 1 := ⟨tw_846, tw_64, ⟨by decide, by decide⟩, ce_par (by decide +kernel)⟩
theorem cv_X9_first : CV yX9_first := ⟨tw_845, tw_38⟩
theorem ce_X9_signed : CE yX9_signed cX9_signed 4 (some .int) 1 := ⟨tw_763, tw_64, ⟨by decide, by decide⟩, ce_par (by decide +kernel)⟩
theorem cv_X9_signed : CV yX9_signed := ⟨tw_762, tw_23⟩
theorem ce_X9_signedOfAll : CE yX9_signedOfAll cX9_signedOfAll 3 (some .int) 0 := ⟨tw_759, tw_64, ⟨by decide, by decide⟩, ce_par (by decide +kernel)⟩
theorem cv_X9_signedOfAll : CV yX9_signedOfAll := ⟨tw_758, tw_22⟩
theorem ce_X9_isLeaf : CE yX9_isLeaf cX9_isLeaf 2 (some .boolean) 1 := ⟨tw_834, tw_64, ⟨by decide, by decide⟩, ce_par (by decide +kernel)⟩
theorem cv_X9_isLeaf : CV yX9_isLeaf := ⟨tw_833, tw_35⟩
theorem ce_X9_quireOf : CE yX9_quireOf cX9_quireOf 3 (some .int) 1 := ⟨tw_842, tw_64, ⟨by decide, by decide⟩, ce_par (by decide +kernel)⟩
theorem cv_X9_quireOf : CV yX9_quireOf := ⟨tw_841, tw_37⟩
theorem ce_X9_isLost : CE yX9_isLost cX9_isLost 3 (some .boolean) 1 := ⟨tw_838, tw_64, ⟨by decide, by decide⟩, ce_par (by decide +kernel)⟩
theorem cv_X9_isLost : CV yX9_isLost := ⟨tw_837, tw_36⟩
theorem ce_X9_there : CE yX9_there cX9_there 4 (some .int) 1 := ⟨tw_854, tw_64, ⟨by decide, by decide⟩, ce_par (by decide +kernel)⟩
theorem cv_X9_there : CV yX9_there := ⟨tw_853, tw_40⟩
theorem ce_X9_thereOfAll : CE yX9_thereOfAll cX9_thereOfAll 3 (some .int) 0 := ⟨tw_850, tw_64, ⟨by decide, by decide⟩, ce_par (by decide +kernel)⟩
theorem cv_X9_thereOfAll : CV yX9_thereOfAll := ⟨tw_849, tw_39⟩
theorem ce_X9_puts : CE yX9_puts cX9_puts 7 none 4 := ⟨tw_794, tw_64, ⟨by decide, by decide⟩, ce_par (by decide +kernel)⟩
theorem cv_X9_puts : CV yX9_puts := ⟨tw_793, tw_29⟩
theorem ce_X9_leaveOut : CE yX9_leaveOut cX9_leaveOut 3 (some .int) 2 := ⟨tw_732, tw_64, ⟨by decide, by decide⟩, ce_par (by decide +kernel)⟩
theorem cv_X9_leaveOut : CV yX9_leaveOut := ⟨tw_730, tw_731⟩
theorem ce_X9_setSigning : CE yX9_setSigning cX9_setSigning 2 (some .int) 1 := ⟨tw_755, tw_64, ⟨by decide, by decide⟩, ce_par (by decide +kernel)⟩
theorem cv_X9_setSigning : CV yX9_setSigning := ⟨tw_753, tw_754⟩
theorem ce_X9_isNext : CE yX9_isNext cX9_isNext 3 (some .boolean) 2 := ⟨tw_786, tw_64, ⟨by decide, by decide⟩, ce_par (by decide +kernel)⟩
theorem cv_X9_isNext : CV yX9_isNext := ⟨tw_785, tw_27⟩
theorem ce_X9_reads : CE yX9_reads cX9_reads 2 none 1 := ⟨tw_782, tw_64, ⟨by decide, by decide⟩, ce_par (by decide +kernel)⟩
theorem cv_X9_reads : CV yX9_reads := ⟨tw_781, tw_26⟩
theorem ce_X9_number : CE yX9_number cX9_number 2 (some .int) 0 := ⟨tw_790, tw_64, ⟨by decide, by decide⟩, ce_par (by decide +kernel)⟩
theorem cv_X9_number : CV yX9_number := ⟨tw_789, tw_28⟩
theorem ce_X9_item : CE yX9_item cX9_item 3 none 1 := ⟨tw_778, tw_64, ⟨by decide, by decide⟩, ce_par (by decide +kernel)⟩
theorem cv_X9_item : CV yX9_item := ⟨tw_777, tw_25⟩
theorem ce_X9_fault : CE yX9_fault cX9_fault 3 (some .int) 1 := ⟨tw_774, tw_64, ⟨by decide, by decide⟩, ce_par (by decide +kernel)⟩
theorem cv_X9_fault : CV yX9_fault := ⟨tw_773, tw_24⟩
theorem ce_X9_readFormula : CE yX9_readFormula cX9_readFormula 5 (some .int) 0 := ⟨tw_770, tw_64, ⟨by decide, by decide⟩, ce_par (by decide +kernel)⟩
theorem cv_X9_readFormula : CV yX9_readFormula := ⟨tw_768, tw_769⟩
theorem ce_X9_signNext : CE yX9_signNext cX9_signNext 4 (some .int) 1 := ⟨tw_798, tw_64, ⟨by decide, by decide⟩, ce_par (by decide +kernel)⟩
theorem cv_X9_signNext : CV yX9_signNext := ⟨tw_796, tw_797⟩
theorem ce_X9_insert : CE yX9_insert cX9_insert 4 (some .int) 3 := ⟨tw_814, tw_64, ⟨by decide, by decide⟩, ce_par (by decide +kernel)⟩
theorem cv_X9_insert : CV yX9_insert := ⟨tw_812, tw_813⟩
theorem ce_X9_remove : CE yX9_remove cX9_remove 4 (some .int) 1 := ⟨tw_822, tw_64, ⟨by decide, by decide⟩, ce_par (by decide +kernel)⟩
theorem cv_X9_remove : CV yX9_remove := ⟨tw_820, tw_821⟩
theorem ce_X9_lose : CE yX9_lose cX9_lose 4 (some .int) 2 := ⟨tw_830, tw_64, ⟨by decide, by decide⟩, ce_par (by decide +kernel)⟩
theorem cv_X9_lose : CV yX9_lose := ⟨tw_828, tw_829⟩
theorem ce_X9_found : CE yX9_found cX9_found 4 (some .int) 1 := ⟨tw_862, tw_64, ⟨by decide, by decide⟩, ce_par (by decide +kernel)⟩
theorem cv_X9_found : CV yX9_found := ⟨tw_861, tw_41⟩
theorem ce_X9_readPile : CE yX9_readPile cX9_readPile 5 (some .int) 0 := ⟨tw_858, tw_64, ⟨by decide, by decide⟩, ce_par (by decide +kernel)⟩
theorem cv_X9_readPile : CV yX9_readPile := ⟨tw_856, tw_857⟩
theorem ce_X9_type : CE yX9_type cX9_type 2 (some .int) 1 := ⟨tw_866, tw_64, ⟨by decide, by decide⟩, ce_par (by decide +kernel)⟩
theorem cv_X9_type : CV yX9_type := ⟨tw_864, tw_865⟩
theorem ce_X9_clearText : CE yX9_clearText cX9_clearText 2 (some .int) 0 := ⟨tw_870, tw_64, ⟨by decide, by decide⟩, ce_par (by decide +kernel)⟩
theorem cv_X9_clearText : CV yX9_clearText := ⟨tw_868, tw_869⟩
theorem ce_X9_undo : CE yX9_undo cX9_undo 1 (some .int) 0 := ⟨tw_874, tw_64, ⟨by decide, by decide⟩, ce_par (by decide +kernel)⟩
theorem cv_X9_undo : CV yX9_undo := ⟨tw_872, tw_873⟩
theorem ce_X9_keep : CE yX9_keep cX9_keep 1 (some .int) 0 := ⟨tw_878, tw_64, ⟨by decide, by decide⟩, ce_par (by decide +kernel)⟩
theorem cv_X9_keep : CV yX9_keep := ⟨tw_876, tw_877⟩
theorem ce_X9_restore : CE yX9_restore cX9_restore 1 (some .int) 0 := ⟨tw_882, tw_64, ⟨by decide, by decide⟩, ce_par (by decide +kernel)⟩
theorem cv_X9_restore : CV yX9_restore := ⟨tw_880, tw_881⟩
theorem ce_X9_sameAhead : CE yX9_sameAhead cX9_sameAhead 4 (some .int) 1 := ⟨tw_890, tw_64, ⟨by decide, by decide⟩, ce_par (by decide +kernel)⟩
theorem cv_X9_sameAhead : CV yX9_sameAhead := ⟨tw_889, tw_42⟩
theorem ce_X9_quire : CE yX9_quire cX9_quire 3 (some .int) 2 := ⟨tw_886, tw_64, ⟨by decide, by decide⟩, ce_par (by decide +kernel)⟩
theorem cv_X9_quire : CV yX9_quire := ⟨tw_884, tw_885⟩
theorem ce_X9_thereAhead : CE yX9_thereAhead cX9_thereAhead 4 (some .int) 1 := ⟨tw_902, tw_64, ⟨by decide, by decide⟩, ce_par (by decide +kernel)⟩
theorem cv_X9_thereAhead : CV yX9_thereAhead := ⟨tw_901, tw_44⟩
theorem ce_X9_leaf : CE yX9_leaf cX9_leaf 6 (some .int) 2 := ⟨tw_898, tw_64, ⟨by decide, by decide⟩, ce_par (by decide +kernel)⟩
theorem cv_X9_leaf : CV yX9_leaf := ⟨tw_896, tw_897⟩
theorem ce_X9_find : CE yX9_find cX9_find 3 (some .int) 0 := ⟨tw_906, tw_64, ⟨by decide, by decide⟩, ce_par (by decide +kernel)⟩
theorem cv_X9_find : CV yX9_find := ⟨tw_904, tw_905⟩
theorem ce_X9_before : CE yX9_before cX9_before 4 (some .int) 1 := ⟨tw_918, tw_64, ⟨by decide, by decide⟩, ce_par (by decide +kernel)⟩
theorem cv_X9_before : CV yX9_before := ⟨tw_917, tw_46⟩
theorem ce_X9_isLapse : CE yX9_isLapse cX9_isLapse 3 (some .boolean) 1 := ⟨tw_914, tw_64, ⟨by decide, by decide⟩, ce_par (by decide +kernel)⟩
theorem cv_X9_isLapse : CV yX9_isLapse := ⟨tw_913, tw_45⟩
theorem ce_X9_between : CE yX9_between cX9_between 5 (some .int) 2 := ⟨tw_922, tw_64, ⟨by decide, by decide⟩, ce_par (by decide +kernel)⟩
theorem cv_X9_between : CV yX9_between := ⟨tw_921, tw_47⟩
theorem ce_X9_lapse : CE yX9_lapse cX9_lapse 8 (some .int) 2 := ⟨tw_910, tw_64, ⟨by decide, by decide⟩, ce_par (by decide +kernel)⟩
theorem cv_X9_lapse : CV yX9_lapse := ⟨tw_908, tw_909⟩
theorem ce_X9_isPiled : CE yX9_isPiled cX9_isPiled 4 (some .boolean) 1 := ⟨tw_930, tw_64, ⟨by decide, by decide⟩, ce_par (by decide +kernel)⟩
theorem cv_X9_isPiled : CV yX9_isPiled := ⟨tw_929, tw_48⟩
theorem ce_X9_piled : CE yX9_piled cX9_piled 7 (some .int) 2 := ⟨tw_926, tw_64, ⟨by decide, by decide⟩, ce_par (by decide +kernel)⟩
theorem cv_X9_piled : CV yX9_piled := ⟨tw_924, tw_925⟩
theorem ce_X9_sheets : CE yX9_sheets cX9_sheets 4 (some .int) 1 := ⟨tw_934, tw_64, ⟨by decide, by decide⟩, ce_par (by decide +kernel)⟩
theorem cv_X9_sheets : CV yX9_sheets := ⟨tw_932, tw_933⟩
theorem ce_X9_writes : CE yX9_writes cX9_writes 2 none 1 := ⟨tw_950, tw_64, ⟨by decide, by decide⟩, ce_par (by decide +kernel)⟩
theorem cv_X9_writes : CV yX9_writes := ⟨tw_949, tw_51⟩
theorem ce_X9_writesSign : CE yX9_writesSign cX9_writesSign 3 none 1 := ⟨tw_954, tw_64, ⟨by decide, by decide⟩, ce_par (by decide +kernel)⟩
theorem cv_X9_writesSign : CV yX9_writesSign := ⟨tw_953, tw_52⟩
theorem ce_X9_goesOn : CE yX9_goesOn cX9_goesOn 3 (some .boolean) 1 := ⟨tw_946, tw_64, ⟨by decide, by decide⟩, ce_par (by decide +kernel)⟩
theorem cv_X9_goesOn : CV yX9_goesOn := ⟨tw_945, tw_50⟩
theorem ce_X9_lays : CE yX9_lays cX9_lays 4 none 0 := ⟨tw_942, tw_64, ⟨by decide, by decide⟩, ce_par (by decide +kernel)⟩
theorem cv_X9_lays : CV yX9_lays := ⟨tw_941, tw_49⟩
theorem ce_X9_formula : CE yX9_formula cX9_formula 2 (some .int) 1 := ⟨tw_938, tw_64, ⟨by decide, by decide⟩, ce_par (by decide +kernel)⟩
theorem cv_X9_formula : CV yX9_formula := ⟨tw_936, tw_937⟩
theorem ce_X9_starred : CE yX9_starred cX9_starred 3 (some .int) 0 := ⟨tw_962, tw_64, ⟨by decide, by decide⟩, ce_par (by decide +kernel)⟩
theorem cv_X9_starred : CV yX9_starred := ⟨tw_961, tw_53⟩
theorem ce_X9_lapses : CE yX9_lapses cX9_lapses 3 (some .int) 0 := ⟨tw_966, tw_64, ⟨by decide, by decide⟩, ce_par (by decide +kernel)⟩
theorem cv_X9_lapses : CV yX9_lapses := ⟨tw_965, tw_54⟩
theorem ce_X9_count : CE yX9_count cX9_count 2 (some .int) 1 := ⟨tw_958, tw_64, ⟨by decide, by decide⟩, ce_par (by decide +kernel)⟩
theorem cv_X9_count : CV yX9_count := ⟨tw_956, tw_957⟩
set_option maxHeartbeats 4000000 in
set_option maxRecDepth 100000 in
theorem c_X9_in (l : Launch) (D : va_G) (kI kC kB : ClassId)  (p1 : Int32) (p2 : Int32) (p3 : Int32) (Post : Int32 → Prop) (hw : wp_X9_in p1 p2 p3 Post) : CR l D kI kC kB yX9_in cX9_in 3 (some .boolean) ({ frames := 0, cells := 0, slots := 0, locals := 0 } : Room) [.int p1, .int p2, .int p3] ([] : va_W) Post := by
  refine entR (by decide) (Nat.le_of_ble_eq_true rfl) ?_
  intro p e s m args below meth c ls C hP hl
  replace hl : lv_has ls 3 [(0, .int p1), (1, .int p2), (2, .int p3)] := hl
  obtain ⟨hx, hb, hr, hml, hown, hts, hlocks, hK⟩ := id C
  refine lv_iload_n hx hb dX9_in_0 rfl (lv_at hl 0 rfl) ?_
  refine lv_iload_n hx hb dX9_in_1 rfl (lv_at hl 1 rfl) ?_
  refine lv_icmp_lt (tgt := 14) hx hb dX9_in_2 (by decide) (fun hc => ?_) (fun hc => ?_)
  · replace hw := hw.1 hc
    refine lv_iconst (v := (nI 0)) hx hb dX9_in_14 (by decide) ?_
    exact retRz C (by decide) hw dX9_in_15
  · replace hw := hw.2 hc
    refine lv_iload_n hx hb dX9_in_5 rfl (lv_at hl 0 rfl) ?_
    refine lv_iload_n hx hb dX9_in_6 rfl (lv_at hl 2 rfl) ?_
    refine lv_icmp_gt (tgt := 14) hx hb dX9_in_7 (by decide) (fun hc => ?_) (fun hc => ?_)
    · replace hw := hw.1 hc
      refine lv_iconst (v := (nI 0)) hx hb dX9_in_14 (by decide) ?_
      exact retRz C (by decide) hw dX9_in_15
    · replace hw := hw.2 hc
      refine lv_iconst (v := (nI 1)) hx hb dX9_in_10 (by decide) ?_
      refine lv_goto (tgt := 15) hx hb dX9_in_11 (by decide) ?_
      exact retRz C (by decide) hw dX9_in_15
set_option maxHeartbeats 4000000 in
set_option maxRecDepth 100000 in
theorem cl_X9_copies_2 (l : Launch) (D : va_G) (kI kC kB : ClassId) (a : AdT) (z_text : Nat → Int32) (z_told : Nat → Int32) (z_formula : Nat → Int32) (z_states : Int32) (z_isKept : Int32) (z_typed : Int32) (z_at : Int32) (z_isRight : Int32) (z_times : Int32) (z_letter : Int32) (z_items : Int32) (z_length : Int32) (z_entries : Int32) (p1 : Int32) (p2 : Int32) (Post : (Nat → Int32) → Prop) {p : Program} {e : Env} {s : State} {m : MethodId} {args : Array Value} {below : List Frame} {meth : Method} {c : Code} {A : Nat → Prop} (hA : ∀ q : Nat, s.heap.size ≤ q → A q) (C : CtxT p s m args meth c cX9_copies 4 none yX9_copies.cls D kI kC kB) : ∀ (n : Nat), ∀ (z_s : Nat → Int32) (v3 : Int32), wl_X9_copies_2 p1 p2 Post n z_s v3 → ∀ (H : Heap) (locs : List Loc), va_P D vwCl (cwModel kI kC a z_s z_text z_told z_formula z_states z_isKept z_typed z_at z_isRight z_times z_letter z_items z_length z_entries) H → va_D A (cwModel kI kC a z_s z_text z_told z_formula z_states z_isKept z_typed z_at z_isRight z_times z_letter z_items z_length z_entries) → va_S A s.heap H locs → ∀ (ls : Array Slot), lv_has ls 4 [(0, .ref (a 0)), (1, .int p1), (2, .int p2), (3, .int v3)] → W p l e ({ frames := 0, cells := 0, slots := 0, locals := 0 } : Room) s m args below meth c H locs 0 0 (MQ below (va_Qv (fun (u : (Nat → Int32)) => Post u) (BB D A (fun u : (Nat → Int32) => (cwModel kI kC a u z_text z_told z_formula z_states z_isKept z_typed z_at z_isRight z_times z_letter z_items z_length z_entries))) A) args s 0 0 A) (F0 m 2 ls []) := by
  obtain ⟨hx, hb, hr, hml, hown, hts, hlocks, hK⟩ := id C
  intro n
  induction n with
  | zero => intro z_s v3 hw; exact hw.elim
  | succ n ih =>
    intro z_s v3 hw H locs hP hD hS ls hl
    refine lv_iload_n hx hb dX9_copies_2 rfl (lv_at hl 3 rfl) ?_
    refine lv_sipush (v := (nI 176)) hx hb dX9_copies_3 (by decide) ?_
    refine lv_icmp_ge (tgt := 39) hx hb dX9_copies_6 (by decide) (fun hc => ?_) (fun hc => ?_)
    · replace hw := hw.1 hc
      exact retMv C (z_s) hw hP hD hS dX9_copies_39
    · replace hw := hw.2 hc
      refine lv_aload_n hx hb dX9_copies_9 rfl (lv_at hl 0 rfl) ?_
      refine va_get (D := D) (ci := 7) (v := .ref (a 1)) (C := RX9) (T := TX9) (N := 14) hx hb hts inX9 hown hK.1 hP 0 rfl rfl 0 (by decide) (hts _ tw_685) (fun _ h9 => h9) rfl dX9_copies_10 ?_
      refine lv_sipush (v := (nI 176)) hx hb dX9_copies_13 (by decide) ?_
      refine lv_iload_n hx hb dX9_copies_16 rfl (lv_at hl 2 rfl) ?_
      refine lv_imul hx hb dX9_copies_17 ?_
      refine lv_iload_n hx hb dX9_copies_18 rfl (lv_at hl 3 rfl) ?_
      refine lv_iadd hx hb dX9_copies_19 ?_
      refine lv_aload_n hx hb dX9_copies_20 rfl (lv_at hl 0 rfl) ?_
      refine va_get (D := D) (ci := 7) (v := .ref (a 1)) (C := RX9) (T := TX9) (N := 14) hx hb hts inX9 hown hK.1 hP 0 rfl rfl 0 (by decide) (hts _ tw_685) (fun _ h9 => h9) rfl dX9_copies_21 ?_
      refine lv_sipush (v := (nI 176)) hx hb dX9_copies_24 (by decide) ?_
      refine lv_iload_n hx hb dX9_copies_27 rfl (lv_at hl 1 rfl) ?_
      refine lv_imul hx hb dX9_copies_28 ?_
      refine lv_iload_n hx hb dX9_copies_29 rfl (lv_at hl 3 rfl) ?_
      refine lv_iadd hx hb dX9_copies_30 ?_
      have hin := hw.1
      replace hw := hw.2
      refine va_iald hx hb hK.1 hP 1 0 rfl rfl hin dX9_copies_31 ?_
      have hin := hw.1
      replace hw := hw.2
      refine va_iast hx hb hK.1 hP hD hS 1 0 rfl rfl hin dX9_copies_32 (fun H locs hP hD hS => ?_)
      replace hP : va_P D vwCl (cwModel kI kC a (upd z_s (((nI 176) * p2) + v3).toNatClampNeg (z_s (((nI 176) * p1) + v3).toNatClampNeg)) z_text z_told z_formula z_states z_isKept z_typed z_at z_isRight z_times z_letter z_items z_length z_entries) H := hP
      replace hD : va_D A (cwModel kI kC a (upd z_s (((nI 176) * p2) + v3).toNatClampNeg (z_s (((nI 176) * p1) + v3).toNatClampNeg)) z_text z_told z_formula z_states z_isKept z_typed z_at z_isRight z_times z_letter z_items z_length z_entries) := hD
      refine lv_iinc (v := (v3 + nI 1)) (lv' := [(3, .int (v3 + nI 1)), (0, .ref (a 0)), (1, .int p1), (2, .int p2)]) hx hb dX9_copies_33 hl (k := 3) rfl rfl (by decide) rfl (fun ls hl => ?_)
      refine lv_goto (tgt := 2) hx hb dX9_copies_36 (by decide) ?_
      exact ih (upd z_s (((nI 176) * p2) + v3).toNatClampNeg (z_s (((nI 176) * p1) + v3).toNatClampNeg)) (v3 + nI 1) hw H locs hP hD hS ls (lv_sub hl [1, 2, 3, 0] rfl)
set_option maxHeartbeats 4000000 in
set_option maxRecDepth 100000 in
theorem c_X9_copies (l : Launch) (D : va_G) (kI kC kB : ClassId) (a : AdT) (z_s : Nat → Int32) (z_text : Nat → Int32) (z_told : Nat → Int32) (z_formula : Nat → Int32) (z_states : Int32) (z_isKept : Int32) (z_typed : Int32) (z_at : Int32) (z_isRight : Int32) (z_times : Int32) (z_letter : Int32) (z_items : Int32) (z_length : Int32) (z_entries : Int32) (sz : Nat) (p1 : Int32) (p2 : Int32) (Post : (Nat → Int32) → Prop) (hw : wp_X9_copies z_s p1 p2 Post) : CMv l D kI kC kB yX9_copies cX9_copies 4 none ({ frames := 0, cells := 0, slots := 0, locals := 0 } : Room) [.ref (a 0), .int p1, .int p2] (cwModel kI kC a z_s z_text z_told z_formula z_states z_isKept z_typed z_at z_isRight z_times z_letter z_items z_length z_entries) sz (fun (u : (Nat → Int32)) => Post u) (fun u : (Nat → Int32) => (cwModel kI kC a u z_text z_told z_formula z_states z_isKept z_typed z_at z_isRight z_times z_letter z_items z_length z_entries)) := by
  refine entMv (by decide) (Nat.le_of_ble_eq_true rfl) ?_
  intro p e s m args below meth c ls A C hA hP hD hS hl
  obtain ⟨H, hHe⟩ : ∃ H, H = s.heap := ⟨_, rfl⟩
  obtain ⟨locs, hlo⟩ : ∃ lo : List Loc, lo = [] := ⟨_, rfl⟩
  have hS : va_S A s.heap H locs := by rw [hHe, hlo]; exact hS
  rw [← hHe] at hP
  suffices hg : W p l e ({ frames := 0, cells := 0, slots := 0, locals := 0 } : Room) s m args below meth c H locs 0 0 (MQ below (va_Qv (fun (u : (Nat → Int32)) => Post u) (BB D A (fun u : (Nat → Int32) => (cwModel kI kC a u z_text z_told z_formula z_states z_isKept z_typed z_at z_isRight z_times z_letter z_items z_length z_entries))) A) args s 0 0 A) (F0 m 0 ls []) by rw [hHe, hlo] at hg; exact hg
  replace hl : lv_has ls 4 [(0, .ref (a 0)), (1, .int p1), (2, .int p2)] := hl
  obtain ⟨hx, hb, hr, hml, hown, hts, hlocks, hK⟩ := id C
  refine lv_iconst (v := (nI 0)) hx hb dX9_copies_0 (by decide) ?_
  refine lv_istore_n (lv' := [(3, .int (nI 0)), (0, .ref (a 0)), (1, .int p1), (2, .int p2)]) hx hb dX9_copies_1 rfl hl (by decide) rfl (fun ls hl => ?_)
  obtain ⟨n9, hw⟩ := hw
  exact cl_X9_copies_2 l D kI kC kB a z_text z_told z_formula z_states z_isKept z_typed z_at z_isRight z_times z_letter z_items z_length z_entries p1 p2 Post hA C n9 z_s (nI 0) hw H locs hP hD hS ls (lv_sub hl [1, 2, 3, 0] rfl)
set_option maxHeartbeats 4000000 in
set_option maxRecDepth 100000 in
theorem cj_X9_records_39 (l : Launch) (D : va_G) (kI kC kB : ClassId) (a : AdT) (z_s : Nat → Int32) (z_text : Nat → Int32) (z_told : Nat → Int32) (z_formula : Nat → Int32) (z_states : Int32) (z_isKept : Int32) (z_typed : Int32) (z_at : Int32) (z_isRight : Int32) (z_times : Int32) (z_letter : Int32) (z_items : Int32) (z_length : Int32) (z_entries : Int32) (Post : (Nat → Int32) → Int32 → Prop) {p : Program} {e : Env} {s : State} {m : MethodId} {args : Array Value} {below : List Frame} {meth : Method} {c : Code} {A : Nat → Prop} (hA : ∀ q : Nat, s.heap.size ≤ q → A q) (C : CtxT p s m args meth c cX9_records 2 none yX9_records.cls D kI kC kB) : wj_X9_records_39 z_s z_states Post → ∀ (H : Heap) (locs : List Loc), va_P D vwCl (cwModel kI kC a z_s z_text z_told z_formula z_states z_isKept z_typed z_at z_isRight z_times z_letter z_items z_length z_entries) H → va_D A (cwModel kI kC a z_s z_text z_told z_formula z_states z_isKept z_typed z_at z_isRight z_times z_letter z_items z_length z_entries) → va_S A s.heap H locs → ∀ (ls : Array Slot), lv_has ls 2 [(0, .ref (a 0))] → W p l e ({ frames := 1, cells := 0, slots := 0, locals := 23 } : Room) s m args below meth c H locs 0 0 (MQ below (va_Qv (fun (u : (Nat → Int32) × Int32) => Post u.1 u.2) (BB D A (fun u : (Nat → Int32) × Int32 => (cwModel kI kC a u.1 z_text z_told z_formula u.2 z_isKept z_typed z_at z_isRight z_times z_letter z_items z_length z_entries))) A) args s 0 0 A) (F0 m 39 ls []) := by
  obtain ⟨hx, hb, hr, hml, hown, hts, hlocks, hK⟩ := id C
  intro hw H locs hP hD hS ls hl
  refine lv_aload_n hx hb dX9_records_39 rfl (lv_at hl 0 rfl) ?_
  refine lv_dup hx hb dX9_records_40 rfl ?_
  refine va_get (D := D) (ci := 7) (v := .int z_states) (C := RX9) (T := TX9) (N := 14) hx hb hts inX9 hown hK.1 hP 0 rfl rfl 1 (by decide) (hts _ tw_686) (fun _ h9 => h9) rfl dX9_records_41 ?_
  refine lv_iconst (v := (nI 1)) hx hb dX9_records_44 (by decide) ?_
  refine lv_iadd hx hb dX9_records_45 ?_
  refine va_put (D := D) (ci := 7) (v := .int (z_states + (nI 1))) (ty := .int) (C := RX9) (T := TX9) (N := 14) hx hb hts inX9 tyX9 tyX9_ok nmX9 hown hK.1 hP hD hS 0 rfl rfl 1 (by decide) (hts _ tw_686) (fun _ h9 => h9) rfl (tyX9_ok 1 (by decide)) rfl rfl (Nat.le_of_ble_eq_true rfl) dX9_records_46 (fun H locs hP hD hS => ?_)
  replace hP : va_P D vwCl (cwModel kI kC a z_s z_text z_told z_formula (z_states + (nI 1)) z_isKept z_typed z_at z_isRight z_times z_letter z_items z_length z_entries) H := hP
  replace hD : va_D A (cwModel kI kC a z_s z_text z_told z_formula (z_states + (nI 1)) z_isKept z_typed z_at z_isRight z_times z_letter z_items z_length z_entries) := hD
  refine lv_aload_n hx hb dX9_records_49 rfl (lv_at hl 0 rfl) ?_
  refine lv_iconst (v := (nI 0)) hx hb dX9_records_50 (by decide) ?_
  refine lv_aload_n hx hb dX9_records_51 rfl (lv_at hl 0 rfl) ?_
  refine va_get (D := D) (ci := 7) (v := .int (z_states + (nI 1))) (C := RX9) (T := TX9) (N := 14) hx hb hts inX9 hown hK.1 hP 0 rfl rfl 1 (by decide) (hts _ tw_686) (fun _ h9 => h9) rfl dX9_records_52 ?_
  refine kMVv (q0 := 0) (As := [.int (nI 0), .int (z_states + (nI 1))]) (rest := []) C (c_X9_copies l D kI kC kB a z_s z_text z_told z_formula (z_states + (nI 1)) z_isKept z_typed z_at z_isRight z_times z_letter z_items z_length z_entries H.size (nI 0) (z_states + (nI 1)) _ hw) ⟨rfl, rfl⟩ ce_X9_copies cv_X9_copies tw_748 ⟨Nat.le_of_ble_eq_true rfl, Nat.le_of_ble_eq_true rfl⟩ hP hD hS hA [0, 1, 2, 3, 4] rfl rfl (fun _ => rfl) rfl rfl rfl hl.1 rfl (Nat.le_of_ble_eq_true rfl) ⟨Nat.zero_le _, Nat.zero_le _⟩ dX9_records_55 (fun u H locs hw hP hD hS => ?_)
  obtain ⟨u1, rfl⟩ : ∃ z, z = u := ⟨_, rfl⟩
  try dsimp only at hw
  replace hP : va_P D vwCl (cwModel kI kC a u1 z_text z_told z_formula (z_states + (nI 1)) z_isKept z_typed z_at z_isRight z_times z_letter z_items z_length z_entries) H := hP
  replace hD : va_D A (cwModel kI kC a u1 z_text z_told z_formula (z_states + (nI 1)) z_isKept z_typed z_at z_isRight z_times z_letter z_items z_length z_entries) := hD
  exact retMv C (u1, (z_states + (nI 1))) hw hP hD hS dX9_records_58
set_option maxHeartbeats 4000000 in
set_option maxRecDepth 100000 in
theorem cl_X9_records_10 (l : Launch) (D : va_G) (kI kC kB : ClassId) (a : AdT) (z_text : Nat → Int32) (z_told : Nat → Int32) (z_formula : Nat → Int32) (z_states : Int32) (z_isKept : Int32) (z_typed : Int32) (z_at : Int32) (z_isRight : Int32) (z_times : Int32) (z_letter : Int32) (z_items : Int32) (z_length : Int32) (z_entries : Int32) (Post : (Nat → Int32) → Int32 → Prop) {p : Program} {e : Env} {s : State} {m : MethodId} {args : Array Value} {below : List Frame} {meth : Method} {c : Code} {A : Nat → Prop} (hA : ∀ q : Nat, s.heap.size ≤ q → A q) (C : CtxT p s m args meth c cX9_records 2 none yX9_records.cls D kI kC kB) : ∀ (n : Nat), ∀ (z_s : Nat → Int32) (v1 : Int32), wl_X9_records_10 z_states Post n z_s v1 → ∀ (H : Heap) (locs : List Loc), va_P D vwCl (cwModel kI kC a z_s z_text z_told z_formula z_states z_isKept z_typed z_at z_isRight z_times z_letter z_items z_length z_entries) H → va_D A (cwModel kI kC a z_s z_text z_told z_formula z_states z_isKept z_typed z_at z_isRight z_times z_letter z_items z_length z_entries) → va_S A s.heap H locs → ∀ (ls : Array Slot), lv_has ls 2 [(0, .ref (a 0)), (1, .int v1)] → W p l e ({ frames := 1, cells := 0, slots := 0, locals := 23 } : Room) s m args below meth c H locs 0 0 (MQ below (va_Qv (fun (u : (Nat → Int32) × Int32) => Post u.1 u.2) (BB D A (fun u : (Nat → Int32) × Int32 => (cwModel kI kC a u.1 z_text z_told z_formula u.2 z_isKept z_typed z_at z_isRight z_times z_letter z_items z_length z_entries))) A) args s 0 0 A) (F0 m 10 ls []) := by
  obtain ⟨hx, hb, hr, hml, hown, hts, hlocks, hK⟩ := id C
  intro n
  induction n with
  | zero => intro z_s v1 hw; exact hw.elim
  | succ n ih =>
    intro z_s v1 hw H locs hP hD hS ls hl
    refine lv_iload_n hx hb dX9_records_10 rfl (lv_at hl 1 rfl) ?_
    refine lv_iconst (v := (nI 4)) hx hb dX9_records_11 (by decide) ?_
    refine lv_icmp_ge (tgt := 29) hx hb dX9_records_12 (by decide) (fun hc => ?_) (fun hc => ?_)
    · replace hw := hw.1 hc
      refine lv_aload_n hx hb dX9_records_29 rfl (lv_at hl 0 rfl) ?_
      refine lv_dup hx hb dX9_records_30 rfl ?_
      refine va_get (D := D) (ci := 7) (v := .int z_states) (C := RX9) (T := TX9) (N := 14) hx hb hts inX9 hown hK.1 hP 0 rfl rfl 1 (by decide) (hts _ tw_686) (fun _ h9 => h9) rfl dX9_records_31 ?_
      refine lv_iconst (v := (nI 1)) hx hb dX9_records_34 (by decide) ?_
      refine lv_isub hx hb dX9_records_35 ?_
      refine va_put (D := D) (ci := 7) (v := .int (z_states - (nI 1))) (ty := .int) (C := RX9) (T := TX9) (N := 14) hx hb hts inX9 tyX9 tyX9_ok nmX9 hown hK.1 hP hD hS 0 rfl rfl 1 (by decide) (hts _ tw_686) (fun _ h9 => h9) rfl (tyX9_ok 1 (by decide)) rfl rfl (Nat.le_of_ble_eq_true rfl) dX9_records_36 (fun H locs hP hD hS => ?_)
      replace hP : va_P D vwCl (cwModel kI kC a z_s z_text z_told z_formula (z_states - (nI 1)) z_isKept z_typed z_at z_isRight z_times z_letter z_items z_length z_entries) H := hP
      replace hD : va_D A (cwModel kI kC a z_s z_text z_told z_formula (z_states - (nI 1)) z_isKept z_typed z_at z_isRight z_times z_letter z_items z_length z_entries) := hD
      exact cj_X9_records_39 l D kI kC kB a z_s z_text z_told z_formula (z_states - (nI 1)) z_isKept z_typed z_at z_isRight z_times z_letter z_items z_length z_entries Post hA C hw H locs hP hD hS ls (lv_sub hl [0] rfl)
    · replace hw := hw.2 hc
      refine lv_aload_n hx hb dX9_records_15 rfl (lv_at hl 0 rfl) ?_
      refine lv_iload_n hx hb dX9_records_16 rfl (lv_at hl 1 rfl) ?_
      refine lv_iconst (v := (nI 1)) hx hb dX9_records_17 (by decide) ?_
      refine lv_iadd hx hb dX9_records_18 ?_
      refine lv_iload_n hx hb dX9_records_19 rfl (lv_at hl 1 rfl) ?_
      refine kMVv (q0 := 0) (As := [.int (v1 + (nI 1)), .int v1]) (rest := []) C (c_X9_copies l D kI kC kB a z_s z_text z_told z_formula z_states z_isKept z_typed z_at z_isRight z_times z_letter z_items z_length z_entries H.size (v1 + (nI 1)) v1 _ hw) ⟨rfl, rfl⟩ ce_X9_copies cv_X9_copies tw_748 ⟨Nat.le_of_ble_eq_true rfl, Nat.le_of_ble_eq_true rfl⟩ hP hD hS hA [0, 1, 2, 3, 4] rfl rfl (fun _ => rfl) rfl rfl rfl hl.1 rfl (Nat.le_of_ble_eq_true rfl) ⟨Nat.zero_le _, Nat.zero_le _⟩ dX9_records_20 (fun u H locs hw hP hD hS => ?_)
      obtain ⟨u2, rfl⟩ : ∃ z, z = u := ⟨_, rfl⟩
      try dsimp only at hw
      replace hP : va_P D vwCl (cwModel kI kC a u2 z_text z_told z_formula z_states z_isKept z_typed z_at z_isRight z_times z_letter z_items z_length z_entries) H := hP
      replace hD : va_D A (cwModel kI kC a u2 z_text z_told z_formula z_states z_isKept z_typed z_at z_isRight z_times z_letter z_items z_length z_entries) := hD
      refine lv_iinc (v := (v1 + nI 1)) (lv' := [(1, .int (v1 + nI 1)), (0, .ref (a 0))]) hx hb dX9_records_23 hl (k := 1) rfl rfl (by decide) rfl (fun ls hl => ?_)
      refine lv_goto (tgt := 10) hx hb dX9_records_26 (by decide) ?_
      exact ih u2 (v1 + nI 1) hw H locs hP hD hS ls (lv_sub hl [1, 0] rfl)
set_option maxHeartbeats 4000000 in
set_option maxRecDepth 100000 in
theorem c_X9_records (l : Launch) (D : va_G) (kI kC kB : ClassId) (a : AdT) (z_s : Nat → Int32) (z_text : Nat → Int32) (z_told : Nat → Int32) (z_formula : Nat → Int32) (z_states : Int32) (z_isKept : Int32) (z_typed : Int32) (z_at : Int32) (z_isRight : Int32) (z_times : Int32) (z_letter : Int32) (z_items : Int32) (z_length : Int32) (z_entries : Int32) (sz : Nat) (Post : (Nat → Int32) → Int32 → Prop) (hw : wp_X9_records z_s z_states Post) : CMv l D kI kC kB yX9_records cX9_records 2 none ({ frames := 1, cells := 0, slots := 0, locals := 23 } : Room) [.ref (a 0)] (cwModel kI kC a z_s z_text z_told z_formula z_states z_isKept z_typed z_at z_isRight z_times z_letter z_items z_length z_entries) sz (fun (u : (Nat → Int32) × Int32) => Post u.1 u.2) (fun u : (Nat → Int32) × Int32 => (cwModel kI kC a u.1 z_text z_told z_formula u.2 z_isKept z_typed z_at z_isRight z_times z_letter z_items z_length z_entries)) := by
  refine entMv (by decide) (Nat.le_of_ble_eq_true rfl) ?_
  intro p e s m args below meth c ls A C hA hP hD hS hl
  obtain ⟨H, hHe⟩ : ∃ H, H = s.heap := ⟨_, rfl⟩
  obtain ⟨locs, hlo⟩ : ∃ lo : List Loc, lo = [] := ⟨_, rfl⟩
  have hS : va_S A s.heap H locs := by rw [hHe, hlo]; exact hS
  rw [← hHe] at hP
  suffices hg : W p l e ({ frames := 1, cells := 0, slots := 0, locals := 23 } : Room) s m args below meth c H locs 0 0 (MQ below (va_Qv (fun (u : (Nat → Int32) × Int32) => Post u.1 u.2) (BB D A (fun u : (Nat → Int32) × Int32 => (cwModel kI kC a u.1 z_text z_told z_formula u.2 z_isKept z_typed z_at z_isRight z_times z_letter z_items z_length z_entries))) A) args s 0 0 A) (F0 m 0 ls []) by rw [hHe, hlo] at hg; exact hg
  replace hl : lv_has ls 2 [(0, .ref (a 0))] := hl
  obtain ⟨hx, hb, hr, hml, hown, hts, hlocks, hK⟩ := id C
  refine lv_aload_n hx hb dX9_records_0 rfl (lv_at hl 0 rfl) ?_
  refine va_get (D := D) (ci := 7) (v := .int z_states) (C := RX9) (T := TX9) (N := 14) hx hb hts inX9 hown hK.1 hP 0 rfl rfl 1 (by decide) (hts _ tw_686) (fun _ h9 => h9) rfl dX9_records_1 ?_
  refine lv_iconst (v := (nI 4)) hx hb dX9_records_4 (by decide) ?_
  refine lv_icmp_ne (tgt := 39) hx hb dX9_records_5 (by decide) (fun hc => ?_) (fun hc => ?_)
  · replace hw := hw.2 hc
    exact cj_X9_records_39 l D kI kC kB a z_s z_text z_told z_formula z_states z_isKept z_typed z_at z_isRight z_times z_letter z_items z_length z_entries Post hA C hw H locs hP hD hS ls (lv_sub hl [0] rfl)
  · replace hw := hw.1 hc
    refine lv_iconst (v := (nI 1)) hx hb dX9_records_8 (by decide) ?_
    refine lv_istore_n (lv' := [(1, .int (nI 1)), (0, .ref (a 0))]) hx hb dX9_records_9 rfl hl (by decide) rfl (fun ls hl => ?_)
    obtain ⟨n9, hw⟩ := hw
    exact cl_X9_records_10 l D kI kC kB a z_text z_told z_formula z_states z_isKept z_typed z_at z_isRight z_times z_letter z_items z_length z_entries Post hA C n9 z_s (nI 1) hw H locs hP hD hS ls (lv_sub hl [1, 0] rfl)
set_option maxHeartbeats 4000000 in
set_option maxRecDepth 100000 in
theorem c_X9_isOut (l : Launch) (D : va_G) (kI kC kB : ClassId) (a : AdT) (z_s : Nat → Int32) (z_text : Nat → Int32) (z_told : Nat → Int32) (z_formula : Nat → Int32) (z_states : Int32) (z_isKept : Int32) (z_typed : Int32) (z_at : Int32) (z_isRight : Int32) (z_times : Int32) (z_letter : Int32) (z_items : Int32) (z_length : Int32) (z_entries : Int32) (p1 : Int32) (Post : Int32 → Prop) (hw : wp_X9_isOut z_s p1 Post) : CR l D kI kC kB yX9_isOut cX9_isOut 2 (some .boolean) ({ frames := 0, cells := 0, slots := 0, locals := 0 } : Room) [.ref (a 0), .int p1] (cwModel kI kC a z_s z_text z_told z_formula z_states z_isKept z_typed z_at z_isRight z_times z_letter z_items z_length z_entries) Post := by
  refine entR (by decide) (Nat.le_of_ble_eq_true rfl) ?_
  intro p e s m args below meth c ls C hP hl
  replace hl : lv_has ls 2 [(0, .ref (a 0)), (1, .int p1)] := hl
  obtain ⟨hx, hb, hr, hml, hown, hts, hlocks, hK⟩ := id C
  refine lv_aload_n hx hb dX9_isOut_0 rfl (lv_at hl 0 rfl) ?_
  refine va_get (D := D) (ci := 7) (v := .ref (a 1)) (C := RX9) (T := TX9) (N := 14) hx hb hts inX9 hown hK.1 hP 0 rfl rfl 0 (by decide) (hts _ tw_685) (fun _ h9 => h9) rfl dX9_isOut_1 ?_
  refine lv_iconst (v := (nI 0)) hx hb dX9_isOut_4 (by decide) ?_
  have hin := hw.1
  replace hw := hw.2
  refine va_iald hx hb hK.1 hP 1 0 rfl rfl hin dX9_isOut_5 ?_
  refine lv_iload_n hx hb dX9_isOut_6 rfl (lv_at hl 1 rfl) ?_
  refine lv_ishr hx hb dX9_isOut_7 ?_
  refine lv_iconst (v := (nI 1)) hx hb dX9_isOut_8 (by decide) ?_
  refine lv_iand hx hb dX9_isOut_9 ?_
  refine lv_iconst (v := (nI 1)) hx hb dX9_isOut_10 (by decide) ?_
  refine lv_icmp_ne (tgt := 18) hx hb dX9_isOut_11 (by decide) (fun hc => ?_) (fun hc => ?_)
  · replace hw := hw.2 hc
    refine lv_iconst (v := (nI 0)) hx hb dX9_isOut_18 (by decide) ?_
    exact retRz C (by decide) hw dX9_isOut_19
  · replace hw := hw.1 hc
    refine lv_iconst (v := (nI 1)) hx hb dX9_isOut_14 (by decide) ?_
    refine lv_goto (tgt := 19) hx hb dX9_isOut_15 (by decide) ?_
    exact retRz C (by decide) hw dX9_isOut_19
set_option maxHeartbeats 4000000 in
set_option maxRecDepth 100000 in
theorem cl_X9_letters_4 (l : Launch) (D : va_G) (kI kC kB : ClassId) (a : AdT) (z_s : Nat → Int32) (z_text : Nat → Int32) (z_told : Nat → Int32) (z_formula : Nat → Int32) (z_states : Int32) (z_isKept : Int32) (z_typed : Int32) (z_at : Int32) (z_isRight : Int32) (z_times : Int32) (z_letter : Int32) (z_items : Int32) (z_length : Int32) (z_entries : Int32) (Post : Int32 → Prop) {p : Program} {e : Env} {s : State} {m : MethodId} {args : Array Value} {below : List Frame} {meth : Method} {c : Code} (C : CtxT p s m args meth c cX9_letters 3 (some .int) yX9_letters.cls D kI kC kB) (hP : va_P D vwCl (cwModel kI kC a z_s z_text z_told z_formula z_states z_isKept z_typed z_at z_isRight z_times z_letter z_items z_length z_entries) s.heap) : ∀ (n : Nat), ∀ (v1 : Int32) (v2 : Int32), wl_X9_letters_4 z_s Post n v1 v2 → ∀ (ls : Array Slot), lv_has ls 3 [(0, .ref (a 0)), (1, .int v1), (2, .int v2)] → W p l e ({ frames := 1, cells := 0, slots := 0, locals := 21 } : Room) s m args below meth c s.heap [] 0 0 (MQ below (vp_Si Post) args s 0 0 (fun _ => False)) (F0 m 4 ls []) := by
  obtain ⟨hx, hb, hr, hml, hown, hts, hlocks, hK⟩ := id C
  intro n
  induction n with
  | zero => intro v1 v2 hw; exact hw.elim
  | succ n ih =>
    intro v1 v2 hw ls hl
    refine lv_iload_n hx hb dX9_letters_4 rfl (lv_at hl 2 rfl) ?_
    refine lv_bipush (v := (nI 26)) hx hb dX9_letters_5 (by decide) ?_
    refine lv_icmp_ge (tgt := 32) hx hb dX9_letters_7 (by decide) (fun hc => ?_) (fun hc => ?_)
    · replace hw := hw.1 hc
      refine lv_iload_n hx hb dX9_letters_32 rfl (lv_at hl 1 rfl) ?_
      exact retR C hw dX9_letters_33
    · replace hw := hw.2 hc
      refine lv_iload_n hx hb dX9_letters_10 rfl (lv_at hl 1 rfl) ?_
      refine lv_aload_n hx hb dX9_letters_11 rfl (lv_at hl 0 rfl) ?_
      refine lv_iload_n hx hb dX9_letters_12 rfl (lv_at hl 2 rfl) ?_
      refine kRV (As := [.int v2]) (rest := [.int v1]) (q0 := 0) C (c_X9_isOut l D kI kC kB a z_s z_text z_told z_formula z_states z_isKept z_typed z_at z_isRight z_times z_letter z_items z_length z_entries v2 _ hw) ⟨rfl, rfl⟩ ce_X9_isOut cv_X9_isOut tw_736 ⟨Nat.le_of_ble_eq_true rfl, Nat.le_of_ble_eq_true rfl⟩ hP [0, 1, 2, 3, 4] rfl rfl rfl rfl hl.1 rfl (Nat.le_of_ble_eq_true rfl) ⟨Nat.zero_le _, Nat.zero_le _⟩ dX9_letters_13 (fun r1 hw => ?_)
      refine lv_if_eq (tgt := 23) hx hb dX9_letters_16 (by decide) (fun hc => ?_) (fun hc => ?_)
      · replace hw := hw.1 hc
        refine lv_iconst (v := (nI 1)) hx hb dX9_letters_23 (by decide) ?_
        refine lv_iadd hx hb dX9_letters_24 ?_
        refine lv_topi (fun y2 ey2 => ?_)
        replace hw := hw y2 ey2
        refine lv_istore_n (lv' := [(1, .int y2), (0, .ref (a 0)), (2, .int v2)]) hx hb dX9_letters_25 rfl hl (by decide) rfl (fun ls hl => ?_)
        refine lv_iinc (v := (v2 + nI 1)) (lv' := [(2, .int (v2 + nI 1)), (1, .int y2), (0, .ref (a 0))]) hx hb dX9_letters_26 hl (k := 2) rfl rfl (by decide) rfl (fun ls hl => ?_)
        refine lv_goto (tgt := 4) hx hb dX9_letters_29 (by decide) ?_
        exact ih y2 (v2 + nI 1) hw ls (lv_sub hl [2, 1, 0] rfl)
      · replace hw := hw.2 hc
        refine lv_iconst (v := (nI 0)) hx hb dX9_letters_19 (by decide) ?_
        refine lv_goto (tgt := 24) hx hb dX9_letters_20 (by decide) ?_
        refine lv_iadd hx hb dX9_letters_24 ?_
        refine lv_topi (fun y3 ey3 => ?_)
        replace hw := hw y3 ey3
        refine lv_istore_n (lv' := [(1, .int y3), (0, .ref (a 0)), (2, .int v2)]) hx hb dX9_letters_25 rfl hl (by decide) rfl (fun ls hl => ?_)
        refine lv_iinc (v := (v2 + nI 1)) (lv' := [(2, .int (v2 + nI 1)), (1, .int y3), (0, .ref (a 0))]) hx hb dX9_letters_26 hl (k := 2) rfl rfl (by decide) rfl (fun ls hl => ?_)
        refine lv_goto (tgt := 4) hx hb dX9_letters_29 (by decide) ?_
        exact ih y3 (v2 + nI 1) hw ls (lv_sub hl [2, 1, 0] rfl)
set_option maxHeartbeats 4000000 in
set_option maxRecDepth 100000 in
theorem c_X9_letters (l : Launch) (D : va_G) (kI kC kB : ClassId) (a : AdT) (z_s : Nat → Int32) (z_text : Nat → Int32) (z_told : Nat → Int32) (z_formula : Nat → Int32) (z_states : Int32) (z_isKept : Int32) (z_typed : Int32) (z_at : Int32) (z_isRight : Int32) (z_times : Int32) (z_letter : Int32) (z_items : Int32) (z_length : Int32) (z_entries : Int32) (Post : Int32 → Prop) (hw : wp_X9_letters z_s Post) : CR l D kI kC kB yX9_letters cX9_letters 3 (some .int) ({ frames := 1, cells := 0, slots := 0, locals := 21 } : Room) [.ref (a 0)] (cwModel kI kC a z_s z_text z_told z_formula z_states z_isKept z_typed z_at z_isRight z_times z_letter z_items z_length z_entries) Post := by
  refine entR (by decide) (Nat.le_of_ble_eq_true rfl) ?_
  intro p e s m args below meth c ls C hP hl
  replace hl : lv_has ls 3 [(0, .ref (a 0))] := hl
  obtain ⟨hx, hb, hr, hml, hown, hts, hlocks, hK⟩ := id C
  refine lv_iconst (v := (nI 0)) hx hb dX9_letters_0 (by decide) ?_
  refine lv_istore_n (lv' := [(1, .int (nI 0)), (0, .ref (a 0))]) hx hb dX9_letters_1 rfl hl (by decide) rfl (fun ls hl => ?_)
  refine lv_iconst (v := (nI 0)) hx hb dX9_letters_2 (by decide) ?_
  refine lv_istore_n (lv' := [(2, .int (nI 0)), (1, .int (nI 0)), (0, .ref (a 0))]) hx hb dX9_letters_3 rfl hl (by decide) rfl (fun ls hl => ?_)
  obtain ⟨n9, hw⟩ := hw
  exact cl_X9_letters_4 l D kI kC kB a z_s z_text z_told z_formula z_states z_isKept z_typed z_at z_isRight z_times z_letter z_items z_length z_entries Post C hP n9 (nI 0) (nI 0) hw ls (lv_sub hl [2, 1, 0] rfl)
set_option maxHeartbeats 4000000 in
set_option maxRecDepth 100000 in
theorem cj_X9_next_27 (l : Launch) (D : va_G) (kI kC kB : ClassId) (a : AdT) (z_s : Nat → Int32) (z_text : Nat → Int32) (z_told : Nat → Int32) (z_formula : Nat → Int32) (z_states : Int32) (z_isKept : Int32) (z_typed : Int32) (z_at : Int32) (z_isRight : Int32) (z_times : Int32) (z_letter : Int32) (z_items : Int32) (z_length : Int32) (z_entries : Int32) (v2 : Int32) (Post : Int32 → Prop) {p : Program} {e : Env} {s : State} {m : MethodId} {args : Array Value} {below : List Frame} {meth : Method} {c : Code} (C : CtxT p s m args meth c cX9_next 3 (some .int) yX9_next.cls D kI kC kB) (hP : va_P D vwCl (cwModel kI kC a z_s z_text z_told z_formula z_states z_isKept z_typed z_at z_isRight z_times z_letter z_items z_length z_entries) s.heap) : wj_X9_next_27 z_s v2 Post → ∀ (ls : Array Slot), lv_has ls 3 [(2, .int v2)] → W p l e ({ frames := 1, cells := 0, slots := 0, locals := 21 } : Room) s m args below meth c s.heap [] 0 0 (MQ below (vp_Si Post) args s 0 0 (fun _ => False)) (F0 m 27 ls []) := by
  obtain ⟨hx, hb, hr, hml, hown, hts, hlocks, hK⟩ := id C
  intro hw ls hl
  refine lv_iload_n hx hb dX9_next_27 rfl (lv_at hl 0 rfl) ?_
  refine lv_bipush (v := (nI 78)) hx hb dX9_next_28 (by decide) ?_
  refine lv_icmp_ge (tgt := 37) hx hb dX9_next_30 (by decide) (fun hc => ?_) (fun hc => ?_)
  · replace hw := hw.1 hc
    refine lv_iconst (v := (-1)) hx hb dX9_next_37 (by decide) ?_
    exact retR C hw dX9_next_38
  · replace hw := hw.2 hc
    refine lv_iload_n hx hb dX9_next_33 rfl (lv_at hl 0 rfl) ?_
    refine lv_goto (tgt := 38) hx hb dX9_next_34 (by decide) ?_
    exact retR C hw dX9_next_38
set_option maxHeartbeats 4000000 in
set_option maxRecDepth 100000 in
theorem cl_X9_next_4 (l : Launch) (D : va_G) (kI kC kB : ClassId) (a : AdT) (z_s : Nat → Int32) (z_text : Nat → Int32) (z_told : Nat → Int32) (z_formula : Nat → Int32) (z_states : Int32) (z_isKept : Int32) (z_typed : Int32) (z_at : Int32) (z_isRight : Int32) (z_times : Int32) (z_letter : Int32) (z_items : Int32) (z_length : Int32) (z_entries : Int32) (Post : Int32 → Prop) {p : Program} {e : Env} {s : State} {m : MethodId} {args : Array Value} {below : List Frame} {meth : Method} {c : Code} (C : CtxT p s m args meth c cX9_next 3 (some .int) yX9_next.cls D kI kC kB) (hP : va_P D vwCl (cwModel kI kC a z_s z_text z_told z_formula z_states z_isKept z_typed z_at z_isRight z_times z_letter z_items z_length z_entries) s.heap) : ∀ (n : Nat), ∀ (v2 : Int32), wl_X9_next_4 z_s Post n v2 → ∀ (ls : Array Slot), lv_has ls 3 [(0, .ref (a 0)), (2, .int v2)] → W p l e ({ frames := 1, cells := 0, slots := 0, locals := 21 } : Room) s m args below meth c s.heap [] 0 0 (MQ below (vp_Si Post) args s 0 0 (fun _ => False)) (F0 m 4 ls []) := by
  obtain ⟨hx, hb, hr, hml, hown, hts, hlocks, hK⟩ := id C
  intro n
  induction n with
  | zero => intro v2 hw; exact hw.elim
  | succ n ih =>
    intro v2 hw ls hl
    refine lv_iload_n hx hb dX9_next_4 rfl (lv_at hl 1 rfl) ?_
    refine lv_bipush (v := (nI 78)) hx hb dX9_next_5 (by decide) ?_
    refine lv_icmp_ge (tgt := 27) hx hb dX9_next_7 (by decide) (fun hc => ?_) (fun hc => ?_)
    · replace hw := hw.1 hc
      exact cj_X9_next_27 l D kI kC kB a z_s z_text z_told z_formula z_states z_isKept z_typed z_at z_isRight z_times z_letter z_items z_length z_entries v2 Post C hP hw ls (lv_sub hl [1] rfl)
    · replace hw := hw.2 hc
      refine lv_aload_n hx hb dX9_next_10 rfl (lv_at hl 0 rfl) ?_
      refine lv_iload_n hx hb dX9_next_11 rfl (lv_at hl 1 rfl) ?_
      refine lv_bipush (v := (nI 26)) hx hb dX9_next_12 (by decide) ?_
      refine lv_irem hx hb dX9_next_14 (by decide) ?_
      refine kRV (As := [.int (v2 - v2 / (nI 26) * (nI 26))]) (rest := []) (q0 := 0) C (c_X9_isOut l D kI kC kB a z_s z_text z_told z_formula z_states z_isKept z_typed z_at z_isRight z_times z_letter z_items z_length z_entries (v2 - v2 / (nI 26) * (nI 26)) _ hw) ⟨rfl, rfl⟩ ce_X9_isOut cv_X9_isOut tw_736 ⟨Nat.le_of_ble_eq_true rfl, Nat.le_of_ble_eq_true rfl⟩ hP [0, 1, 2, 3, 4] rfl rfl rfl rfl hl.1 rfl (Nat.le_of_ble_eq_true rfl) ⟨Nat.zero_le _, Nat.zero_le _⟩ dX9_next_15 (fun r1 hw => ?_)
      refine lv_if_eq (tgt := 27) hx hb dX9_next_18 (by decide) (fun hc => ?_) (fun hc => ?_)
      · replace hw := hw.1 hc
        exact cj_X9_next_27 l D kI kC kB a z_s z_text z_told z_formula z_states z_isKept z_typed z_at z_isRight z_times z_letter z_items z_length z_entries v2 Post C hP hw ls (lv_sub hl [1] rfl)
      · replace hw := hw.2 hc
        refine lv_iinc (v := (v2 + nI 1)) (lv' := [(2, .int (v2 + nI 1)), (0, .ref (a 0))]) hx hb dX9_next_21 hl (k := 1) rfl rfl (by decide) rfl (fun ls hl => ?_)
        refine lv_goto (tgt := 4) hx hb dX9_next_24 (by decide) ?_
        exact ih (v2 + nI 1) hw ls (lv_sub hl [1, 0] rfl)
set_option maxHeartbeats 4000000 in
set_option maxRecDepth 100000 in
theorem c_X9_next (l : Launch) (D : va_G) (kI kC kB : ClassId) (a : AdT) (z_s : Nat → Int32) (z_text : Nat → Int32) (z_told : Nat → Int32) (z_formula : Nat → Int32) (z_states : Int32) (z_isKept : Int32) (z_typed : Int32) (z_at : Int32) (z_isRight : Int32) (z_times : Int32) (z_letter : Int32) (z_items : Int32) (z_length : Int32) (z_entries : Int32) (p1 : Int32) (Post : Int32 → Prop) (hw : wp_X9_next z_s p1 Post) : CR l D kI kC kB yX9_next cX9_next 3 (some .int) ({ frames := 1, cells := 0, slots := 0, locals := 21 } : Room) [.ref (a 0), .int p1] (cwModel kI kC a z_s z_text z_told z_formula z_states z_isKept z_typed z_at z_isRight z_times z_letter z_items z_length z_entries) Post := by
  refine entR (by decide) (Nat.le_of_ble_eq_true rfl) ?_
  intro p e s m args below meth c ls C hP hl
  replace hl : lv_has ls 3 [(0, .ref (a 0)), (1, .int p1)] := hl
  obtain ⟨hx, hb, hr, hml, hown, hts, hlocks, hK⟩ := id C
  refine lv_iload_n hx hb dX9_next_0 rfl (lv_at hl 1 rfl) ?_
  refine lv_iconst (v := (nI 1)) hx hb dX9_next_1 (by decide) ?_
  refine lv_iadd hx hb dX9_next_2 ?_
  refine lv_topi (fun y2 ey2 => ?_)
  replace hw := hw y2 ey2
  refine lv_istore_n (lv' := [(2, .int y2), (0, .ref (a 0)), (1, .int p1)]) hx hb dX9_next_3 rfl hl (by decide) rfl (fun ls hl => ?_)
  obtain ⟨n9, hw⟩ := hw
  exact cl_X9_next_4 l D kI kC kB a z_s z_text z_told z_formula z_states z_isKept z_typed z_at z_isRight z_times z_letter z_items z_length z_entries Post C hP n9 y2 hw ls (lv_sub hl [1, 0] rfl)
set_option maxHeartbeats 4000000 in
set_option maxRecDepth 100000 in
theorem c_X9_of (l : Launch) (D : va_G) (kI kC kB : ClassId)  (p1 : Int32) (p2 : Int32) (Post : Int32 → Prop) (hw : wp_X9_of p1 p2 Post) : CR l D kI kC kB yX9_of cX9_of 2 (some .int) ({ frames := 0, cells := 0, slots := 0, locals := 0 } : Room) [.int p1, .int p2] ([] : va_W) Post := by
  refine entR (by decide) (Nat.le_of_ble_eq_true rfl) ?_
  intro p e s m args below meth c ls C hP hl
  replace hl : lv_has ls 2 [(0, .int p1), (1, .int p2)] := hl
  obtain ⟨hx, hb, hr, hml, hown, hts, hlocks, hK⟩ := id C
  refine lv_iconst (v := (nI 3)) hx hb dX9_of_0 (by decide) ?_
  refine lv_iconst (v := (nI 4)) hx hb dX9_of_1 (by decide) ?_
  refine lv_iload_n hx hb dX9_of_2 rfl (lv_at hl 0 rfl) ?_
  refine lv_imul hx hb dX9_of_3 ?_
  refine lv_iadd hx hb dX9_of_4 ?_
  refine lv_iload_n hx hb dX9_of_5 rfl (lv_at hl 1 rfl) ?_
  refine lv_iadd hx hb dX9_of_6 ?_
  exact retR C hw dX9_of_7
set_option maxHeartbeats 4000000 in
set_option maxRecDepth 100000 in
theorem c_X9_isStarred (l : Launch) (D : va_G) (kI kC kB : ClassId) (a : AdT) (z_s : Nat → Int32) (z_text : Nat → Int32) (z_told : Nat → Int32) (z_formula : Nat → Int32) (z_states : Int32) (z_isKept : Int32) (z_typed : Int32) (z_at : Int32) (z_isRight : Int32) (z_times : Int32) (z_letter : Int32) (z_items : Int32) (z_length : Int32) (z_entries : Int32) (p1 : Int32) (Post : Int32 → Prop) (hw : wp_X9_isStarred z_s p1 Post) : CR l D kI kC kB yX9_isStarred cX9_isStarred 2 (some .boolean) ({ frames := 1, cells := 0, slots := 0, locals := 21 } : Room) [.ref (a 0), .int p1] (cwModel kI kC a z_s z_text z_told z_formula z_states z_isKept z_typed z_at z_isRight z_times z_letter z_items z_length z_entries) Post := by
  refine entR (by decide) (Nat.le_of_ble_eq_true rfl) ?_
  intro p e s m args below meth c ls C hP hl
  replace hl : lv_has ls 2 [(0, .ref (a 0)), (1, .int p1)] := hl
  obtain ⟨hx, hb, hr, hml, hown, hts, hlocks, hK⟩ := id C
  refine lv_aload_n hx hb dX9_isStarred_0 rfl (lv_at hl 0 rfl) ?_
  refine va_get (D := D) (ci := 7) (v := .ref (a 1)) (C := RX9) (T := TX9) (N := 14) hx hb hts inX9 hown hK.1 hP 0 rfl rfl 0 (by decide) (hts _ tw_685) (fun _ h9 => h9) rfl dX9_isStarred_1 ?_
  refine lv_iload_n hx hb dX9_isStarred_4 rfl (lv_at hl 1 rfl) ?_
  refine lv_iconst (v := (nI 1)) hx hb dX9_isStarred_5 (by decide) ?_
  refine kRS (As := [.int p1, .int (nI 1)]) (rest := [.ref (a 1)]) C (c_X9_of l D kI kC kB  p1 (nI 1) _ hw) ⟨rfl, rfl⟩ ce_X9_of cv_X9_of tw_764 ⟨Nat.le_of_ble_eq_true rfl, Nat.le_of_ble_eq_true rfl⟩ hP [] rfl hl.1 rfl (Nat.le_of_ble_eq_true rfl) ⟨Nat.zero_le _, Nat.zero_le _⟩ dX9_isStarred_6 (fun r1 hw => ?_)
  have hin := hw.1
  replace hw := hw.2
  refine va_iald hx hb hK.1 hP 1 0 rfl rfl hin dX9_isStarred_9 ?_
  refine lv_if_ge (tgt := 17) hx hb dX9_isStarred_10 (by decide) (fun hc => ?_) (fun hc => ?_)
  · replace hw := hw.1 hc
    refine lv_iconst (v := (nI 0)) hx hb dX9_isStarred_17 (by decide) ?_
    exact retRz C (by decide) hw dX9_isStarred_18
  · replace hw := hw.2 hc
    refine lv_iconst (v := (nI 1)) hx hb dX9_isStarred_13 (by decide) ?_
    refine lv_goto (tgt := 18) hx hb dX9_isStarred_14 (by decide) ?_
    exact retRz C (by decide) hw dX9_isStarred_18
set_option maxHeartbeats 4000000 in
set_option maxRecDepth 100000 in
theorem c_X9_sign (l : Launch) (D : va_G) (kI kC kB : ClassId) (a : AdT) (z_s : Nat → Int32) (z_text : Nat → Int32) (z_told : Nat → Int32) (z_formula : Nat → Int32) (z_states : Int32) (z_isKept : Int32) (z_typed : Int32) (z_at : Int32) (z_isRight : Int32) (z_times : Int32) (z_letter : Int32) (z_items : Int32) (z_length : Int32) (z_entries : Int32) (p1 : Int32) (Post : Int32 → Prop) (hw : wp_X9_sign z_s p1 Post) : CR l D kI kC kB yX9_sign cX9_sign 2 (some .int) ({ frames := 1, cells := 0, slots := 0, locals := 21 } : Room) [.ref (a 0), .int p1] (cwModel kI kC a z_s z_text z_told z_formula z_states z_isKept z_typed z_at z_isRight z_times z_letter z_items z_length z_entries) Post := by
  refine entR (by decide) (Nat.le_of_ble_eq_true rfl) ?_
  intro p e s m args below meth c ls C hP hl
  replace hl : lv_has ls 2 [(0, .ref (a 0)), (1, .int p1)] := hl
  obtain ⟨hx, hb, hr, hml, hown, hts, hlocks, hK⟩ := id C
  refine lv_bipush (v := (nI 26)) hx hb dX9_sign_0 (by decide) ?_
  refine lv_aload_n hx hb dX9_sign_2 rfl (lv_at hl 0 rfl) ?_
  refine va_get (D := D) (ci := 7) (v := .ref (a 1)) (C := RX9) (T := TX9) (N := 14) hx hb hts inX9 hown hK.1 hP 0 rfl rfl 0 (by decide) (hts _ tw_685) (fun _ h9 => h9) rfl dX9_sign_3 ?_
  refine lv_iload_n hx hb dX9_sign_6 rfl (lv_at hl 1 rfl) ?_
  refine lv_iconst (v := (nI 0)) hx hb dX9_sign_7 (by decide) ?_
  refine kRS (As := [.int p1, .int (nI 0)]) (rest := [.ref (a 1), .int (nI 26)]) C (c_X9_of l D kI kC kB  p1 (nI 0) _ hw) ⟨rfl, rfl⟩ ce_X9_of cv_X9_of tw_764 ⟨Nat.le_of_ble_eq_true rfl, Nat.le_of_ble_eq_true rfl⟩ hP [] rfl hl.1 rfl (Nat.le_of_ble_eq_true rfl) ⟨Nat.zero_le _, Nat.zero_le _⟩ dX9_sign_8 (fun r1 hw => ?_)
  have hin := hw.1
  replace hw := hw.2
  refine va_iald hx hb hK.1 hP 1 0 rfl rfl hin dX9_sign_11 ?_
  refine lv_iconst (v := (nI 1)) hx hb dX9_sign_12 (by decide) ?_
  refine lv_isub hx hb dX9_sign_13 ?_
  refine lv_imul hx hb dX9_sign_14 ?_
  refine lv_aload_n hx hb dX9_sign_15 rfl (lv_at hl 0 rfl) ?_
  refine va_get (D := D) (ci := 7) (v := .ref (a 1)) (C := RX9) (T := TX9) (N := 14) hx hb hts inX9 hown hK.1 hP 0 rfl rfl 0 (by decide) (hts _ tw_685) (fun _ h9 => h9) rfl dX9_sign_16 ?_
  refine lv_iload_n hx hb dX9_sign_19 rfl (lv_at hl 1 rfl) ?_
  refine lv_iconst (v := (nI 1)) hx hb dX9_sign_20 (by decide) ?_
  refine kRS (As := [.int p1, .int (nI 1)]) (rest := [.ref (a 1), .int ((nI 26) * ((z_s r1.toNatClampNeg) - (nI 1)))]) C (c_X9_of l D kI kC kB  p1 (nI 1) _ hw) ⟨rfl, rfl⟩ ce_X9_of cv_X9_of tw_764 ⟨Nat.le_of_ble_eq_true rfl, Nat.le_of_ble_eq_true rfl⟩ hP [] rfl hl.1 rfl (Nat.le_of_ble_eq_true rfl) ⟨Nat.zero_le _, Nat.zero_le _⟩ dX9_sign_21 (fun r2 hw => ?_)
  have hin := hw.1
  replace hw := hw.2
  refine va_iald hx hb hK.1 hP 1 0 rfl rfl hin dX9_sign_24 ?_
  refine lv_iadd hx hb dX9_sign_25 ?_
  exact retR C hw dX9_sign_26
set_option maxHeartbeats 4000000 in
set_option maxRecDepth 100000 in
theorem c_X9_areSame (l : Launch) (D : va_G) (kI kC kB : ClassId) (a : AdT) (z_s : Nat → Int32) (z_text : Nat → Int32) (z_told : Nat → Int32) (z_formula : Nat → Int32) (z_states : Int32) (z_isKept : Int32) (z_typed : Int32) (z_at : Int32) (z_isRight : Int32) (z_times : Int32) (z_letter : Int32) (z_items : Int32) (z_length : Int32) (z_entries : Int32) (p1 : Int32) (p2 : Int32) (Post : Int32 → Prop) (hw : wp_X9_areSame z_s p1 p2 Post) : CR l D kI kC kB yX9_areSame cX9_areSame 3 (some .boolean) ({ frames := 1, cells := 0, slots := 0, locals := 21 } : Room) [.ref (a 0), .int p1, .int p2] (cwModel kI kC a z_s z_text z_told z_formula z_states z_isKept z_typed z_at z_isRight z_times z_letter z_items z_length z_entries) Post := by
  refine entR (by decide) (Nat.le_of_ble_eq_true rfl) ?_
  intro p e s m args below meth c ls C hP hl
  replace hl : lv_has ls 3 [(0, .ref (a 0)), (1, .int p1), (2, .int p2)] := hl
  obtain ⟨hx, hb, hr, hml, hown, hts, hlocks, hK⟩ := id C
  refine lv_aload_n hx hb dX9_areSame_0 rfl (lv_at hl 0 rfl) ?_
  refine va_get (D := D) (ci := 7) (v := .ref (a 1)) (C := RX9) (T := TX9) (N := 14) hx hb hts inX9 hown hK.1 hP 0 rfl rfl 0 (by decide) (hts _ tw_685) (fun _ h9 => h9) rfl dX9_areSame_1 ?_
  refine lv_iload_n hx hb dX9_areSame_4 rfl (lv_at hl 1 rfl) ?_
  refine lv_iconst (v := (nI 0)) hx hb dX9_areSame_5 (by decide) ?_
  refine kRS (As := [.int p1, .int (nI 0)]) (rest := [.ref (a 1)]) C (c_X9_of l D kI kC kB  p1 (nI 0) _ hw) ⟨rfl, rfl⟩ ce_X9_of cv_X9_of tw_764 ⟨Nat.le_of_ble_eq_true rfl, Nat.le_of_ble_eq_true rfl⟩ hP [] rfl hl.1 rfl (Nat.le_of_ble_eq_true rfl) ⟨Nat.zero_le _, Nat.zero_le _⟩ dX9_areSame_6 (fun r1 hw => ?_)
  have hin := hw.1
  replace hw := hw.2
  refine va_iald hx hb hK.1 hP 1 0 rfl rfl hin dX9_areSame_9 ?_
  refine lv_aload_n hx hb dX9_areSame_10 rfl (lv_at hl 0 rfl) ?_
  refine va_get (D := D) (ci := 7) (v := .ref (a 1)) (C := RX9) (T := TX9) (N := 14) hx hb hts inX9 hown hK.1 hP 0 rfl rfl 0 (by decide) (hts _ tw_685) (fun _ h9 => h9) rfl dX9_areSame_11 ?_
  refine lv_iload_n hx hb dX9_areSame_14 rfl (lv_at hl 2 rfl) ?_
  refine lv_iconst (v := (nI 0)) hx hb dX9_areSame_15 (by decide) ?_
  refine kRS (As := [.int p2, .int (nI 0)]) (rest := [.ref (a 1), .int (z_s r1.toNatClampNeg)]) C (c_X9_of l D kI kC kB  p2 (nI 0) _ hw) ⟨rfl, rfl⟩ ce_X9_of cv_X9_of tw_764 ⟨Nat.le_of_ble_eq_true rfl, Nat.le_of_ble_eq_true rfl⟩ hP [] rfl hl.1 rfl (Nat.le_of_ble_eq_true rfl) ⟨Nat.zero_le _, Nat.zero_le _⟩ dX9_areSame_16 (fun r2 hw => ?_)
  have hin := hw.1
  replace hw := hw.2
  refine va_iald hx hb hK.1 hP 1 0 rfl rfl hin dX9_areSame_19 ?_
  refine lv_icmp_ne (tgt := 50) hx hb dX9_areSame_20 (by decide) (fun hc => ?_) (fun hc => ?_)
  · replace hw := hw.2 hc
    refine lv_iconst (v := (nI 0)) hx hb dX9_areSame_50 (by decide) ?_
    exact retRz C (by decide) hw dX9_areSame_51
  · replace hw := hw.1 hc
    refine lv_aload_n hx hb dX9_areSame_23 rfl (lv_at hl 0 rfl) ?_
    refine va_get (D := D) (ci := 7) (v := .ref (a 1)) (C := RX9) (T := TX9) (N := 14) hx hb hts inX9 hown hK.1 hP 0 rfl rfl 0 (by decide) (hts _ tw_685) (fun _ h9 => h9) rfl dX9_areSame_24 ?_
    refine lv_iload_n hx hb dX9_areSame_27 rfl (lv_at hl 1 rfl) ?_
    refine lv_iconst (v := (nI 1)) hx hb dX9_areSame_28 (by decide) ?_
    refine kRS (As := [.int p1, .int (nI 1)]) (rest := [.ref (a 1)]) C (c_X9_of l D kI kC kB  p1 (nI 1) _ hw) ⟨rfl, rfl⟩ ce_X9_of cv_X9_of tw_764 ⟨Nat.le_of_ble_eq_true rfl, Nat.le_of_ble_eq_true rfl⟩ hP [] rfl hl.1 rfl (Nat.le_of_ble_eq_true rfl) ⟨Nat.zero_le _, Nat.zero_le _⟩ dX9_areSame_29 (fun r3 hw => ?_)
    have hin := hw.1
    replace hw := hw.2
    refine va_iald hx hb hK.1 hP 1 0 rfl rfl hin dX9_areSame_32 ?_
    refine lv_aload_n hx hb dX9_areSame_33 rfl (lv_at hl 0 rfl) ?_
    refine va_get (D := D) (ci := 7) (v := .ref (a 1)) (C := RX9) (T := TX9) (N := 14) hx hb hts inX9 hown hK.1 hP 0 rfl rfl 0 (by decide) (hts _ tw_685) (fun _ h9 => h9) rfl dX9_areSame_34 ?_
    refine lv_iload_n hx hb dX9_areSame_37 rfl (lv_at hl 2 rfl) ?_
    refine lv_iconst (v := (nI 1)) hx hb dX9_areSame_38 (by decide) ?_
    refine kRS (As := [.int p2, .int (nI 1)]) (rest := [.ref (a 1), .int (z_s r3.toNatClampNeg)]) C (c_X9_of l D kI kC kB  p2 (nI 1) _ hw) ⟨rfl, rfl⟩ ce_X9_of cv_X9_of tw_764 ⟨Nat.le_of_ble_eq_true rfl, Nat.le_of_ble_eq_true rfl⟩ hP [] rfl hl.1 rfl (Nat.le_of_ble_eq_true rfl) ⟨Nat.zero_le _, Nat.zero_le _⟩ dX9_areSame_39 (fun r4 hw => ?_)
    have hin := hw.1
    replace hw := hw.2
    refine va_iald hx hb hK.1 hP 1 0 rfl rfl hin dX9_areSame_42 ?_
    refine lv_icmp_ne (tgt := 50) hx hb dX9_areSame_43 (by decide) (fun hc => ?_) (fun hc => ?_)
    · replace hw := hw.2 hc
      refine lv_iconst (v := (nI 0)) hx hb dX9_areSame_50 (by decide) ?_
      exact retRz C (by decide) hw dX9_areSame_51
    · replace hw := hw.1 hc
      refine lv_iconst (v := (nI 1)) hx hb dX9_areSame_46 (by decide) ?_
      refine lv_goto (tgt := 51) hx hb dX9_areSame_47 (by decide) ?_
      exact retRz C (by decide) hw dX9_areSame_51
set_option maxHeartbeats 4000000 in
set_option maxRecDepth 100000 in
theorem c_X9_isQuire (l : Launch) (D : va_G) (kI kC kB : ClassId) (a : AdT) (z_s : Nat → Int32) (z_text : Nat → Int32) (z_told : Nat → Int32) (z_formula : Nat → Int32) (z_states : Int32) (z_isKept : Int32) (z_typed : Int32) (z_at : Int32) (z_isRight : Int32) (z_times : Int32) (z_letter : Int32) (z_items : Int32) (z_length : Int32) (z_entries : Int32) (p1 : Int32) (Post : Int32 → Prop) (hw : wp_X9_isQuire z_s p1 Post) : CR l D kI kC kB yX9_isQuire cX9_isQuire 2 (some .boolean) ({ frames := 1, cells := 0, slots := 0, locals := 22 } : Room) [.ref (a 0), .int p1] (cwModel kI kC a z_s z_text z_told z_formula z_states z_isKept z_typed z_at z_isRight z_times z_letter z_items z_length z_entries) Post := by
  refine entR (by decide) (Nat.le_of_ble_eq_true rfl) ?_
  intro p e s m args below meth c ls C hP hl
  replace hl : lv_has ls 2 [(0, .ref (a 0)), (1, .int p1)] := hl
  obtain ⟨hx, hb, hr, hml, hown, hts, hlocks, hK⟩ := id C
  refine lv_iload_n hx hb dX9_isQuire_0 rfl (lv_at hl 1 rfl) ?_
  refine lv_iconst (v := (nI 0)) hx hb dX9_isQuire_1 (by decide) ?_
  refine lv_aload_n hx hb dX9_isQuire_2 rfl (lv_at hl 0 rfl) ?_
  refine va_get (D := D) (ci := 7) (v := .ref (a 1)) (C := RX9) (T := TX9) (N := 14) hx hb hts inX9 hown hK.1 hP 0 rfl rfl 0 (by decide) (hts _ tw_685) (fun _ h9 => h9) rfl dX9_isQuire_3 ?_
  refine lv_iconst (v := (nI 2)) hx hb dX9_isQuire_6 (by decide) ?_
  have hin := hw.1
  replace hw := hw.2
  refine va_iald hx hb hK.1 hP 1 0 rfl rfl hin dX9_isQuire_7 ?_
  refine lv_iconst (v := (nI 1)) hx hb dX9_isQuire_8 (by decide) ?_
  refine lv_isub hx hb dX9_isQuire_9 ?_
  refine kRS (As := [.int p1, .int (nI 0), .int ((z_s (nI 2).toNatClampNeg) - (nI 1))]) (rest := []) C (c_X9_in l D kI kC kB  p1 (nI 0) ((z_s (nI 2).toNatClampNeg) - (nI 1)) _ hw) ⟨rfl, rfl⟩ ce_X9_in cv_X9_in tw_733 ⟨Nat.le_of_ble_eq_true rfl, Nat.le_of_ble_eq_true rfl⟩ hP [] rfl hl.1 rfl (Nat.le_of_ble_eq_true rfl) ⟨Nat.zero_le _, Nat.zero_le _⟩ dX9_isQuire_10 (fun r1 hw => ?_)
  have hz := hw.1
  replace hw := hw.2
  exact retRz C hz hw dX9_isQuire_13
set_option maxHeartbeats 4000000 in
set_option maxRecDepth 100000 in
theorem cl_X9_leaves_4 (l : Launch) (D : va_G) (kI kC kB : ClassId) (a : AdT) (z_s : Nat → Int32) (z_text : Nat → Int32) (z_told : Nat → Int32) (z_formula : Nat → Int32) (z_states : Int32) (z_isKept : Int32) (z_typed : Int32) (z_at : Int32) (z_isRight : Int32) (z_times : Int32) (z_letter : Int32) (z_items : Int32) (z_length : Int32) (z_entries : Int32) (Post : Int32 → Prop) {p : Program} {e : Env} {s : State} {m : MethodId} {args : Array Value} {below : List Frame} {meth : Method} {c : Code} (C : CtxT p s m args meth c cX9_leaves 3 (some .int) yX9_leaves.cls D kI kC kB) (hP : va_P D vwCl (cwModel kI kC a z_s z_text z_told z_formula z_states z_isKept z_typed z_at z_isRight z_times z_letter z_items z_length z_entries) s.heap) : ∀ (n : Nat), ∀ (v1 : Int32) (v2 : Int32), wl_X9_leaves_4 z_s Post n v1 v2 → ∀ (ls : Array Slot), lv_has ls 3 [(0, .ref (a 0)), (1, .int v1), (2, .int v2)] → W p l e ({ frames := 1, cells := 0, slots := 0, locals := 21 } : Room) s m args below meth c s.heap [] 0 0 (MQ below (vp_Si Post) args s 0 0 (fun _ => False)) (F0 m 4 ls []) := by
  obtain ⟨hx, hb, hr, hml, hown, hts, hlocks, hK⟩ := id C
  intro n
  induction n with
  | zero => intro v1 v2 hw; exact hw.elim
  | succ n ih =>
    intro v1 v2 hw ls hl
    refine lv_iload_n hx hb dX9_leaves_4 rfl (lv_at hl 2 rfl) ?_
    refine lv_aload_n hx hb dX9_leaves_5 rfl (lv_at hl 0 rfl) ?_
    refine va_get (D := D) (ci := 7) (v := .ref (a 1)) (C := RX9) (T := TX9) (N := 14) hx hb hts inX9 hown hK.1 hP 0 rfl rfl 0 (by decide) (hts _ tw_685) (fun _ h9 => h9) rfl dX9_leaves_6 ?_
    refine lv_iconst (v := (nI 2)) hx hb dX9_leaves_9 (by decide) ?_
    have hin := hw.1
    replace hw := hw.2
    refine va_iald hx hb hK.1 hP 1 0 rfl rfl hin dX9_leaves_10 ?_
    refine lv_icmp_ge (tgt := 33) hx hb dX9_leaves_11 (by decide) (fun hc => ?_) (fun hc => ?_)
    · replace hw := hw.1 hc
      refine lv_iload_n hx hb dX9_leaves_33 rfl (lv_at hl 1 rfl) ?_
      exact retR C hw dX9_leaves_34
    · replace hw := hw.2 hc
      refine lv_iload_n hx hb dX9_leaves_14 rfl (lv_at hl 1 rfl) ?_
      refine lv_aload_n hx hb dX9_leaves_15 rfl (lv_at hl 0 rfl) ?_
      refine va_get (D := D) (ci := 7) (v := .ref (a 1)) (C := RX9) (T := TX9) (N := 14) hx hb hts inX9 hown hK.1 hP 0 rfl rfl 0 (by decide) (hts _ tw_685) (fun _ h9 => h9) rfl dX9_leaves_16 ?_
      refine lv_iload_n hx hb dX9_leaves_19 rfl (lv_at hl 2 rfl) ?_
      refine lv_iconst (v := (nI 2)) hx hb dX9_leaves_20 (by decide) ?_
      refine kRS (As := [.int v2, .int (nI 2)]) (rest := [.ref (a 1), .int v1]) C (c_X9_of l D kI kC kB  v2 (nI 2) _ hw) ⟨rfl, rfl⟩ ce_X9_of cv_X9_of tw_764 ⟨Nat.le_of_ble_eq_true rfl, Nat.le_of_ble_eq_true rfl⟩ hP [] rfl hl.1 rfl (Nat.le_of_ble_eq_true rfl) ⟨Nat.zero_le _, Nat.zero_le _⟩ dX9_leaves_21 (fun r1 hw => ?_)
      have hin := hw.1
      replace hw := hw.2
      refine va_iald hx hb hK.1 hP 1 0 rfl rfl hin dX9_leaves_24 ?_
      refine lv_iadd hx hb dX9_leaves_25 ?_
      refine lv_topi (fun y2 ey2 => ?_)
      replace hw := hw y2 ey2
      refine lv_istore_n (lv' := [(1, .int y2), (0, .ref (a 0)), (2, .int v2)]) hx hb dX9_leaves_26 rfl hl (by decide) rfl (fun ls hl => ?_)
      refine lv_iinc (v := (v2 + nI 1)) (lv' := [(2, .int (v2 + nI 1)), (1, .int y2), (0, .ref (a 0))]) hx hb dX9_leaves_27 hl (k := 2) rfl rfl (by decide) rfl (fun ls hl => ?_)
      refine lv_goto (tgt := 4) hx hb dX9_leaves_30 (by decide) ?_
      exact ih y2 (v2 + nI 1) hw ls (lv_sub hl [2, 1, 0] rfl)
set_option maxHeartbeats 4000000 in
set_option maxRecDepth 100000 in
theorem c_X9_leaves (l : Launch) (D : va_G) (kI kC kB : ClassId) (a : AdT) (z_s : Nat → Int32) (z_text : Nat → Int32) (z_told : Nat → Int32) (z_formula : Nat → Int32) (z_states : Int32) (z_isKept : Int32) (z_typed : Int32) (z_at : Int32) (z_isRight : Int32) (z_times : Int32) (z_letter : Int32) (z_items : Int32) (z_length : Int32) (z_entries : Int32) (Post : Int32 → Prop) (hw : wp_X9_leaves z_s Post) : CR l D kI kC kB yX9_leaves cX9_leaves 3 (some .int) ({ frames := 1, cells := 0, slots := 0, locals := 21 } : Room) [.ref (a 0)] (cwModel kI kC a z_s z_text z_told z_formula z_states z_isKept z_typed z_at z_isRight z_times z_letter z_items z_length z_entries) Post := by
  refine entR (by decide) (Nat.le_of_ble_eq_true rfl) ?_
  intro p e s m args below meth c ls C hP hl
  replace hl : lv_has ls 3 [(0, .ref (a 0))] := hl
  obtain ⟨hx, hb, hr, hml, hown, hts, hlocks, hK⟩ := id C
  refine lv_iconst (v := (nI 0)) hx hb dX9_leaves_0 (by decide) ?_
  refine lv_istore_n (lv' := [(1, .int (nI 0)), (0, .ref (a 0))]) hx hb dX9_leaves_1 rfl hl (by decide) rfl (fun ls hl => ?_)
  refine lv_iconst (v := (nI 0)) hx hb dX9_leaves_2 (by decide) ?_
  refine lv_istore_n (lv' := [(2, .int (nI 0)), (1, .int (nI 0)), (0, .ref (a 0))]) hx hb dX9_leaves_3 rfl hl (by decide) rfl (fun ls hl => ?_)
  obtain ⟨n9, hw⟩ := hw
  exact cl_X9_leaves_4 l D kI kC kB a z_s z_text z_told z_formula z_states z_isKept z_typed z_at z_isRight z_times z_letter z_items z_length z_entries Post C hP n9 (nI 0) (nI 0) hw ls (lv_sub hl [2, 1, 0] rfl)
set_option maxHeartbeats 4000000 in
set_option maxRecDepth 100000 in
theorem cl_X9_first_4 (l : Launch) (D : va_G) (kI kC kB : ClassId) (a : AdT) (z_s : Nat → Int32) (z_text : Nat → Int32) (z_told : Nat → Int32) (z_formula : Nat → Int32) (z_states : Int32) (z_isKept : Int32) (z_typed : Int32) (z_at : Int32) (z_isRight : Int32) (z_times : Int32) (z_letter : Int32) (z_items : Int32) (z_length : Int32) (z_entries : Int32) (p1 : Int32) (Post : Int32 → Prop) {p : Program} {e : Env} {s : State} {m : MethodId} {args : Array Value} {below : List Frame} {meth : Method} {c : Code} (C : CtxT p s m args meth c cX9_first 4 (some .int) yX9_first.cls D kI kC kB) (hP : va_P D vwCl (cwModel kI kC a z_s z_text z_told z_formula z_states z_isKept z_typed z_at z_isRight z_times z_letter z_items z_length z_entries) s.heap) : ∀ (n : Nat), ∀ (v2 : Int32) (v3 : Int32), wl_X9_first_4 z_s p1 Post n v2 v3 → ∀ (ls : Array Slot), lv_has ls 4 [(0, .ref (a 0)), (1, .int p1), (2, .int v2), (3, .int v3)] → W p l e ({ frames := 1, cells := 0, slots := 0, locals := 21 } : Room) s m args below meth c s.heap [] 0 0 (MQ below (vp_Si Post) args s 0 0 (fun _ => False)) (F0 m 4 ls []) := by
  obtain ⟨hx, hb, hr, hml, hown, hts, hlocks, hK⟩ := id C
  intro n
  induction n with
  | zero => intro v2 v3 hw; exact hw.elim
  | succ n ih =>
    intro v2 v3 hw ls hl
    refine lv_iload_n hx hb dX9_first_4 rfl (lv_at hl 3 rfl) ?_
    refine lv_iload_n hx hb dX9_first_5 rfl (lv_at hl 1 rfl) ?_
    refine lv_icmp_ge (tgt := 28) hx hb dX9_first_6 (by decide) (fun hc => ?_) (fun hc => ?_)
    · replace hw := hw.1 hc
      refine lv_iload_n hx hb dX9_first_28 rfl (lv_at hl 2 rfl) ?_
      exact retR C hw dX9_first_29
    · replace hw := hw.2 hc
      refine lv_iload_n hx hb dX9_first_9 rfl (lv_at hl 2 rfl) ?_
      refine lv_aload_n hx hb dX9_first_10 rfl (lv_at hl 0 rfl) ?_
      refine va_get (D := D) (ci := 7) (v := .ref (a 1)) (C := RX9) (T := TX9) (N := 14) hx hb hts inX9 hown hK.1 hP 0 rfl rfl 0 (by decide) (hts _ tw_685) (fun _ h9 => h9) rfl dX9_first_11 ?_
      refine lv_iload_n hx hb dX9_first_14 rfl (lv_at hl 3 rfl) ?_
      refine lv_iconst (v := (nI 2)) hx hb dX9_first_15 (by decide) ?_
      refine kRS (As := [.int v3, .int (nI 2)]) (rest := [.ref (a 1), .int v2]) C (c_X9_of l D kI kC kB  v3 (nI 2) _ hw) ⟨rfl, rfl⟩ ce_X9_of cv_X9_of tw_764 ⟨Nat.le_of_ble_eq_true rfl, Nat.le_of_ble_eq_true rfl⟩ hP [] rfl hl.1 rfl (Nat.le_of_ble_eq_true rfl) ⟨Nat.zero_le _, Nat.zero_le _⟩ dX9_first_16 (fun r1 hw => ?_)
      have hin := hw.1
      replace hw := hw.2
      refine va_iald hx hb hK.1 hP 1 0 rfl rfl hin dX9_first_19 ?_
      refine lv_iadd hx hb dX9_first_20 ?_
      refine lv_topi (fun y2 ey2 => ?_)
      replace hw := hw y2 ey2
      refine lv_istore_n (lv' := [(2, .int y2), (0, .ref (a 0)), (1, .int p1), (3, .int v3)]) hx hb dX9_first_21 rfl hl (by decide) rfl (fun ls hl => ?_)
      refine lv_iinc (v := (v3 + nI 1)) (lv' := [(3, .int (v3 + nI 1)), (2, .int y2), (0, .ref (a 0)), (1, .int p1)]) hx hb dX9_first_22 hl (k := 3) rfl rfl (by decide) rfl (fun ls hl => ?_)
      refine lv_goto (tgt := 4) hx hb dX9_first_25 (by decide) ?_
      exact ih y2 (v3 + nI 1) hw ls (lv_sub hl [2, 3, 1, 0] rfl)
set_option maxHeartbeats 4000000 in
set_option maxRecDepth 100000 in
theorem c_X9_first (l : Launch) (D : va_G) (kI kC kB : ClassId) (a : AdT) (z_s : Nat → Int32) (z_text : Nat → Int32) (z_told : Nat → Int32) (z_formula : Nat → Int32) (z_states : Int32) (z_isKept : Int32) (z_typed : Int32) (z_at : Int32) (z_isRight : Int32) (z_times : Int32) (z_letter : Int32) (z_items : Int32) (z_length : Int32) (z_entries : Int32) (p1 : Int32) (Post : Int32 → Prop) (hw : wp_X9_first z_s p1 Post) : CR l D kI kC kB yX9_first cX9_first 4 (some .int) ({ frames := 1, cells := 0, slots := 0, locals := 21 } : Room) [.ref (a 0), .int p1] (cwModel kI kC a z_s z_text z_told z_formula z_states z_isKept z_typed z_at z_isRight z_times z_letter z_items z_length z_entries) Post := by
  refine entR (by decide) (Nat.le_of_ble_eq_true rfl) ?_
  intro p e s m args below meth c ls C hP hl
  replace hl : lv_has ls 4 [(0, .ref (a 0)), (1, .int p1)] := hl
  obtain ⟨hx, hb, hr, hml, hown, hts, hlocks, hK⟩ := id C
  refine lv_iconst (v := (nI 0)) hx hb dX9_first_0 (by decide) ?_
  refine lv_istore_n (lv' := [(2, .int (nI 0)), (0, .ref (a 0)), (1, .int p1)]) hx hb dX9_first_1 rfl hl (by decide) rfl (fun ls hl => ?_)
  refine lv_iconst (v := (nI 0)) hx hb dX9_first_2 (by decide) ?_
  refine lv_istore_n (lv' := [(3, .int (nI 0)), (2, .int (nI 0)), (0, .ref (a 0)), (1, .int p1)]) hx hb dX9_first_3 rfl hl (by decide) rfl (fun ls hl => ?_)
  obtain ⟨n9, hw⟩ := hw
  exact cl_X9_first_4 l D kI kC kB a z_s z_text z_told z_formula z_states z_isKept z_typed z_at z_isRight z_times z_letter z_items z_length z_entries p1 Post C hP n9 (nI 0) (nI 0) hw ls (lv_sub hl [2, 3, 1, 0] rfl)
set_option maxHeartbeats 4000000 in
set_option maxRecDepth 100000 in
theorem c_X9_signed (l : Launch) (D : va_G) (kI kC kB : ClassId) (a : AdT) (z_s : Nat → Int32) (z_text : Nat → Int32) (z_told : Nat → Int32) (z_formula : Nat → Int32) (z_states : Int32) (z_isKept : Int32) (z_typed : Int32) (z_at : Int32) (z_isRight : Int32) (z_times : Int32) (z_letter : Int32) (z_items : Int32) (z_length : Int32) (z_entries : Int32) (p1 : Int32) (Post : Int32 → Prop) (hw : wp_X9_signed z_s p1 Post) : CR l D kI kC kB yX9_signed cX9_signed 4 (some .int) ({ frames := 1, cells := 0, slots := 0, locals := 21 } : Room) [.ref (a 0), .int p1] (cwModel kI kC a z_s z_text z_told z_formula z_states z_isKept z_typed z_at z_isRight z_times z_letter z_items z_length z_entries) Post := by
  refine entR (by decide) (Nat.le_of_ble_eq_true rfl) ?_
  intro p e s m args below meth c ls C hP hl
  replace hl : lv_has ls 4 [(0, .ref (a 0)), (1, .int p1)] := hl
  obtain ⟨hx, hb, hr, hml, hown, hts, hlocks, hK⟩ := id C
  refine lv_aload_n hx hb dX9_signed_0 rfl (lv_at hl 0 rfl) ?_
  refine va_get (D := D) (ci := 7) (v := .ref (a 1)) (C := RX9) (T := TX9) (N := 14) hx hb hts inX9 hown hK.1 hP 0 rfl rfl 0 (by decide) (hts _ tw_685) (fun _ h9 => h9) rfl dX9_signed_1 ?_
  refine lv_iload_n hx hb dX9_signed_4 rfl (lv_at hl 1 rfl) ?_
  refine lv_iconst (v := (nI 2)) hx hb dX9_signed_5 (by decide) ?_
  refine kRS (As := [.int p1, .int (nI 2)]) (rest := [.ref (a 1)]) C (c_X9_of l D kI kC kB  p1 (nI 2) _ hw) ⟨rfl, rfl⟩ ce_X9_of cv_X9_of tw_764 ⟨Nat.le_of_ble_eq_true rfl, Nat.le_of_ble_eq_true rfl⟩ hP [] rfl hl.1 rfl (Nat.le_of_ble_eq_true rfl) ⟨Nat.zero_le _, Nat.zero_le _⟩ dX9_signed_6 (fun r1 hw => ?_)
  have hin := hw.1
  replace hw := hw.2
  refine va_iald hx hb hK.1 hP 1 0 rfl rfl hin dX9_signed_9 ?_
  refine lv_topi (fun y2 ey2 => ?_)
  replace hw := hw y2 ey2
  refine lv_istore_n (lv' := [(2, .int y2), (0, .ref (a 0)), (1, .int p1)]) hx hb dX9_signed_10 rfl hl (by decide) rfl (fun ls hl => ?_)
  refine lv_iload_n hx hb dX9_signed_11 rfl (lv_at hl 0 rfl) ?_
  refine lv_iconst (v := (nI 1)) hx hb dX9_signed_12 (by decide) ?_
  refine lv_iadd hx hb dX9_signed_13 ?_
  refine lv_iconst (v := (nI 2)) hx hb dX9_signed_14 (by decide) ?_
  refine lv_idiv hx hb dX9_signed_15 (by decide) ?_
  refine lv_topi (fun y3 ey3 => ?_)
  replace hw := hw y3 ey3
  refine lv_istore_n (lv' := [(3, .int y3), (2, .int y2), (0, .ref (a 0)), (1, .int p1)]) hx hb dX9_signed_16 rfl hl (by decide) rfl (fun ls hl => ?_)
  refine lv_aload_n hx hb dX9_signed_17 rfl (lv_at hl 2 rfl) ?_
  refine va_get (D := D) (ci := 7) (v := .ref (a 1)) (C := RX9) (T := TX9) (N := 14) hx hb hts inX9 hown hK.1 hP 0 rfl rfl 0 (by decide) (hts _ tw_685) (fun _ h9 => h9) rfl dX9_signed_18 ?_
  refine lv_iconst (v := (nI 1)) hx hb dX9_signed_21 (by decide) ?_
  have hin := hw.1
  replace hw := hw.2
  refine va_iald hx hb hK.1 hP 1 0 rfl rfl hin dX9_signed_22 ?_
  refine lv_iconst (v := (nI 2)) hx hb dX9_signed_23 (by decide) ?_
  refine lv_icmp_eq (tgt := 32) hx hb dX9_signed_24 (by decide) (fun hc => ?_) (fun hc => ?_)
  · replace hw := hw.1 hc
    refine lv_iload_n hx hb dX9_signed_32 rfl (lv_at hl 1 rfl) ?_
    refine lv_goto (tgt := 53) hx hb dX9_signed_33 (by decide) ?_
    exact retR C hw dX9_signed_53
  · replace hw := hw.2 hc
    refine lv_iload_n hx hb dX9_signed_27 rfl (lv_at hl 0 rfl) ?_
    refine lv_iload_n hx hb dX9_signed_28 rfl (lv_at hl 1 rfl) ?_
    refine lv_icmp_ne (tgt := 36) hx hb dX9_signed_29 (by decide) (fun hc => ?_) (fun hc => ?_)
    · replace hw := hw.2 hc
      refine lv_aload_n hx hb dX9_signed_36 rfl (lv_at hl 2 rfl) ?_
      refine va_get (D := D) (ci := 7) (v := .ref (a 1)) (C := RX9) (T := TX9) (N := 14) hx hb hts inX9 hown hK.1 hP 0 rfl rfl 0 (by decide) (hts _ tw_685) (fun _ h9 => h9) rfl dX9_signed_37 ?_
      refine lv_iconst (v := (nI 1)) hx hb dX9_signed_40 (by decide) ?_
      have hin := hw.1
      replace hw := hw.2
      refine va_iald hx hb hK.1 hP 1 0 rfl rfl hin dX9_signed_41 ?_
      refine lv_iconst (v := (nI 1)) hx hb dX9_signed_42 (by decide) ?_
      refine lv_icmp_ne (tgt := 52) hx hb dX9_signed_43 (by decide) (fun hc => ?_) (fun hc => ?_)
      · replace hw := hw.2 hc
        refine lv_iload_n hx hb dX9_signed_52 rfl (lv_at hl 0 rfl) ?_
        exact retR C hw dX9_signed_53
      · replace hw := hw.1 hc
        refine lv_iload_n hx hb dX9_signed_46 rfl (lv_at hl 0 rfl) ?_
        refine lv_iconst (v := (nI 1)) hx hb dX9_signed_47 (by decide) ?_
        refine lv_iadd hx hb dX9_signed_48 ?_
        refine lv_goto (tgt := 53) hx hb dX9_signed_49 (by decide) ?_
        exact retR C hw dX9_signed_53
    · replace hw := hw.1 hc
      refine lv_iload_n hx hb dX9_signed_32 rfl (lv_at hl 1 rfl) ?_
      refine lv_goto (tgt := 53) hx hb dX9_signed_33 (by decide) ?_
      exact retR C hw dX9_signed_53
set_option maxHeartbeats 4000000 in
set_option maxRecDepth 100000 in
theorem cl_X9_signedOfAll_4 (l : Launch) (D : va_G) (kI kC kB : ClassId) (a : AdT) (z_s : Nat → Int32) (z_text : Nat → Int32) (z_told : Nat → Int32) (z_formula : Nat → Int32) (z_states : Int32) (z_isKept : Int32) (z_typed : Int32) (z_at : Int32) (z_isRight : Int32) (z_times : Int32) (z_letter : Int32) (z_items : Int32) (z_length : Int32) (z_entries : Int32) (Post : Int32 → Prop) {p : Program} {e : Env} {s : State} {m : MethodId} {args : Array Value} {below : List Frame} {meth : Method} {c : Code} (C : CtxT p s m args meth c cX9_signedOfAll 3 (some .int) yX9_signedOfAll.cls D kI kC kB) (hP : va_P D vwCl (cwModel kI kC a z_s z_text z_told z_formula z_states z_isKept z_typed z_at z_isRight z_times z_letter z_items z_length z_entries) s.heap) : ∀ (n : Nat), ∀ (v1 : Int32) (v2 : Int32), wl_X9_signedOfAll_4 z_s Post n v1 v2 → ∀ (ls : Array Slot), lv_has ls 3 [(0, .ref (a 0)), (1, .int v1), (2, .int v2)] → W p l e ({ frames := 2, cells := 0, slots := 0, locals := 44 } : Room) s m args below meth c s.heap [] 0 0 (MQ below (vp_Si Post) args s 0 0 (fun _ => False)) (F0 m 4 ls []) := by
  obtain ⟨hx, hb, hr, hml, hown, hts, hlocks, hK⟩ := id C
  intro n
  induction n with
  | zero => intro v1 v2 hw; exact hw.elim
  | succ n ih =>
    intro v1 v2 hw ls hl
    refine lv_iload_n hx hb dX9_signedOfAll_4 rfl (lv_at hl 2 rfl) ?_
    refine lv_aload_n hx hb dX9_signedOfAll_5 rfl (lv_at hl 0 rfl) ?_
    refine va_get (D := D) (ci := 7) (v := .ref (a 1)) (C := RX9) (T := TX9) (N := 14) hx hb hts inX9 hown hK.1 hP 0 rfl rfl 0 (by decide) (hts _ tw_685) (fun _ h9 => h9) rfl dX9_signedOfAll_6 ?_
    refine lv_iconst (v := (nI 2)) hx hb dX9_signedOfAll_9 (by decide) ?_
    have hin := hw.1
    replace hw := hw.2
    refine va_iald hx hb hK.1 hP 1 0 rfl rfl hin dX9_signedOfAll_10 ?_
    refine lv_icmp_ge (tgt := 28) hx hb dX9_signedOfAll_11 (by decide) (fun hc => ?_) (fun hc => ?_)
    · replace hw := hw.1 hc
      refine lv_iload_n hx hb dX9_signedOfAll_28 rfl (lv_at hl 1 rfl) ?_
      exact retR C hw dX9_signedOfAll_29
    · replace hw := hw.2 hc
      refine lv_iload_n hx hb dX9_signedOfAll_14 rfl (lv_at hl 1 rfl) ?_
      refine lv_aload_n hx hb dX9_signedOfAll_15 rfl (lv_at hl 0 rfl) ?_
      refine lv_iload_n hx hb dX9_signedOfAll_16 rfl (lv_at hl 2 rfl) ?_
      refine kRV (As := [.int v2]) (rest := [.int v1]) (q0 := 0) C (c_X9_signed l D kI kC kB a z_s z_text z_told z_formula z_states z_isKept z_typed z_at z_isRight z_times z_letter z_items z_length z_entries v2 _ hw) ⟨rfl, rfl⟩ ce_X9_signed cv_X9_signed tw_760 ⟨Nat.le_of_ble_eq_true rfl, Nat.le_of_ble_eq_true rfl⟩ hP [0, 1, 2, 3, 4] rfl rfl rfl rfl hl.1 rfl (Nat.le_of_ble_eq_true rfl) ⟨Nat.zero_le _, Nat.zero_le _⟩ dX9_signedOfAll_17 (fun r1 hw => ?_)
      refine lv_iadd hx hb dX9_signedOfAll_20 ?_
      refine lv_topi (fun y2 ey2 => ?_)
      replace hw := hw y2 ey2
      refine lv_istore_n (lv' := [(1, .int y2), (0, .ref (a 0)), (2, .int v2)]) hx hb dX9_signedOfAll_21 rfl hl (by decide) rfl (fun ls hl => ?_)
      refine lv_iinc (v := (v2 + nI 1)) (lv' := [(2, .int (v2 + nI 1)), (1, .int y2), (0, .ref (a 0))]) hx hb dX9_signedOfAll_22 hl (k := 2) rfl rfl (by decide) rfl (fun ls hl => ?_)
      refine lv_goto (tgt := 4) hx hb dX9_signedOfAll_25 (by decide) ?_
      exact ih y2 (v2 + nI 1) hw ls (lv_sub hl [2, 1, 0] rfl)
set_option maxHeartbeats 4000000 in
set_option maxRecDepth 100000 in
theorem c_X9_signedOfAll (l : Launch) (D : va_G) (kI kC kB : ClassId) (a : AdT) (z_s : Nat → Int32) (z_text : Nat → Int32) (z_told : Nat → Int32) (z_formula : Nat → Int32) (z_states : Int32) (z_isKept : Int32) (z_typed : Int32) (z_at : Int32) (z_isRight : Int32) (z_times : Int32) (z_letter : Int32) (z_items : Int32) (z_length : Int32) (z_entries : Int32) (Post : Int32 → Prop) (hw : wp_X9_signedOfAll z_s Post) : CR l D kI kC kB yX9_signedOfAll cX9_signedOfAll 3 (some .int) ({ frames := 2, cells := 0, slots := 0, locals := 44 } : Room) [.ref (a 0)] (cwModel kI kC a z_s z_text z_told z_formula z_states z_isKept z_typed z_at z_isRight z_times z_letter z_items z_length z_entries) Post := by
  refine entR (by decide) (Nat.le_of_ble_eq_true rfl) ?_
  intro p e s m args below meth c ls C hP hl
  replace hl : lv_has ls 3 [(0, .ref (a 0))] := hl
  obtain ⟨hx, hb, hr, hml, hown, hts, hlocks, hK⟩ := id C
  refine lv_iconst (v := (nI 0)) hx hb dX9_signedOfAll_0 (by decide) ?_
  refine lv_istore_n (lv' := [(1, .int (nI 0)), (0, .ref (a 0))]) hx hb dX9_signedOfAll_1 rfl hl (by decide) rfl (fun ls hl => ?_)
  refine lv_iconst (v := (nI 0)) hx hb dX9_signedOfAll_2 (by decide) ?_
  refine lv_istore_n (lv' := [(2, .int (nI 0)), (1, .int (nI 0)), (0, .ref (a 0))]) hx hb dX9_signedOfAll_3 rfl hl (by decide) rfl (fun ls hl => ?_)
  obtain ⟨n9, hw⟩ := hw
  exact cl_X9_signedOfAll_4 l D kI kC kB a z_s z_text z_told z_formula z_states z_isKept z_typed z_at z_isRight z_times z_letter z_items z_length z_entries Post C hP n9 (nI 0) (nI 0) hw ls (lv_sub hl [2, 1, 0] rfl)
set_option maxHeartbeats 4000000 in
set_option maxRecDepth 100000 in
theorem c_X9_isLeaf (l : Launch) (D : va_G) (kI kC kB : ClassId) (a : AdT) (z_s : Nat → Int32) (z_text : Nat → Int32) (z_told : Nat → Int32) (z_formula : Nat → Int32) (z_states : Int32) (z_isKept : Int32) (z_typed : Int32) (z_at : Int32) (z_isRight : Int32) (z_times : Int32) (z_letter : Int32) (z_items : Int32) (z_length : Int32) (z_entries : Int32) (p1 : Int32) (Post : Int32 → Prop) (hw : wp_X9_isLeaf z_s p1 Post) : CR l D kI kC kB yX9_isLeaf cX9_isLeaf 2 (some .boolean) ({ frames := 2, cells := 0, slots := 0, locals := 43 } : Room) [.ref (a 0), .int p1] (cwModel kI kC a z_s z_text z_told z_formula z_states z_isKept z_typed z_at z_isRight z_times z_letter z_items z_length z_entries) Post := by
  refine entR (by decide) (Nat.le_of_ble_eq_true rfl) ?_
  intro p e s m args below meth c ls C hP hl
  replace hl : lv_has ls 2 [(0, .ref (a 0)), (1, .int p1)] := hl
  obtain ⟨hx, hb, hr, hml, hown, hts, hlocks, hK⟩ := id C
  refine lv_iload_n hx hb dX9_isLeaf_0 rfl (lv_at hl 1 rfl) ?_
  refine lv_iconst (v := (nI 0)) hx hb dX9_isLeaf_1 (by decide) ?_
  refine lv_aload_n hx hb dX9_isLeaf_2 rfl (lv_at hl 0 rfl) ?_
  refine kRV (As := []) (rest := [.int (nI 0), .int p1]) (q0 := 0) C (c_X9_leaves l D kI kC kB a z_s z_text z_told z_formula z_states z_isKept z_typed z_at z_isRight z_times z_letter z_items z_length z_entries _ hw) ⟨rfl, rfl⟩ ce_X9_leaves cv_X9_leaves tw_815 ⟨Nat.le_of_ble_eq_true rfl, Nat.le_of_ble_eq_true rfl⟩ hP [0, 1, 2, 3, 4] rfl rfl rfl rfl hl.1 rfl (Nat.le_of_ble_eq_true rfl) ⟨Nat.zero_le _, Nat.zero_le _⟩ dX9_isLeaf_3 (fun r1 hw => ?_)
  refine lv_iconst (v := (nI 1)) hx hb dX9_isLeaf_6 (by decide) ?_
  refine lv_isub hx hb dX9_isLeaf_7 ?_
  refine kRS (As := [.int p1, .int (nI 0), .int (r1 - (nI 1))]) (rest := []) C (c_X9_in l D kI kC kB  p1 (nI 0) (r1 - (nI 1)) _ hw) ⟨rfl, rfl⟩ ce_X9_in cv_X9_in tw_733 ⟨Nat.le_of_ble_eq_true rfl, Nat.le_of_ble_eq_true rfl⟩ hP [] rfl hl.1 rfl (Nat.le_of_ble_eq_true rfl) ⟨Nat.zero_le _, Nat.zero_le _⟩ dX9_isLeaf_8 (fun r2 hw => ?_)
  have hz := hw.1
  replace hw := hw.2
  exact retRz C hz hw dX9_isLeaf_11
set_option maxHeartbeats 4000000 in
set_option maxRecDepth 100000 in
theorem cl_X9_quireOf_2 (l : Launch) (D : va_G) (kI kC kB : ClassId) (a : AdT) (z_s : Nat → Int32) (z_text : Nat → Int32) (z_told : Nat → Int32) (z_formula : Nat → Int32) (z_states : Int32) (z_isKept : Int32) (z_typed : Int32) (z_at : Int32) (z_isRight : Int32) (z_times : Int32) (z_letter : Int32) (z_items : Int32) (z_length : Int32) (z_entries : Int32) (p1 : Int32) (Post : Int32 → Prop) {p : Program} {e : Env} {s : State} {m : MethodId} {args : Array Value} {below : List Frame} {meth : Method} {c : Code} (C : CtxT p s m args meth c cX9_quireOf 3 (some .int) yX9_quireOf.cls D kI kC kB) (hP : va_P D vwCl (cwModel kI kC a z_s z_text z_told z_formula z_states z_isKept z_typed z_at z_isRight z_times z_letter z_items z_length z_entries) s.heap) : ∀ (n : Nat), ∀ (v2 : Int32), wl_X9_quireOf_2 z_s p1 Post n v2 → ∀ (ls : Array Slot), lv_has ls 3 [(0, .ref (a 0)), (1, .int p1), (2, .int v2)] → W p l e ({ frames := 2, cells := 0, slots := 0, locals := 44 } : Room) s m args below meth c s.heap [] 0 0 (MQ below (vp_Si Post) args s 0 0 (fun _ => False)) (F0 m 2 ls []) := by
  obtain ⟨hx, hb, hr, hml, hown, hts, hlocks, hK⟩ := id C
  intro n
  induction n with
  | zero => intro v2 hw; exact hw.elim
  | succ n ih =>
    intro v2 hw ls hl
    refine lv_iload_n hx hb dX9_quireOf_2 rfl (lv_at hl 1 rfl) ?_
    refine lv_aload_n hx hb dX9_quireOf_3 rfl (lv_at hl 0 rfl) ?_
    refine lv_iload_n hx hb dX9_quireOf_4 rfl (lv_at hl 2 rfl) ?_
    refine kRV (As := [.int v2]) (rest := [.int p1]) (q0 := 0) C (c_X9_first l D kI kC kB a z_s z_text z_told z_formula z_states z_isKept z_typed z_at z_isRight z_times z_letter z_items z_length z_entries v2 _ hw) ⟨rfl, rfl⟩ ce_X9_first cv_X9_first tw_843 ⟨Nat.le_of_ble_eq_true rfl, Nat.le_of_ble_eq_true rfl⟩ hP [0, 1, 2, 3, 4] rfl rfl rfl rfl hl.1 rfl (Nat.le_of_ble_eq_true rfl) ⟨Nat.zero_le _, Nat.zero_le _⟩ dX9_quireOf_5 (fun r1 hw => ?_)
    refine lv_aload_n hx hb dX9_quireOf_8 rfl (lv_at hl 0 rfl) ?_
    refine va_get (D := D) (ci := 7) (v := .ref (a 1)) (C := RX9) (T := TX9) (N := 14) hx hb hts inX9 hown hK.1 hP 0 rfl rfl 0 (by decide) (hts _ tw_685) (fun _ h9 => h9) rfl dX9_quireOf_9 ?_
    refine lv_iload_n hx hb dX9_quireOf_12 rfl (lv_at hl 2 rfl) ?_
    refine lv_iconst (v := (nI 2)) hx hb dX9_quireOf_13 (by decide) ?_
    refine kRS (As := [.int v2, .int (nI 2)]) (rest := [.ref (a 1), .int r1, .int p1]) C (c_X9_of l D kI kC kB  v2 (nI 2) _ hw) ⟨rfl, rfl⟩ ce_X9_of cv_X9_of tw_764 ⟨Nat.le_of_ble_eq_true rfl, Nat.le_of_ble_eq_true rfl⟩ hP [] rfl hl.1 rfl (Nat.le_of_ble_eq_true rfl) ⟨Nat.zero_le _, Nat.zero_le _⟩ dX9_quireOf_14 (fun r2 hw => ?_)
    have hin := hw.1
    replace hw := hw.2
    refine va_iald hx hb hK.1 hP 1 0 rfl rfl hin dX9_quireOf_17 ?_
    refine lv_iadd hx hb dX9_quireOf_18 ?_
    refine lv_icmp_lt (tgt := 28) hx hb dX9_quireOf_19 (by decide) (fun hc => ?_) (fun hc => ?_)
    · replace hw := hw.1 hc
      refine lv_iload_n hx hb dX9_quireOf_28 rfl (lv_at hl 2 rfl) ?_
      exact retR C hw dX9_quireOf_29
    · replace hw := hw.2 hc
      refine lv_iinc (v := (v2 + nI 1)) (lv' := [(2, .int (v2 + nI 1)), (0, .ref (a 0)), (1, .int p1)]) hx hb dX9_quireOf_22 hl (k := 2) rfl rfl (by decide) rfl (fun ls hl => ?_)
      refine lv_goto (tgt := 2) hx hb dX9_quireOf_25 (by decide) ?_
      exact ih (v2 + nI 1) hw ls (lv_sub hl [1, 2, 0] rfl)
set_option maxHeartbeats 4000000 in
set_option maxRecDepth 100000 in
theorem c_X9_quireOf (l : Launch) (D : va_G) (kI kC kB : ClassId) (a : AdT) (z_s : Nat → Int32) (z_text : Nat → Int32) (z_told : Nat → Int32) (z_formula : Nat → Int32) (z_states : Int32) (z_isKept : Int32) (z_typed : Int32) (z_at : Int32) (z_isRight : Int32) (z_times : Int32) (z_letter : Int32) (z_items : Int32) (z_length : Int32) (z_entries : Int32) (p1 : Int32) (Post : Int32 → Prop) (hw : wp_X9_quireOf z_s p1 Post) : CR l D kI kC kB yX9_quireOf cX9_quireOf 3 (some .int) ({ frames := 2, cells := 0, slots := 0, locals := 44 } : Room) [.ref (a 0), .int p1] (cwModel kI kC a z_s z_text z_told z_formula z_states z_isKept z_typed z_at z_isRight z_times z_letter z_items z_length z_entries) Post := by
  refine entR (by decide) (Nat.le_of_ble_eq_true rfl) ?_
  intro p e s m args below meth c ls C hP hl
  replace hl : lv_has ls 3 [(0, .ref (a 0)), (1, .int p1)] := hl
  obtain ⟨hx, hb, hr, hml, hown, hts, hlocks, hK⟩ := id C
  refine lv_iconst (v := (nI 0)) hx hb dX9_quireOf_0 (by decide) ?_
  refine lv_istore_n (lv' := [(2, .int (nI 0)), (0, .ref (a 0)), (1, .int p1)]) hx hb dX9_quireOf_1 rfl hl (by decide) rfl (fun ls hl => ?_)
  obtain ⟨n9, hw⟩ := hw
  exact cl_X9_quireOf_2 l D kI kC kB a z_s z_text z_told z_formula z_states z_isKept z_typed z_at z_isRight z_times z_letter z_items z_length z_entries p1 Post C hP n9 (nI 0) hw ls (lv_sub hl [1, 2, 0] rfl)
set_option maxHeartbeats 4000000 in
set_option maxRecDepth 100000 in
theorem c_X9_isLost (l : Launch) (D : va_G) (kI kC kB : ClassId) (a : AdT) (z_s : Nat → Int32) (z_text : Nat → Int32) (z_told : Nat → Int32) (z_formula : Nat → Int32) (z_states : Int32) (z_isKept : Int32) (z_typed : Int32) (z_at : Int32) (z_isRight : Int32) (z_times : Int32) (z_letter : Int32) (z_items : Int32) (z_length : Int32) (z_entries : Int32) (p1 : Int32) (Post : Int32 → Prop) (hw : wp_X9_isLost z_s p1 Post) : CR l D kI kC kB yX9_isLost cX9_isLost 3 (some .boolean) ({ frames := 3, cells := 0, slots := 0, locals := 66 } : Room) [.ref (a 0), .int p1] (cwModel kI kC a z_s z_text z_told z_formula z_states z_isKept z_typed z_at z_isRight z_times z_letter z_items z_length z_entries) Post := by
  refine entR (by decide) (Nat.le_of_ble_eq_true rfl) ?_
  intro p e s m args below meth c ls C hP hl
  replace hl : lv_has ls 3 [(0, .ref (a 0)), (1, .int p1)] := hl
  obtain ⟨hx, hb, hr, hml, hown, hts, hlocks, hK⟩ := id C
  refine lv_aload_n hx hb dX9_isLost_0 rfl (lv_at hl 0 rfl) ?_
  refine lv_iload_n hx hb dX9_isLost_1 rfl (lv_at hl 1 rfl) ?_
  refine kRV (As := [.int p1]) (rest := []) (q0 := 0) C (c_X9_quireOf l D kI kC kB a z_s z_text z_told z_formula z_states z_isKept z_typed z_at z_isRight z_times z_letter z_items z_length z_entries p1 _ hw) ⟨rfl, rfl⟩ ce_X9_quireOf cv_X9_quireOf tw_839 ⟨Nat.le_of_ble_eq_true rfl, Nat.le_of_ble_eq_true rfl⟩ hP [0, 1, 2, 3, 4] rfl rfl rfl rfl hl.1 rfl (Nat.le_of_ble_eq_true rfl) ⟨Nat.zero_le _, Nat.zero_le _⟩ dX9_isLost_2 (fun r1 hw => ?_)
  refine lv_istore_n (lv' := [(2, .int r1), (0, .ref (a 0)), (1, .int p1)]) hx hb dX9_isLost_5 rfl hl (by decide) rfl (fun ls hl => ?_)
  refine lv_aload_n hx hb dX9_isLost_6 rfl (lv_at hl 1 rfl) ?_
  refine va_get (D := D) (ci := 7) (v := .ref (a 1)) (C := RX9) (T := TX9) (N := 14) hx hb hts inX9 hown hK.1 hP 0 rfl rfl 0 (by decide) (hts _ tw_685) (fun _ h9 => h9) rfl dX9_isLost_7 ?_
  refine lv_iload_n hx hb dX9_isLost_10 rfl (lv_at hl 0 rfl) ?_
  refine lv_iconst (v := (nI 3)) hx hb dX9_isLost_11 (by decide) ?_
  refine kRS (As := [.int r1, .int (nI 3)]) (rest := [.ref (a 1)]) C (c_X9_of l D kI kC kB  r1 (nI 3) _ hw) ⟨rfl, rfl⟩ ce_X9_of cv_X9_of tw_764 ⟨Nat.le_of_ble_eq_true rfl, Nat.le_of_ble_eq_true rfl⟩ hP [] rfl hl.1 rfl (Nat.le_of_ble_eq_true rfl) ⟨Nat.zero_le _, Nat.zero_le _⟩ dX9_isLost_12 (fun r2 hw => ?_)
  have hin := hw.1
  replace hw := hw.2
  refine va_iald hx hb hK.1 hP 1 0 rfl rfl hin dX9_isLost_15 ?_
  refine lv_iload_n hx hb dX9_isLost_16 rfl (lv_at hl 2 rfl) ?_
  refine lv_aload_n hx hb dX9_isLost_17 rfl (lv_at hl 1 rfl) ?_
  refine lv_iload_n hx hb dX9_isLost_18 rfl (lv_at hl 0 rfl) ?_
  refine kRV (As := [.int r1]) (rest := [.int p1, .int (z_s r2.toNatClampNeg)]) (q0 := 0) C (c_X9_first l D kI kC kB a z_s z_text z_told z_formula z_states z_isKept z_typed z_at z_isRight z_times z_letter z_items z_length z_entries r1 _ hw) ⟨rfl, rfl⟩ ce_X9_first cv_X9_first tw_843 ⟨Nat.le_of_ble_eq_true rfl, Nat.le_of_ble_eq_true rfl⟩ hP [0, 1, 2, 3, 4] rfl rfl rfl rfl hl.1 rfl (Nat.le_of_ble_eq_true rfl) ⟨Nat.zero_le _, Nat.zero_le _⟩ dX9_isLost_19 (fun r3 hw => ?_)
  refine lv_isub hx hb dX9_isLost_22 ?_
  refine lv_ishr hx hb dX9_isLost_23 ?_
  refine lv_iconst (v := (nI 1)) hx hb dX9_isLost_24 (by decide) ?_
  refine lv_iand hx hb dX9_isLost_25 ?_
  refine lv_iconst (v := (nI 1)) hx hb dX9_isLost_26 (by decide) ?_
  refine lv_icmp_ne (tgt := 34) hx hb dX9_isLost_27 (by decide) (fun hc => ?_) (fun hc => ?_)
  · replace hw := hw.2 hc
    refine lv_iconst (v := (nI 0)) hx hb dX9_isLost_34 (by decide) ?_
    exact retRz C (by decide) hw dX9_isLost_35
  · replace hw := hw.1 hc
    refine lv_iconst (v := (nI 1)) hx hb dX9_isLost_30 (by decide) ?_
    refine lv_goto (tgt := 35) hx hb dX9_isLost_31 (by decide) ?_
    exact retRz C (by decide) hw dX9_isLost_35
set_option maxHeartbeats 4000000 in
set_option maxRecDepth 100000 in
theorem cl_X9_there_13 (l : Launch) (D : va_G) (kI kC kB : ClassId) (a : AdT) (z_s : Nat → Int32) (z_text : Nat → Int32) (z_told : Nat → Int32) (z_formula : Nat → Int32) (z_states : Int32) (z_isKept : Int32) (z_typed : Int32) (z_at : Int32) (z_isRight : Int32) (z_times : Int32) (z_letter : Int32) (z_items : Int32) (z_length : Int32) (z_entries : Int32) (p1 : Int32) (Post : Int32 → Prop) {p : Program} {e : Env} {s : State} {m : MethodId} {args : Array Value} {below : List Frame} {meth : Method} {c : Code} (C : CtxT p s m args meth c cX9_there 4 (some .int) yX9_there.cls D kI kC kB) (hP : va_P D vwCl (cwModel kI kC a z_s z_text z_told z_formula z_states z_isKept z_typed z_at z_isRight z_times z_letter z_items z_length z_entries) s.heap) : ∀ (n : Nat), ∀ (v2 : Int32) (v3 : Int32), wl_X9_there_13 z_s p1 Post n v2 v3 → ∀ (ls : Array Slot), lv_has ls 4 [(0, .ref (a 0)), (1, .int p1), (2, .int v2), (3, .int v3)] → W p l e ({ frames := 1, cells := 0, slots := 0, locals := 21 } : Room) s m args below meth c s.heap [] 0 0 (MQ below (vp_Si Post) args s 0 0 (fun _ => False)) (F0 m 13 ls []) := by
  obtain ⟨hx, hb, hr, hml, hown, hts, hlocks, hK⟩ := id C
  intro n
  induction n with
  | zero => intro v2 v3 hw; exact hw.elim
  | succ n ih =>
    intro v2 v3 hw ls hl
    refine lv_iload_n hx hb dX9_there_13 rfl (lv_at hl 3 rfl) ?_
    refine lv_bipush (v := (nI 24)) hx hb dX9_there_14 (by decide) ?_
    refine lv_icmp_ge (tgt := 42) hx hb dX9_there_16 (by decide) (fun hc => ?_) (fun hc => ?_)
    · replace hw := hw.1 hc
      refine lv_iload_n hx hb dX9_there_42 rfl (lv_at hl 2 rfl) ?_
      exact retR C hw dX9_there_43
    · replace hw := hw.2 hc
      refine lv_iload_n hx hb dX9_there_19 rfl (lv_at hl 2 rfl) ?_
      refine lv_aload_n hx hb dX9_there_20 rfl (lv_at hl 0 rfl) ?_
      refine va_get (D := D) (ci := 7) (v := .ref (a 1)) (C := RX9) (T := TX9) (N := 14) hx hb hts inX9 hown hK.1 hP 0 rfl rfl 0 (by decide) (hts _ tw_685) (fun _ h9 => h9) rfl dX9_there_21 ?_
      refine lv_iload_n hx hb dX9_there_24 rfl (lv_at hl 1 rfl) ?_
      refine lv_iconst (v := (nI 3)) hx hb dX9_there_25 (by decide) ?_
      refine kRS (As := [.int p1, .int (nI 3)]) (rest := [.ref (a 1), .int v2]) C (c_X9_of l D kI kC kB  p1 (nI 3) _ hw) ⟨rfl, rfl⟩ ce_X9_of cv_X9_of tw_764 ⟨Nat.le_of_ble_eq_true rfl, Nat.le_of_ble_eq_true rfl⟩ hP [] rfl hl.1 rfl (Nat.le_of_ble_eq_true rfl) ⟨Nat.zero_le _, Nat.zero_le _⟩ dX9_there_26 (fun r1 hw => ?_)
      have hin := hw.1
      replace hw := hw.2
      refine va_iald hx hb hK.1 hP 1 0 rfl rfl hin dX9_there_29 ?_
      refine lv_iload_n hx hb dX9_there_30 rfl (lv_at hl 3 rfl) ?_
      refine lv_ishr hx hb dX9_there_31 ?_
      refine lv_iconst (v := (nI 1)) hx hb dX9_there_32 (by decide) ?_
      refine lv_iand hx hb dX9_there_33 ?_
      refine lv_isub hx hb dX9_there_34 ?_
      refine lv_topi (fun y2 ey2 => ?_)
      replace hw := hw y2 ey2
      refine lv_istore_n (lv' := [(2, .int y2), (0, .ref (a 0)), (1, .int p1), (3, .int v3)]) hx hb dX9_there_35 rfl hl (by decide) rfl (fun ls hl => ?_)
      refine lv_iinc (v := (v3 + nI 1)) (lv' := [(3, .int (v3 + nI 1)), (2, .int y2), (0, .ref (a 0)), (1, .int p1)]) hx hb dX9_there_36 hl (k := 3) rfl rfl (by decide) rfl (fun ls hl => ?_)
      refine lv_goto (tgt := 13) hx hb dX9_there_39 (by decide) ?_
      exact ih y2 (v3 + nI 1) hw ls (lv_sub hl [2, 3, 1, 0] rfl)
set_option maxHeartbeats 4000000 in
set_option maxRecDepth 100000 in
theorem c_X9_there (l : Launch) (D : va_G) (kI kC kB : ClassId) (a : AdT) (z_s : Nat → Int32) (z_text : Nat → Int32) (z_told : Nat → Int32) (z_formula : Nat → Int32) (z_states : Int32) (z_isKept : Int32) (z_typed : Int32) (z_at : Int32) (z_isRight : Int32) (z_times : Int32) (z_letter : Int32) (z_items : Int32) (z_length : Int32) (z_entries : Int32) (p1 : Int32) (Post : Int32 → Prop) (hw : wp_X9_there z_s p1 Post) : CR l D kI kC kB yX9_there cX9_there 4 (some .int) ({ frames := 1, cells := 0, slots := 0, locals := 21 } : Room) [.ref (a 0), .int p1] (cwModel kI kC a z_s z_text z_told z_formula z_states z_isKept z_typed z_at z_isRight z_times z_letter z_items z_length z_entries) Post := by
  refine entR (by decide) (Nat.le_of_ble_eq_true rfl) ?_
  intro p e s m args below meth c ls C hP hl
  replace hl : lv_has ls 4 [(0, .ref (a 0)), (1, .int p1)] := hl
  obtain ⟨hx, hb, hr, hml, hown, hts, hlocks, hK⟩ := id C
  refine lv_aload_n hx hb dX9_there_0 rfl (lv_at hl 0 rfl) ?_
  refine va_get (D := D) (ci := 7) (v := .ref (a 1)) (C := RX9) (T := TX9) (N := 14) hx hb hts inX9 hown hK.1 hP 0 rfl rfl 0 (by decide) (hts _ tw_685) (fun _ h9 => h9) rfl dX9_there_1 ?_
  refine lv_iload_n hx hb dX9_there_4 rfl (lv_at hl 1 rfl) ?_
  refine lv_iconst (v := (nI 2)) hx hb dX9_there_5 (by decide) ?_
  refine kRS (As := [.int p1, .int (nI 2)]) (rest := [.ref (a 1)]) C (c_X9_of l D kI kC kB  p1 (nI 2) _ hw) ⟨rfl, rfl⟩ ce_X9_of cv_X9_of tw_764 ⟨Nat.le_of_ble_eq_true rfl, Nat.le_of_ble_eq_true rfl⟩ hP [] rfl hl.1 rfl (Nat.le_of_ble_eq_true rfl) ⟨Nat.zero_le _, Nat.zero_le _⟩ dX9_there_6 (fun r3 hw => ?_)
  have hin := hw.1
  replace hw := hw.2
  refine va_iald hx hb hK.1 hP 1 0 rfl rfl hin dX9_there_9 ?_
  refine lv_topi (fun y4 ey4 => ?_)
  replace hw := hw y4 ey4
  refine lv_istore_n (lv' := [(2, .int y4), (0, .ref (a 0)), (1, .int p1)]) hx hb dX9_there_10 rfl hl (by decide) rfl (fun ls hl => ?_)
  refine lv_iconst (v := (nI 0)) hx hb dX9_there_11 (by decide) ?_
  refine lv_istore_n (lv' := [(3, .int (nI 0)), (2, .int y4), (0, .ref (a 0)), (1, .int p1)]) hx hb dX9_there_12 rfl hl (by decide) rfl (fun ls hl => ?_)
  obtain ⟨n9, hw⟩ := hw
  exact cl_X9_there_13 l D kI kC kB a z_s z_text z_told z_formula z_states z_isKept z_typed z_at z_isRight z_times z_letter z_items z_length z_entries p1 Post C hP n9 y4 (nI 0) hw ls (lv_sub hl [2, 3, 1, 0] rfl)
set_option maxHeartbeats 4000000 in
set_option maxRecDepth 100000 in
theorem cl_X9_thereOfAll_4 (l : Launch) (D : va_G) (kI kC kB : ClassId) (a : AdT) (z_s : Nat → Int32) (z_text : Nat → Int32) (z_told : Nat → Int32) (z_formula : Nat → Int32) (z_states : Int32) (z_isKept : Int32) (z_typed : Int32) (z_at : Int32) (z_isRight : Int32) (z_times : Int32) (z_letter : Int32) (z_items : Int32) (z_length : Int32) (z_entries : Int32) (Post : Int32 → Prop) {p : Program} {e : Env} {s : State} {m : MethodId} {args : Array Value} {below : List Frame} {meth : Method} {c : Code} (C : CtxT p s m args meth c cX9_thereOfAll 3 (some .int) yX9_thereOfAll.cls D kI kC kB) (hP : va_P D vwCl (cwModel kI kC a z_s z_text z_told z_formula z_states z_isKept z_typed z_at z_isRight z_times z_letter z_items z_length z_entries) s.heap) : ∀ (n : Nat), ∀ (v1 : Int32) (v2 : Int32), wl_X9_thereOfAll_4 z_s Post n v1 v2 → ∀ (ls : Array Slot), lv_has ls 3 [(0, .ref (a 0)), (1, .int v1), (2, .int v2)] → W p l e ({ frames := 2, cells := 0, slots := 0, locals := 44 } : Room) s m args below meth c s.heap [] 0 0 (MQ below (vp_Si Post) args s 0 0 (fun _ => False)) (F0 m 4 ls []) := by
  obtain ⟨hx, hb, hr, hml, hown, hts, hlocks, hK⟩ := id C
  intro n
  induction n with
  | zero => intro v1 v2 hw; exact hw.elim
  | succ n ih =>
    intro v1 v2 hw ls hl
    refine lv_iload_n hx hb dX9_thereOfAll_4 rfl (lv_at hl 2 rfl) ?_
    refine lv_aload_n hx hb dX9_thereOfAll_5 rfl (lv_at hl 0 rfl) ?_
    refine va_get (D := D) (ci := 7) (v := .ref (a 1)) (C := RX9) (T := TX9) (N := 14) hx hb hts inX9 hown hK.1 hP 0 rfl rfl 0 (by decide) (hts _ tw_685) (fun _ h9 => h9) rfl dX9_thereOfAll_6 ?_
    refine lv_iconst (v := (nI 2)) hx hb dX9_thereOfAll_9 (by decide) ?_
    have hin := hw.1
    replace hw := hw.2
    refine va_iald hx hb hK.1 hP 1 0 rfl rfl hin dX9_thereOfAll_10 ?_
    refine lv_icmp_ge (tgt := 28) hx hb dX9_thereOfAll_11 (by decide) (fun hc => ?_) (fun hc => ?_)
    · replace hw := hw.1 hc
      refine lv_iload_n hx hb dX9_thereOfAll_28 rfl (lv_at hl 1 rfl) ?_
      exact retR C hw dX9_thereOfAll_29
    · replace hw := hw.2 hc
      refine lv_iload_n hx hb dX9_thereOfAll_14 rfl (lv_at hl 1 rfl) ?_
      refine lv_aload_n hx hb dX9_thereOfAll_15 rfl (lv_at hl 0 rfl) ?_
      refine lv_iload_n hx hb dX9_thereOfAll_16 rfl (lv_at hl 2 rfl) ?_
      refine kRV (As := [.int v2]) (rest := [.int v1]) (q0 := 0) C (c_X9_there l D kI kC kB a z_s z_text z_told z_formula z_states z_isKept z_typed z_at z_isRight z_times z_letter z_items z_length z_entries v2 _ hw) ⟨rfl, rfl⟩ ce_X9_there cv_X9_there tw_851 ⟨Nat.le_of_ble_eq_true rfl, Nat.le_of_ble_eq_true rfl⟩ hP [0, 1, 2, 3, 4] rfl rfl rfl rfl hl.1 rfl (Nat.le_of_ble_eq_true rfl) ⟨Nat.zero_le _, Nat.zero_le _⟩ dX9_thereOfAll_17 (fun r1 hw => ?_)
      refine lv_iadd hx hb dX9_thereOfAll_20 ?_
      refine lv_topi (fun y2 ey2 => ?_)
      replace hw := hw y2 ey2
      refine lv_istore_n (lv' := [(1, .int y2), (0, .ref (a 0)), (2, .int v2)]) hx hb dX9_thereOfAll_21 rfl hl (by decide) rfl (fun ls hl => ?_)
      refine lv_iinc (v := (v2 + nI 1)) (lv' := [(2, .int (v2 + nI 1)), (1, .int y2), (0, .ref (a 0))]) hx hb dX9_thereOfAll_22 hl (k := 2) rfl rfl (by decide) rfl (fun ls hl => ?_)
      refine lv_goto (tgt := 4) hx hb dX9_thereOfAll_25 (by decide) ?_
      exact ih y2 (v2 + nI 1) hw ls (lv_sub hl [2, 1, 0] rfl)
set_option maxHeartbeats 4000000 in
set_option maxRecDepth 100000 in
theorem c_X9_thereOfAll (l : Launch) (D : va_G) (kI kC kB : ClassId) (a : AdT) (z_s : Nat → Int32) (z_text : Nat → Int32) (z_told : Nat → Int32) (z_formula : Nat → Int32) (z_states : Int32) (z_isKept : Int32) (z_typed : Int32) (z_at : Int32) (z_isRight : Int32) (z_times : Int32) (z_letter : Int32) (z_items : Int32) (z_length : Int32) (z_entries : Int32) (Post : Int32 → Prop) (hw : wp_X9_thereOfAll z_s Post) : CR l D kI kC kB yX9_thereOfAll cX9_thereOfAll 3 (some .int) ({ frames := 2, cells := 0, slots := 0, locals := 44 } : Room) [.ref (a 0)] (cwModel kI kC a z_s z_text z_told z_formula z_states z_isKept z_typed z_at z_isRight z_times z_letter z_items z_length z_entries) Post := by
  refine entR (by decide) (Nat.le_of_ble_eq_true rfl) ?_
  intro p e s m args below meth c ls C hP hl
  replace hl : lv_has ls 3 [(0, .ref (a 0))] := hl
  obtain ⟨hx, hb, hr, hml, hown, hts, hlocks, hK⟩ := id C
  refine lv_iconst (v := (nI 0)) hx hb dX9_thereOfAll_0 (by decide) ?_
  refine lv_istore_n (lv' := [(1, .int (nI 0)), (0, .ref (a 0))]) hx hb dX9_thereOfAll_1 rfl hl (by decide) rfl (fun ls hl => ?_)
  refine lv_iconst (v := (nI 0)) hx hb dX9_thereOfAll_2 (by decide) ?_
  refine lv_istore_n (lv' := [(2, .int (nI 0)), (1, .int (nI 0)), (0, .ref (a 0))]) hx hb dX9_thereOfAll_3 rfl hl (by decide) rfl (fun ls hl => ?_)
  obtain ⟨n9, hw⟩ := hw
  exact cl_X9_thereOfAll_4 l D kI kC kB a z_s z_text z_told z_formula z_states z_isKept z_typed z_at z_isRight z_times z_letter z_items z_length z_entries Post C hP n9 (nI 0) (nI 0) hw ls (lv_sub hl [2, 1, 0] rfl)
set_option maxHeartbeats 4000000 in
set_option maxRecDepth 100000 in
theorem cl_X9_puts_19 (l : Launch) (D : va_G) (kI kC kB : ClassId) (a : AdT) (z_text : Nat → Int32) (z_told : Nat → Int32) (z_formula : Nat → Int32) (z_states : Int32) (z_isKept : Int32) (z_typed : Int32) (z_at : Int32) (z_isRight : Int32) (z_times : Int32) (z_letter : Int32) (z_items : Int32) (z_length : Int32) (z_entries : Int32) (p1 : Int32) (p2 : Int32) (p3 : Int32) (p4 : Int32) (v5 : Int32) (Post : (Nat → Int32) → Prop) {p : Program} {e : Env} {s : State} {m : MethodId} {args : Array Value} {below : List Frame} {meth : Method} {c : Code} {A : Nat → Prop} (hA : ∀ q : Nat, s.heap.size ≤ q → A q) (C : CtxT p s m args meth c cX9_puts 7 none yX9_puts.cls D kI kC kB) (K10 : (Nat → Int32) → Int32 → Prop) (hK10 : ∀ (z_s : Nat → Int32) (v5 : Int32), K10 z_s v5 → ∀ (H : Heap) (locs : List Loc), va_P D vwCl (cwModel kI kC a z_s z_text z_told z_formula z_states z_isKept z_typed z_at z_isRight z_times z_letter z_items z_length z_entries) H → va_D A (cwModel kI kC a z_s z_text z_told z_formula z_states z_isKept z_typed z_at z_isRight z_times z_letter z_items z_length z_entries) → va_S A s.heap H locs → ∀ (ls : Array Slot), lv_has ls 7 [(0, .ref (a 0)), (1, .int p1), (2, .int p2), (3, .int p3), (4, .int p4), (5, .int v5)] → W p l e ({ frames := 1, cells := 0, slots := 0, locals := 21 } : Room) s m args below meth c H locs 0 0 (MQ below (va_Qv (fun (u : (Nat → Int32)) => Post u) (BB D A (fun u : (Nat → Int32) => (cwModel kI kC a u z_text z_told z_formula z_states z_isKept z_typed z_at z_isRight z_times z_letter z_items z_length z_entries))) A) args s 0 0 A) (F0 m 10 ls [])) : ∀ (n : Nat), ∀ (z_s : Nat → Int32) (v6 : Int32), wl_X9_puts_19 p1 p2 p3 p4 v5 K10 Post n z_s v6 → ∀ (H : Heap) (locs : List Loc), va_P D vwCl (cwModel kI kC a z_s z_text z_told z_formula z_states z_isKept z_typed z_at z_isRight z_times z_letter z_items z_length z_entries) H → va_D A (cwModel kI kC a z_s z_text z_told z_formula z_states z_isKept z_typed z_at z_isRight z_times z_letter z_items z_length z_entries) → va_S A s.heap H locs → ∀ (ls : Array Slot), lv_has ls 7 [(0, .ref (a 0)), (1, .int p1), (2, .int p2), (3, .int p3), (4, .int p4), (5, .int v5), (6, .int v6)] → W p l e ({ frames := 1, cells := 0, slots := 0, locals := 21 } : Room) s m args below meth c H locs 0 0 (MQ below (va_Qv (fun (u : (Nat → Int32)) => Post u) (BB D A (fun u : (Nat → Int32) => (cwModel kI kC a u z_text z_told z_formula z_states z_isKept z_typed z_at z_isRight z_times z_letter z_items z_length z_entries))) A) args s 0 0 A) (F0 m 19 ls []) := by
  obtain ⟨hx, hb, hr, hml, hown, hts, hlocks, hK⟩ := id C
  intro n
  induction n with
  | zero => intro z_s v6 hw; exact hw.elim
  | succ n ih =>
    intro z_s v6 hw H locs hP hD hS ls hl
    refine lv_iload hx hb dX9_puts_19 (lv_at hl 6 rfl) ?_
    refine lv_iconst (v := (nI 4)) hx hb dX9_puts_21 (by decide) ?_
    refine lv_icmp_ge (tgt := 57) hx hb dX9_puts_22 (by decide) (fun hc => ?_) (fun hc => ?_)
    · replace hw := hw.1 hc
      refine lv_iinc (v := (v5 + (-1))) (lv' := [(5, .int (v5 + (-1))), (0, .ref (a 0)), (1, .int p1), (2, .int p2), (3, .int p3), (4, .int p4), (6, .int v6)]) hx hb dX9_puts_57 hl (k := 5) rfl rfl (by decide) rfl (fun ls hl => ?_)
      refine lv_goto (tgt := 10) hx hb dX9_puts_60 (by decide) ?_
      exact hK10 z_s (v5 + (-1)) hw H locs hP hD hS ls (lv_sub hl [1, 2, 3, 4, 5, 0] rfl)
    · replace hw := hw.2 hc
      refine lv_aload_n hx hb dX9_puts_25 rfl (lv_at hl 0 rfl) ?_
      refine va_get (D := D) (ci := 7) (v := .ref (a 1)) (C := RX9) (T := TX9) (N := 14) hx hb hts inX9 hown hK.1 hP 0 rfl rfl 0 (by decide) (hts _ tw_685) (fun _ h9 => h9) rfl dX9_puts_26 ?_
      refine lv_iload hx hb dX9_puts_29 (lv_at hl 5 rfl) ?_
      refine lv_iconst (v := (nI 1)) hx hb dX9_puts_31 (by decide) ?_
      refine lv_iadd hx hb dX9_puts_32 ?_
      refine lv_iload hx hb dX9_puts_33 (lv_at hl 6 rfl) ?_
      refine kRS (As := [.int (v5 + (nI 1)), .int v6]) (rest := [.ref (a 1)]) C (c_X9_of l D kI kC kB  (v5 + (nI 1)) v6 _ hw) ⟨rfl, rfl⟩ ce_X9_of cv_X9_of tw_764 ⟨Nat.le_of_ble_eq_true rfl, Nat.le_of_ble_eq_true rfl⟩ hP [] rfl hl.1 rfl (Nat.le_of_ble_eq_true rfl) ⟨Nat.zero_le _, Nat.zero_le _⟩ dX9_puts_35 (fun r1 hw => ?_)
      refine lv_aload_n hx hb dX9_puts_38 rfl (lv_at hl 0 rfl) ?_
      refine va_get (D := D) (ci := 7) (v := .ref (a 1)) (C := RX9) (T := TX9) (N := 14) hx hb hts inX9 hown hK.1 hP 0 rfl rfl 0 (by decide) (hts _ tw_685) (fun _ h9 => h9) rfl dX9_puts_39 ?_
      refine lv_iload hx hb dX9_puts_42 (lv_at hl 5 rfl) ?_
      refine lv_iload hx hb dX9_puts_44 (lv_at hl 6 rfl) ?_
      refine kRS (As := [.int v5, .int v6]) (rest := [.ref (a 1), .int r1, .ref (a 1)]) C (c_X9_of l D kI kC kB  v5 v6 _ hw) ⟨rfl, rfl⟩ ce_X9_of cv_X9_of tw_764 ⟨Nat.le_of_ble_eq_true rfl, Nat.le_of_ble_eq_true rfl⟩ hP [] rfl hl.1 rfl (Nat.le_of_ble_eq_true rfl) ⟨Nat.zero_le _, Nat.zero_le _⟩ dX9_puts_46 (fun r2 hw => ?_)
      have hin := hw.1
      replace hw := hw.2
      refine va_iald hx hb hK.1 hP 1 0 rfl rfl hin dX9_puts_49 ?_
      have hin := hw.1
      replace hw := hw.2
      refine va_iast hx hb hK.1 hP hD hS 1 0 rfl rfl hin dX9_puts_50 (fun H locs hP hD hS => ?_)
      replace hP : va_P D vwCl (cwModel kI kC a (upd z_s r1.toNatClampNeg (z_s r2.toNatClampNeg)) z_text z_told z_formula z_states z_isKept z_typed z_at z_isRight z_times z_letter z_items z_length z_entries) H := hP
      replace hD : va_D A (cwModel kI kC a (upd z_s r1.toNatClampNeg (z_s r2.toNatClampNeg)) z_text z_told z_formula z_states z_isKept z_typed z_at z_isRight z_times z_letter z_items z_length z_entries) := hD
      refine lv_iinc (v := (v6 + nI 1)) (lv' := [(6, .int (v6 + nI 1)), (0, .ref (a 0)), (1, .int p1), (2, .int p2), (3, .int p3), (4, .int p4), (5, .int v5)]) hx hb dX9_puts_51 hl (k := 6) rfl rfl (by decide) rfl (fun ls hl => ?_)
      refine lv_goto (tgt := 19) hx hb dX9_puts_54 (by decide) ?_
      exact ih (upd z_s r1.toNatClampNeg (z_s r2.toNatClampNeg)) (v6 + nI 1) hw H locs hP hD hS ls (lv_sub hl [1, 2, 3, 4, 5, 6, 0] rfl)
set_option maxHeartbeats 4000000 in
set_option maxRecDepth 100000 in
theorem cl_X9_puts_10 (l : Launch) (D : va_G) (kI kC kB : ClassId) (a : AdT) (z_text : Nat → Int32) (z_told : Nat → Int32) (z_formula : Nat → Int32) (z_states : Int32) (z_isKept : Int32) (z_typed : Int32) (z_at : Int32) (z_isRight : Int32) (z_times : Int32) (z_letter : Int32) (z_items : Int32) (z_length : Int32) (z_entries : Int32) (p1 : Int32) (p2 : Int32) (p3 : Int32) (p4 : Int32) (Post : (Nat → Int32) → Prop) {p : Program} {e : Env} {s : State} {m : MethodId} {args : Array Value} {below : List Frame} {meth : Method} {c : Code} {A : Nat → Prop} (hA : ∀ q : Nat, s.heap.size ≤ q → A q) (C : CtxT p s m args meth c cX9_puts 7 none yX9_puts.cls D kI kC kB) : ∀ (n : Nat), ∀ (z_s : Nat → Int32) (v5 : Int32), wl_X9_puts_10 p1 p2 p3 p4 Post n z_s v5 → ∀ (H : Heap) (locs : List Loc), va_P D vwCl (cwModel kI kC a z_s z_text z_told z_formula z_states z_isKept z_typed z_at z_isRight z_times z_letter z_items z_length z_entries) H → va_D A (cwModel kI kC a z_s z_text z_told z_formula z_states z_isKept z_typed z_at z_isRight z_times z_letter z_items z_length z_entries) → va_S A s.heap H locs → ∀ (ls : Array Slot), lv_has ls 7 [(0, .ref (a 0)), (1, .int p1), (2, .int p2), (3, .int p3), (4, .int p4), (5, .int v5)] → W p l e ({ frames := 1, cells := 0, slots := 0, locals := 21 } : Room) s m args below meth c H locs 0 0 (MQ below (va_Qv (fun (u : (Nat → Int32)) => Post u) (BB D A (fun u : (Nat → Int32) => (cwModel kI kC a u z_text z_told z_formula z_states z_isKept z_typed z_at z_isRight z_times z_letter z_items z_length z_entries))) A) args s 0 0 A) (F0 m 10 ls []) := by
  obtain ⟨hx, hb, hr, hml, hown, hts, hlocks, hK⟩ := id C
  intro n
  induction n with
  | zero => intro z_s v5 hw; exact hw.elim
  | succ n ih =>
    intro z_s v5 hw H locs hP hD hS ls hl
    refine lv_iload hx hb dX9_puts_10 (lv_at hl 5 rfl) ?_
    refine lv_iload_n hx hb dX9_puts_12 rfl (lv_at hl 1 rfl) ?_
    refine lv_icmp_lt (tgt := 63) hx hb dX9_puts_13 (by decide) (fun hc => ?_) (fun hc => ?_)
    · replace hw := hw.1 hc
      refine lv_aload_n hx hb dX9_puts_63 rfl (lv_at hl 0 rfl) ?_
      refine va_get (D := D) (ci := 7) (v := .ref (a 1)) (C := RX9) (T := TX9) (N := 14) hx hb hts inX9 hown hK.1 hP 0 rfl rfl 0 (by decide) (hts _ tw_685) (fun _ h9 => h9) rfl dX9_puts_64 ?_
      refine lv_iload_n hx hb dX9_puts_67 rfl (lv_at hl 1 rfl) ?_
      refine lv_iconst (v := (nI 0)) hx hb dX9_puts_68 (by decide) ?_
      refine kRS (As := [.int p1, .int (nI 0)]) (rest := [.ref (a 1)]) C (c_X9_of l D kI kC kB  p1 (nI 0) _ hw) ⟨rfl, rfl⟩ ce_X9_of cv_X9_of tw_764 ⟨Nat.le_of_ble_eq_true rfl, Nat.le_of_ble_eq_true rfl⟩ hP [] rfl hl.1 rfl (Nat.le_of_ble_eq_true rfl) ⟨Nat.zero_le _, Nat.zero_le _⟩ dX9_puts_69 (fun r3 hw => ?_)
      refine lv_iload_n hx hb dX9_puts_72 rfl (lv_at hl 2 rfl) ?_
      have hin := hw.1
      replace hw := hw.2
      refine va_iast hx hb hK.1 hP hD hS 1 0 rfl rfl hin dX9_puts_73 (fun H locs hP hD hS => ?_)
      replace hP : va_P D vwCl (cwModel kI kC a (upd z_s r3.toNatClampNeg p2) z_text z_told z_formula z_states z_isKept z_typed z_at z_isRight z_times z_letter z_items z_length z_entries) H := hP
      replace hD : va_D A (cwModel kI kC a (upd z_s r3.toNatClampNeg p2) z_text z_told z_formula z_states z_isKept z_typed z_at z_isRight z_times z_letter z_items z_length z_entries) := hD
      refine lv_aload_n hx hb dX9_puts_74 rfl (lv_at hl 0 rfl) ?_
      refine va_get (D := D) (ci := 7) (v := .ref (a 1)) (C := RX9) (T := TX9) (N := 14) hx hb hts inX9 hown hK.1 hP 0 rfl rfl 0 (by decide) (hts _ tw_685) (fun _ h9 => h9) rfl dX9_puts_75 ?_
      refine lv_iload_n hx hb dX9_puts_78 rfl (lv_at hl 1 rfl) ?_
      refine lv_iconst (v := (nI 1)) hx hb dX9_puts_79 (by decide) ?_
      refine kRS (As := [.int p1, .int (nI 1)]) (rest := [.ref (a 1)]) C (c_X9_of l D kI kC kB  p1 (nI 1) _ hw) ⟨rfl, rfl⟩ ce_X9_of cv_X9_of tw_764 ⟨Nat.le_of_ble_eq_true rfl, Nat.le_of_ble_eq_true rfl⟩ hP [] rfl hl.1 rfl (Nat.le_of_ble_eq_true rfl) ⟨Nat.zero_le _, Nat.zero_le _⟩ dX9_puts_80 (fun r4 hw => ?_)
      refine lv_iload_n hx hb dX9_puts_83 rfl (lv_at hl 3 rfl) ?_
      have hin := hw.1
      replace hw := hw.2
      refine va_iast hx hb hK.1 hP hD hS 1 0 rfl rfl hin dX9_puts_84 (fun H locs hP hD hS => ?_)
      replace hP : va_P D vwCl (cwModel kI kC a (upd (upd z_s r3.toNatClampNeg p2) r4.toNatClampNeg p3) z_text z_told z_formula z_states z_isKept z_typed z_at z_isRight z_times z_letter z_items z_length z_entries) H := hP
      replace hD : va_D A (cwModel kI kC a (upd (upd z_s r3.toNatClampNeg p2) r4.toNatClampNeg p3) z_text z_told z_formula z_states z_isKept z_typed z_at z_isRight z_times z_letter z_items z_length z_entries) := hD
      refine lv_aload_n hx hb dX9_puts_85 rfl (lv_at hl 0 rfl) ?_
      refine va_get (D := D) (ci := 7) (v := .ref (a 1)) (C := RX9) (T := TX9) (N := 14) hx hb hts inX9 hown hK.1 hP 0 rfl rfl 0 (by decide) (hts _ tw_685) (fun _ h9 => h9) rfl dX9_puts_86 ?_
      refine lv_iload_n hx hb dX9_puts_89 rfl (lv_at hl 1 rfl) ?_
      refine lv_iconst (v := (nI 2)) hx hb dX9_puts_90 (by decide) ?_
      refine kRS (As := [.int p1, .int (nI 2)]) (rest := [.ref (a 1)]) C (c_X9_of l D kI kC kB  p1 (nI 2) _ hw) ⟨rfl, rfl⟩ ce_X9_of cv_X9_of tw_764 ⟨Nat.le_of_ble_eq_true rfl, Nat.le_of_ble_eq_true rfl⟩ hP [] rfl hl.1 rfl (Nat.le_of_ble_eq_true rfl) ⟨Nat.zero_le _, Nat.zero_le _⟩ dX9_puts_91 (fun r5 hw => ?_)
      refine lv_iload hx hb dX9_puts_94 (lv_at hl 4 rfl) ?_
      have hin := hw.1
      replace hw := hw.2
      refine va_iast hx hb hK.1 hP hD hS 1 0 rfl rfl hin dX9_puts_96 (fun H locs hP hD hS => ?_)
      replace hP : va_P D vwCl (cwModel kI kC a (upd (upd (upd z_s r3.toNatClampNeg p2) r4.toNatClampNeg p3) r5.toNatClampNeg p4) z_text z_told z_formula z_states z_isKept z_typed z_at z_isRight z_times z_letter z_items z_length z_entries) H := hP
      replace hD : va_D A (cwModel kI kC a (upd (upd (upd z_s r3.toNatClampNeg p2) r4.toNatClampNeg p3) r5.toNatClampNeg p4) z_text z_told z_formula z_states z_isKept z_typed z_at z_isRight z_times z_letter z_items z_length z_entries) := hD
      refine lv_aload_n hx hb dX9_puts_97 rfl (lv_at hl 0 rfl) ?_
      refine va_get (D := D) (ci := 7) (v := .ref (a 1)) (C := RX9) (T := TX9) (N := 14) hx hb hts inX9 hown hK.1 hP 0 rfl rfl 0 (by decide) (hts _ tw_685) (fun _ h9 => h9) rfl dX9_puts_98 ?_
      refine lv_iload_n hx hb dX9_puts_101 rfl (lv_at hl 1 rfl) ?_
      refine lv_iconst (v := (nI 3)) hx hb dX9_puts_102 (by decide) ?_
      refine kRS (As := [.int p1, .int (nI 3)]) (rest := [.ref (a 1)]) C (c_X9_of l D kI kC kB  p1 (nI 3) _ hw) ⟨rfl, rfl⟩ ce_X9_of cv_X9_of tw_764 ⟨Nat.le_of_ble_eq_true rfl, Nat.le_of_ble_eq_true rfl⟩ hP [] rfl hl.1 rfl (Nat.le_of_ble_eq_true rfl) ⟨Nat.zero_le _, Nat.zero_le _⟩ dX9_puts_103 (fun r6 hw => ?_)
      refine lv_iconst (v := (nI 0)) hx hb dX9_puts_106 (by decide) ?_
      have hin := hw.1
      replace hw := hw.2
      refine va_iast hx hb hK.1 hP hD hS 1 0 rfl rfl hin dX9_puts_107 (fun H locs hP hD hS => ?_)
      replace hP : va_P D vwCl (cwModel kI kC a (upd (upd (upd (upd z_s r3.toNatClampNeg p2) r4.toNatClampNeg p3) r5.toNatClampNeg p4) r6.toNatClampNeg (nI 0)) z_text z_told z_formula z_states z_isKept z_typed z_at z_isRight z_times z_letter z_items z_length z_entries) H := hP
      replace hD : va_D A (cwModel kI kC a (upd (upd (upd (upd z_s r3.toNatClampNeg p2) r4.toNatClampNeg p3) r5.toNatClampNeg p4) r6.toNatClampNeg (nI 0)) z_text z_told z_formula z_states z_isKept z_typed z_at z_isRight z_times z_letter z_items z_length z_entries) := hD
      refine lv_aload_n hx hb dX9_puts_108 rfl (lv_at hl 0 rfl) ?_
      refine va_get (D := D) (ci := 7) (v := .ref (a 1)) (C := RX9) (T := TX9) (N := 14) hx hb hts inX9 hown hK.1 hP 0 rfl rfl 0 (by decide) (hts _ tw_685) (fun _ h9 => h9) rfl dX9_puts_109 ?_
      refine lv_iconst (v := (nI 2)) hx hb dX9_puts_112 (by decide) ?_
      refine lv_dup2_11 hx hb dX9_puts_113 rfl rfl ?_
      have hin := hw.1
      replace hw := hw.2
      refine va_iald hx hb hK.1 hP 1 0 rfl rfl hin dX9_puts_114 ?_
      refine lv_iconst (v := (nI 1)) hx hb dX9_puts_115 (by decide) ?_
      refine lv_iadd hx hb dX9_puts_116 ?_
      have hin := hw.1
      replace hw := hw.2
      refine va_iast hx hb hK.1 hP hD hS 1 0 rfl rfl hin dX9_puts_117 (fun H locs hP hD hS => ?_)
      replace hP : va_P D vwCl (cwModel kI kC a (upd (upd (upd (upd (upd z_s r3.toNatClampNeg p2) r4.toNatClampNeg p3) r5.toNatClampNeg p4) r6.toNatClampNeg (nI 0)) (nI 2).toNatClampNeg (((upd (upd (upd (upd z_s r3.toNatClampNeg p2) r4.toNatClampNeg p3) r5.toNatClampNeg p4) r6.toNatClampNeg (nI 0)) (nI 2).toNatClampNeg) + (nI 1))) z_text z_told z_formula z_states z_isKept z_typed z_at z_isRight z_times z_letter z_items z_length z_entries) H := hP
      replace hD : va_D A (cwModel kI kC a (upd (upd (upd (upd (upd z_s r3.toNatClampNeg p2) r4.toNatClampNeg p3) r5.toNatClampNeg p4) r6.toNatClampNeg (nI 0)) (nI 2).toNatClampNeg (((upd (upd (upd (upd z_s r3.toNatClampNeg p2) r4.toNatClampNeg p3) r5.toNatClampNeg p4) r6.toNatClampNeg (nI 0)) (nI 2).toNatClampNeg) + (nI 1))) z_text z_told z_formula z_states z_isKept z_typed z_at z_isRight z_times z_letter z_items z_length z_entries) := hD
      refine lv_aload_n hx hb dX9_puts_118 rfl (lv_at hl 0 rfl) ?_
      refine va_get (D := D) (ci := 7) (v := .ref (a 1)) (C := RX9) (T := TX9) (N := 14) hx hb hts inX9 hown hK.1 hP 0 rfl rfl 0 (by decide) (hts _ tw_685) (fun _ h9 => h9) rfl dX9_puts_119 ?_
      refine lv_sipush (v := (nI 163)) hx hb dX9_puts_122 (by decide) ?_
      refine lv_iconst (v := (nI 0)) hx hb dX9_puts_125 (by decide) ?_
      have hin := hw.1
      replace hw := hw.2
      refine va_iast hx hb hK.1 hP hD hS 1 0 rfl rfl hin dX9_puts_126 (fun H locs hP hD hS => ?_)
      replace hP : va_P D vwCl (cwModel kI kC a (upd (upd (upd (upd (upd (upd z_s r3.toNatClampNeg p2) r4.toNatClampNeg p3) r5.toNatClampNeg p4) r6.toNatClampNeg (nI 0)) (nI 2).toNatClampNeg (((upd (upd (upd (upd z_s r3.toNatClampNeg p2) r4.toNatClampNeg p3) r5.toNatClampNeg p4) r6.toNatClampNeg (nI 0)) (nI 2).toNatClampNeg) + (nI 1))) (nI 163).toNatClampNeg (nI 0)) z_text z_told z_formula z_states z_isKept z_typed z_at z_isRight z_times z_letter z_items z_length z_entries) H := hP
      replace hD : va_D A (cwModel kI kC a (upd (upd (upd (upd (upd (upd z_s r3.toNatClampNeg p2) r4.toNatClampNeg p3) r5.toNatClampNeg p4) r6.toNatClampNeg (nI 0)) (nI 2).toNatClampNeg (((upd (upd (upd (upd z_s r3.toNatClampNeg p2) r4.toNatClampNeg p3) r5.toNatClampNeg p4) r6.toNatClampNeg (nI 0)) (nI 2).toNatClampNeg) + (nI 1))) (nI 163).toNatClampNeg (nI 0)) z_text z_told z_formula z_states z_isKept z_typed z_at z_isRight z_times z_letter z_items z_length z_entries) := hD
      exact retMv C ((upd (upd (upd (upd (upd (upd z_s r3.toNatClampNeg p2) r4.toNatClampNeg p3) r5.toNatClampNeg p4) r6.toNatClampNeg (nI 0)) (nI 2).toNatClampNeg (((upd (upd (upd (upd z_s r3.toNatClampNeg p2) r4.toNatClampNeg p3) r5.toNatClampNeg p4) r6.toNatClampNeg (nI 0)) (nI 2).toNatClampNeg) + (nI 1))) (nI 163).toNatClampNeg (nI 0))) hw hP hD hS dX9_puts_127
    · replace hw := hw.2 hc
      refine lv_iconst (v := (nI 0)) hx hb dX9_puts_16 (by decide) ?_
      refine lv_istore (lv' := [(6, .int (nI 0)), (0, .ref (a 0)), (1, .int p1), (2, .int p2), (3, .int p3), (4, .int p4), (5, .int v5)]) hx hb dX9_puts_17 hl (by decide) rfl (fun ls hl => ?_)
      obtain ⟨n9, hw⟩ := hw
      exact cl_X9_puts_19 l D kI kC kB a z_text z_told z_formula z_states z_isKept z_typed z_at z_isRight z_times z_letter z_items z_length z_entries p1 p2 p3 p4 v5 Post hA C _ ih n9 z_s (nI 0) hw H locs hP hD hS ls (lv_sub hl [1, 2, 3, 4, 5, 6, 0] rfl)
set_option maxHeartbeats 4000000 in
set_option maxRecDepth 100000 in
theorem c_X9_puts (l : Launch) (D : va_G) (kI kC kB : ClassId) (a : AdT) (z_s : Nat → Int32) (z_text : Nat → Int32) (z_told : Nat → Int32) (z_formula : Nat → Int32) (z_states : Int32) (z_isKept : Int32) (z_typed : Int32) (z_at : Int32) (z_isRight : Int32) (z_times : Int32) (z_letter : Int32) (z_items : Int32) (z_length : Int32) (z_entries : Int32) (sz : Nat) (p1 : Int32) (p2 : Int32) (p3 : Int32) (p4 : Int32) (Post : (Nat → Int32) → Prop) (hw : wp_X9_puts z_s p1 p2 p3 p4 Post) : CMv l D kI kC kB yX9_puts cX9_puts 7 none ({ frames := 1, cells := 0, slots := 0, locals := 21 } : Room) [.ref (a 0), .int p1, .int p2, .int p3, .int p4] (cwModel kI kC a z_s z_text z_told z_formula z_states z_isKept z_typed z_at z_isRight z_times z_letter z_items z_length z_entries) sz (fun (u : (Nat → Int32)) => Post u) (fun u : (Nat → Int32) => (cwModel kI kC a u z_text z_told z_formula z_states z_isKept z_typed z_at z_isRight z_times z_letter z_items z_length z_entries)) := by
  refine entMv (by decide) (Nat.le_of_ble_eq_true rfl) ?_
  intro p e s m args below meth c ls A C hA hP hD hS hl
  obtain ⟨H, hHe⟩ : ∃ H, H = s.heap := ⟨_, rfl⟩
  obtain ⟨locs, hlo⟩ : ∃ lo : List Loc, lo = [] := ⟨_, rfl⟩
  have hS : va_S A s.heap H locs := by rw [hHe, hlo]; exact hS
  rw [← hHe] at hP
  suffices hg : W p l e ({ frames := 1, cells := 0, slots := 0, locals := 21 } : Room) s m args below meth c H locs 0 0 (MQ below (va_Qv (fun (u : (Nat → Int32)) => Post u) (BB D A (fun u : (Nat → Int32) => (cwModel kI kC a u z_text z_told z_formula z_states z_isKept z_typed z_at z_isRight z_times z_letter z_items z_length z_entries))) A) args s 0 0 A) (F0 m 0 ls []) by rw [hHe, hlo] at hg; exact hg
  replace hl : lv_has ls 7 [(0, .ref (a 0)), (1, .int p1), (2, .int p2), (3, .int p3), (4, .int p4)] := hl
  obtain ⟨hx, hb, hr, hml, hown, hts, hlocks, hK⟩ := id C
  refine lv_aload_n hx hb dX9_puts_0 rfl (lv_at hl 0 rfl) ?_
  refine va_get (D := D) (ci := 7) (v := .ref (a 1)) (C := RX9) (T := TX9) (N := 14) hx hb hts inX9 hown hK.1 hP 0 rfl rfl 0 (by decide) (hts _ tw_685) (fun _ h9 => h9) rfl dX9_puts_1 ?_
  refine lv_iconst (v := (nI 2)) hx hb dX9_puts_4 (by decide) ?_
  have hin := hw.1
  replace hw := hw.2
  refine va_iald hx hb hK.1 hP 1 0 rfl rfl hin dX9_puts_5 ?_
  refine lv_iconst (v := (nI 1)) hx hb dX9_puts_6 (by decide) ?_
  refine lv_isub hx hb dX9_puts_7 ?_
  refine lv_topi (fun y7 ey7 => ?_)
  replace hw := hw y7 ey7
  refine lv_istore (lv' := [(5, .int y7), (0, .ref (a 0)), (1, .int p1), (2, .int p2), (3, .int p3), (4, .int p4)]) hx hb dX9_puts_8 hl (by decide) rfl (fun ls hl => ?_)
  obtain ⟨n9, hw⟩ := hw
  exact cl_X9_puts_10 l D kI kC kB a z_text z_told z_formula z_states z_isKept z_typed z_at z_isRight z_times z_letter z_items z_length z_entries p1 p2 p3 p4 Post hA C n9 z_s y7 hw H locs hP hD hS ls (lv_sub hl [1, 2, 3, 4, 5, 0] rfl)
set_option maxHeartbeats 4000000 in
set_option maxRecDepth 100000 in
theorem cj_X9_leaveOut_43 (l : Launch) (D : va_G) (kI kC kB : ClassId) (a : AdT) (z_s : Nat → Int32) (z_text : Nat → Int32) (z_told : Nat → Int32) (z_formula : Nat → Int32) (z_states : Int32) (z_isKept : Int32) (z_typed : Int32) (z_at : Int32) (z_isRight : Int32) (z_times : Int32) (z_letter : Int32) (z_items : Int32) (z_length : Int32) (z_entries : Int32) (p1 : Int32) (Post : Int32 → (Nat → Int32) → Int32 → Prop) {p : Program} {e : Env} {s : State} {m : MethodId} {args : Array Value} {below : List Frame} {meth : Method} {c : Code} {A : Nat → Prop} (hA : ∀ q : Nat, s.heap.size ≤ q → A q) (C : CtxT p s m args meth c cX9_leaveOut 3 (some .int) yX9_leaveOut.cls D kI kC kB) : wj_X9_leaveOut_43 z_s z_states p1 Post → ∀ (H : Heap) (locs : List Loc), va_P D vwCl (cwModel kI kC a z_s z_text z_told z_formula z_states z_isKept z_typed z_at z_isRight z_times z_letter z_items z_length z_entries) H → va_D A (cwModel kI kC a z_s z_text z_told z_formula z_states z_isKept z_typed z_at z_isRight z_times z_letter z_items z_length z_entries) → va_S A s.heap H locs → ∀ (ls : Array Slot), lv_has ls 3 [(0, .ref (a 0)), (1, .int p1)] → W p l e ({ frames := 2, cells := 0, slots := 0, locals := 44 } : Room) s m args below meth c H locs 0 0 (MQ below (va_Qi (fun (r : Int32) (u : (Nat → Int32) × Int32) => Post r u.1 u.2) (BB D A (fun u : (Nat → Int32) × Int32 => (cwModel kI kC a u.1 z_text z_told z_formula u.2 z_isKept z_typed z_at z_isRight z_times z_letter z_items z_length z_entries))) A) args s 0 0 A) (F0 m 43 ls []) := by
  obtain ⟨hx, hb, hr, hml, hown, hts, hlocks, hK⟩ := id C
  intro hw H locs hP hD hS ls hl
  refine lv_aload_n hx hb dX9_leaveOut_43 rfl (lv_at hl 0 rfl) ?_
  refine kMVv (q0 := 0) (As := []) (rest := []) C (c_X9_records l D kI kC kB a z_s z_text z_told z_formula z_states z_isKept z_typed z_at z_isRight z_times z_letter z_items z_length z_entries H.size _ hw) ⟨rfl, rfl⟩ ce_X9_records cv_X9_records tw_744 ⟨Nat.le_of_ble_eq_true rfl, Nat.le_of_ble_eq_true rfl⟩ hP hD hS hA [0, 1, 2, 3, 4] rfl rfl (fun _ => rfl) rfl rfl rfl hl.1 rfl (Nat.le_of_ble_eq_true rfl) ⟨Nat.zero_le _, Nat.zero_le _⟩ dX9_leaveOut_44 (fun u H locs hw hP hD hS => ?_)
  obtain ⟨u1, u2⟩ := u
  try dsimp only at hw
  replace hP : va_P D vwCl (cwModel kI kC a u1 z_text z_told z_formula u2 z_isKept z_typed z_at z_isRight z_times z_letter z_items z_length z_entries) H := hP
  replace hD : va_D A (cwModel kI kC a u1 z_text z_told z_formula u2 z_isKept z_typed z_at z_isRight z_times z_letter z_items z_length z_entries) := hD
  refine lv_aload_n hx hb dX9_leaveOut_47 rfl (lv_at hl 0 rfl) ?_
  refine va_get (D := D) (ci := 7) (v := .ref (a 1)) (C := RX9) (T := TX9) (N := 14) hx hb hts inX9 hown hK.1 hP 0 rfl rfl 0 (by decide) (hts _ tw_685) (fun _ h9 => h9) rfl dX9_leaveOut_48 ?_
  refine lv_iconst (v := (nI 0)) hx hb dX9_leaveOut_51 (by decide) ?_
  refine lv_dup2_11 hx hb dX9_leaveOut_52 rfl rfl ?_
  have hin := hw.1
  replace hw := hw.2
  refine va_iald hx hb hK.1 hP 1 0 rfl rfl hin dX9_leaveOut_53 ?_
  refine lv_iconst (v := (nI 1)) hx hb dX9_leaveOut_54 (by decide) ?_
  refine lv_iload_n hx hb dX9_leaveOut_55 rfl (lv_at hl 1 rfl) ?_
  refine lv_bipush (v := (nI 65)) hx hb dX9_leaveOut_56 (by decide) ?_
  refine lv_isub hx hb dX9_leaveOut_58 ?_
  refine lv_ishl hx hb dX9_leaveOut_59 ?_
  refine lv_ixor hx hb dX9_leaveOut_60 ?_
  have hin := hw.1
  replace hw := hw.2
  refine va_iast hx hb hK.1 hP hD hS 1 0 rfl rfl hin dX9_leaveOut_61 (fun H locs hP hD hS => ?_)
  replace hP : va_P D vwCl (cwModel kI kC a (upd u1 (nI 0).toNatClampNeg ((u1 (nI 0).toNatClampNeg) ^^^ ((nI 1) <<< ((p1 - (nI 65)) &&& 31)))) z_text z_told z_formula u2 z_isKept z_typed z_at z_isRight z_times z_letter z_items z_length z_entries) H := hP
  replace hD : va_D A (cwModel kI kC a (upd u1 (nI 0).toNatClampNeg ((u1 (nI 0).toNatClampNeg) ^^^ ((nI 1) <<< ((p1 - (nI 65)) &&& 31)))) z_text z_told z_formula u2 z_isKept z_typed z_at z_isRight z_times z_letter z_items z_length z_entries) := hD
  refine lv_aload_n hx hb dX9_leaveOut_62 rfl (lv_at hl 0 rfl) ?_
  refine kRV (As := []) (rest := []) (q0 := 0) C (c_X9_letters l D kI kC kB a (upd u1 (nI 0).toNatClampNeg ((u1 (nI 0).toNatClampNeg) ^^^ ((nI 1) <<< ((p1 - (nI 65)) &&& 31)))) z_text z_told z_formula u2 z_isKept z_typed z_at z_isRight z_times z_letter z_items z_length z_entries _ hw) ⟨rfl, rfl⟩ ce_X9_letters cv_X9_letters tw_740 ⟨Nat.le_of_ble_eq_true rfl, Nat.le_of_ble_eq_true rfl⟩ hP [0, 1, 2, 3, 4] rfl rfl rfl rfl hl.1 rfl (Nat.le_of_ble_eq_true rfl) ⟨Nat.zero_le _, Nat.zero_le _⟩ dX9_leaveOut_63 (fun r3 hw => ?_)
  exact retMi C ((upd u1 (nI 0).toNatClampNeg ((u1 (nI 0).toNatClampNeg) ^^^ ((nI 1) <<< ((p1 - (nI 65)) &&& 31)))), u2) hw hP hD hS dX9_leaveOut_66
set_option maxHeartbeats 4000000 in
set_option maxRecDepth 100000 in
theorem c_X9_leaveOut (l : Launch) (D : va_G) (kI kC kB : ClassId) (a : AdT) (z_s : Nat → Int32) (z_text : Nat → Int32) (z_told : Nat → Int32) (z_formula : Nat → Int32) (z_states : Int32) (z_isKept : Int32) (z_typed : Int32) (z_at : Int32) (z_isRight : Int32) (z_times : Int32) (z_letter : Int32) (z_items : Int32) (z_length : Int32) (z_entries : Int32) (sz : Nat) (p1 : Int32) (p2 : Int32) (Post : Int32 → (Nat → Int32) → Int32 → Prop) (hw : wp_X9_leaveOut z_s z_states p1 p2 Post) : CMi l D kI kC kB yX9_leaveOut cX9_leaveOut 3 (some .int) ({ frames := 2, cells := 0, slots := 0, locals := 44 } : Room) [.ref (a 0), .int p1, .int p2] (cwModel kI kC a z_s z_text z_told z_formula z_states z_isKept z_typed z_at z_isRight z_times z_letter z_items z_length z_entries) sz (fun (r : Int32) (u : (Nat → Int32) × Int32) => Post r u.1 u.2) (fun u : (Nat → Int32) × Int32 => (cwModel kI kC a u.1 z_text z_told z_formula u.2 z_isKept z_typed z_at z_isRight z_times z_letter z_items z_length z_entries)) := by
  refine entMi (by decide) (Nat.le_of_ble_eq_true rfl) ?_
  intro p e s m args below meth c ls A C hA hP hD hS hl
  obtain ⟨H, hHe⟩ : ∃ H, H = s.heap := ⟨_, rfl⟩
  obtain ⟨locs, hlo⟩ : ∃ lo : List Loc, lo = [] := ⟨_, rfl⟩
  have hS : va_S A s.heap H locs := by rw [hHe, hlo]; exact hS
  rw [← hHe] at hP
  suffices hg : W p l e ({ frames := 2, cells := 0, slots := 0, locals := 44 } : Room) s m args below meth c H locs 0 0 (MQ below (va_Qi (fun (r : Int32) (u : (Nat → Int32) × Int32) => Post r u.1 u.2) (BB D A (fun u : (Nat → Int32) × Int32 => (cwModel kI kC a u.1 z_text z_told z_formula u.2 z_isKept z_typed z_at z_isRight z_times z_letter z_items z_length z_entries))) A) args s 0 0 A) (F0 m 0 ls []) by rw [hHe, hlo] at hg; exact hg
  replace hl : lv_has ls 3 [(0, .ref (a 0)), (1, .int p1), (2, .int p2)] := hl
  obtain ⟨hx, hb, hr, hml, hown, hts, hlocks, hK⟩ := id C
  refine lv_iload_n hx hb dX9_leaveOut_0 rfl (lv_at hl 1 rfl) ?_
  refine lv_bipush (v := (nI 65)) hx hb dX9_leaveOut_1 (by decide) ?_
  refine lv_bipush (v := (nI 90)) hx hb dX9_leaveOut_3 (by decide) ?_
  refine kRS (As := [.int p1, .int (nI 65), .int (nI 90)]) (rest := []) C (c_X9_in l D kI kC kB  p1 (nI 65) (nI 90) _ hw) ⟨rfl, rfl⟩ ce_X9_in cv_X9_in tw_733 ⟨Nat.le_of_ble_eq_true rfl, Nat.le_of_ble_eq_true rfl⟩ hP [] rfl hl.1 rfl (Nat.le_of_ble_eq_true rfl) ⟨Nat.zero_le _, Nat.zero_le _⟩ dX9_leaveOut_5 (fun r4 hw => ?_)
  refine lv_if_ne (tgt := 13) hx hb dX9_leaveOut_8 (by decide) (fun hc => ?_) (fun hc => ?_)
  · replace hw := hw.2 hc
    refine lv_aload_n hx hb dX9_leaveOut_13 rfl (lv_at hl 0 rfl) ?_
    refine lv_iload_n hx hb dX9_leaveOut_14 rfl (lv_at hl 1 rfl) ?_
    refine lv_bipush (v := (nI 65)) hx hb dX9_leaveOut_15 (by decide) ?_
    refine lv_isub hx hb dX9_leaveOut_17 ?_
    refine kRV (As := [.int (p1 - (nI 65))]) (rest := []) (q0 := 0) C (c_X9_isOut l D kI kC kB a z_s z_text z_told z_formula z_states z_isKept z_typed z_at z_isRight z_times z_letter z_items z_length z_entries (p1 - (nI 65)) _ hw) ⟨rfl, rfl⟩ ce_X9_isOut cv_X9_isOut tw_736 ⟨Nat.le_of_ble_eq_true rfl, Nat.le_of_ble_eq_true rfl⟩ hP [0, 1, 2, 3, 4] rfl rfl rfl rfl hl.1 rfl (Nat.le_of_ble_eq_true rfl) ⟨Nat.zero_le _, Nat.zero_le _⟩ dX9_leaveOut_18 (fun r5 hw => ?_)
    refine lv_iload_n hx hb dX9_leaveOut_21 rfl (lv_at hl 2 rfl) ?_
    refine lv_icmp_ne (tgt := 28) hx hb dX9_leaveOut_22 (by decide) (fun hc => ?_) (fun hc => ?_)
    · replace hw := hw.2 hc
      refine lv_iload_n hx hb dX9_leaveOut_28 rfl (lv_at hl 2 rfl) ?_
      refine lv_if_eq (tgt := 43) hx hb dX9_leaveOut_29 (by decide) (fun hc => ?_) (fun hc => ?_)
      · replace hw := hw.1 hc
        exact cj_X9_leaveOut_43 l D kI kC kB a z_s z_text z_told z_formula z_states z_isKept z_typed z_at z_isRight z_times z_letter z_items z_length z_entries p1 Post hA C hw H locs hP hD hS ls (lv_sub hl [0, 1] rfl)
      · replace hw := hw.2 hc
        refine lv_aload_n hx hb dX9_leaveOut_32 rfl (lv_at hl 0 rfl) ?_
        refine kRV (As := []) (rest := []) (q0 := 0) C (c_X9_letters l D kI kC kB a z_s z_text z_told z_formula z_states z_isKept z_typed z_at z_isRight z_times z_letter z_items z_length z_entries _ hw) ⟨rfl, rfl⟩ ce_X9_letters cv_X9_letters tw_740 ⟨Nat.le_of_ble_eq_true rfl, Nat.le_of_ble_eq_true rfl⟩ hP [0, 1, 2, 3, 4] rfl rfl rfl rfl hl.1 rfl (Nat.le_of_ble_eq_true rfl) ⟨Nat.zero_le _, Nat.zero_le _⟩ dX9_leaveOut_33 (fun r6 hw => ?_)
        refine lv_iconst (v := (nI 1)) hx hb dX9_leaveOut_36 (by decide) ?_
        refine lv_icmp_ne (tgt := 43) hx hb dX9_leaveOut_37 (by decide) (fun hc => ?_) (fun hc => ?_)
        · replace hw := hw.2 hc
          exact cj_X9_leaveOut_43 l D kI kC kB a z_s z_text z_told z_formula z_states z_isKept z_typed z_at z_isRight z_times z_letter z_items z_length z_entries p1 Post hA C hw H locs hP hD hS ls (lv_sub hl [0, 1] rfl)
        · replace hw := hw.1 hc
          refine lv_bipush (v := (-4)) hx hb dX9_leaveOut_40 (by decide) ?_
          exact retMi C (z_s, z_states) hw hP hD hS dX9_leaveOut_42
    · replace hw := hw.1 hc
      refine lv_bipush (v := (-5)) hx hb dX9_leaveOut_25 (by decide) ?_
      exact retMi C (z_s, z_states) hw hP hD hS dX9_leaveOut_27
  · replace hw := hw.1 hc
    refine lv_iconst (v := (-1)) hx hb dX9_leaveOut_11 (by decide) ?_
    exact retMi C (z_s, z_states) hw hP hD hS dX9_leaveOut_12
set_option maxHeartbeats 4000000 in
set_option maxRecDepth 100000 in
theorem c_X9_setSigning (l : Launch) (D : va_G) (kI kC kB : ClassId) (a : AdT) (z_s : Nat → Int32) (z_text : Nat → Int32) (z_told : Nat → Int32) (z_formula : Nat → Int32) (z_states : Int32) (z_isKept : Int32) (z_typed : Int32) (z_at : Int32) (z_isRight : Int32) (z_times : Int32) (z_letter : Int32) (z_items : Int32) (z_length : Int32) (z_entries : Int32) (sz : Nat) (p1 : Int32) (Post : Int32 → (Nat → Int32) → Int32 → Prop) (hw : wp_X9_setSigning z_s z_states p1 Post) : CMi l D kI kC kB yX9_setSigning cX9_setSigning 2 (some .int) ({ frames := 3, cells := 0, slots := 0, locals := 66 } : Room) [.ref (a 0), .int p1] (cwModel kI kC a z_s z_text z_told z_formula z_states z_isKept z_typed z_at z_isRight z_times z_letter z_items z_length z_entries) sz (fun (r : Int32) (u : (Nat → Int32) × Int32) => Post r u.1 u.2) (fun u : (Nat → Int32) × Int32 => (cwModel kI kC a u.1 z_text z_told z_formula u.2 z_isKept z_typed z_at z_isRight z_times z_letter z_items z_length z_entries)) := by
  refine entMi (by decide) (Nat.le_of_ble_eq_true rfl) ?_
  intro p e s m args below meth c ls A C hA hP hD hS hl
  obtain ⟨H, hHe⟩ : ∃ H, H = s.heap := ⟨_, rfl⟩
  obtain ⟨locs, hlo⟩ : ∃ lo : List Loc, lo = [] := ⟨_, rfl⟩
  have hS : va_S A s.heap H locs := by rw [hHe, hlo]; exact hS
  rw [← hHe] at hP
  suffices hg : W p l e ({ frames := 3, cells := 0, slots := 0, locals := 66 } : Room) s m args below meth c H locs 0 0 (MQ below (va_Qi (fun (r : Int32) (u : (Nat → Int32) × Int32) => Post r u.1 u.2) (BB D A (fun u : (Nat → Int32) × Int32 => (cwModel kI kC a u.1 z_text z_told z_formula u.2 z_isKept z_typed z_at z_isRight z_times z_letter z_items z_length z_entries))) A) args s 0 0 A) (F0 m 0 ls []) by rw [hHe, hlo] at hg; exact hg
  replace hl : lv_has ls 2 [(0, .ref (a 0)), (1, .int p1)] := hl
  obtain ⟨hx, hb, hr, hml, hown, hts, hlocks, hK⟩ := id C
  refine lv_iload_n hx hb dX9_setSigning_0 rfl (lv_at hl 1 rfl) ?_
  refine lv_iconst (v := (nI 0)) hx hb dX9_setSigning_1 (by decide) ?_
  refine lv_iconst (v := (nI 2)) hx hb dX9_setSigning_2 (by decide) ?_
  refine kRS (As := [.int p1, .int (nI 0), .int (nI 2)]) (rest := []) C (c_X9_in l D kI kC kB  p1 (nI 0) (nI 2) _ hw) ⟨rfl, rfl⟩ ce_X9_in cv_X9_in tw_733 ⟨Nat.le_of_ble_eq_true rfl, Nat.le_of_ble_eq_true rfl⟩ hP [] rfl hl.1 rfl (Nat.le_of_ble_eq_true rfl) ⟨Nat.zero_le _, Nat.zero_le _⟩ dX9_setSigning_3 (fun r1 hw => ?_)
  refine lv_if_ne (tgt := 12) hx hb dX9_setSigning_6 (by decide) (fun hc => ?_) (fun hc => ?_)
  · replace hw := hw.2 hc
    refine lv_aload_n hx hb dX9_setSigning_12 rfl (lv_at hl 0 rfl) ?_
    refine va_get (D := D) (ci := 7) (v := .ref (a 1)) (C := RX9) (T := TX9) (N := 14) hx hb hts inX9 hown hK.1 hP 0 rfl rfl 0 (by decide) (hts _ tw_685) (fun _ h9 => h9) rfl dX9_setSigning_13 ?_
    refine lv_iconst (v := (nI 1)) hx hb dX9_setSigning_16 (by decide) ?_
    have hin := hw.1
    replace hw := hw.2
    refine va_iald hx hb hK.1 hP 1 0 rfl rfl hin dX9_setSigning_17 ?_
    refine lv_iload_n hx hb dX9_setSigning_18 rfl (lv_at hl 1 rfl) ?_
    refine lv_icmp_ne (tgt := 25) hx hb dX9_setSigning_19 (by decide) (fun hc => ?_) (fun hc => ?_)
    · replace hw := hw.2 hc
      refine lv_aload_n hx hb dX9_setSigning_25 rfl (lv_at hl 0 rfl) ?_
      refine kMVv (q0 := 0) (As := []) (rest := []) C (c_X9_records l D kI kC kB a z_s z_text z_told z_formula z_states z_isKept z_typed z_at z_isRight z_times z_letter z_items z_length z_entries H.size _ hw) ⟨rfl, rfl⟩ ce_X9_records cv_X9_records tw_744 ⟨Nat.le_of_ble_eq_true rfl, Nat.le_of_ble_eq_true rfl⟩ hP hD hS hA [0, 1, 2, 3, 4] rfl rfl (fun _ => rfl) rfl rfl rfl hl.1 rfl (Nat.le_of_ble_eq_true rfl) ⟨Nat.zero_le _, Nat.zero_le _⟩ dX9_setSigning_26 (fun u H locs hw hP hD hS => ?_)
      obtain ⟨u2, u3⟩ := u
      try dsimp only at hw
      replace hP : va_P D vwCl (cwModel kI kC a u2 z_text z_told z_formula u3 z_isKept z_typed z_at z_isRight z_times z_letter z_items z_length z_entries) H := hP
      replace hD : va_D A (cwModel kI kC a u2 z_text z_told z_formula u3 z_isKept z_typed z_at z_isRight z_times z_letter z_items z_length z_entries) := hD
      refine lv_aload_n hx hb dX9_setSigning_29 rfl (lv_at hl 0 rfl) ?_
      refine va_get (D := D) (ci := 7) (v := .ref (a 1)) (C := RX9) (T := TX9) (N := 14) hx hb hts inX9 hown hK.1 hP 0 rfl rfl 0 (by decide) (hts _ tw_685) (fun _ h9 => h9) rfl dX9_setSigning_30 ?_
      refine lv_iconst (v := (nI 1)) hx hb dX9_setSigning_33 (by decide) ?_
      refine lv_iload_n hx hb dX9_setSigning_34 rfl (lv_at hl 1 rfl) ?_
      have hin := hw.1
      replace hw := hw.2
      refine va_iast hx hb hK.1 hP hD hS 1 0 rfl rfl hin dX9_setSigning_35 (fun H locs hP hD hS => ?_)
      replace hP : va_P D vwCl (cwModel kI kC a (upd u2 (nI 1).toNatClampNeg p1) z_text z_told z_formula u3 z_isKept z_typed z_at z_isRight z_times z_letter z_items z_length z_entries) H := hP
      replace hD : va_D A (cwModel kI kC a (upd u2 (nI 1).toNatClampNeg p1) z_text z_told z_formula u3 z_isKept z_typed z_at z_isRight z_times z_letter z_items z_length z_entries) := hD
      refine lv_aload_n hx hb dX9_setSigning_36 rfl (lv_at hl 0 rfl) ?_
      refine kRV (As := []) (rest := []) (q0 := 0) C (c_X9_signedOfAll l D kI kC kB a (upd u2 (nI 1).toNatClampNeg p1) z_text z_told z_formula u3 z_isKept z_typed z_at z_isRight z_times z_letter z_items z_length z_entries _ hw) ⟨rfl, rfl⟩ ce_X9_signedOfAll cv_X9_signedOfAll tw_756 ⟨Nat.le_of_ble_eq_true rfl, Nat.le_of_ble_eq_true rfl⟩ hP [0, 1, 2, 3, 4] rfl rfl rfl rfl hl.1 rfl (Nat.le_of_ble_eq_true rfl) ⟨Nat.zero_le _, Nat.zero_le _⟩ dX9_setSigning_37 (fun r4 hw => ?_)
      exact retMi C ((upd u2 (nI 1).toNatClampNeg p1), u3) hw hP hD hS dX9_setSigning_40
    · replace hw := hw.1 hc
      refine lv_bipush (v := (-5)) hx hb dX9_setSigning_22 (by decide) ?_
      exact retMi C (z_s, z_states) hw hP hD hS dX9_setSigning_24
  · replace hw := hw.1 hc
    refine lv_bipush (v := (-2)) hx hb dX9_setSigning_9 (by decide) ?_
    exact retMi C (z_s, z_states) hw hP hD hS dX9_setSigning_11
set_option maxHeartbeats 4000000 in
set_option maxRecDepth 100000 in
theorem c_X9_isNext (l : Launch) (D : va_G) (kI kC kB : ClassId) (a : AdT) (z_s : Nat → Int32) (z_text : Nat → Int32) (z_told : Nat → Int32) (z_formula : Nat → Int32) (z_states : Int32) (z_isKept : Int32) (z_typed : Int32) (z_at : Int32) (z_isRight : Int32) (z_times : Int32) (z_letter : Int32) (z_items : Int32) (z_length : Int32) (z_entries : Int32) (p1 : Int32) (p2 : Int32) (Post : Int32 → Prop) (hw : wp_X9_isNext z_text z_typed z_at z_isRight p1 p2 Post) : CR l D kI kC kB yX9_isNext cX9_isNext 3 (some .boolean) ({ frames := 1, cells := 0, slots := 0, locals := 22 } : Room) [.ref (a 0), .int p1, .int p2] (cwModel kI kC a z_s z_text z_told z_formula z_states z_isKept z_typed z_at z_isRight z_times z_letter z_items z_length z_entries) Post := by
  refine entR (by decide) (Nat.le_of_ble_eq_true rfl) ?_
  intro p e s m args below meth c ls C hP hl
  replace hl : lv_has ls 3 [(0, .ref (a 0)), (1, .int p1), (2, .int p2)] := hl
  obtain ⟨hx, hb, hr, hml, hown, hts, hlocks, hK⟩ := id C
  refine lv_aload_n hx hb dX9_isNext_0 rfl (lv_at hl 0 rfl) ?_
  refine va_get (D := D) (ci := 7) (v := .int z_isRight) (C := RX9) (T := TX9) (N := 14) hx hb hts inX9 hown hK.1 hP 0 rfl rfl 6 (by decide) (hts _ tw_691) (fun _ h9 => h9) rfl dX9_isNext_1 ?_
  refine lv_if_eq (tgt := 39) hx hb dX9_isNext_4 (by decide) (fun hc => ?_) (fun hc => ?_)
  · replace hw := hw.1 hc
    refine lv_iconst (v := (nI 0)) hx hb dX9_isNext_39 (by decide) ?_
    exact retRz C (by decide) hw dX9_isNext_40
  · replace hw := hw.2 hc
    refine lv_aload_n hx hb dX9_isNext_7 rfl (lv_at hl 0 rfl) ?_
    refine va_get (D := D) (ci := 7) (v := .int z_at) (C := RX9) (T := TX9) (N := 14) hx hb hts inX9 hown hK.1 hP 0 rfl rfl 5 (by decide) (hts _ tw_690) (fun _ h9 => h9) rfl dX9_isNext_8 ?_
    refine lv_aload_n hx hb dX9_isNext_11 rfl (lv_at hl 0 rfl) ?_
    refine va_get (D := D) (ci := 7) (v := .int z_typed) (C := RX9) (T := TX9) (N := 14) hx hb hts inX9 hown hK.1 hP 0 rfl rfl 4 (by decide) (hts _ tw_689) (fun _ h9 => h9) rfl dX9_isNext_12 ?_
    refine lv_icmp_ge (tgt := 39) hx hb dX9_isNext_15 (by decide) (fun hc => ?_) (fun hc => ?_)
    · replace hw := hw.1 hc
      refine lv_iconst (v := (nI 0)) hx hb dX9_isNext_39 (by decide) ?_
      exact retRz C (by decide) hw dX9_isNext_40
    · replace hw := hw.2 hc
      refine lv_aload_n hx hb dX9_isNext_18 rfl (lv_at hl 0 rfl) ?_
      refine va_get (D := D) (ci := 7) (v := .ref (a 2)) (C := RX9) (T := TX9) (N := 14) hx hb hts inX9 hown hK.1 hP 0 rfl rfl 3 (by decide) (hts _ tw_688) (fun _ h9 => h9) rfl dX9_isNext_19 ?_
      refine lv_aload_n hx hb dX9_isNext_22 rfl (lv_at hl 0 rfl) ?_
      refine va_get (D := D) (ci := 7) (v := .int z_at) (C := RX9) (T := TX9) (N := 14) hx hb hts inX9 hown hK.1 hP 0 rfl rfl 5 (by decide) (hts _ tw_690) (fun _ h9 => h9) rfl dX9_isNext_23 ?_
      have hin := hw.1
      replace hw := hw.2
      refine va_cald hx hb hK.1 hP 2 1 rfl rfl hin dX9_isNext_26 ?_
      refine lv_iload_n hx hb dX9_isNext_27 rfl (lv_at hl 1 rfl) ?_
      refine lv_iload_n hx hb dX9_isNext_28 rfl (lv_at hl 2 rfl) ?_
      refine kRS (As := [.int (z_text z_at.toNatClampNeg), .int p1, .int p2]) (rest := []) C (c_X9_in l D kI kC kB  (z_text z_at.toNatClampNeg) p1 p2 _ hw) ⟨rfl, rfl⟩ ce_X9_in cv_X9_in tw_733 ⟨Nat.le_of_ble_eq_true rfl, Nat.le_of_ble_eq_true rfl⟩ hP [] rfl hl.1 rfl (Nat.le_of_ble_eq_true rfl) ⟨Nat.zero_le _, Nat.zero_le _⟩ dX9_isNext_29 (fun r1 hw => ?_)
      refine lv_if_eq (tgt := 39) hx hb dX9_isNext_32 (by decide) (fun hc => ?_) (fun hc => ?_)
      · replace hw := hw.1 hc
        refine lv_iconst (v := (nI 0)) hx hb dX9_isNext_39 (by decide) ?_
        exact retRz C (by decide) hw dX9_isNext_40
      · replace hw := hw.2 hc
        refine lv_iconst (v := (nI 1)) hx hb dX9_isNext_35 (by decide) ?_
        refine lv_goto (tgt := 40) hx hb dX9_isNext_36 (by decide) ?_
        exact retRz C (by decide) hw dX9_isNext_40
set_option maxHeartbeats 4000000 in
set_option maxRecDepth 100000 in
theorem cl_X9_reads_21 (l : Launch) (D : va_G) (kI kC kB : ClassId) (a : AdT) (z_s : Nat → Int32) (z_text : Nat → Int32) (z_told : Nat → Int32) (z_formula : Nat → Int32) (z_states : Int32) (z_isKept : Int32) (z_typed : Int32) (z_isRight : Int32) (z_letter : Int32) (z_items : Int32) (z_length : Int32) (z_entries : Int32) (Post : Int32 → Int32 → Int32 → Int32 → Prop) {p : Program} {e : Env} {s : State} {m : MethodId} {args : Array Value} {below : List Frame} {meth : Method} {c : Code} {A : Nat → Prop} (hA : ∀ q : Nat, s.heap.size ≤ q → A q) (C : CtxT p s m args meth c cX9_reads 2 none yX9_reads.cls D kI kC kB) : ∀ (n : Nat), ∀ (z_at : Int32) (z_times : Int32), wl_X9_reads_21 z_s z_text z_typed z_isRight z_letter Post n z_at z_times → ∀ (H : Heap) (locs : List Loc), va_P D vwCl (cwModel kI kC a z_s z_text z_told z_formula z_states z_isKept z_typed z_at z_isRight z_times z_letter z_items z_length z_entries) H → va_D A (cwModel kI kC a z_s z_text z_told z_formula z_states z_isKept z_typed z_at z_isRight z_times z_letter z_items z_length z_entries) → va_S A s.heap H locs → ∀ (ls : Array Slot), lv_has ls 2 [(0, .ref (a 0))] → W p l e ({ frames := 2, cells := 0, slots := 0, locals := 44 } : Room) s m args below meth c H locs 0 0 (MQ below (va_Qv (fun (u : Int32 × Int32 × Int32 × Int32) => Post u.1 u.2.1 u.2.2.1 u.2.2.2) (BB D A (fun u : Int32 × Int32 × Int32 × Int32 => (cwModel kI kC a z_s z_text z_told z_formula z_states z_isKept z_typed u.1 u.2.1 u.2.2.1 u.2.2.2 z_items z_length z_entries))) A) args s 0 0 A) (F0 m 21 ls []) := by
  obtain ⟨hx, hb, hr, hml, hown, hts, hlocks, hK⟩ := id C
  intro n
  induction n with
  | zero => intro z_at z_times hw; exact hw.elim
  | succ n ih =>
    intro z_at z_times hw H locs hP hD hS ls hl
    refine lv_aload_n hx hb dX9_reads_21 rfl (lv_at hl 0 rfl) ?_
    refine va_get (D := D) (ci := 7) (v := .int z_times) (C := RX9) (T := TX9) (N := 14) hx hb hts inX9 hown hK.1 hP 0 rfl rfl 7 (by decide) (hts _ tw_692) (fun _ h9 => h9) rfl dX9_reads_22 ?_
    refine lv_iconst (v := (nI 5)) hx hb dX9_reads_25 (by decide) ?_
    refine lv_icmp_ge (tgt := 63) hx hb dX9_reads_26 (by decide) (fun hc => ?_) (fun hc => ?_)
    · replace hw := hw.1 hc
      exact retMv C (z_at, z_isRight, z_times, z_letter) hw hP hD hS dX9_reads_63
    · replace hw := hw.2 hc
      refine lv_aload_n hx hb dX9_reads_29 rfl (lv_at hl 0 rfl) ?_
      refine lv_bipush (v := (nI 42)) hx hb dX9_reads_30 (by decide) ?_
      refine lv_bipush (v := (nI 42)) hx hb dX9_reads_32 (by decide) ?_
      refine kRV (As := [.int (nI 42), .int (nI 42)]) (rest := []) (q0 := 0) C (c_X9_isNext l D kI kC kB a z_s z_text z_told z_formula z_states z_isKept z_typed z_at z_isRight z_times z_letter z_items z_length z_entries (nI 42) (nI 42) _ hw) ⟨rfl, rfl⟩ ce_X9_isNext cv_X9_isNext tw_783 ⟨Nat.le_of_ble_eq_true rfl, Nat.le_of_ble_eq_true rfl⟩ hP [0, 1, 2, 3, 4] rfl rfl rfl rfl hl.1 rfl (Nat.le_of_ble_eq_true rfl) ⟨Nat.zero_le _, Nat.zero_le _⟩ dX9_reads_34 (fun r1 hw => ?_)
      refine lv_if_eq (tgt := 63) hx hb dX9_reads_37 (by decide) (fun hc => ?_) (fun hc => ?_)
      · replace hw := hw.1 hc
        exact retMv C (z_at, z_isRight, z_times, z_letter) hw hP hD hS dX9_reads_63
      · replace hw := hw.2 hc
        refine lv_aload_n hx hb dX9_reads_40 rfl (lv_at hl 0 rfl) ?_
        refine lv_dup hx hb dX9_reads_41 rfl ?_
        refine va_get (D := D) (ci := 7) (v := .int z_times) (C := RX9) (T := TX9) (N := 14) hx hb hts inX9 hown hK.1 hP 0 rfl rfl 7 (by decide) (hts _ tw_692) (fun _ h9 => h9) rfl dX9_reads_42 ?_
        refine lv_iconst (v := (nI 1)) hx hb dX9_reads_45 (by decide) ?_
        refine lv_iadd hx hb dX9_reads_46 ?_
        refine va_put (D := D) (ci := 7) (v := .int (z_times + (nI 1))) (ty := .int) (C := RX9) (T := TX9) (N := 14) hx hb hts inX9 tyX9 tyX9_ok nmX9 hown hK.1 hP hD hS 0 rfl rfl 7 (by decide) (hts _ tw_692) (fun _ h9 => h9) rfl (tyX9_ok 7 (by decide)) rfl rfl (Nat.le_of_ble_eq_true rfl) dX9_reads_47 (fun H locs hP hD hS => ?_)
        replace hP : va_P D vwCl (cwModel kI kC a z_s z_text z_told z_formula z_states z_isKept z_typed z_at z_isRight (z_times + (nI 1)) z_letter z_items z_length z_entries) H := hP
        replace hD : va_D A (cwModel kI kC a z_s z_text z_told z_formula z_states z_isKept z_typed z_at z_isRight (z_times + (nI 1)) z_letter z_items z_length z_entries) := hD
        refine lv_aload_n hx hb dX9_reads_50 rfl (lv_at hl 0 rfl) ?_
        refine lv_dup hx hb dX9_reads_51 rfl ?_
        refine va_get (D := D) (ci := 7) (v := .int z_at) (C := RX9) (T := TX9) (N := 14) hx hb hts inX9 hown hK.1 hP 0 rfl rfl 5 (by decide) (hts _ tw_690) (fun _ h9 => h9) rfl dX9_reads_52 ?_
        refine lv_iconst (v := (nI 1)) hx hb dX9_reads_55 (by decide) ?_
        refine lv_iadd hx hb dX9_reads_56 ?_
        refine va_put (D := D) (ci := 7) (v := .int (z_at + (nI 1))) (ty := .int) (C := RX9) (T := TX9) (N := 14) hx hb hts inX9 tyX9 tyX9_ok nmX9 hown hK.1 hP hD hS 0 rfl rfl 5 (by decide) (hts _ tw_690) (fun _ h9 => h9) rfl (tyX9_ok 5 (by decide)) rfl rfl (Nat.le_of_ble_eq_true rfl) dX9_reads_57 (fun H locs hP hD hS => ?_)
        replace hP : va_P D vwCl (cwModel kI kC a z_s z_text z_told z_formula z_states z_isKept z_typed (z_at + (nI 1)) z_isRight (z_times + (nI 1)) z_letter z_items z_length z_entries) H := hP
        replace hD : va_D A (cwModel kI kC a z_s z_text z_told z_formula z_states z_isKept z_typed (z_at + (nI 1)) z_isRight (z_times + (nI 1)) z_letter z_items z_length z_entries) := hD
        refine lv_goto (tgt := 21) hx hb dX9_reads_60 (by decide) ?_
        exact ih (z_at + (nI 1)) (z_times + (nI 1)) hw H locs hP hD hS ls (lv_sub hl [0] rfl)
set_option maxHeartbeats 4000000 in
set_option maxRecDepth 100000 in
theorem cl_X9_reads_145 (l : Launch) (D : va_G) (kI kC kB : ClassId) (a : AdT) (z_s : Nat → Int32) (z_text : Nat → Int32) (z_told : Nat → Int32) (z_formula : Nat → Int32) (z_states : Int32) (z_isKept : Int32) (z_typed : Int32) (z_isRight : Int32) (z_letter : Int32) (z_items : Int32) (z_length : Int32) (z_entries : Int32) (Post : Int32 → Int32 → Int32 → Int32 → Prop) {p : Program} {e : Env} {s : State} {m : MethodId} {args : Array Value} {below : List Frame} {meth : Method} {c : Code} {A : Nat → Prop} (hA : ∀ q : Nat, s.heap.size ≤ q → A q) (C : CtxT p s m args meth c cX9_reads 2 none yX9_reads.cls D kI kC kB) : ∀ (n : Nat), ∀ (z_at : Int32) (z_times : Int32), wl_X9_reads_145 z_s z_text z_typed z_isRight z_letter Post n z_at z_times → ∀ (H : Heap) (locs : List Loc), va_P D vwCl (cwModel kI kC a z_s z_text z_told z_formula z_states z_isKept z_typed z_at z_isRight z_times z_letter z_items z_length z_entries) H → va_D A (cwModel kI kC a z_s z_text z_told z_formula z_states z_isKept z_typed z_at z_isRight z_times z_letter z_items z_length z_entries) → va_S A s.heap H locs → ∀ (ls : Array Slot), lv_has ls 2 [(0, .ref (a 0))] → W p l e ({ frames := 2, cells := 0, slots := 0, locals := 44 } : Room) s m args below meth c H locs 0 0 (MQ below (va_Qv (fun (u : Int32 × Int32 × Int32 × Int32) => Post u.1 u.2.1 u.2.2.1 u.2.2.2) (BB D A (fun u : Int32 × Int32 × Int32 × Int32 => (cwModel kI kC a z_s z_text z_told z_formula z_states z_isKept z_typed u.1 u.2.1 u.2.2.1 u.2.2.2 z_items z_length z_entries))) A) args s 0 0 A) (F0 m 145 ls []) := by
  obtain ⟨hx, hb, hr, hml, hown, hts, hlocks, hK⟩ := id C
  intro n
  induction n with
  | zero => intro z_at z_times hw; exact hw.elim
  | succ n ih =>
    intro z_at z_times hw H locs hP hD hS ls hl
    refine lv_aload_n hx hb dX9_reads_145 rfl (lv_at hl 0 rfl) ?_
    refine va_get (D := D) (ci := 7) (v := .int z_times) (C := RX9) (T := TX9) (N := 14) hx hb hts inX9 hown hK.1 hP 0 rfl rfl 7 (by decide) (hts _ tw_692) (fun _ h9 => h9) rfl dX9_reads_146 ?_
    refine lv_iconst (v := (nI 3)) hx hb dX9_reads_149 (by decide) ?_
    refine lv_icmp_ge (tgt := 197) hx hb dX9_reads_150 (by decide) (fun hc => ?_) (fun hc => ?_)
    · replace hw := hw.1 hc
      exact retMv C (z_at, z_isRight, z_times, z_letter) hw hP hD hS dX9_reads_197
    · replace hw := hw.2 hc
      refine lv_aload_n hx hb dX9_reads_153 rfl (lv_at hl 0 rfl) ?_
      refine lv_bipush (v := (nI 97)) hx hb dX9_reads_154 (by decide) ?_
      refine lv_aload_n hx hb dX9_reads_156 rfl (lv_at hl 0 rfl) ?_
      refine va_get (D := D) (ci := 7) (v := .int z_letter) (C := RX9) (T := TX9) (N := 14) hx hb hts inX9 hown hK.1 hP 0 rfl rfl 8 (by decide) (hts _ tw_693) (fun _ h9 => h9) rfl dX9_reads_157 ?_
      refine lv_iadd hx hb dX9_reads_160 ?_
      refine lv_bipush (v := (nI 97)) hx hb dX9_reads_161 (by decide) ?_
      refine lv_aload_n hx hb dX9_reads_163 rfl (lv_at hl 0 rfl) ?_
      refine va_get (D := D) (ci := 7) (v := .int z_letter) (C := RX9) (T := TX9) (N := 14) hx hb hts inX9 hown hK.1 hP 0 rfl rfl 8 (by decide) (hts _ tw_693) (fun _ h9 => h9) rfl dX9_reads_164 ?_
      refine lv_iadd hx hb dX9_reads_167 ?_
      refine kRV (As := [.int ((nI 97) + z_letter), .int ((nI 97) + z_letter)]) (rest := []) (q0 := 0) C (c_X9_isNext l D kI kC kB a z_s z_text z_told z_formula z_states z_isKept z_typed z_at z_isRight z_times z_letter z_items z_length z_entries ((nI 97) + z_letter) ((nI 97) + z_letter) _ hw) ⟨rfl, rfl⟩ ce_X9_isNext cv_X9_isNext tw_783 ⟨Nat.le_of_ble_eq_true rfl, Nat.le_of_ble_eq_true rfl⟩ hP [0, 1, 2, 3, 4] rfl rfl rfl rfl hl.1 rfl (Nat.le_of_ble_eq_true rfl) ⟨Nat.zero_le _, Nat.zero_le _⟩ dX9_reads_168 (fun r2 hw => ?_)
      refine lv_if_eq (tgt := 197) hx hb dX9_reads_171 (by decide) (fun hc => ?_) (fun hc => ?_)
      · replace hw := hw.1 hc
        exact retMv C (z_at, z_isRight, z_times, z_letter) hw hP hD hS dX9_reads_197
      · replace hw := hw.2 hc
        refine lv_aload_n hx hb dX9_reads_174 rfl (lv_at hl 0 rfl) ?_
        refine lv_dup hx hb dX9_reads_175 rfl ?_
        refine va_get (D := D) (ci := 7) (v := .int z_times) (C := RX9) (T := TX9) (N := 14) hx hb hts inX9 hown hK.1 hP 0 rfl rfl 7 (by decide) (hts _ tw_692) (fun _ h9 => h9) rfl dX9_reads_176 ?_
        refine lv_iconst (v := (nI 1)) hx hb dX9_reads_179 (by decide) ?_
        refine lv_iadd hx hb dX9_reads_180 ?_
        refine va_put (D := D) (ci := 7) (v := .int (z_times + (nI 1))) (ty := .int) (C := RX9) (T := TX9) (N := 14) hx hb hts inX9 tyX9 tyX9_ok nmX9 hown hK.1 hP hD hS 0 rfl rfl 7 (by decide) (hts _ tw_692) (fun _ h9 => h9) rfl (tyX9_ok 7 (by decide)) rfl rfl (Nat.le_of_ble_eq_true rfl) dX9_reads_181 (fun H locs hP hD hS => ?_)
        replace hP : va_P D vwCl (cwModel kI kC a z_s z_text z_told z_formula z_states z_isKept z_typed z_at z_isRight (z_times + (nI 1)) z_letter z_items z_length z_entries) H := hP
        replace hD : va_D A (cwModel kI kC a z_s z_text z_told z_formula z_states z_isKept z_typed z_at z_isRight (z_times + (nI 1)) z_letter z_items z_length z_entries) := hD
        refine lv_aload_n hx hb dX9_reads_184 rfl (lv_at hl 0 rfl) ?_
        refine lv_dup hx hb dX9_reads_185 rfl ?_
        refine va_get (D := D) (ci := 7) (v := .int z_at) (C := RX9) (T := TX9) (N := 14) hx hb hts inX9 hown hK.1 hP 0 rfl rfl 5 (by decide) (hts _ tw_690) (fun _ h9 => h9) rfl dX9_reads_186 ?_
        refine lv_iconst (v := (nI 1)) hx hb dX9_reads_189 (by decide) ?_
        refine lv_iadd hx hb dX9_reads_190 ?_
        refine va_put (D := D) (ci := 7) (v := .int (z_at + (nI 1))) (ty := .int) (C := RX9) (T := TX9) (N := 14) hx hb hts inX9 tyX9 tyX9_ok nmX9 hown hK.1 hP hD hS 0 rfl rfl 5 (by decide) (hts _ tw_690) (fun _ h9 => h9) rfl (tyX9_ok 5 (by decide)) rfl rfl (Nat.le_of_ble_eq_true rfl) dX9_reads_191 (fun H locs hP hD hS => ?_)
        replace hP : va_P D vwCl (cwModel kI kC a z_s z_text z_told z_formula z_states z_isKept z_typed (z_at + (nI 1)) z_isRight (z_times + (nI 1)) z_letter z_items z_length z_entries) H := hP
        replace hD : va_D A (cwModel kI kC a z_s z_text z_told z_formula z_states z_isKept z_typed (z_at + (nI 1)) z_isRight (z_times + (nI 1)) z_letter z_items z_length z_entries) := hD
        refine lv_goto (tgt := 145) hx hb dX9_reads_194 (by decide) ?_
        exact ih (z_at + (nI 1)) (z_times + (nI 1)) hw H locs hP hD hS ls (lv_sub hl [0] rfl)
set_option maxHeartbeats 4000000 in
set_option maxRecDepth 100000 in
theorem cj_X9_reads_104 (l : Launch) (D : va_G) (kI kC kB : ClassId) (a : AdT) (z_s : Nat → Int32) (z_text : Nat → Int32) (z_told : Nat → Int32) (z_formula : Nat → Int32) (z_states : Int32) (z_isKept : Int32) (z_typed : Int32) (z_at : Int32) (z_isRight : Int32) (z_times : Int32) (z_letter : Int32) (z_items : Int32) (z_length : Int32) (z_entries : Int32) (Post : Int32 → Int32 → Int32 → Int32 → Prop) {p : Program} {e : Env} {s : State} {m : MethodId} {args : Array Value} {below : List Frame} {meth : Method} {c : Code} {A : Nat → Prop} (hA : ∀ q : Nat, s.heap.size ≤ q → A q) (C : CtxT p s m args meth c cX9_reads 2 none yX9_reads.cls D kI kC kB) : ∀ (t1 : Int32), wj_X9_reads_104 z_s z_text z_typed z_at z_isRight z_times z_letter t1 Post → ∀ (H : Heap) (locs : List Loc), va_P D vwCl (cwModel kI kC a z_s z_text z_told z_formula z_states z_isKept z_typed z_at z_isRight z_times z_letter z_items z_length z_entries) H → va_D A (cwModel kI kC a z_s z_text z_told z_formula z_states z_isKept z_typed z_at z_isRight z_times z_letter z_items z_length z_entries) → va_S A s.heap H locs → ∀ (ls : Array Slot), lv_has ls 2 [(0, .ref (a 0))] → W p l e ({ frames := 2, cells := 0, slots := 0, locals := 44 } : Room) s m args below meth c H locs 0 0 (MQ below (va_Qv (fun (u : Int32 × Int32 × Int32 × Int32) => Post u.1 u.2.1 u.2.2.1 u.2.2.2) (BB D A (fun u : Int32 × Int32 × Int32 × Int32 => (cwModel kI kC a z_s z_text z_told z_formula z_states z_isKept z_typed u.1 u.2.1 u.2.2.1 u.2.2.2 z_items z_length z_entries))) A) args s 0 0 A) (F0 m 104 ls [.int t1, .ref (a 0)]) := by
  obtain ⟨hx, hb, hr, hml, hown, hts, hlocks, hK⟩ := id C
  intro t1 hw H locs hP hD hS ls hl
  have hz := hw.1
  replace hw := hw.2
  refine va_put (D := D) (ci := 7) (v := .int t1) (ty := .boolean) (C := RX9) (T := TX9) (N := 14) hx hb hts inX9 tyX9 tyX9_ok nmX9 hown hK.1 hP hD hS 0 rfl rfl 6 (by decide) (hts _ tw_691) (fun _ h9 => h9) rfl (tyX9_ok 6 (by decide)) (bool_nar hz).1 (bool_nar hz).2 (Nat.le_of_ble_eq_true rfl) dX9_reads_104 (fun H locs hP hD hS => ?_)
  replace hP : va_P D vwCl (cwModel kI kC a z_s z_text z_told z_formula z_states z_isKept z_typed z_at t1 z_times z_letter z_items z_length z_entries) H := hP
  replace hD : va_D A (cwModel kI kC a z_s z_text z_told z_formula z_states z_isKept z_typed z_at t1 z_times z_letter z_items z_length z_entries) := hD
  refine lv_aload_n hx hb dX9_reads_107 rfl (lv_at hl 0 rfl) ?_
  refine va_get (D := D) (ci := 7) (v := .int t1) (C := RX9) (T := TX9) (N := 14) hx hb hts inX9 hown hK.1 hP 0 rfl rfl 6 (by decide) (hts _ tw_691) (fun _ h9 => h9) rfl dX9_reads_108 ?_
  refine lv_if_eq (tgt := 197) hx hb dX9_reads_111 (by decide) (fun hc => ?_) (fun hc => ?_)
  · replace hw := hw.1 hc
    exact retMv C (z_at, t1, z_times, z_letter) hw hP hD hS dX9_reads_197
  · replace hw := hw.2 hc
    refine lv_aload_n hx hb dX9_reads_114 rfl (lv_at hl 0 rfl) ?_
    refine lv_aload_n hx hb dX9_reads_115 rfl (lv_at hl 0 rfl) ?_
    refine va_get (D := D) (ci := 7) (v := .ref (a 2)) (C := RX9) (T := TX9) (N := 14) hx hb hts inX9 hown hK.1 hP 0 rfl rfl 3 (by decide) (hts _ tw_688) (fun _ h9 => h9) rfl dX9_reads_116 ?_
    refine lv_aload_n hx hb dX9_reads_119 rfl (lv_at hl 0 rfl) ?_
    refine va_get (D := D) (ci := 7) (v := .int z_at) (C := RX9) (T := TX9) (N := 14) hx hb hts inX9 hown hK.1 hP 0 rfl rfl 5 (by decide) (hts _ tw_690) (fun _ h9 => h9) rfl dX9_reads_120 ?_
    have hin := hw.1
    replace hw := hw.2
    refine va_cald hx hb hK.1 hP 2 1 rfl rfl hin dX9_reads_123 ?_
    refine lv_bipush (v := (nI 65)) hx hb dX9_reads_124 (by decide) ?_
    refine lv_isub hx hb dX9_reads_126 ?_
    refine va_put (D := D) (ci := 7) (v := .int ((z_text z_at.toNatClampNeg) - (nI 65))) (ty := .int) (C := RX9) (T := TX9) (N := 14) hx hb hts inX9 tyX9 tyX9_ok nmX9 hown hK.1 hP hD hS 0 rfl rfl 8 (by decide) (hts _ tw_693) (fun _ h9 => h9) rfl (tyX9_ok 8 (by decide)) rfl rfl (Nat.le_of_ble_eq_true rfl) dX9_reads_127 (fun H locs hP hD hS => ?_)
    replace hP : va_P D vwCl (cwModel kI kC a z_s z_text z_told z_formula z_states z_isKept z_typed z_at t1 z_times ((z_text z_at.toNatClampNeg) - (nI 65)) z_items z_length z_entries) H := hP
    replace hD : va_D A (cwModel kI kC a z_s z_text z_told z_formula z_states z_isKept z_typed z_at t1 z_times ((z_text z_at.toNatClampNeg) - (nI 65)) z_items z_length z_entries) := hD
    refine lv_aload_n hx hb dX9_reads_130 rfl (lv_at hl 0 rfl) ?_
    refine lv_iconst (v := (nI 1)) hx hb dX9_reads_131 (by decide) ?_
    refine va_put (D := D) (ci := 7) (v := .int (nI 1)) (ty := .int) (C := RX9) (T := TX9) (N := 14) hx hb hts inX9 tyX9 tyX9_ok nmX9 hown hK.1 hP hD hS 0 rfl rfl 7 (by decide) (hts _ tw_692) (fun _ h9 => h9) rfl (tyX9_ok 7 (by decide)) rfl rfl (Nat.le_of_ble_eq_true rfl) dX9_reads_132 (fun H locs hP hD hS => ?_)
    replace hP : va_P D vwCl (cwModel kI kC a z_s z_text z_told z_formula z_states z_isKept z_typed z_at t1 (nI 1) ((z_text z_at.toNatClampNeg) - (nI 65)) z_items z_length z_entries) H := hP
    replace hD : va_D A (cwModel kI kC a z_s z_text z_told z_formula z_states z_isKept z_typed z_at t1 (nI 1) ((z_text z_at.toNatClampNeg) - (nI 65)) z_items z_length z_entries) := hD
    refine lv_aload_n hx hb dX9_reads_135 rfl (lv_at hl 0 rfl) ?_
    refine lv_dup hx hb dX9_reads_136 rfl ?_
    refine va_get (D := D) (ci := 7) (v := .int z_at) (C := RX9) (T := TX9) (N := 14) hx hb hts inX9 hown hK.1 hP 0 rfl rfl 5 (by decide) (hts _ tw_690) (fun _ h9 => h9) rfl dX9_reads_137 ?_
    refine lv_iconst (v := (nI 1)) hx hb dX9_reads_140 (by decide) ?_
    refine lv_iadd hx hb dX9_reads_141 ?_
    refine va_put (D := D) (ci := 7) (v := .int (z_at + (nI 1))) (ty := .int) (C := RX9) (T := TX9) (N := 14) hx hb hts inX9 tyX9 tyX9_ok nmX9 hown hK.1 hP hD hS 0 rfl rfl 5 (by decide) (hts _ tw_690) (fun _ h9 => h9) rfl (tyX9_ok 5 (by decide)) rfl rfl (Nat.le_of_ble_eq_true rfl) dX9_reads_142 (fun H locs hP hD hS => ?_)
    replace hP : va_P D vwCl (cwModel kI kC a z_s z_text z_told z_formula z_states z_isKept z_typed (z_at + (nI 1)) t1 (nI 1) ((z_text z_at.toNatClampNeg) - (nI 65)) z_items z_length z_entries) H := hP
    replace hD : va_D A (cwModel kI kC a z_s z_text z_told z_formula z_states z_isKept z_typed (z_at + (nI 1)) t1 (nI 1) ((z_text z_at.toNatClampNeg) - (nI 65)) z_items z_length z_entries) := hD
    obtain ⟨n9, hw⟩ := hw
    exact cl_X9_reads_145 l D kI kC kB a z_s z_text z_told z_formula z_states z_isKept z_typed t1 ((z_text z_at.toNatClampNeg) - (nI 65)) z_items z_length z_entries Post hA C n9 (z_at + (nI 1)) (nI 1) hw H locs hP hD hS ls (lv_sub hl [0] rfl)
set_option maxHeartbeats 4000000 in
set_option maxRecDepth 100000 in
theorem cj_X9_reads_99 (l : Launch) (D : va_G) (kI kC kB : ClassId) (a : AdT) (z_s : Nat → Int32) (z_text : Nat → Int32) (z_told : Nat → Int32) (z_formula : Nat → Int32) (z_states : Int32) (z_isKept : Int32) (z_typed : Int32) (z_at : Int32) (z_isRight : Int32) (z_times : Int32) (z_letter : Int32) (z_items : Int32) (z_length : Int32) (z_entries : Int32) (Post : Int32 → Int32 → Int32 → Int32 → Prop) {p : Program} {e : Env} {s : State} {m : MethodId} {args : Array Value} {below : List Frame} {meth : Method} {c : Code} {A : Nat → Prop} (hA : ∀ q : Nat, s.heap.size ≤ q → A q) (C : CtxT p s m args meth c cX9_reads 2 none yX9_reads.cls D kI kC kB) : wj_X9_reads_99 z_s z_text z_typed z_at z_isRight z_times z_letter Post → ∀ (H : Heap) (locs : List Loc), va_P D vwCl (cwModel kI kC a z_s z_text z_told z_formula z_states z_isKept z_typed z_at z_isRight z_times z_letter z_items z_length z_entries) H → va_D A (cwModel kI kC a z_s z_text z_told z_formula z_states z_isKept z_typed z_at z_isRight z_times z_letter z_items z_length z_entries) → va_S A s.heap H locs → ∀ (ls : Array Slot), lv_has ls 2 [(0, .ref (a 0))] → W p l e ({ frames := 2, cells := 0, slots := 0, locals := 44 } : Room) s m args below meth c H locs 0 0 (MQ below (va_Qv (fun (u : Int32 × Int32 × Int32 × Int32) => Post u.1 u.2.1 u.2.2.1 u.2.2.2) (BB D A (fun u : Int32 × Int32 × Int32 × Int32 => (cwModel kI kC a z_s z_text z_told z_formula z_states z_isKept z_typed u.1 u.2.1 u.2.2.1 u.2.2.2 z_items z_length z_entries))) A) args s 0 0 A) (F0 m 99 ls [.ref (a 0)]) := by
  obtain ⟨hx, hb, hr, hml, hown, hts, hlocks, hK⟩ := id C
  intro hw H locs hP hD hS ls hl
  refine lv_iconst (v := (nI 1)) hx hb dX9_reads_99 (by decide) ?_
  refine lv_goto (tgt := 104) hx hb dX9_reads_100 (by decide) ?_
  exact cj_X9_reads_104 l D kI kC kB a z_s z_text z_told z_formula z_states z_isKept z_typed z_at z_isRight z_times z_letter z_items z_length z_entries Post hA C (nI 1) hw H locs hP hD hS ls (lv_sub hl [0] rfl)
set_option maxHeartbeats 4000000 in
set_option maxRecDepth 100000 in
theorem cj_X9_reads_103 (l : Launch) (D : va_G) (kI kC kB : ClassId) (a : AdT) (z_s : Nat → Int32) (z_text : Nat → Int32) (z_told : Nat → Int32) (z_formula : Nat → Int32) (z_states : Int32) (z_isKept : Int32) (z_typed : Int32) (z_at : Int32) (z_isRight : Int32) (z_times : Int32) (z_letter : Int32) (z_items : Int32) (z_length : Int32) (z_entries : Int32) (Post : Int32 → Int32 → Int32 → Int32 → Prop) {p : Program} {e : Env} {s : State} {m : MethodId} {args : Array Value} {below : List Frame} {meth : Method} {c : Code} {A : Nat → Prop} (hA : ∀ q : Nat, s.heap.size ≤ q → A q) (C : CtxT p s m args meth c cX9_reads 2 none yX9_reads.cls D kI kC kB) : wj_X9_reads_103 z_s z_text z_typed z_at z_isRight z_times z_letter Post → ∀ (H : Heap) (locs : List Loc), va_P D vwCl (cwModel kI kC a z_s z_text z_told z_formula z_states z_isKept z_typed z_at z_isRight z_times z_letter z_items z_length z_entries) H → va_D A (cwModel kI kC a z_s z_text z_told z_formula z_states z_isKept z_typed z_at z_isRight z_times z_letter z_items z_length z_entries) → va_S A s.heap H locs → ∀ (ls : Array Slot), lv_has ls 2 [(0, .ref (a 0))] → W p l e ({ frames := 2, cells := 0, slots := 0, locals := 44 } : Room) s m args below meth c H locs 0 0 (MQ below (va_Qv (fun (u : Int32 × Int32 × Int32 × Int32) => Post u.1 u.2.1 u.2.2.1 u.2.2.2) (BB D A (fun u : Int32 × Int32 × Int32 × Int32 => (cwModel kI kC a z_s z_text z_told z_formula z_states z_isKept z_typed u.1 u.2.1 u.2.2.1 u.2.2.2 z_items z_length z_entries))) A) args s 0 0 A) (F0 m 103 ls [.ref (a 0)]) := by
  obtain ⟨hx, hb, hr, hml, hown, hts, hlocks, hK⟩ := id C
  intro hw H locs hP hD hS ls hl
  refine lv_iconst (v := (nI 0)) hx hb dX9_reads_103 (by decide) ?_
  exact cj_X9_reads_104 l D kI kC kB a z_s z_text z_told z_formula z_states z_isKept z_typed z_at z_isRight z_times z_letter z_items z_length z_entries Post hA C (nI 0) hw H locs hP hD hS ls (lv_sub hl [0] rfl)
set_option maxHeartbeats 4000000 in
set_option maxRecDepth 100000 in
theorem c_X9_reads (l : Launch) (D : va_G) (kI kC kB : ClassId) (a : AdT) (z_s : Nat → Int32) (z_text : Nat → Int32) (z_told : Nat → Int32) (z_formula : Nat → Int32) (z_states : Int32) (z_isKept : Int32) (z_typed : Int32) (z_at : Int32) (z_isRight : Int32) (z_times : Int32) (z_letter : Int32) (z_items : Int32) (z_length : Int32) (z_entries : Int32) (sz : Nat) (p1 : Int32) (Post : Int32 → Int32 → Int32 → Int32 → Prop) (hw : wp_X9_reads z_s z_text z_typed z_at z_isRight z_times z_letter p1 Post) : CMv l D kI kC kB yX9_reads cX9_reads 2 none ({ frames := 2, cells := 0, slots := 0, locals := 44 } : Room) [.ref (a 0), .int p1] (cwModel kI kC a z_s z_text z_told z_formula z_states z_isKept z_typed z_at z_isRight z_times z_letter z_items z_length z_entries) sz (fun (u : Int32 × Int32 × Int32 × Int32) => Post u.1 u.2.1 u.2.2.1 u.2.2.2) (fun u : Int32 × Int32 × Int32 × Int32 => (cwModel kI kC a z_s z_text z_told z_formula z_states z_isKept z_typed u.1 u.2.1 u.2.2.1 u.2.2.2 z_items z_length z_entries)) := by
  refine entMv (by decide) (Nat.le_of_ble_eq_true rfl) ?_
  intro p e s m args below meth c ls A C hA hP hD hS hl
  obtain ⟨H, hHe⟩ : ∃ H, H = s.heap := ⟨_, rfl⟩
  obtain ⟨locs, hlo⟩ : ∃ lo : List Loc, lo = [] := ⟨_, rfl⟩
  have hS : va_S A s.heap H locs := by rw [hHe, hlo]; exact hS
  rw [← hHe] at hP
  suffices hg : W p l e ({ frames := 2, cells := 0, slots := 0, locals := 44 } : Room) s m args below meth c H locs 0 0 (MQ below (va_Qv (fun (u : Int32 × Int32 × Int32 × Int32) => Post u.1 u.2.1 u.2.2.1 u.2.2.2) (BB D A (fun u : Int32 × Int32 × Int32 × Int32 => (cwModel kI kC a z_s z_text z_told z_formula z_states z_isKept z_typed u.1 u.2.1 u.2.2.1 u.2.2.2 z_items z_length z_entries))) A) args s 0 0 A) (F0 m 0 ls []) by rw [hHe, hlo] at hg; exact hg
  replace hl : lv_has ls 2 [(0, .ref (a 0)), (1, .int p1)] := hl
  obtain ⟨hx, hb, hr, hml, hown, hts, hlocks, hK⟩ := id C
  refine lv_aload_n hx hb dX9_reads_0 rfl (lv_at hl 0 rfl) ?_
  refine lv_iconst (v := (nI 0)) hx hb dX9_reads_1 (by decide) ?_
  refine va_put (D := D) (ci := 7) (v := .int (nI 0)) (ty := .int) (C := RX9) (T := TX9) (N := 14) hx hb hts inX9 tyX9 tyX9_ok nmX9 hown hK.1 hP hD hS 0 rfl rfl 7 (by decide) (hts _ tw_692) (fun _ h9 => h9) rfl (tyX9_ok 7 (by decide)) rfl rfl (Nat.le_of_ble_eq_true rfl) dX9_reads_2 (fun H locs hP hD hS => ?_)
  replace hP : va_P D vwCl (cwModel kI kC a z_s z_text z_told z_formula z_states z_isKept z_typed z_at z_isRight (nI 0) z_letter z_items z_length z_entries) H := hP
  replace hD : va_D A (cwModel kI kC a z_s z_text z_told z_formula z_states z_isKept z_typed z_at z_isRight (nI 0) z_letter z_items z_length z_entries) := hD
  refine lv_aload_n hx hb dX9_reads_5 rfl (lv_at hl 0 rfl) ?_
  refine lv_iconst (v := (-1)) hx hb dX9_reads_6 (by decide) ?_
  refine va_put (D := D) (ci := 7) (v := .int (-1)) (ty := .int) (C := RX9) (T := TX9) (N := 14) hx hb hts inX9 tyX9 tyX9_ok nmX9 hown hK.1 hP hD hS 0 rfl rfl 8 (by decide) (hts _ tw_693) (fun _ h9 => h9) rfl (tyX9_ok 8 (by decide)) rfl rfl (Nat.le_of_ble_eq_true rfl) dX9_reads_7 (fun H locs hP hD hS => ?_)
  replace hP : va_P D vwCl (cwModel kI kC a z_s z_text z_told z_formula z_states z_isKept z_typed z_at z_isRight (nI 0) (-1) z_items z_length z_entries) H := hP
  replace hD : va_D A (cwModel kI kC a z_s z_text z_told z_formula z_states z_isKept z_typed z_at z_isRight (nI 0) (-1) z_items z_length z_entries) := hD
  refine lv_aload_n hx hb dX9_reads_10 rfl (lv_at hl 0 rfl) ?_
  refine lv_bipush (v := (nI 42)) hx hb dX9_reads_11 (by decide) ?_
  refine lv_bipush (v := (nI 42)) hx hb dX9_reads_13 (by decide) ?_
  refine kRV (As := [.int (nI 42), .int (nI 42)]) (rest := []) (q0 := 0) C (c_X9_isNext l D kI kC kB a z_s z_text z_told z_formula z_states z_isKept z_typed z_at z_isRight (nI 0) (-1) z_items z_length z_entries (nI 42) (nI 42) _ hw) ⟨rfl, rfl⟩ ce_X9_isNext cv_X9_isNext tw_783 ⟨Nat.le_of_ble_eq_true rfl, Nat.le_of_ble_eq_true rfl⟩ hP [0, 1, 2, 3, 4] rfl rfl rfl rfl hl.1 rfl (Nat.le_of_ble_eq_true rfl) ⟨Nat.zero_le _, Nat.zero_le _⟩ dX9_reads_15 (fun r3 hw => ?_)
  refine lv_if_eq (tgt := 64) hx hb dX9_reads_18 (by decide) (fun hc => ?_) (fun hc => ?_)
  · replace hw := hw.1 hc
    refine lv_aload_n hx hb dX9_reads_64 rfl (lv_at hl 0 rfl) ?_
    refine lv_aload_n hx hb dX9_reads_65 rfl (lv_at hl 0 rfl) ?_
    refine lv_bipush (v := (nI 65)) hx hb dX9_reads_66 (by decide) ?_
    refine lv_bipush (v := (nI 90)) hx hb dX9_reads_68 (by decide) ?_
    refine kRV (As := [.int (nI 65), .int (nI 90)]) (rest := [.ref (a 0)]) (q0 := 0) C (c_X9_isNext l D kI kC kB a z_s z_text z_told z_formula z_states z_isKept z_typed z_at z_isRight (nI 0) (-1) z_items z_length z_entries (nI 65) (nI 90) _ hw) ⟨rfl, rfl⟩ ce_X9_isNext cv_X9_isNext tw_783 ⟨Nat.le_of_ble_eq_true rfl, Nat.le_of_ble_eq_true rfl⟩ hP [0, 1, 2, 3, 4] rfl rfl rfl rfl hl.1 rfl (Nat.le_of_ble_eq_true rfl) ⟨Nat.zero_le _, Nat.zero_le _⟩ dX9_reads_70 (fun r4 hw => ?_)
    refine lv_if_eq (tgt := 103) hx hb dX9_reads_73 (by decide) (fun hc => ?_) (fun hc => ?_)
    · replace hw := hw.1 hc
      exact cj_X9_reads_103 l D kI kC kB a z_s z_text z_told z_formula z_states z_isKept z_typed z_at z_isRight (nI 0) (-1) z_items z_length z_entries Post hA C hw H locs hP hD hS ls (lv_sub hl [0] rfl)
    · replace hw := hw.2 hc
      refine lv_iload_n hx hb dX9_reads_76 rfl (lv_at hl 1 rfl) ?_
      refine lv_if_eq (tgt := 99) hx hb dX9_reads_77 (by decide) (fun hc => ?_) (fun hc => ?_)
      · replace hw := hw.1 hc
        exact cj_X9_reads_99 l D kI kC kB a z_s z_text z_told z_formula z_states z_isKept z_typed z_at z_isRight (nI 0) (-1) z_items z_length z_entries Post hA C hw H locs hP hD hS ls (lv_sub hl [0] rfl)
      · replace hw := hw.2 hc
        refine lv_aload_n hx hb dX9_reads_80 rfl (lv_at hl 0 rfl) ?_
        refine lv_aload_n hx hb dX9_reads_81 rfl (lv_at hl 0 rfl) ?_
        refine va_get (D := D) (ci := 7) (v := .ref (a 2)) (C := RX9) (T := TX9) (N := 14) hx hb hts inX9 hown hK.1 hP 0 rfl rfl 3 (by decide) (hts _ tw_688) (fun _ h9 => h9) rfl dX9_reads_82 ?_
        refine lv_aload_n hx hb dX9_reads_85 rfl (lv_at hl 0 rfl) ?_
        refine va_get (D := D) (ci := 7) (v := .int z_at) (C := RX9) (T := TX9) (N := 14) hx hb hts inX9 hown hK.1 hP 0 rfl rfl 5 (by decide) (hts _ tw_690) (fun _ h9 => h9) rfl dX9_reads_86 ?_
        have hin := hw.1
        replace hw := hw.2
        refine va_cald hx hb hK.1 hP 2 1 rfl rfl hin dX9_reads_89 ?_
        refine lv_bipush (v := (nI 65)) hx hb dX9_reads_90 (by decide) ?_
        refine lv_isub hx hb dX9_reads_92 ?_
        refine kRV (As := [.int ((z_text z_at.toNatClampNeg) - (nI 65))]) (rest := [.ref (a 0)]) (q0 := 0) C (c_X9_isOut l D kI kC kB a z_s z_text z_told z_formula z_states z_isKept z_typed z_at z_isRight (nI 0) (-1) z_items z_length z_entries ((z_text z_at.toNatClampNeg) - (nI 65)) _ hw) ⟨rfl, rfl⟩ ce_X9_isOut cv_X9_isOut tw_736 ⟨Nat.le_of_ble_eq_true rfl, Nat.le_of_ble_eq_true rfl⟩ hP [0, 1, 2, 3, 4] rfl rfl rfl rfl hl.1 rfl (Nat.le_of_ble_eq_true rfl) ⟨Nat.zero_le _, Nat.zero_le _⟩ dX9_reads_93 (fun r5 hw => ?_)
        refine lv_if_ne (tgt := 103) hx hb dX9_reads_96 (by decide) (fun hc => ?_) (fun hc => ?_)
        · replace hw := hw.2 hc
          exact cj_X9_reads_103 l D kI kC kB a z_s z_text z_told z_formula z_states z_isKept z_typed z_at z_isRight (nI 0) (-1) z_items z_length z_entries Post hA C hw H locs hP hD hS ls (lv_sub hl [0] rfl)
        · replace hw := hw.1 hc
          exact cj_X9_reads_99 l D kI kC kB a z_s z_text z_told z_formula z_states z_isKept z_typed z_at z_isRight (nI 0) (-1) z_items z_length z_entries Post hA C hw H locs hP hD hS ls (lv_sub hl [0] rfl)
  · replace hw := hw.2 hc
    obtain ⟨n9, hw⟩ := hw
    exact cl_X9_reads_21 l D kI kC kB a z_s z_text z_told z_formula z_states z_isKept z_typed z_isRight (-1) z_items z_length z_entries Post hA C n9 z_at (nI 0) hw H locs hP hD hS ls (lv_sub hl [0] rfl)
set_option maxHeartbeats 4000000 in
set_option maxRecDepth 100000 in
theorem cj_X9_number_61 (l : Launch) (D : va_G) (kI kC kB : ClassId) (a : AdT) (z_s : Nat → Int32) (z_text : Nat → Int32) (z_told : Nat → Int32) (z_formula : Nat → Int32) (z_states : Int32) (z_isKept : Int32) (z_typed : Int32) (z_at : Int32) (z_isRight : Int32) (z_times : Int32) (z_letter : Int32) (z_items : Int32) (z_length : Int32) (z_entries : Int32) (v1 : Int32) (Post : Int32 → Int32 → Int32 → Prop) {p : Program} {e : Env} {s : State} {m : MethodId} {args : Array Value} {below : List Frame} {meth : Method} {c : Code} {A : Nat → Prop} (hA : ∀ q : Nat, s.heap.size ≤ q → A q) (C : CtxT p s m args meth c cX9_number 2 (some .int) yX9_number.cls D kI kC kB) : ∀ (t1 : Int32) (t2 : Int32), wj_X9_number_61 z_text z_typed z_at z_isRight v1 t1 t2 Post → ∀ (H : Heap) (locs : List Loc), va_P D vwCl (cwModel kI kC a z_s z_text z_told z_formula z_states z_isKept z_typed z_at z_isRight z_times z_letter z_items z_length z_entries) H → va_D A (cwModel kI kC a z_s z_text z_told z_formula z_states z_isKept z_typed z_at z_isRight z_times z_letter z_items z_length z_entries) → va_S A s.heap H locs → ∀ (ls : Array Slot), lv_has ls 2 [(0, .ref (a 0)), (1, .int v1)] → W p l e ({ frames := 2, cells := 0, slots := 0, locals := 44 } : Room) s m args below meth c H locs 0 0 (MQ below (va_Qi (fun (r : Int32) (u : Int32 × Int32) => Post r u.1 u.2) (BB D A (fun u : Int32 × Int32 => (cwModel kI kC a z_s z_text z_told z_formula z_states z_isKept z_typed u.1 u.2 z_times z_letter z_items z_length z_entries))) A) args s 0 0 A) (F0 m 61 ls [.int t2, .int t1, .ref (a 0)]) := by
  obtain ⟨hx, hb, hr, hml, hown, hts, hlocks, hK⟩ := id C
  intro t1 t2 hw H locs hP hD hS ls hl
  refine kRV (As := [.int t1, .int t2]) (rest := []) (q0 := 0) C (c_X9_isNext l D kI kC kB a z_s z_text z_told z_formula z_states z_isKept z_typed z_at z_isRight z_times z_letter z_items z_length z_entries t1 t2 _ hw) ⟨rfl, rfl⟩ ce_X9_isNext cv_X9_isNext tw_783 ⟨Nat.le_of_ble_eq_true rfl, Nat.le_of_ble_eq_true rfl⟩ hP [0, 1, 2, 3, 4] rfl rfl rfl rfl hl.1 rfl (Nat.le_of_ble_eq_true rfl) ⟨Nat.zero_le _, Nat.zero_le _⟩ dX9_number_61 (fun r1 hw => ?_)
  refine lv_if_eq (tgt := 95) hx hb dX9_number_64 (by decide) (fun hc => ?_) (fun hc => ?_)
  · replace hw := hw.1 hc
    refine lv_iload_n hx hb dX9_number_95 rfl (lv_at hl 1 rfl) ?_
    exact retMi C (z_at, z_isRight) hw hP hD hS dX9_number_96
  · replace hw := hw.2 hc
    refine lv_bipush (v := (nI 10)) hx hb dX9_number_67 (by decide) ?_
    refine lv_iload_n hx hb dX9_number_69 rfl (lv_at hl 1 rfl) ?_
    refine lv_imul hx hb dX9_number_70 ?_
    refine lv_aload_n hx hb dX9_number_71 rfl (lv_at hl 0 rfl) ?_
    refine va_get (D := D) (ci := 7) (v := .ref (a 2)) (C := RX9) (T := TX9) (N := 14) hx hb hts inX9 hown hK.1 hP 0 rfl rfl 3 (by decide) (hts _ tw_688) (fun _ h9 => h9) rfl dX9_number_72 ?_
    refine lv_aload_n hx hb dX9_number_75 rfl (lv_at hl 0 rfl) ?_
    refine va_get (D := D) (ci := 7) (v := .int z_at) (C := RX9) (T := TX9) (N := 14) hx hb hts inX9 hown hK.1 hP 0 rfl rfl 5 (by decide) (hts _ tw_690) (fun _ h9 => h9) rfl dX9_number_76 ?_
    have hin := hw.1
    replace hw := hw.2
    refine va_cald hx hb hK.1 hP 2 1 rfl rfl hin dX9_number_79 ?_
    refine lv_iadd hx hb dX9_number_80 ?_
    refine lv_bipush (v := (nI 48)) hx hb dX9_number_81 (by decide) ?_
    refine lv_isub hx hb dX9_number_83 ?_
    refine lv_topi (fun y2 ey2 => ?_)
    replace hw := hw y2 ey2
    refine lv_istore_n (lv' := [(1, .int y2), (0, .ref (a 0))]) hx hb dX9_number_84 rfl hl (by decide) rfl (fun ls hl => ?_)
    refine lv_aload_n hx hb dX9_number_85 rfl (lv_at hl 1 rfl) ?_
    refine lv_dup hx hb dX9_number_86 rfl ?_
    refine va_get (D := D) (ci := 7) (v := .int z_at) (C := RX9) (T := TX9) (N := 14) hx hb hts inX9 hown hK.1 hP 0 rfl rfl 5 (by decide) (hts _ tw_690) (fun _ h9 => h9) rfl dX9_number_87 ?_
    refine lv_iconst (v := (nI 1)) hx hb dX9_number_90 (by decide) ?_
    refine lv_iadd hx hb dX9_number_91 ?_
    refine va_put (D := D) (ci := 7) (v := .int (z_at + (nI 1))) (ty := .int) (C := RX9) (T := TX9) (N := 14) hx hb hts inX9 tyX9 tyX9_ok nmX9 hown hK.1 hP hD hS 0 rfl rfl 5 (by decide) (hts _ tw_690) (fun _ h9 => h9) rfl (tyX9_ok 5 (by decide)) rfl rfl (Nat.le_of_ble_eq_true rfl) dX9_number_92 (fun H locs hP hD hS => ?_)
    replace hP : va_P D vwCl (cwModel kI kC a z_s z_text z_told z_formula z_states z_isKept z_typed (z_at + (nI 1)) z_isRight z_times z_letter z_items z_length z_entries) H := hP
    replace hD : va_D A (cwModel kI kC a z_s z_text z_told z_formula z_states z_isKept z_typed (z_at + (nI 1)) z_isRight z_times z_letter z_items z_length z_entries) := hD
    refine lv_iload_n hx hb dX9_number_95 rfl (lv_at hl 0 rfl) ?_
    exact retMi C ((z_at + (nI 1)), z_isRight) hw hP hD hS dX9_number_96
set_option maxHeartbeats 4000000 in
set_option maxRecDepth 100000 in
theorem c_X9_number (l : Launch) (D : va_G) (kI kC kB : ClassId) (a : AdT) (z_s : Nat → Int32) (z_text : Nat → Int32) (z_told : Nat → Int32) (z_formula : Nat → Int32) (z_states : Int32) (z_isKept : Int32) (z_typed : Int32) (z_at : Int32) (z_isRight : Int32) (z_times : Int32) (z_letter : Int32) (z_items : Int32) (z_length : Int32) (z_entries : Int32) (sz : Nat) (Post : Int32 → Int32 → Int32 → Prop) (hw : wp_X9_number z_text z_typed z_at z_isRight Post) : CMi l D kI kC kB yX9_number cX9_number 2 (some .int) ({ frames := 2, cells := 0, slots := 0, locals := 44 } : Room) [.ref (a 0)] (cwModel kI kC a z_s z_text z_told z_formula z_states z_isKept z_typed z_at z_isRight z_times z_letter z_items z_length z_entries) sz (fun (r : Int32) (u : Int32 × Int32) => Post r u.1 u.2) (fun u : Int32 × Int32 => (cwModel kI kC a z_s z_text z_told z_formula z_states z_isKept z_typed u.1 u.2 z_times z_letter z_items z_length z_entries)) := by
  refine entMi (by decide) (Nat.le_of_ble_eq_true rfl) ?_
  intro p e s m args below meth c ls A C hA hP hD hS hl
  obtain ⟨H, hHe⟩ : ∃ H, H = s.heap := ⟨_, rfl⟩
  obtain ⟨locs, hlo⟩ : ∃ lo : List Loc, lo = [] := ⟨_, rfl⟩
  have hS : va_S A s.heap H locs := by rw [hHe, hlo]; exact hS
  rw [← hHe] at hP
  suffices hg : W p l e ({ frames := 2, cells := 0, slots := 0, locals := 44 } : Room) s m args below meth c H locs 0 0 (MQ below (va_Qi (fun (r : Int32) (u : Int32 × Int32) => Post r u.1 u.2) (BB D A (fun u : Int32 × Int32 => (cwModel kI kC a z_s z_text z_told z_formula z_states z_isKept z_typed u.1 u.2 z_times z_letter z_items z_length z_entries))) A) args s 0 0 A) (F0 m 0 ls []) by rw [hHe, hlo] at hg; exact hg
  replace hl : lv_has ls 2 [(0, .ref (a 0))] := hl
  obtain ⟨hx, hb, hr, hml, hown, hts, hlocks, hK⟩ := id C
  refine lv_aload_n hx hb dX9_number_0 rfl (lv_at hl 0 rfl) ?_
  refine lv_bipush (v := (nI 49)) hx hb dX9_number_1 (by decide) ?_
  refine lv_bipush (v := (nI 57)) hx hb dX9_number_3 (by decide) ?_
  refine kRV (As := [.int (nI 49), .int (nI 57)]) (rest := []) (q0 := 0) C (c_X9_isNext l D kI kC kB a z_s z_text z_told z_formula z_states z_isKept z_typed z_at z_isRight z_times z_letter z_items z_length z_entries (nI 49) (nI 57) _ hw) ⟨rfl, rfl⟩ ce_X9_isNext cv_X9_isNext tw_783 ⟨Nat.le_of_ble_eq_true rfl, Nat.le_of_ble_eq_true rfl⟩ hP [0, 1, 2, 3, 4] rfl rfl rfl rfl hl.1 rfl (Nat.le_of_ble_eq_true rfl) ⟨Nat.zero_le _, Nat.zero_le _⟩ dX9_number_5 (fun r3 hw => ?_)
  refine lv_if_ne (tgt := 18) hx hb dX9_number_8 (by decide) (fun hc => ?_) (fun hc => ?_)
  · replace hw := hw.2 hc
    refine lv_aload_n hx hb dX9_number_18 rfl (lv_at hl 0 rfl) ?_
    refine va_get (D := D) (ci := 7) (v := .ref (a 2)) (C := RX9) (T := TX9) (N := 14) hx hb hts inX9 hown hK.1 hP 0 rfl rfl 3 (by decide) (hts _ tw_688) (fun _ h9 => h9) rfl dX9_number_19 ?_
    refine lv_aload_n hx hb dX9_number_22 rfl (lv_at hl 0 rfl) ?_
    refine va_get (D := D) (ci := 7) (v := .int z_at) (C := RX9) (T := TX9) (N := 14) hx hb hts inX9 hown hK.1 hP 0 rfl rfl 5 (by decide) (hts _ tw_690) (fun _ h9 => h9) rfl dX9_number_23 ?_
    have hin := hw.1
    replace hw := hw.2
    refine va_cald hx hb hK.1 hP 2 1 rfl rfl hin dX9_number_26 ?_
    refine lv_bipush (v := (nI 48)) hx hb dX9_number_27 (by decide) ?_
    refine lv_isub hx hb dX9_number_29 ?_
    refine lv_topi (fun y4 ey4 => ?_)
    replace hw := hw y4 ey4
    refine lv_istore_n (lv' := [(1, .int y4), (0, .ref (a 0))]) hx hb dX9_number_30 rfl hl (by decide) rfl (fun ls hl => ?_)
    refine lv_aload_n hx hb dX9_number_31 rfl (lv_at hl 1 rfl) ?_
    refine lv_dup hx hb dX9_number_32 rfl ?_
    refine va_get (D := D) (ci := 7) (v := .int z_at) (C := RX9) (T := TX9) (N := 14) hx hb hts inX9 hown hK.1 hP 0 rfl rfl 5 (by decide) (hts _ tw_690) (fun _ h9 => h9) rfl dX9_number_33 ?_
    refine lv_iconst (v := (nI 1)) hx hb dX9_number_36 (by decide) ?_
    refine lv_iadd hx hb dX9_number_37 ?_
    refine va_put (D := D) (ci := 7) (v := .int (z_at + (nI 1))) (ty := .int) (C := RX9) (T := TX9) (N := 14) hx hb hts inX9 tyX9 tyX9_ok nmX9 hown hK.1 hP hD hS 0 rfl rfl 5 (by decide) (hts _ tw_690) (fun _ h9 => h9) rfl (tyX9_ok 5 (by decide)) rfl rfl (Nat.le_of_ble_eq_true rfl) dX9_number_38 (fun H locs hP hD hS => ?_)
    replace hP : va_P D vwCl (cwModel kI kC a z_s z_text z_told z_formula z_states z_isKept z_typed (z_at + (nI 1)) z_isRight z_times z_letter z_items z_length z_entries) H := hP
    replace hD : va_D A (cwModel kI kC a z_s z_text z_told z_formula z_states z_isKept z_typed (z_at + (nI 1)) z_isRight z_times z_letter z_items z_length z_entries) := hD
    refine lv_iload_n hx hb dX9_number_41 rfl (lv_at hl 0 rfl) ?_
    refine lv_iconst (v := (nI 3)) hx hb dX9_number_42 (by decide) ?_
    refine lv_icmp_ge (tgt := 95) hx hb dX9_number_43 (by decide) (fun hc => ?_) (fun hc => ?_)
    · replace hw := hw.1 hc
      refine lv_iload_n hx hb dX9_number_95 rfl (lv_at hl 0 rfl) ?_
      exact retMi C ((z_at + (nI 1)), z_isRight) hw hP hD hS dX9_number_96
    · replace hw := hw.2 hc
      refine lv_aload_n hx hb dX9_number_46 rfl (lv_at hl 1 rfl) ?_
      refine lv_bipush (v := (nI 48)) hx hb dX9_number_47 (by decide) ?_
      refine lv_iload_n hx hb dX9_number_49 rfl (lv_at hl 0 rfl) ?_
      refine lv_iconst (v := (nI 1)) hx hb dX9_number_50 (by decide) ?_
      refine lv_icmp_ne (tgt := 59) hx hb dX9_number_51 (by decide) (fun hc => ?_) (fun hc => ?_)
      · replace hw := hw.2 hc
        refine lv_bipush (v := (nI 52)) hx hb dX9_number_59 (by decide) ?_
        exact cj_X9_number_61 l D kI kC kB a z_s z_text z_told z_formula z_states z_isKept z_typed (z_at + (nI 1)) z_isRight z_times z_letter z_items z_length z_entries y4 Post hA C (nI 48) (nI 52) hw H locs hP hD hS ls (lv_sub hl [1, 0] rfl)
      · replace hw := hw.1 hc
        refine lv_bipush (v := (nI 57)) hx hb dX9_number_54 (by decide) ?_
        refine lv_goto (tgt := 61) hx hb dX9_number_56 (by decide) ?_
        exact cj_X9_number_61 l D kI kC kB a z_s z_text z_told z_formula z_states z_isKept z_typed (z_at + (nI 1)) z_isRight z_times z_letter z_items z_length z_entries y4 Post hA C (nI 48) (nI 57) hw H locs hP hD hS ls (lv_sub hl [1, 0] rfl)
  · replace hw := hw.1 hc
    refine lv_aload_n hx hb dX9_number_11 rfl (lv_at hl 0 rfl) ?_
    refine lv_iconst (v := (nI 0)) hx hb dX9_number_12 (by decide) ?_
    refine va_put (D := D) (ci := 7) (v := .int (nI 0)) (ty := .boolean) (C := RX9) (T := TX9) (N := 14) hx hb hts inX9 tyX9 tyX9_ok nmX9 hown hK.1 hP hD hS 0 rfl rfl 6 (by decide) (hts _ tw_691) (fun _ h9 => h9) rfl (tyX9_ok 6 (by decide)) (bool_nar (by decide)).1 (bool_nar (by decide)).2 (Nat.le_of_ble_eq_true rfl) dX9_number_13 (fun H locs hP hD hS => ?_)
    replace hP : va_P D vwCl (cwModel kI kC a z_s z_text z_told z_formula z_states z_isKept z_typed z_at (nI 0) z_times z_letter z_items z_length z_entries) H := hP
    replace hD : va_D A (cwModel kI kC a z_s z_text z_told z_formula z_states z_isKept z_typed z_at (nI 0) z_times z_letter z_items z_length z_entries) := hD
    refine lv_iconst (v := (nI 0)) hx hb dX9_number_16 (by decide) ?_
    exact retMi C (z_at, (nI 0)) hw hP hD hS dX9_number_17
set_option maxHeartbeats 4000000 in
set_option maxRecDepth 100000 in
theorem cj_X9_item_199 (l : Launch) (D : va_G) (kI kC kB : ClassId) (a : AdT) (z_s : Nat → Int32) (z_text : Nat → Int32) (z_told : Nat → Int32) (z_formula : Nat → Int32) (z_states : Int32) (z_isKept : Int32) (z_typed : Int32) (z_at : Int32) (z_isRight : Int32) (z_times : Int32) (z_letter : Int32) (z_items : Int32) (z_length : Int32) (z_entries : Int32) (Post : (Nat → Int32) → Int32 → Int32 → Int32 → Int32 → Int32 → Prop) {p : Program} {e : Env} {s : State} {m : MethodId} {args : Array Value} {below : List Frame} {meth : Method} {c : Code} {A : Nat → Prop} (hA : ∀ q : Nat, s.heap.size ≤ q → A q) (C : CtxT p s m args meth c cX9_item 3 none yX9_item.cls D kI kC kB) : ∀ (t1 : Int32) (t2 : Int32), wj_X9_item_199 z_s z_text z_told z_typed z_at z_isRight z_times z_letter z_items t1 t2 Post → ∀ (H : Heap) (locs : List Loc), va_P D vwCl (cwModel kI kC a z_s z_text z_told z_formula z_states z_isKept z_typed z_at z_isRight z_times z_letter z_items z_length z_entries) H → va_D A (cwModel kI kC a z_s z_text z_told z_formula z_states z_isKept z_typed z_at z_isRight z_times z_letter z_items z_length z_entries) → va_S A s.heap H locs → ∀ (ls : Array Slot), lv_has ls 3 [(0, .ref (a 0))] → W p l e ({ frames := 3, cells := 0, slots := 0, locals := 65 } : Room) s m args below meth c H locs 0 0 (MQ below (va_Qv (fun (u : (Nat → Int32) × Int32 × Int32 × Int32 × Int32 × Int32) => Post u.1 u.2.1 u.2.2.1 u.2.2.2.1 u.2.2.2.2.1 u.2.2.2.2.2) (BB D A (fun u : (Nat → Int32) × Int32 × Int32 × Int32 × Int32 × Int32 => (cwModel kI kC a z_s z_text u.1 z_formula z_states z_isKept z_typed u.2.1 u.2.2.1 u.2.2.2.1 u.2.2.2.2.1 u.2.2.2.2.2 z_length z_entries))) A) args s 0 0 A) (F0 m 199 ls [.int t2, .int t1, .ref (a 3)]) := by
  obtain ⟨hx, hb, hr, hml, hown, hts, hlocks, hK⟩ := id C
  intro t1 t2 hw H locs hP hD hS ls hl
  have hin := hw.1
  replace hw := hw.2
  refine va_iast hx hb hK.1 hP hD hS 3 0 rfl rfl hin dX9_item_199 (fun H locs hP hD hS => ?_)
  replace hP : va_P D vwCl (cwModel kI kC a z_s z_text (upd z_told t1.toNatClampNeg t2) z_formula z_states z_isKept z_typed z_at z_isRight z_times z_letter z_items z_length z_entries) H := hP
  replace hD : va_D A (cwModel kI kC a z_s z_text (upd z_told t1.toNatClampNeg t2) z_formula z_states z_isKept z_typed z_at z_isRight z_times z_letter z_items z_length z_entries) := hD
  refine lv_aload_n hx hb dX9_item_200 rfl (lv_at hl 0 rfl) ?_
  refine lv_dup hx hb dX9_item_201 rfl ?_
  refine va_get (D := D) (ci := 7) (v := .int z_items) (C := RX9) (T := TX9) (N := 14) hx hb hts inX9 hown hK.1 hP 0 rfl rfl 10 (by decide) (hts _ tw_695) (fun _ h9 => h9) rfl dX9_item_202 ?_
  refine lv_iconst (v := (nI 1)) hx hb dX9_item_205 (by decide) ?_
  refine lv_iadd hx hb dX9_item_206 ?_
  refine va_put (D := D) (ci := 7) (v := .int (z_items + (nI 1))) (ty := .int) (C := RX9) (T := TX9) (N := 14) hx hb hts inX9 tyX9 tyX9_ok nmX9 hown hK.1 hP hD hS 0 rfl rfl 10 (by decide) (hts _ tw_695) (fun _ h9 => h9) rfl (tyX9_ok 10 (by decide)) rfl rfl (Nat.le_of_ble_eq_true rfl) dX9_item_207 (fun H locs hP hD hS => ?_)
  replace hP : va_P D vwCl (cwModel kI kC a z_s z_text (upd z_told t1.toNatClampNeg t2) z_formula z_states z_isKept z_typed z_at z_isRight z_times z_letter (z_items + (nI 1)) z_length z_entries) H := hP
  replace hD : va_D A (cwModel kI kC a z_s z_text (upd z_told t1.toNatClampNeg t2) z_formula z_states z_isKept z_typed z_at z_isRight z_times z_letter (z_items + (nI 1)) z_length z_entries) := hD
  exact retMv C ((upd z_told t1.toNatClampNeg t2), z_at, z_isRight, z_times, z_letter, (z_items + (nI 1))) hw hP hD hS dX9_item_210
set_option maxHeartbeats 4000000 in
set_option maxRecDepth 100000 in
theorem cj_X9_item_177 (l : Launch) (D : va_G) (kI kC kB : ClassId) (a : AdT) (z_s : Nat → Int32) (z_text : Nat → Int32) (z_told : Nat → Int32) (z_formula : Nat → Int32) (z_states : Int32) (z_isKept : Int32) (z_typed : Int32) (z_at : Int32) (z_isRight : Int32) (z_times : Int32) (z_letter : Int32) (z_items : Int32) (z_length : Int32) (z_entries : Int32) (v2 : Int32) (Post : (Nat → Int32) → Int32 → Int32 → Int32 → Int32 → Int32 → Prop) {p : Program} {e : Env} {s : State} {m : MethodId} {args : Array Value} {below : List Frame} {meth : Method} {c : Code} {A : Nat → Prop} (hA : ∀ q : Nat, s.heap.size ≤ q → A q) (C : CtxT p s m args meth c cX9_item 3 none yX9_item.cls D kI kC kB) : wj_X9_item_177 z_s z_text z_told z_typed z_at z_isRight z_times z_letter z_items v2 Post → ∀ (H : Heap) (locs : List Loc), va_P D vwCl (cwModel kI kC a z_s z_text z_told z_formula z_states z_isKept z_typed z_at z_isRight z_times z_letter z_items z_length z_entries) H → va_D A (cwModel kI kC a z_s z_text z_told z_formula z_states z_isKept z_typed z_at z_isRight z_times z_letter z_items z_length z_entries) → va_S A s.heap H locs → ∀ (ls : Array Slot), lv_has ls 3 [(0, .ref (a 0)), (2, .int v2)] → W p l e ({ frames := 3, cells := 0, slots := 0, locals := 65 } : Room) s m args below meth c H locs 0 0 (MQ below (va_Qv (fun (u : (Nat → Int32) × Int32 × Int32 × Int32 × Int32 × Int32) => Post u.1 u.2.1 u.2.2.1 u.2.2.2.1 u.2.2.2.2.1 u.2.2.2.2.2) (BB D A (fun u : (Nat → Int32) × Int32 × Int32 × Int32 × Int32 × Int32 => (cwModel kI kC a z_s z_text u.1 z_formula z_states z_isKept z_typed u.2.1 u.2.2.1 u.2.2.2.1 u.2.2.2.2.1 u.2.2.2.2.2 z_length z_entries))) A) args s 0 0 A) (F0 m 177 ls []) := by
  obtain ⟨hx, hb, hr, hml, hown, hts, hlocks, hK⟩ := id C
  intro hw H locs hP hD hS ls hl
  refine lv_aload_n hx hb dX9_item_177 rfl (lv_at hl 0 rfl) ?_
  refine va_get (D := D) (ci := 7) (v := .ref (a 3)) (C := RX9) (T := TX9) (N := 14) hx hb hts inX9 hown hK.1 hP 0 rfl rfl 9 (by decide) (hts _ tw_694) (fun _ h9 => h9) rfl dX9_item_178 ?_
  refine lv_iload_n hx hb dX9_item_181 rfl (lv_at hl 1 rfl) ?_
  refine lv_iconst (v := (nI 3)) hx hb dX9_item_182 (by decide) ?_
  refine lv_iadd hx hb dX9_item_183 ?_
  refine lv_aload_n hx hb dX9_item_184 rfl (lv_at hl 0 rfl) ?_
  refine va_get (D := D) (ci := 7) (v := .int z_isRight) (C := RX9) (T := TX9) (N := 14) hx hb hts inX9 hown hK.1 hP 0 rfl rfl 6 (by decide) (hts _ tw_691) (fun _ h9 => h9) rfl dX9_item_185 ?_
  refine lv_if_eq (tgt := 198) hx hb dX9_item_188 (by decide) (fun hc => ?_) (fun hc => ?_)
  · replace hw := hw.1 hc
    refine lv_iconst (v := (nI 0)) hx hb dX9_item_198 (by decide) ?_
    exact cj_X9_item_199 l D kI kC kB a z_s z_text z_told z_formula z_states z_isKept z_typed z_at z_isRight z_times z_letter z_items z_length z_entries Post hA C (v2 + (nI 3)) (nI 0) hw H locs hP hD hS ls (lv_sub hl [0] rfl)
  · replace hw := hw.2 hc
    refine lv_aload_n hx hb dX9_item_191 rfl (lv_at hl 0 rfl) ?_
    refine kMVi (q0 := 0) (As := []) (rest := [.int (v2 + (nI 3)), .ref (a 3)]) C (c_X9_number l D kI kC kB a z_s z_text z_told z_formula z_states z_isKept z_typed z_at z_isRight z_times z_letter z_items z_length z_entries H.size _ hw) ⟨rfl, rfl⟩ ce_X9_number cv_X9_number tw_787 ⟨Nat.le_of_ble_eq_true rfl, Nat.le_of_ble_eq_true rfl⟩ hP hD hS hA [0, 1, 2, 3, 4] rfl rfl (fun _ => rfl) rfl rfl rfl hl.1 rfl (Nat.le_of_ble_eq_true rfl) ⟨Nat.zero_le _, Nat.zero_le _⟩ dX9_item_192 (fun r1 u H locs hw hP hD hS => ?_)
    obtain ⟨u2, u3⟩ := u
    try dsimp only at hw
    replace hP : va_P D vwCl (cwModel kI kC a z_s z_text z_told z_formula z_states z_isKept z_typed u2 u3 z_times z_letter z_items z_length z_entries) H := hP
    replace hD : va_D A (cwModel kI kC a z_s z_text z_told z_formula z_states z_isKept z_typed u2 u3 z_times z_letter z_items z_length z_entries) := hD
    refine lv_goto (tgt := 199) hx hb dX9_item_195 (by decide) ?_
    exact cj_X9_item_199 l D kI kC kB a z_s z_text z_told z_formula z_states z_isKept z_typed u2 u3 z_times z_letter z_items z_length z_entries Post hA C (v2 + (nI 3)) r1 hw H locs hP hD hS ls (lv_sub hl [0] rfl)
set_option maxHeartbeats 4000000 in
set_option maxRecDepth 100000 in
theorem cj_X9_item_165 (l : Launch) (D : va_G) (kI kC kB : ClassId) (a : AdT) (z_s : Nat → Int32) (z_text : Nat → Int32) (z_told : Nat → Int32) (z_formula : Nat → Int32) (z_states : Int32) (z_isKept : Int32) (z_typed : Int32) (z_at : Int32) (z_isRight : Int32) (z_times : Int32) (z_letter : Int32) (z_items : Int32) (z_length : Int32) (z_entries : Int32) (v2 : Int32) (Post : (Nat → Int32) → Int32 → Int32 → Int32 → Int32 → Int32 → Prop) {p : Program} {e : Env} {s : State} {m : MethodId} {args : Array Value} {below : List Frame} {meth : Method} {c : Code} {A : Nat → Prop} (hA : ∀ q : Nat, s.heap.size ≤ q → A q) (C : CtxT p s m args meth c cX9_item 3 none yX9_item.cls D kI kC kB) : wj_X9_item_165 z_s z_text z_told z_typed z_at z_isRight z_times z_letter z_items v2 Post → ∀ (H : Heap) (locs : List Loc), va_P D vwCl (cwModel kI kC a z_s z_text z_told z_formula z_states z_isKept z_typed z_at z_isRight z_times z_letter z_items z_length z_entries) H → va_D A (cwModel kI kC a z_s z_text z_told z_formula z_states z_isKept z_typed z_at z_isRight z_times z_letter z_items z_length z_entries) → va_S A s.heap H locs → ∀ (ls : Array Slot), lv_has ls 3 [(0, .ref (a 0)), (2, .int v2)] → W p l e ({ frames := 3, cells := 0, slots := 0, locals := 65 } : Room) s m args below meth c H locs 0 0 (MQ below (va_Qv (fun (u : (Nat → Int32) × Int32 × Int32 × Int32 × Int32 × Int32) => Post u.1 u.2.1 u.2.2.1 u.2.2.2.1 u.2.2.2.2.1 u.2.2.2.2.2) (BB D A (fun u : (Nat → Int32) × Int32 × Int32 × Int32 × Int32 × Int32 => (cwModel kI kC a z_s z_text u.1 z_formula z_states z_isKept z_typed u.2.1 u.2.2.1 u.2.2.2.1 u.2.2.2.2.1 u.2.2.2.2.2 z_length z_entries))) A) args s 0 0 A) (F0 m 165 ls []) := by
  obtain ⟨hx, hb, hr, hml, hown, hts, hlocks, hK⟩ := id C
  intro hw H locs hP hD hS ls hl
  refine lv_aload_n hx hb dX9_item_165 rfl (lv_at hl 0 rfl) ?_
  refine va_get (D := D) (ci := 7) (v := .ref (a 3)) (C := RX9) (T := TX9) (N := 14) hx hb hts inX9 hown hK.1 hP 0 rfl rfl 9 (by decide) (hts _ tw_694) (fun _ h9 => h9) rfl dX9_item_166 ?_
  refine lv_iload_n hx hb dX9_item_169 rfl (lv_at hl 1 rfl) ?_
  refine lv_iconst (v := (nI 2)) hx hb dX9_item_170 (by decide) ?_
  refine lv_iadd hx hb dX9_item_171 ?_
  refine lv_aload_n hx hb dX9_item_172 rfl (lv_at hl 0 rfl) ?_
  refine va_get (D := D) (ci := 7) (v := .int z_letter) (C := RX9) (T := TX9) (N := 14) hx hb hts inX9 hown hK.1 hP 0 rfl rfl 8 (by decide) (hts _ tw_693) (fun _ h9 => h9) rfl dX9_item_173 ?_
  have hin := hw.1
  replace hw := hw.2
  refine va_iast hx hb hK.1 hP hD hS 3 0 rfl rfl hin dX9_item_176 (fun H locs hP hD hS => ?_)
  replace hP : va_P D vwCl (cwModel kI kC a z_s z_text (upd z_told (v2 + (nI 2)).toNatClampNeg z_letter) z_formula z_states z_isKept z_typed z_at z_isRight z_times z_letter z_items z_length z_entries) H := hP
  replace hD : va_D A (cwModel kI kC a z_s z_text (upd z_told (v2 + (nI 2)).toNatClampNeg z_letter) z_formula z_states z_isKept z_typed z_at z_isRight z_times z_letter z_items z_length z_entries) := hD
  exact cj_X9_item_177 l D kI kC kB a z_s z_text (upd z_told (v2 + (nI 2)).toNatClampNeg z_letter) z_formula z_states z_isKept z_typed z_at z_isRight z_times z_letter z_items z_length z_entries v2 Post hA C hw H locs hP hD hS ls (lv_sub hl [0, 1] rfl)
set_option maxHeartbeats 4000000 in
set_option maxRecDepth 100000 in
theorem cj_X9_item_150 (l : Launch) (D : va_G) (kI kC kB : ClassId) (a : AdT) (z_s : Nat → Int32) (z_text : Nat → Int32) (z_told : Nat → Int32) (z_formula : Nat → Int32) (z_states : Int32) (z_isKept : Int32) (z_typed : Int32) (z_at : Int32) (z_isRight : Int32) (z_times : Int32) (z_letter : Int32) (z_items : Int32) (z_length : Int32) (z_entries : Int32) (v2 : Int32) (Post : (Nat → Int32) → Int32 → Int32 → Int32 → Int32 → Int32 → Prop) {p : Program} {e : Env} {s : State} {m : MethodId} {args : Array Value} {below : List Frame} {meth : Method} {c : Code} {A : Nat → Prop} (hA : ∀ q : Nat, s.heap.size ≤ q → A q) (C : CtxT p s m args meth c cX9_item 3 none yX9_item.cls D kI kC kB) : wj_X9_item_150 z_s z_text z_told z_typed z_at z_isRight z_times z_letter z_items v2 Post → ∀ (H : Heap) (locs : List Loc), va_P D vwCl (cwModel kI kC a z_s z_text z_told z_formula z_states z_isKept z_typed z_at z_isRight z_times z_letter z_items z_length z_entries) H → va_D A (cwModel kI kC a z_s z_text z_told z_formula z_states z_isKept z_typed z_at z_isRight z_times z_letter z_items z_length z_entries) → va_S A s.heap H locs → ∀ (ls : Array Slot), lv_has ls 3 [(0, .ref (a 0)), (2, .int v2)] → W p l e ({ frames := 3, cells := 0, slots := 0, locals := 65 } : Room) s m args below meth c H locs 0 0 (MQ below (va_Qv (fun (u : (Nat → Int32) × Int32 × Int32 × Int32 × Int32 × Int32) => Post u.1 u.2.1 u.2.2.1 u.2.2.2.1 u.2.2.2.2.1 u.2.2.2.2.2) (BB D A (fun u : (Nat → Int32) × Int32 × Int32 × Int32 × Int32 × Int32 => (cwModel kI kC a z_s z_text u.1 z_formula z_states z_isKept z_typed u.2.1 u.2.2.1 u.2.2.2.1 u.2.2.2.2.1 u.2.2.2.2.2 z_length z_entries))) A) args s 0 0 A) (F0 m 150 ls []) := by
  obtain ⟨hx, hb, hr, hml, hown, hts, hlocks, hK⟩ := id C
  intro hw H locs hP hD hS ls hl
  refine lv_aload_n hx hb dX9_item_150 rfl (lv_at hl 0 rfl) ?_
  refine lv_dup hx hb dX9_item_151 rfl ?_
  refine va_get (D := D) (ci := 7) (v := .int z_at) (C := RX9) (T := TX9) (N := 14) hx hb hts inX9 hown hK.1 hP 0 rfl rfl 5 (by decide) (hts _ tw_690) (fun _ h9 => h9) rfl dX9_item_152 ?_
  refine lv_iconst (v := (nI 1)) hx hb dX9_item_155 (by decide) ?_
  refine lv_isub hx hb dX9_item_156 ?_
  refine va_put (D := D) (ci := 7) (v := .int (z_at - (nI 1))) (ty := .int) (C := RX9) (T := TX9) (N := 14) hx hb hts inX9 tyX9 tyX9_ok nmX9 hown hK.1 hP hD hS 0 rfl rfl 5 (by decide) (hts _ tw_690) (fun _ h9 => h9) rfl (tyX9_ok 5 (by decide)) rfl rfl (Nat.le_of_ble_eq_true rfl) dX9_item_157 (fun H locs hP hD hS => ?_)
  replace hP : va_P D vwCl (cwModel kI kC a z_s z_text z_told z_formula z_states z_isKept z_typed (z_at - (nI 1)) z_isRight z_times z_letter z_items z_length z_entries) H := hP
  replace hD : va_D A (cwModel kI kC a z_s z_text z_told z_formula z_states z_isKept z_typed (z_at - (nI 1)) z_isRight z_times z_letter z_items z_length z_entries) := hD
  refine lv_aload_n hx hb dX9_item_160 rfl (lv_at hl 0 rfl) ?_
  refine lv_iconst (v := (nI 0)) hx hb dX9_item_161 (by decide) ?_
  refine va_put (D := D) (ci := 7) (v := .int (nI 0)) (ty := .boolean) (C := RX9) (T := TX9) (N := 14) hx hb hts inX9 tyX9 tyX9_ok nmX9 hown hK.1 hP hD hS 0 rfl rfl 6 (by decide) (hts _ tw_691) (fun _ h9 => h9) rfl (tyX9_ok 6 (by decide)) (bool_nar (by decide)).1 (bool_nar (by decide)).2 (Nat.le_of_ble_eq_true rfl) dX9_item_162 (fun H locs hP hD hS => ?_)
  replace hP : va_P D vwCl (cwModel kI kC a z_s z_text z_told z_formula z_states z_isKept z_typed (z_at - (nI 1)) (nI 0) z_times z_letter z_items z_length z_entries) H := hP
  replace hD : va_D A (cwModel kI kC a z_s z_text z_told z_formula z_states z_isKept z_typed (z_at - (nI 1)) (nI 0) z_times z_letter z_items z_length z_entries) := hD
  exact cj_X9_item_165 l D kI kC kB a z_s z_text z_told z_formula z_states z_isKept z_typed (z_at - (nI 1)) (nI 0) z_times z_letter z_items z_length z_entries v2 Post hA C hw H locs hP hD hS ls (lv_sub hl [0, 1] rfl)
set_option maxHeartbeats 4000000 in
set_option maxRecDepth 100000 in
theorem cj_X9_item_115 (l : Launch) (D : va_G) (kI kC kB : ClassId) (a : AdT) (z_s : Nat → Int32) (z_text : Nat → Int32) (z_told : Nat → Int32) (z_formula : Nat → Int32) (z_states : Int32) (z_isKept : Int32) (z_typed : Int32) (z_at : Int32) (z_isRight : Int32) (z_times : Int32) (z_letter : Int32) (z_items : Int32) (z_length : Int32) (z_entries : Int32) (v2 : Int32) (Post : (Nat → Int32) → Int32 → Int32 → Int32 → Int32 → Int32 → Prop) {p : Program} {e : Env} {s : State} {m : MethodId} {args : Array Value} {below : List Frame} {meth : Method} {c : Code} {A : Nat → Prop} (hA : ∀ q : Nat, s.heap.size ≤ q → A q) (C : CtxT p s m args meth c cX9_item 3 none yX9_item.cls D kI kC kB) : wj_X9_item_115 z_s z_text z_told z_typed z_at z_isRight z_times z_letter z_items v2 Post → ∀ (H : Heap) (locs : List Loc), va_P D vwCl (cwModel kI kC a z_s z_text z_told z_formula z_states z_isKept z_typed z_at z_isRight z_times z_letter z_items z_length z_entries) H → va_D A (cwModel kI kC a z_s z_text z_told z_formula z_states z_isKept z_typed z_at z_isRight z_times z_letter z_items z_length z_entries) → va_S A s.heap H locs → ∀ (ls : Array Slot), lv_has ls 3 [(0, .ref (a 0)), (2, .int v2)] → W p l e ({ frames := 3, cells := 0, slots := 0, locals := 65 } : Room) s m args below meth c H locs 0 0 (MQ below (va_Qv (fun (u : (Nat → Int32) × Int32 × Int32 × Int32 × Int32 × Int32) => Post u.1 u.2.1 u.2.2.1 u.2.2.2.1 u.2.2.2.2.1 u.2.2.2.2.2) (BB D A (fun u : (Nat → Int32) × Int32 × Int32 × Int32 × Int32 × Int32 => (cwModel kI kC a z_s z_text u.1 z_formula z_states z_isKept z_typed u.2.1 u.2.2.1 u.2.2.2.1 u.2.2.2.2.1 u.2.2.2.2.2 z_length z_entries))) A) args s 0 0 A) (F0 m 115 ls []) := by
  obtain ⟨hx, hb, hr, hml, hown, hts, hlocks, hK⟩ := id C
  intro hw H locs hP hD hS ls hl
  refine lv_aload_n hx hb dX9_item_115 rfl (lv_at hl 0 rfl) ?_
  refine va_get (D := D) (ci := 7) (v := .int z_isRight) (C := RX9) (T := TX9) (N := 14) hx hb hts inX9 hown hK.1 hP 0 rfl rfl 6 (by decide) (hts _ tw_691) (fun _ h9 => h9) rfl dX9_item_116 ?_
  refine lv_if_eq (tgt := 165) hx hb dX9_item_119 (by decide) (fun hc => ?_) (fun hc => ?_)
  · replace hw := hw.1 hc
    exact cj_X9_item_165 l D kI kC kB a z_s z_text z_told z_formula z_states z_isKept z_typed z_at z_isRight z_times z_letter z_items z_length z_entries v2 Post hA C hw H locs hP hD hS ls (lv_sub hl [0, 1] rfl)
  · replace hw := hw.2 hc
    refine lv_aload_n hx hb dX9_item_122 rfl (lv_at hl 0 rfl) ?_
    refine va_get (D := D) (ci := 7) (v := .int z_times) (C := RX9) (T := TX9) (N := 14) hx hb hts inX9 hown hK.1 hP 0 rfl rfl 7 (by decide) (hts _ tw_692) (fun _ h9 => h9) rfl dX9_item_123 ?_
    refine lv_aload_n hx hb dX9_item_126 rfl (lv_at hl 0 rfl) ?_
    refine va_get (D := D) (ci := 7) (v := .ref (a 3)) (C := RX9) (T := TX9) (N := 14) hx hb hts inX9 hown hK.1 hP 0 rfl rfl 9 (by decide) (hts _ tw_694) (fun _ h9 => h9) rfl dX9_item_127 ?_
    refine lv_iload_n hx hb dX9_item_130 rfl (lv_at hl 1 rfl) ?_
    have hin := hw.1
    replace hw := hw.2
    refine va_iald hx hb hK.1 hP 3 0 rfl rfl hin dX9_item_131 ?_
    refine lv_icmp_ne (tgt := 150) hx hb dX9_item_132 (by decide) (fun hc => ?_) (fun hc => ?_)
    · replace hw := hw.2 hc
      exact cj_X9_item_150 l D kI kC kB a z_s z_text z_told z_formula z_states z_isKept z_typed z_at z_isRight z_times z_letter z_items z_length z_entries v2 Post hA C hw H locs hP hD hS ls (lv_sub hl [0, 1] rfl)
    · replace hw := hw.1 hc
      refine lv_aload_n hx hb dX9_item_135 rfl (lv_at hl 0 rfl) ?_
      refine va_get (D := D) (ci := 7) (v := .int z_letter) (C := RX9) (T := TX9) (N := 14) hx hb hts inX9 hown hK.1 hP 0 rfl rfl 8 (by decide) (hts _ tw_693) (fun _ h9 => h9) rfl dX9_item_136 ?_
      refine lv_aload_n hx hb dX9_item_139 rfl (lv_at hl 0 rfl) ?_
      refine va_get (D := D) (ci := 7) (v := .ref (a 3)) (C := RX9) (T := TX9) (N := 14) hx hb hts inX9 hown hK.1 hP 0 rfl rfl 9 (by decide) (hts _ tw_694) (fun _ h9 => h9) rfl dX9_item_140 ?_
      refine lv_iload_n hx hb dX9_item_143 rfl (lv_at hl 1 rfl) ?_
      refine lv_iconst (v := (nI 1)) hx hb dX9_item_144 (by decide) ?_
      refine lv_iadd hx hb dX9_item_145 ?_
      have hin := hw.1
      replace hw := hw.2
      refine va_iald hx hb hK.1 hP 3 0 rfl rfl hin dX9_item_146 ?_
      refine lv_icmp_ge (tgt := 165) hx hb dX9_item_147 (by decide) (fun hc => ?_) (fun hc => ?_)
      · replace hw := hw.1 hc
        exact cj_X9_item_165 l D kI kC kB a z_s z_text z_told z_formula z_states z_isKept z_typed z_at z_isRight z_times z_letter z_items z_length z_entries v2 Post hA C hw H locs hP hD hS ls (lv_sub hl [0, 1] rfl)
      · replace hw := hw.2 hc
        exact cj_X9_item_150 l D kI kC kB a z_s z_text z_told z_formula z_states z_isKept z_typed z_at z_isRight z_times z_letter z_items z_length z_entries v2 Post hA C hw H locs hP hD hS ls (lv_sub hl [0, 1] rfl)
set_option maxHeartbeats 4000000 in
set_option maxRecDepth 100000 in
theorem c_X9_item (l : Launch) (D : va_G) (kI kC kB : ClassId) (a : AdT) (z_s : Nat → Int32) (z_text : Nat → Int32) (z_told : Nat → Int32) (z_formula : Nat → Int32) (z_states : Int32) (z_isKept : Int32) (z_typed : Int32) (z_at : Int32) (z_isRight : Int32) (z_times : Int32) (z_letter : Int32) (z_items : Int32) (z_length : Int32) (z_entries : Int32) (sz : Nat) (p1 : Int32) (Post : (Nat → Int32) → Int32 → Int32 → Int32 → Int32 → Int32 → Prop) (hw : wp_X9_item z_s z_text z_told z_typed z_at z_isRight z_times z_letter z_items p1 Post) : CMv l D kI kC kB yX9_item cX9_item 3 none ({ frames := 3, cells := 0, slots := 0, locals := 65 } : Room) [.ref (a 0), .int p1] (cwModel kI kC a z_s z_text z_told z_formula z_states z_isKept z_typed z_at z_isRight z_times z_letter z_items z_length z_entries) sz (fun (u : (Nat → Int32) × Int32 × Int32 × Int32 × Int32 × Int32) => Post u.1 u.2.1 u.2.2.1 u.2.2.2.1 u.2.2.2.2.1 u.2.2.2.2.2) (fun u : (Nat → Int32) × Int32 × Int32 × Int32 × Int32 × Int32 => (cwModel kI kC a z_s z_text u.1 z_formula z_states z_isKept z_typed u.2.1 u.2.2.1 u.2.2.2.1 u.2.2.2.2.1 u.2.2.2.2.2 z_length z_entries)) := by
  refine entMv (by decide) (Nat.le_of_ble_eq_true rfl) ?_
  intro p e s m args below meth c ls A C hA hP hD hS hl
  obtain ⟨H, hHe⟩ : ∃ H, H = s.heap := ⟨_, rfl⟩
  obtain ⟨locs, hlo⟩ : ∃ lo : List Loc, lo = [] := ⟨_, rfl⟩
  have hS : va_S A s.heap H locs := by rw [hHe, hlo]; exact hS
  rw [← hHe] at hP
  suffices hg : W p l e ({ frames := 3, cells := 0, slots := 0, locals := 65 } : Room) s m args below meth c H locs 0 0 (MQ below (va_Qv (fun (u : (Nat → Int32) × Int32 × Int32 × Int32 × Int32 × Int32) => Post u.1 u.2.1 u.2.2.1 u.2.2.2.1 u.2.2.2.2.1 u.2.2.2.2.2) (BB D A (fun u : (Nat → Int32) × Int32 × Int32 × Int32 × Int32 × Int32 => (cwModel kI kC a z_s z_text u.1 z_formula z_states z_isKept z_typed u.2.1 u.2.2.1 u.2.2.2.1 u.2.2.2.2.1 u.2.2.2.2.2 z_length z_entries))) A) args s 0 0 A) (F0 m 0 ls []) by rw [hHe, hlo] at hg; exact hg
  replace hl : lv_has ls 3 [(0, .ref (a 0)), (1, .int p1)] := hl
  obtain ⟨hx, hb, hr, hml, hown, hts, hlocks, hK⟩ := id C
  refine lv_aload_n hx hb dX9_item_0 rfl (lv_at hl 0 rfl) ?_
  refine lv_iload_n hx hb dX9_item_1 rfl (lv_at hl 1 rfl) ?_
  refine kMVv (q0 := 0) (As := [.int p1]) (rest := []) C (c_X9_reads l D kI kC kB a z_s z_text z_told z_formula z_states z_isKept z_typed z_at z_isRight z_times z_letter z_items z_length z_entries H.size p1 _ hw) ⟨rfl, rfl⟩ ce_X9_reads cv_X9_reads tw_779 ⟨Nat.le_of_ble_eq_true rfl, Nat.le_of_ble_eq_true rfl⟩ hP hD hS hA [0, 1, 2, 3, 4] rfl rfl (fun _ => rfl) rfl rfl rfl hl.1 rfl (Nat.le_of_ble_eq_true rfl) ⟨Nat.zero_le _, Nat.zero_le _⟩ dX9_item_2 (fun u H locs hw hP hD hS => ?_)
  obtain ⟨u4, u5, u6, u7⟩ := u
  try dsimp only at hw
  replace hP : va_P D vwCl (cwModel kI kC a z_s z_text z_told z_formula z_states z_isKept z_typed u4 u5 u6 u7 z_items z_length z_entries) H := hP
  replace hD : va_D A (cwModel kI kC a z_s z_text z_told z_formula z_states z_isKept z_typed u4 u5 u6 u7 z_items z_length z_entries) := hD
  refine lv_iconst (v := (nI 4)) hx hb dX9_item_5 (by decide) ?_
  refine lv_aload_n hx hb dX9_item_6 rfl (lv_at hl 0 rfl) ?_
  refine va_get (D := D) (ci := 7) (v := .int z_items) (C := RX9) (T := TX9) (N := 14) hx hb hts inX9 hown hK.1 hP 0 rfl rfl 10 (by decide) (hts _ tw_695) (fun _ h9 => h9) rfl dX9_item_7 ?_
  refine lv_imul hx hb dX9_item_10 ?_
  refine lv_topi (fun y8 ey8 => ?_)
  replace hw := hw y8 ey8
  refine lv_istore_n (lv' := [(2, .int y8), (0, .ref (a 0)), (1, .int p1)]) hx hb dX9_item_11 rfl hl (by decide) rfl (fun ls hl => ?_)
  refine lv_aload_n hx hb dX9_item_12 rfl (lv_at hl 1 rfl) ?_
  refine va_get (D := D) (ci := 7) (v := .ref (a 3)) (C := RX9) (T := TX9) (N := 14) hx hb hts inX9 hown hK.1 hP 0 rfl rfl 9 (by decide) (hts _ tw_694) (fun _ h9 => h9) rfl dX9_item_13 ?_
  refine lv_iload_n hx hb dX9_item_16 rfl (lv_at hl 0 rfl) ?_
  refine lv_aload_n hx hb dX9_item_17 rfl (lv_at hl 1 rfl) ?_
  refine va_get (D := D) (ci := 7) (v := .int u6) (C := RX9) (T := TX9) (N := 14) hx hb hts inX9 hown hK.1 hP 0 rfl rfl 7 (by decide) (hts _ tw_692) (fun _ h9 => h9) rfl dX9_item_18 ?_
  have hin := hw.1
  replace hw := hw.2
  refine va_iast hx hb hK.1 hP hD hS 3 0 rfl rfl hin dX9_item_21 (fun H locs hP hD hS => ?_)
  replace hP : va_P D vwCl (cwModel kI kC a z_s z_text (upd z_told y8.toNatClampNeg u6) z_formula z_states z_isKept z_typed u4 u5 u6 u7 z_items z_length z_entries) H := hP
  replace hD : va_D A (cwModel kI kC a z_s z_text (upd z_told y8.toNatClampNeg u6) z_formula z_states z_isKept z_typed u4 u5 u6 u7 z_items z_length z_entries) := hD
  refine lv_aload_n hx hb dX9_item_22 rfl (lv_at hl 1 rfl) ?_
  refine va_get (D := D) (ci := 7) (v := .ref (a 3)) (C := RX9) (T := TX9) (N := 14) hx hb hts inX9 hown hK.1 hP 0 rfl rfl 9 (by decide) (hts _ tw_694) (fun _ h9 => h9) rfl dX9_item_23 ?_
  refine lv_iload_n hx hb dX9_item_26 rfl (lv_at hl 0 rfl) ?_
  refine lv_iconst (v := (nI 1)) hx hb dX9_item_27 (by decide) ?_
  refine lv_iadd hx hb dX9_item_28 ?_
  refine lv_aload_n hx hb dX9_item_29 rfl (lv_at hl 1 rfl) ?_
  refine va_get (D := D) (ci := 7) (v := .int u7) (C := RX9) (T := TX9) (N := 14) hx hb hts inX9 hown hK.1 hP 0 rfl rfl 8 (by decide) (hts _ tw_693) (fun _ h9 => h9) rfl dX9_item_30 ?_
  have hin := hw.1
  replace hw := hw.2
  refine va_iast hx hb hK.1 hP hD hS 3 0 rfl rfl hin dX9_item_33 (fun H locs hP hD hS => ?_)
  replace hP : va_P D vwCl (cwModel kI kC a z_s z_text (upd (upd z_told y8.toNatClampNeg u6) (y8 + (nI 1)).toNatClampNeg u7) z_formula z_states z_isKept z_typed u4 u5 u6 u7 z_items z_length z_entries) H := hP
  replace hD : va_D A (cwModel kI kC a z_s z_text (upd (upd z_told y8.toNatClampNeg u6) (y8 + (nI 1)).toNatClampNeg u7) z_formula z_states z_isKept z_typed u4 u5 u6 u7 z_items z_length z_entries) := hD
  refine lv_aload_n hx hb dX9_item_34 rfl (lv_at hl 1 rfl) ?_
  refine va_get (D := D) (ci := 7) (v := .ref (a 3)) (C := RX9) (T := TX9) (N := 14) hx hb hts inX9 hown hK.1 hP 0 rfl rfl 9 (by decide) (hts _ tw_694) (fun _ h9 => h9) rfl dX9_item_35 ?_
  refine lv_iload_n hx hb dX9_item_38 rfl (lv_at hl 0 rfl) ?_
  refine lv_iconst (v := (nI 2)) hx hb dX9_item_39 (by decide) ?_
  refine lv_iadd hx hb dX9_item_40 ?_
  refine lv_aload_n hx hb dX9_item_41 rfl (lv_at hl 1 rfl) ?_
  refine va_get (D := D) (ci := 7) (v := .int u7) (C := RX9) (T := TX9) (N := 14) hx hb hts inX9 hown hK.1 hP 0 rfl rfl 8 (by decide) (hts _ tw_693) (fun _ h9 => h9) rfl dX9_item_42 ?_
  have hin := hw.1
  replace hw := hw.2
  refine va_iast hx hb hK.1 hP hD hS 3 0 rfl rfl hin dX9_item_45 (fun H locs hP hD hS => ?_)
  replace hP : va_P D vwCl (cwModel kI kC a z_s z_text (upd (upd (upd z_told y8.toNatClampNeg u6) (y8 + (nI 1)).toNatClampNeg u7) (y8 + (nI 2)).toNatClampNeg u7) z_formula z_states z_isKept z_typed u4 u5 u6 u7 z_items z_length z_entries) H := hP
  replace hD : va_D A (cwModel kI kC a z_s z_text (upd (upd (upd z_told y8.toNatClampNeg u6) (y8 + (nI 1)).toNatClampNeg u7) (y8 + (nI 2)).toNatClampNeg u7) z_formula z_states z_isKept z_typed u4 u5 u6 u7 z_items z_length z_entries) := hD
  refine lv_iload_n hx hb dX9_item_46 rfl (lv_at hl 2 rfl) ?_
  refine lv_if_eq (tgt := 177) hx hb dX9_item_47 (by decide) (fun hc => ?_) (fun hc => ?_)
  · replace hw := hw.1 hc
    exact cj_X9_item_177 l D kI kC kB a z_s z_text (upd (upd (upd z_told y8.toNatClampNeg u6) (y8 + (nI 1)).toNatClampNeg u7) (y8 + (nI 2)).toNatClampNeg u7) z_formula z_states z_isKept z_typed u4 u5 u6 u7 z_items z_length z_entries y8 Post hA C hw H locs hP hD hS ls (lv_sub hl [1, 0] rfl)
  · replace hw := hw.2 hc
    refine lv_aload_n hx hb dX9_item_50 rfl (lv_at hl 1 rfl) ?_
    refine va_get (D := D) (ci := 7) (v := .int u7) (C := RX9) (T := TX9) (N := 14) hx hb hts inX9 hown hK.1 hP 0 rfl rfl 8 (by decide) (hts _ tw_693) (fun _ h9 => h9) rfl dX9_item_51 ?_
    refine lv_if_lt (tgt := 177) hx hb dX9_item_54 (by decide) (fun hc => ?_) (fun hc => ?_)
    · replace hw := hw.1 hc
      exact cj_X9_item_177 l D kI kC kB a z_s z_text (upd (upd (upd z_told y8.toNatClampNeg u6) (y8 + (nI 1)).toNatClampNeg u7) (y8 + (nI 2)).toNatClampNeg u7) z_formula z_states z_isKept z_typed u4 u5 u6 u7 z_items z_length z_entries y8 Post hA C hw H locs hP hD hS ls (lv_sub hl [1, 0] rfl)
    · replace hw := hw.2 hc
      refine lv_aload_n hx hb dX9_item_57 rfl (lv_at hl 1 rfl) ?_
      refine lv_bipush (v := (nI 45)) hx hb dX9_item_58 (by decide) ?_
      refine lv_bipush (v := (nI 45)) hx hb dX9_item_60 (by decide) ?_
      refine kRV (As := [.int (nI 45), .int (nI 45)]) (rest := []) (q0 := 0) C (c_X9_isNext l D kI kC kB a z_s z_text (upd (upd (upd z_told y8.toNatClampNeg u6) (y8 + (nI 1)).toNatClampNeg u7) (y8 + (nI 2)).toNatClampNeg u7) z_formula z_states z_isKept z_typed u4 u5 u6 u7 z_items z_length z_entries (nI 45) (nI 45) _ hw) ⟨rfl, rfl⟩ ce_X9_isNext cv_X9_isNext tw_783 ⟨Nat.le_of_ble_eq_true rfl, Nat.le_of_ble_eq_true rfl⟩ hP [0, 1, 2, 3, 4] rfl rfl rfl rfl hl.1 rfl (Nat.le_of_ble_eq_true rfl) ⟨Nat.zero_le _, Nat.zero_le _⟩ dX9_item_62 (fun r9 hw => ?_)
      refine lv_if_eq (tgt := 177) hx hb dX9_item_65 (by decide) (fun hc => ?_) (fun hc => ?_)
      · replace hw := hw.1 hc
        exact cj_X9_item_177 l D kI kC kB a z_s z_text (upd (upd (upd z_told y8.toNatClampNeg u6) (y8 + (nI 1)).toNatClampNeg u7) (y8 + (nI 2)).toNatClampNeg u7) z_formula z_states z_isKept z_typed u4 u5 u6 u7 z_items z_length z_entries y8 Post hA C hw H locs hP hD hS ls (lv_sub hl [1, 0] rfl)
      · replace hw := hw.2 hc
        refine lv_aload_n hx hb dX9_item_68 rfl (lv_at hl 1 rfl) ?_
        refine lv_dup hx hb dX9_item_69 rfl ?_
        refine va_get (D := D) (ci := 7) (v := .int u4) (C := RX9) (T := TX9) (N := 14) hx hb hts inX9 hown hK.1 hP 0 rfl rfl 5 (by decide) (hts _ tw_690) (fun _ h9 => h9) rfl dX9_item_70 ?_
        refine lv_iconst (v := (nI 1)) hx hb dX9_item_73 (by decide) ?_
        refine lv_iadd hx hb dX9_item_74 ?_
        refine va_put (D := D) (ci := 7) (v := .int (u4 + (nI 1))) (ty := .int) (C := RX9) (T := TX9) (N := 14) hx hb hts inX9 tyX9 tyX9_ok nmX9 hown hK.1 hP hD hS 0 rfl rfl 5 (by decide) (hts _ tw_690) (fun _ h9 => h9) rfl (tyX9_ok 5 (by decide)) rfl rfl (Nat.le_of_ble_eq_true rfl) dX9_item_75 (fun H locs hP hD hS => ?_)
        replace hP : va_P D vwCl (cwModel kI kC a z_s z_text (upd (upd (upd z_told y8.toNatClampNeg u6) (y8 + (nI 1)).toNatClampNeg u7) (y8 + (nI 2)).toNatClampNeg u7) z_formula z_states z_isKept z_typed (u4 + (nI 1)) u5 u6 u7 z_items z_length z_entries) H := hP
        replace hD : va_D A (cwModel kI kC a z_s z_text (upd (upd (upd z_told y8.toNatClampNeg u6) (y8 + (nI 1)).toNatClampNeg u7) (y8 + (nI 2)).toNatClampNeg u7) z_formula z_states z_isKept z_typed (u4 + (nI 1)) u5 u6 u7 z_items z_length z_entries) := hD
        refine lv_aload_n hx hb dX9_item_78 rfl (lv_at hl 1 rfl) ?_
        refine lv_iconst (v := (nI 1)) hx hb dX9_item_79 (by decide) ?_
        refine kMVv (q0 := 0) (As := [.int (nI 1)]) (rest := []) C (c_X9_reads l D kI kC kB a z_s z_text (upd (upd (upd z_told y8.toNatClampNeg u6) (y8 + (nI 1)).toNatClampNeg u7) (y8 + (nI 2)).toNatClampNeg u7) z_formula z_states z_isKept z_typed (u4 + (nI 1)) u5 u6 u7 z_items z_length z_entries H.size (nI 1) _ hw) ⟨rfl, rfl⟩ ce_X9_reads cv_X9_reads tw_779 ⟨Nat.le_of_ble_eq_true rfl, Nat.le_of_ble_eq_true rfl⟩ hP hD hS hA [0, 1, 2, 3, 4] rfl rfl (fun _ => rfl) rfl rfl rfl hl.1 rfl (Nat.le_of_ble_eq_true rfl) ⟨Nat.zero_le _, Nat.zero_le _⟩ dX9_item_80 (fun u H locs hw hP hD hS => ?_)
        obtain ⟨u10, u11, u12, u13⟩ := u
        try dsimp only at hw
        replace hP : va_P D vwCl (cwModel kI kC a z_s z_text (upd (upd (upd z_told y8.toNatClampNeg u6) (y8 + (nI 1)).toNatClampNeg u7) (y8 + (nI 2)).toNatClampNeg u7) z_formula z_states z_isKept z_typed u10 u11 u12 u13 z_items z_length z_entries) H := hP
        replace hD : va_D A (cwModel kI kC a z_s z_text (upd (upd (upd z_told y8.toNatClampNeg u6) (y8 + (nI 1)).toNatClampNeg u7) (y8 + (nI 2)).toNatClampNeg u7) z_formula z_states z_isKept z_typed u10 u11 u12 u13 z_items z_length z_entries) := hD
        refine lv_aload_n hx hb dX9_item_83 rfl (lv_at hl 1 rfl) ?_
        refine va_get (D := D) (ci := 7) (v := .int u11) (C := RX9) (T := TX9) (N := 14) hx hb hts inX9 hown hK.1 hP 0 rfl rfl 6 (by decide) (hts _ tw_691) (fun _ h9 => h9) rfl dX9_item_84 ?_
        refine lv_if_eq (tgt := 115) hx hb dX9_item_87 (by decide) (fun hc => ?_) (fun hc => ?_)
        · replace hw := hw.1 hc
          exact cj_X9_item_115 l D kI kC kB a z_s z_text (upd (upd (upd z_told y8.toNatClampNeg u6) (y8 + (nI 1)).toNatClampNeg u7) (y8 + (nI 2)).toNatClampNeg u7) z_formula z_states z_isKept z_typed u10 u11 u12 u13 z_items z_length z_entries y8 Post hA C hw H locs hP hD hS ls (lv_sub hl [1, 0] rfl)
        · replace hw := hw.2 hc
          refine lv_aload_n hx hb dX9_item_90 rfl (lv_at hl 1 rfl) ?_
          refine va_get (D := D) (ci := 7) (v := .int u13) (C := RX9) (T := TX9) (N := 14) hx hb hts inX9 hown hK.1 hP 0 rfl rfl 8 (by decide) (hts _ tw_693) (fun _ h9 => h9) rfl dX9_item_91 ?_
          refine lv_if_ge (tgt := 115) hx hb dX9_item_94 (by decide) (fun hc => ?_) (fun hc => ?_)
          · replace hw := hw.1 hc
            exact cj_X9_item_115 l D kI kC kB a z_s z_text (upd (upd (upd z_told y8.toNatClampNeg u6) (y8 + (nI 1)).toNatClampNeg u7) (y8 + (nI 2)).toNatClampNeg u7) z_formula z_states z_isKept z_typed u10 u11 u12 u13 z_items z_length z_entries y8 Post hA C hw H locs hP hD hS ls (lv_sub hl [1, 0] rfl)
          · replace hw := hw.2 hc
            refine lv_aload_n hx hb dX9_item_97 rfl (lv_at hl 1 rfl) ?_
            refine lv_dup hx hb dX9_item_98 rfl ?_
            refine va_get (D := D) (ci := 7) (v := .int u10) (C := RX9) (T := TX9) (N := 14) hx hb hts inX9 hown hK.1 hP 0 rfl rfl 5 (by decide) (hts _ tw_690) (fun _ h9 => h9) rfl dX9_item_99 ?_
            refine lv_aload_n hx hb dX9_item_102 rfl (lv_at hl 1 rfl) ?_
            refine va_get (D := D) (ci := 7) (v := .int u12) (C := RX9) (T := TX9) (N := 14) hx hb hts inX9 hown hK.1 hP 0 rfl rfl 7 (by decide) (hts _ tw_692) (fun _ h9 => h9) rfl dX9_item_103 ?_
            refine lv_isub hx hb dX9_item_106 ?_
            refine va_put (D := D) (ci := 7) (v := .int (u10 - u12)) (ty := .int) (C := RX9) (T := TX9) (N := 14) hx hb hts inX9 tyX9 tyX9_ok nmX9 hown hK.1 hP hD hS 0 rfl rfl 5 (by decide) (hts _ tw_690) (fun _ h9 => h9) rfl (tyX9_ok 5 (by decide)) rfl rfl (Nat.le_of_ble_eq_true rfl) dX9_item_107 (fun H locs hP hD hS => ?_)
            replace hP : va_P D vwCl (cwModel kI kC a z_s z_text (upd (upd (upd z_told y8.toNatClampNeg u6) (y8 + (nI 1)).toNatClampNeg u7) (y8 + (nI 2)).toNatClampNeg u7) z_formula z_states z_isKept z_typed (u10 - u12) u11 u12 u13 z_items z_length z_entries) H := hP
            replace hD : va_D A (cwModel kI kC a z_s z_text (upd (upd (upd z_told y8.toNatClampNeg u6) (y8 + (nI 1)).toNatClampNeg u7) (y8 + (nI 2)).toNatClampNeg u7) z_formula z_states z_isKept z_typed (u10 - u12) u11 u12 u13 z_items z_length z_entries) := hD
            refine lv_aload_n hx hb dX9_item_110 rfl (lv_at hl 1 rfl) ?_
            refine lv_iconst (v := (nI 0)) hx hb dX9_item_111 (by decide) ?_
            refine va_put (D := D) (ci := 7) (v := .int (nI 0)) (ty := .boolean) (C := RX9) (T := TX9) (N := 14) hx hb hts inX9 tyX9 tyX9_ok nmX9 hown hK.1 hP hD hS 0 rfl rfl 6 (by decide) (hts _ tw_691) (fun _ h9 => h9) rfl (tyX9_ok 6 (by decide)) (bool_nar (by decide)).1 (bool_nar (by decide)).2 (Nat.le_of_ble_eq_true rfl) dX9_item_112 (fun H locs hP hD hS => ?_)
            replace hP : va_P D vwCl (cwModel kI kC a z_s z_text (upd (upd (upd z_told y8.toNatClampNeg u6) (y8 + (nI 1)).toNatClampNeg u7) (y8 + (nI 2)).toNatClampNeg u7) z_formula z_states z_isKept z_typed (u10 - u12) (nI 0) u12 u13 z_items z_length z_entries) H := hP
            replace hD : va_D A (cwModel kI kC a z_s z_text (upd (upd (upd z_told y8.toNatClampNeg u6) (y8 + (nI 1)).toNatClampNeg u7) (y8 + (nI 2)).toNatClampNeg u7) z_formula z_states z_isKept z_typed (u10 - u12) (nI 0) u12 u13 z_items z_length z_entries) := hD
            exact cj_X9_item_115 l D kI kC kB a z_s z_text (upd (upd (upd z_told y8.toNatClampNeg u6) (y8 + (nI 1)).toNatClampNeg u7) (y8 + (nI 2)).toNatClampNeg u7) z_formula z_states z_isKept z_typed (u10 - u12) (nI 0) u12 u13 z_items z_length z_entries y8 Post hA C hw H locs hP hD hS ls (lv_sub hl [1, 0] rfl)
set_option maxHeartbeats 4000000 in
set_option maxRecDepth 100000 in
theorem cj_X9_fault_74 (l : Launch) (D : va_G) (kI kC kB : ClassId) (a : AdT) (z_s : Nat → Int32) (z_text : Nat → Int32) (z_told : Nat → Int32) (z_formula : Nat → Int32) (z_states : Int32) (z_isKept : Int32) (z_typed : Int32) (z_at : Int32) (z_isRight : Int32) (z_times : Int32) (z_letter : Int32) (z_items : Int32) (z_length : Int32) (z_entries : Int32) (p1 : Int32) (Post : Int32 → (Nat → Int32) → Int32 → Int32 → Int32 → Int32 → Int32 → Prop) {p : Program} {e : Env} {s : State} {m : MethodId} {args : Array Value} {below : List Frame} {meth : Method} {c : Code} {A : Nat → Prop} (hA : ∀ q : Nat, s.heap.size ≤ q → A q) (C : CtxT p s m args meth c cX9_fault 3 (some .int) yX9_fault.cls D kI kC kB) (K17 : (Nat → Int32) → Int32 → Int32 → Int32 → Int32 → Int32 → Int32 → Prop) (hK17 : ∀ (z_told : Nat → Int32) (z_at : Int32) (z_isRight : Int32) (z_times : Int32) (z_letter : Int32) (z_items : Int32) (v2 : Int32), K17 z_told z_at z_isRight z_times z_letter z_items v2 → ∀ (H : Heap) (locs : List Loc), va_P D vwCl (cwModel kI kC a z_s z_text z_told z_formula z_states z_isKept z_typed z_at z_isRight z_times z_letter z_items z_length z_entries) H → va_D A (cwModel kI kC a z_s z_text z_told z_formula z_states z_isKept z_typed z_at z_isRight z_times z_letter z_items z_length z_entries) → va_S A s.heap H locs → ∀ (ls : Array Slot), lv_has ls 3 [(0, .ref (a 0)), (1, .int p1), (2, .int v2)] → W p l e ({ frames := 4, cells := 0, slots := 0, locals := 87 } : Room) s m args below meth c H locs 0 0 (MQ below (va_Qi (fun (r : Int32) (u : (Nat → Int32) × Int32 × Int32 × Int32 × Int32 × Int32) => Post r u.1 u.2.1 u.2.2.1 u.2.2.2.1 u.2.2.2.2.1 u.2.2.2.2.2) (BB D A (fun u : (Nat → Int32) × Int32 × Int32 × Int32 × Int32 × Int32 => (cwModel kI kC a z_s z_text u.1 z_formula z_states z_isKept z_typed u.2.1 u.2.2.1 u.2.2.2.1 u.2.2.2.2.1 u.2.2.2.2.2 z_length z_entries))) A) args s 0 0 A) (F0 m 17 ls [])) : ∀ (t1 : Int32), wj_X9_fault_74 z_s z_text z_told z_typed z_at z_isRight z_times z_letter z_items p1 t1 K17 Post → ∀ (H : Heap) (locs : List Loc), va_P D vwCl (cwModel kI kC a z_s z_text z_told z_formula z_states z_isKept z_typed z_at z_isRight z_times z_letter z_items z_length z_entries) H → va_D A (cwModel kI kC a z_s z_text z_told z_formula z_states z_isKept z_typed z_at z_isRight z_times z_letter z_items z_length z_entries) → va_S A s.heap H locs → ∀ (ls : Array Slot), lv_has ls 3 [(0, .ref (a 0)), (1, .int p1)] → W p l e ({ frames := 4, cells := 0, slots := 0, locals := 87 } : Room) s m args below meth c H locs 0 0 (MQ below (va_Qi (fun (r : Int32) (u : (Nat → Int32) × Int32 × Int32 × Int32 × Int32 × Int32) => Post r u.1 u.2.1 u.2.2.1 u.2.2.2.1 u.2.2.2.2.1 u.2.2.2.2.2) (BB D A (fun u : (Nat → Int32) × Int32 × Int32 × Int32 × Int32 × Int32 => (cwModel kI kC a z_s z_text u.1 z_formula z_states z_isKept z_typed u.2.1 u.2.2.1 u.2.2.2.1 u.2.2.2.2.1 u.2.2.2.2.2 z_length z_entries))) A) args s 0 0 A) (F0 m 74 ls [.int t1, .ref (a 0)]) := by
  obtain ⟨hx, hb, hr, hml, hown, hts, hlocks, hK⟩ := id C
  intro t1 hw H locs hP hD hS ls hl
  have hz := hw.1
  replace hw := hw.2
  refine va_put (D := D) (ci := 7) (v := .int t1) (ty := .boolean) (C := RX9) (T := TX9) (N := 14) hx hb hts inX9 tyX9 tyX9_ok nmX9 hown hK.1 hP hD hS 0 rfl rfl 6 (by decide) (hts _ tw_691) (fun _ h9 => h9) rfl (tyX9_ok 6 (by decide)) (bool_nar hz).1 (bool_nar hz).2 (Nat.le_of_ble_eq_true rfl) dX9_fault_74 (fun H locs hP hD hS => ?_)
  replace hP : va_P D vwCl (cwModel kI kC a z_s z_text z_told z_formula z_states z_isKept z_typed z_at t1 z_times z_letter z_items z_length z_entries) H := hP
  replace hD : va_D A (cwModel kI kC a z_s z_text z_told z_formula z_states z_isKept z_typed z_at t1 z_times z_letter z_items z_length z_entries) := hD
  refine lv_aload_n hx hb dX9_fault_77 rfl (lv_at hl 0 rfl) ?_
  refine lv_dup hx hb dX9_fault_78 rfl ?_
  refine va_get (D := D) (ci := 7) (v := .int z_at) (C := RX9) (T := TX9) (N := 14) hx hb hts inX9 hown hK.1 hP 0 rfl rfl 5 (by decide) (hts _ tw_690) (fun _ h9 => h9) rfl dX9_fault_79 ?_
  refine lv_aload_n hx hb dX9_fault_82 rfl (lv_at hl 0 rfl) ?_
  refine va_get (D := D) (ci := 7) (v := .int t1) (C := RX9) (T := TX9) (N := 14) hx hb hts inX9 hown hK.1 hP 0 rfl rfl 6 (by decide) (hts _ tw_691) (fun _ h9 => h9) rfl dX9_fault_83 ?_
  refine lv_if_eq (tgt := 93) hx hb dX9_fault_86 (by decide) (fun hc => ?_) (fun hc => ?_)
  · replace hw := hw.1 hc
    refine lv_iconst (v := (nI 0)) hx hb dX9_fault_93 (by decide) ?_
    refine lv_iadd hx hb dX9_fault_94 ?_
    refine va_put (D := D) (ci := 7) (v := .int (z_at + (nI 0))) (ty := .int) (C := RX9) (T := TX9) (N := 14) hx hb hts inX9 tyX9 tyX9_ok nmX9 hown hK.1 hP hD hS 0 rfl rfl 5 (by decide) (hts _ tw_690) (fun _ h9 => h9) rfl (tyX9_ok 5 (by decide)) rfl rfl (Nat.le_of_ble_eq_true rfl) dX9_fault_95 (fun H locs hP hD hS => ?_)
    replace hP : va_P D vwCl (cwModel kI kC a z_s z_text z_told z_formula z_states z_isKept z_typed (z_at + (nI 0)) t1 z_times z_letter z_items z_length z_entries) H := hP
    replace hD : va_D A (cwModel kI kC a z_s z_text z_told z_formula z_states z_isKept z_typed (z_at + (nI 0)) t1 z_times z_letter z_items z_length z_entries) := hD
    refine lv_aload_n hx hb dX9_fault_98 rfl (lv_at hl 0 rfl) ?_
    refine va_get (D := D) (ci := 7) (v := .int t1) (C := RX9) (T := TX9) (N := 14) hx hb hts inX9 hown hK.1 hP 0 rfl rfl 6 (by decide) (hts _ tw_691) (fun _ h9 => h9) rfl dX9_fault_99 ?_
    refine lv_istore_n (lv' := [(2, .int t1), (0, .ref (a 0)), (1, .int p1)]) hx hb dX9_fault_102 rfl hl (by decide) rfl (fun ls hl => ?_)
    refine lv_goto (tgt := 17) hx hb dX9_fault_103 (by decide) ?_
    exact hK17 z_told (z_at + (nI 0)) t1 z_times z_letter z_items t1 hw H locs hP hD hS ls (lv_sub hl [1, 2, 0] rfl)
  · replace hw := hw.2 hc
    refine lv_iconst (v := (nI 1)) hx hb dX9_fault_89 (by decide) ?_
    refine lv_goto (tgt := 94) hx hb dX9_fault_90 (by decide) ?_
    refine lv_iadd hx hb dX9_fault_94 ?_
    refine va_put (D := D) (ci := 7) (v := .int (z_at + (nI 1))) (ty := .int) (C := RX9) (T := TX9) (N := 14) hx hb hts inX9 tyX9 tyX9_ok nmX9 hown hK.1 hP hD hS 0 rfl rfl 5 (by decide) (hts _ tw_690) (fun _ h9 => h9) rfl (tyX9_ok 5 (by decide)) rfl rfl (Nat.le_of_ble_eq_true rfl) dX9_fault_95 (fun H locs hP hD hS => ?_)
    replace hP : va_P D vwCl (cwModel kI kC a z_s z_text z_told z_formula z_states z_isKept z_typed (z_at + (nI 1)) t1 z_times z_letter z_items z_length z_entries) H := hP
    replace hD : va_D A (cwModel kI kC a z_s z_text z_told z_formula z_states z_isKept z_typed (z_at + (nI 1)) t1 z_times z_letter z_items z_length z_entries) := hD
    refine lv_aload_n hx hb dX9_fault_98 rfl (lv_at hl 0 rfl) ?_
    refine va_get (D := D) (ci := 7) (v := .int t1) (C := RX9) (T := TX9) (N := 14) hx hb hts inX9 hown hK.1 hP 0 rfl rfl 6 (by decide) (hts _ tw_691) (fun _ h9 => h9) rfl dX9_fault_99 ?_
    refine lv_istore_n (lv' := [(2, .int t1), (0, .ref (a 0)), (1, .int p1)]) hx hb dX9_fault_102 rfl hl (by decide) rfl (fun ls hl => ?_)
    refine lv_goto (tgt := 17) hx hb dX9_fault_103 (by decide) ?_
    exact hK17 z_told (z_at + (nI 1)) t1 z_times z_letter z_items t1 hw H locs hP hD hS ls (lv_sub hl [1, 2, 0] rfl)
set_option maxHeartbeats 4000000 in
set_option maxRecDepth 100000 in
theorem cj_X9_fault_49 (l : Launch) (D : va_G) (kI kC kB : ClassId) (a : AdT) (z_s : Nat → Int32) (z_text : Nat → Int32) (z_told : Nat → Int32) (z_formula : Nat → Int32) (z_states : Int32) (z_isKept : Int32) (z_typed : Int32) (z_at : Int32) (z_isRight : Int32) (z_times : Int32) (z_letter : Int32) (z_items : Int32) (z_length : Int32) (z_entries : Int32) (p1 : Int32) (Post : Int32 → (Nat → Int32) → Int32 → Int32 → Int32 → Int32 → Int32 → Prop) {p : Program} {e : Env} {s : State} {m : MethodId} {args : Array Value} {below : List Frame} {meth : Method} {c : Code} {A : Nat → Prop} (hA : ∀ q : Nat, s.heap.size ≤ q → A q) (C : CtxT p s m args meth c cX9_fault 3 (some .int) yX9_fault.cls D kI kC kB) (K17 : (Nat → Int32) → Int32 → Int32 → Int32 → Int32 → Int32 → Int32 → Prop) (hK17 : ∀ (z_told : Nat → Int32) (z_at : Int32) (z_isRight : Int32) (z_times : Int32) (z_letter : Int32) (z_items : Int32) (v2 : Int32), K17 z_told z_at z_isRight z_times z_letter z_items v2 → ∀ (H : Heap) (locs : List Loc), va_P D vwCl (cwModel kI kC a z_s z_text z_told z_formula z_states z_isKept z_typed z_at z_isRight z_times z_letter z_items z_length z_entries) H → va_D A (cwModel kI kC a z_s z_text z_told z_formula z_states z_isKept z_typed z_at z_isRight z_times z_letter z_items z_length z_entries) → va_S A s.heap H locs → ∀ (ls : Array Slot), lv_has ls 3 [(0, .ref (a 0)), (1, .int p1), (2, .int v2)] → W p l e ({ frames := 4, cells := 0, slots := 0, locals := 87 } : Room) s m args below meth c H locs 0 0 (MQ below (va_Qi (fun (r : Int32) (u : (Nat → Int32) × Int32 × Int32 × Int32 × Int32 × Int32) => Post r u.1 u.2.1 u.2.2.1 u.2.2.2.1 u.2.2.2.2.1 u.2.2.2.2.2) (BB D A (fun u : (Nat → Int32) × Int32 × Int32 × Int32 × Int32 × Int32 => (cwModel kI kC a z_s z_text u.1 z_formula z_states z_isKept z_typed u.2.1 u.2.2.1 u.2.2.2.1 u.2.2.2.2.1 u.2.2.2.2.2 z_length z_entries))) A) args s 0 0 A) (F0 m 17 ls [])) : ∀ (t0 : Int32), wj_X9_fault_49 z_s z_text z_told z_typed z_at z_isRight z_times z_letter z_items p1 t0 K17 Post → ∀ (H : Heap) (locs : List Loc), va_P D vwCl (cwModel kI kC a z_s z_text z_told z_formula z_states z_isKept z_typed z_at z_isRight z_times z_letter z_items z_length z_entries) H → va_D A (cwModel kI kC a z_s z_text z_told z_formula z_states z_isKept z_typed z_at z_isRight z_times z_letter z_items z_length z_entries) → va_S A s.heap H locs → ∀ (ls : Array Slot), lv_has ls 3 [(0, .ref (a 0)), (1, .int p1)] → W p l e ({ frames := 4, cells := 0, slots := 0, locals := 87 } : Room) s m args below meth c H locs 0 0 (MQ below (va_Qi (fun (r : Int32) (u : (Nat → Int32) × Int32 × Int32 × Int32 × Int32 × Int32) => Post r u.1 u.2.1 u.2.2.1 u.2.2.2.1 u.2.2.2.2.1 u.2.2.2.2.2) (BB D A (fun u : (Nat → Int32) × Int32 × Int32 × Int32 × Int32 × Int32 => (cwModel kI kC a z_s z_text u.1 z_formula z_states z_isKept z_typed u.2.1 u.2.2.1 u.2.2.2.1 u.2.2.2.2.1 u.2.2.2.2.2 z_length z_entries))) A) args s 0 0 A) (F0 m 49 ls [.int t0]) := by
  obtain ⟨hx, hb, hr, hml, hown, hts, hlocks, hK⟩ := id C
  intro t0 hw H locs hP hD hS ls hl
  refine lv_istore_n (lv' := [(2, .int t0), (0, .ref (a 0)), (1, .int p1)]) hx hb dX9_fault_49 rfl hl (by decide) rfl (fun ls hl => ?_)
  refine lv_iload_n hx hb dX9_fault_50 rfl (lv_at hl 0 rfl) ?_
  refine lv_if_eq (tgt := 17) hx hb dX9_fault_51 (by decide) (fun hc => ?_) (fun hc => ?_)
  · replace hw := hw.1 hc
    exact hK17 z_told z_at z_isRight z_times z_letter z_items t0 hw H locs hP hD hS ls (lv_sub hl [1, 2, 0] rfl)
  · replace hw := hw.2 hc
    refine lv_aload_n hx hb dX9_fault_54 rfl (lv_at hl 1 rfl) ?_
    refine lv_aload_n hx hb dX9_fault_55 rfl (lv_at hl 1 rfl) ?_
    refine va_get (D := D) (ci := 7) (v := .ref (a 2)) (C := RX9) (T := TX9) (N := 14) hx hb hts inX9 hown hK.1 hP 0 rfl rfl 3 (by decide) (hts _ tw_688) (fun _ h9 => h9) rfl dX9_fault_56 ?_
    refine lv_aload_n hx hb dX9_fault_59 rfl (lv_at hl 1 rfl) ?_
    refine va_get (D := D) (ci := 7) (v := .int z_at) (C := RX9) (T := TX9) (N := 14) hx hb hts inX9 hown hK.1 hP 0 rfl rfl 5 (by decide) (hts _ tw_690) (fun _ h9 => h9) rfl dX9_fault_60 ?_
    have hin := hw.1
    replace hw := hw.2
    refine va_cald hx hb hK.1 hP 2 1 rfl rfl hin dX9_fault_63 ?_
    refine lv_bipush (v := (nI 44)) hx hb dX9_fault_64 (by decide) ?_
    refine lv_icmp_ne (tgt := 73) hx hb dX9_fault_66 (by decide) (fun hc => ?_) (fun hc => ?_)
    · replace hw := hw.2 hc
      refine lv_iconst (v := (nI 0)) hx hb dX9_fault_73 (by decide) ?_
      exact cj_X9_fault_74 l D kI kC kB a z_s z_text z_told z_formula z_states z_isKept z_typed z_at z_isRight z_times z_letter z_items z_length z_entries p1 Post hA C _ hK17 (nI 0) hw H locs hP hD hS ls (lv_sub hl [1, 2] rfl)
    · replace hw := hw.1 hc
      refine lv_iconst (v := (nI 1)) hx hb dX9_fault_69 (by decide) ?_
      refine lv_goto (tgt := 74) hx hb dX9_fault_70 (by decide) ?_
      exact cj_X9_fault_74 l D kI kC kB a z_s z_text z_told z_formula z_states z_isKept z_typed z_at z_isRight z_times z_letter z_items z_length z_entries p1 Post hA C _ hK17 (nI 1) hw H locs hP hD hS ls (lv_sub hl [1, 2] rfl)
set_option maxHeartbeats 4000000 in
set_option maxRecDepth 100000 in
theorem cj_X9_fault_48 (l : Launch) (D : va_G) (kI kC kB : ClassId) (a : AdT) (z_s : Nat → Int32) (z_text : Nat → Int32) (z_told : Nat → Int32) (z_formula : Nat → Int32) (z_states : Int32) (z_isKept : Int32) (z_typed : Int32) (z_at : Int32) (z_isRight : Int32) (z_times : Int32) (z_letter : Int32) (z_items : Int32) (z_length : Int32) (z_entries : Int32) (p1 : Int32) (Post : Int32 → (Nat → Int32) → Int32 → Int32 → Int32 → Int32 → Int32 → Prop) {p : Program} {e : Env} {s : State} {m : MethodId} {args : Array Value} {below : List Frame} {meth : Method} {c : Code} {A : Nat → Prop} (hA : ∀ q : Nat, s.heap.size ≤ q → A q) (C : CtxT p s m args meth c cX9_fault 3 (some .int) yX9_fault.cls D kI kC kB) (K17 : (Nat → Int32) → Int32 → Int32 → Int32 → Int32 → Int32 → Int32 → Prop) (hK17 : ∀ (z_told : Nat → Int32) (z_at : Int32) (z_isRight : Int32) (z_times : Int32) (z_letter : Int32) (z_items : Int32) (v2 : Int32), K17 z_told z_at z_isRight z_times z_letter z_items v2 → ∀ (H : Heap) (locs : List Loc), va_P D vwCl (cwModel kI kC a z_s z_text z_told z_formula z_states z_isKept z_typed z_at z_isRight z_times z_letter z_items z_length z_entries) H → va_D A (cwModel kI kC a z_s z_text z_told z_formula z_states z_isKept z_typed z_at z_isRight z_times z_letter z_items z_length z_entries) → va_S A s.heap H locs → ∀ (ls : Array Slot), lv_has ls 3 [(0, .ref (a 0)), (1, .int p1), (2, .int v2)] → W p l e ({ frames := 4, cells := 0, slots := 0, locals := 87 } : Room) s m args below meth c H locs 0 0 (MQ below (va_Qi (fun (r : Int32) (u : (Nat → Int32) × Int32 × Int32 × Int32 × Int32 × Int32) => Post r u.1 u.2.1 u.2.2.1 u.2.2.2.1 u.2.2.2.2.1 u.2.2.2.2.2) (BB D A (fun u : (Nat → Int32) × Int32 × Int32 × Int32 × Int32 × Int32 => (cwModel kI kC a z_s z_text u.1 z_formula z_states z_isKept z_typed u.2.1 u.2.2.1 u.2.2.2.1 u.2.2.2.2.1 u.2.2.2.2.2 z_length z_entries))) A) args s 0 0 A) (F0 m 17 ls [])) : wj_X9_fault_48 z_s z_text z_told z_typed z_at z_isRight z_times z_letter z_items p1 K17 Post → ∀ (H : Heap) (locs : List Loc), va_P D vwCl (cwModel kI kC a z_s z_text z_told z_formula z_states z_isKept z_typed z_at z_isRight z_times z_letter z_items z_length z_entries) H → va_D A (cwModel kI kC a z_s z_text z_told z_formula z_states z_isKept z_typed z_at z_isRight z_times z_letter z_items z_length z_entries) → va_S A s.heap H locs → ∀ (ls : Array Slot), lv_has ls 3 [(0, .ref (a 0)), (1, .int p1)] → W p l e ({ frames := 4, cells := 0, slots := 0, locals := 87 } : Room) s m args below meth c H locs 0 0 (MQ below (va_Qi (fun (r : Int32) (u : (Nat → Int32) × Int32 × Int32 × Int32 × Int32 × Int32) => Post r u.1 u.2.1 u.2.2.1 u.2.2.2.1 u.2.2.2.2.1 u.2.2.2.2.2) (BB D A (fun u : (Nat → Int32) × Int32 × Int32 × Int32 × Int32 × Int32 => (cwModel kI kC a z_s z_text u.1 z_formula z_states z_isKept z_typed u.2.1 u.2.2.1 u.2.2.2.1 u.2.2.2.2.1 u.2.2.2.2.2 z_length z_entries))) A) args s 0 0 A) (F0 m 48 ls []) := by
  obtain ⟨hx, hb, hr, hml, hown, hts, hlocks, hK⟩ := id C
  intro hw H locs hP hD hS ls hl
  refine lv_iconst (v := (nI 0)) hx hb dX9_fault_48 (by decide) ?_
  exact cj_X9_fault_49 l D kI kC kB a z_s z_text z_told z_formula z_states z_isKept z_typed z_at z_isRight z_times z_letter z_items z_length z_entries p1 Post hA C _ hK17 (nI 0) hw H locs hP hD hS ls (lv_sub hl [0, 1] rfl)
set_option maxHeartbeats 4000000 in
set_option maxRecDepth 100000 in
theorem cl_X9_fault_17 (l : Launch) (D : va_G) (kI kC kB : ClassId) (a : AdT) (z_s : Nat → Int32) (z_text : Nat → Int32) (z_formula : Nat → Int32) (z_states : Int32) (z_isKept : Int32) (z_typed : Int32) (z_length : Int32) (z_entries : Int32) (p1 : Int32) (Post : Int32 → (Nat → Int32) → Int32 → Int32 → Int32 → Int32 → Int32 → Prop) {p : Program} {e : Env} {s : State} {m : MethodId} {args : Array Value} {below : List Frame} {meth : Method} {c : Code} {A : Nat → Prop} (hA : ∀ q : Nat, s.heap.size ≤ q → A q) (C : CtxT p s m args meth c cX9_fault 3 (some .int) yX9_fault.cls D kI kC kB) : ∀ (n : Nat), ∀ (z_told : Nat → Int32) (z_at : Int32) (z_isRight : Int32) (z_times : Int32) (z_letter : Int32) (z_items : Int32) (v2 : Int32), wl_X9_fault_17 z_s z_text z_typed p1 Post n z_told z_at z_isRight z_times z_letter z_items v2 → ∀ (H : Heap) (locs : List Loc), va_P D vwCl (cwModel kI kC a z_s z_text z_told z_formula z_states z_isKept z_typed z_at z_isRight z_times z_letter z_items z_length z_entries) H → va_D A (cwModel kI kC a z_s z_text z_told z_formula z_states z_isKept z_typed z_at z_isRight z_times z_letter z_items z_length z_entries) → va_S A s.heap H locs → ∀ (ls : Array Slot), lv_has ls 3 [(0, .ref (a 0)), (1, .int p1), (2, .int v2)] → W p l e ({ frames := 4, cells := 0, slots := 0, locals := 87 } : Room) s m args below meth c H locs 0 0 (MQ below (va_Qi (fun (r : Int32) (u : (Nat → Int32) × Int32 × Int32 × Int32 × Int32 × Int32) => Post r u.1 u.2.1 u.2.2.1 u.2.2.2.1 u.2.2.2.2.1 u.2.2.2.2.2) (BB D A (fun u : (Nat → Int32) × Int32 × Int32 × Int32 × Int32 × Int32 => (cwModel kI kC a z_s z_text u.1 z_formula z_states z_isKept z_typed u.2.1 u.2.2.1 u.2.2.2.1 u.2.2.2.2.1 u.2.2.2.2.2 z_length z_entries))) A) args s 0 0 A) (F0 m 17 ls []) := by
  obtain ⟨hx, hb, hr, hml, hown, hts, hlocks, hK⟩ := id C
  intro n
  induction n with
  | zero => intro z_told z_at z_isRight z_times z_letter z_items v2 hw; exact hw.elim
  | succ n ih =>
    intro z_told z_at z_isRight z_times z_letter z_items v2 hw H locs hP hD hS ls hl
    refine lv_iload_n hx hb dX9_fault_17 rfl (lv_at hl 2 rfl) ?_
    refine lv_if_eq (tgt := 106) hx hb dX9_fault_18 (by decide) (fun hc => ?_) (fun hc => ?_)
    · replace hw := hw.1 hc
      refine lv_aload_n hx hb dX9_fault_106 rfl (lv_at hl 0 rfl) ?_
      refine va_get (D := D) (ci := 7) (v := .int z_isRight) (C := RX9) (T := TX9) (N := 14) hx hb hts inX9 hown hK.1 hP 0 rfl rfl 6 (by decide) (hts _ tw_691) (fun _ h9 => h9) rfl dX9_fault_107 ?_
      refine lv_if_eq (tgt := 117) hx hb dX9_fault_110 (by decide) (fun hc => ?_) (fun hc => ?_)
      · replace hw := hw.1 hc
        refine lv_aload_n hx hb dX9_fault_117 rfl (lv_at hl 0 rfl) ?_
        refine va_get (D := D) (ci := 7) (v := .int z_at) (C := RX9) (T := TX9) (N := 14) hx hb hts inX9 hown hK.1 hP 0 rfl rfl 5 (by decide) (hts _ tw_690) (fun _ h9 => h9) rfl dX9_fault_118 ?_
        exact retMi C (z_told, z_at, z_isRight, z_times, z_letter, z_items) hw hP hD hS dX9_fault_121
      · replace hw := hw.2 hc
        refine lv_iconst (v := (-1)) hx hb dX9_fault_113 (by decide) ?_
        refine lv_goto (tgt := 121) hx hb dX9_fault_114 (by decide) ?_
        exact retMi C (z_told, z_at, z_isRight, z_times, z_letter, z_items) hw hP hD hS dX9_fault_121
    · replace hw := hw.2 hc
      refine lv_aload_n hx hb dX9_fault_21 rfl (lv_at hl 0 rfl) ?_
      refine lv_iload_n hx hb dX9_fault_22 rfl (lv_at hl 1 rfl) ?_
      refine kMVv (q0 := 0) (As := [.int p1]) (rest := []) C (c_X9_item l D kI kC kB a z_s z_text z_told z_formula z_states z_isKept z_typed z_at z_isRight z_times z_letter z_items z_length z_entries H.size p1 _ hw) ⟨rfl, rfl⟩ ce_X9_item cv_X9_item tw_775 ⟨Nat.le_of_ble_eq_true rfl, Nat.le_of_ble_eq_true rfl⟩ hP hD hS hA [0, 1, 2, 3, 4] rfl rfl (fun _ => rfl) rfl rfl rfl hl.1 rfl (Nat.le_of_ble_eq_true rfl) ⟨Nat.zero_le _, Nat.zero_le _⟩ dX9_fault_23 (fun u H locs hw hP hD hS => ?_)
      obtain ⟨u1, u2, u3, u4, u5, u6⟩ := u
      try dsimp only at hw
      replace hP : va_P D vwCl (cwModel kI kC a z_s z_text u1 z_formula z_states z_isKept z_typed u2 u3 u4 u5 u6 z_length z_entries) H := hP
      replace hD : va_D A (cwModel kI kC a z_s z_text u1 z_formula z_states z_isKept z_typed u2 u3 u4 u5 u6 z_length z_entries) := hD
      refine lv_aload_n hx hb dX9_fault_26 rfl (lv_at hl 0 rfl) ?_
      refine va_get (D := D) (ci := 7) (v := .int u3) (C := RX9) (T := TX9) (N := 14) hx hb hts inX9 hown hK.1 hP 0 rfl rfl 6 (by decide) (hts _ tw_691) (fun _ h9 => h9) rfl dX9_fault_27 ?_
      refine lv_if_eq (tgt := 48) hx hb dX9_fault_30 (by decide) (fun hc => ?_) (fun hc => ?_)
      · replace hw := hw.1 hc
        exact cj_X9_fault_48 l D kI kC kB a z_s z_text u1 z_formula z_states z_isKept z_typed u2 u3 u4 u5 u6 z_length z_entries p1 Post hA C _ ih hw H locs hP hD hS ls (lv_sub hl [0, 1] rfl)
      · replace hw := hw.2 hc
        refine lv_aload_n hx hb dX9_fault_33 rfl (lv_at hl 0 rfl) ?_
        refine va_get (D := D) (ci := 7) (v := .int u2) (C := RX9) (T := TX9) (N := 14) hx hb hts inX9 hown hK.1 hP 0 rfl rfl 5 (by decide) (hts _ tw_690) (fun _ h9 => h9) rfl dX9_fault_34 ?_
        refine lv_aload_n hx hb dX9_fault_37 rfl (lv_at hl 0 rfl) ?_
        refine va_get (D := D) (ci := 7) (v := .int z_typed) (C := RX9) (T := TX9) (N := 14) hx hb hts inX9 hown hK.1 hP 0 rfl rfl 4 (by decide) (hts _ tw_689) (fun _ h9 => h9) rfl dX9_fault_38 ?_
        refine lv_icmp_ge (tgt := 48) hx hb dX9_fault_41 (by decide) (fun hc => ?_) (fun hc => ?_)
        · replace hw := hw.1 hc
          exact cj_X9_fault_48 l D kI kC kB a z_s z_text u1 z_formula z_states z_isKept z_typed u2 u3 u4 u5 u6 z_length z_entries p1 Post hA C _ ih hw H locs hP hD hS ls (lv_sub hl [0, 1] rfl)
        · replace hw := hw.2 hc
          refine lv_iconst (v := (nI 1)) hx hb dX9_fault_44 (by decide) ?_
          refine lv_goto (tgt := 49) hx hb dX9_fault_45 (by decide) ?_
          exact cj_X9_fault_49 l D kI kC kB a z_s z_text u1 z_formula z_states z_isKept z_typed u2 u3 u4 u5 u6 z_length z_entries p1 Post hA C _ ih (nI 1) hw H locs hP hD hS ls (lv_sub hl [0, 1] rfl)
set_option maxHeartbeats 4000000 in
set_option maxRecDepth 100000 in
theorem c_X9_fault (l : Launch) (D : va_G) (kI kC kB : ClassId) (a : AdT) (z_s : Nat → Int32) (z_text : Nat → Int32) (z_told : Nat → Int32) (z_formula : Nat → Int32) (z_states : Int32) (z_isKept : Int32) (z_typed : Int32) (z_at : Int32) (z_isRight : Int32) (z_times : Int32) (z_letter : Int32) (z_items : Int32) (z_length : Int32) (z_entries : Int32) (sz : Nat) (p1 : Int32) (Post : Int32 → (Nat → Int32) → Int32 → Int32 → Int32 → Int32 → Int32 → Prop) (hw : wp_X9_fault z_s z_text z_told z_typed z_at z_isRight z_times z_letter z_items p1 Post) : CMi l D kI kC kB yX9_fault cX9_fault 3 (some .int) ({ frames := 4, cells := 0, slots := 0, locals := 87 } : Room) [.ref (a 0), .int p1] (cwModel kI kC a z_s z_text z_told z_formula z_states z_isKept z_typed z_at z_isRight z_times z_letter z_items z_length z_entries) sz (fun (r : Int32) (u : (Nat → Int32) × Int32 × Int32 × Int32 × Int32 × Int32) => Post r u.1 u.2.1 u.2.2.1 u.2.2.2.1 u.2.2.2.2.1 u.2.2.2.2.2) (fun u : (Nat → Int32) × Int32 × Int32 × Int32 × Int32 × Int32 => (cwModel kI kC a z_s z_text u.1 z_formula z_states z_isKept z_typed u.2.1 u.2.2.1 u.2.2.2.1 u.2.2.2.2.1 u.2.2.2.2.2 z_length z_entries)) := by
  refine entMi (by decide) (Nat.le_of_ble_eq_true rfl) ?_
  intro p e s m args below meth c ls A C hA hP hD hS hl
  obtain ⟨H, hHe⟩ : ∃ H, H = s.heap := ⟨_, rfl⟩
  obtain ⟨locs, hlo⟩ : ∃ lo : List Loc, lo = [] := ⟨_, rfl⟩
  have hS : va_S A s.heap H locs := by rw [hHe, hlo]; exact hS
  rw [← hHe] at hP
  suffices hg : W p l e ({ frames := 4, cells := 0, slots := 0, locals := 87 } : Room) s m args below meth c H locs 0 0 (MQ below (va_Qi (fun (r : Int32) (u : (Nat → Int32) × Int32 × Int32 × Int32 × Int32 × Int32) => Post r u.1 u.2.1 u.2.2.1 u.2.2.2.1 u.2.2.2.2.1 u.2.2.2.2.2) (BB D A (fun u : (Nat → Int32) × Int32 × Int32 × Int32 × Int32 × Int32 => (cwModel kI kC a z_s z_text u.1 z_formula z_states z_isKept z_typed u.2.1 u.2.2.1 u.2.2.2.1 u.2.2.2.2.1 u.2.2.2.2.2 z_length z_entries))) A) args s 0 0 A) (F0 m 0 ls []) by rw [hHe, hlo] at hg; exact hg
  replace hl : lv_has ls 3 [(0, .ref (a 0)), (1, .int p1)] := hl
  obtain ⟨hx, hb, hr, hml, hown, hts, hlocks, hK⟩ := id C
  refine lv_aload_n hx hb dX9_fault_0 rfl (lv_at hl 0 rfl) ?_
  refine lv_iconst (v := (nI 0)) hx hb dX9_fault_1 (by decide) ?_
  refine va_put (D := D) (ci := 7) (v := .int (nI 0)) (ty := .int) (C := RX9) (T := TX9) (N := 14) hx hb hts inX9 tyX9 tyX9_ok nmX9 hown hK.1 hP hD hS 0 rfl rfl 5 (by decide) (hts _ tw_690) (fun _ h9 => h9) rfl (tyX9_ok 5 (by decide)) rfl rfl (Nat.le_of_ble_eq_true rfl) dX9_fault_2 (fun H locs hP hD hS => ?_)
  replace hP : va_P D vwCl (cwModel kI kC a z_s z_text z_told z_formula z_states z_isKept z_typed (nI 0) z_isRight z_times z_letter z_items z_length z_entries) H := hP
  replace hD : va_D A (cwModel kI kC a z_s z_text z_told z_formula z_states z_isKept z_typed (nI 0) z_isRight z_times z_letter z_items z_length z_entries) := hD
  refine lv_aload_n hx hb dX9_fault_5 rfl (lv_at hl 0 rfl) ?_
  refine lv_iconst (v := (nI 1)) hx hb dX9_fault_6 (by decide) ?_
  refine va_put (D := D) (ci := 7) (v := .int (nI 1)) (ty := .boolean) (C := RX9) (T := TX9) (N := 14) hx hb hts inX9 tyX9 tyX9_ok nmX9 hown hK.1 hP hD hS 0 rfl rfl 6 (by decide) (hts _ tw_691) (fun _ h9 => h9) rfl (tyX9_ok 6 (by decide)) (bool_nar (by decide)).1 (bool_nar (by decide)).2 (Nat.le_of_ble_eq_true rfl) dX9_fault_7 (fun H locs hP hD hS => ?_)
  replace hP : va_P D vwCl (cwModel kI kC a z_s z_text z_told z_formula z_states z_isKept z_typed (nI 0) (nI 1) z_times z_letter z_items z_length z_entries) H := hP
  replace hD : va_D A (cwModel kI kC a z_s z_text z_told z_formula z_states z_isKept z_typed (nI 0) (nI 1) z_times z_letter z_items z_length z_entries) := hD
  refine lv_aload_n hx hb dX9_fault_10 rfl (lv_at hl 0 rfl) ?_
  refine lv_iconst (v := (nI 0)) hx hb dX9_fault_11 (by decide) ?_
  refine va_put (D := D) (ci := 7) (v := .int (nI 0)) (ty := .int) (C := RX9) (T := TX9) (N := 14) hx hb hts inX9 tyX9 tyX9_ok nmX9 hown hK.1 hP hD hS 0 rfl rfl 10 (by decide) (hts _ tw_695) (fun _ h9 => h9) rfl (tyX9_ok 10 (by decide)) rfl rfl (Nat.le_of_ble_eq_true rfl) dX9_fault_12 (fun H locs hP hD hS => ?_)
  replace hP : va_P D vwCl (cwModel kI kC a z_s z_text z_told z_formula z_states z_isKept z_typed (nI 0) (nI 1) z_times z_letter (nI 0) z_length z_entries) H := hP
  replace hD : va_D A (cwModel kI kC a z_s z_text z_told z_formula z_states z_isKept z_typed (nI 0) (nI 1) z_times z_letter (nI 0) z_length z_entries) := hD
  refine lv_iconst (v := (nI 1)) hx hb dX9_fault_15 (by decide) ?_
  refine lv_istore_n (lv' := [(2, .int (nI 1)), (0, .ref (a 0)), (1, .int p1)]) hx hb dX9_fault_16 rfl hl (by decide) rfl (fun ls hl => ?_)
  obtain ⟨n9, hw⟩ := hw
  exact cl_X9_fault_17 l D kI kC kB a z_s z_text z_formula z_states z_isKept z_typed z_length z_entries p1 Post hA C n9 z_told (nI 0) (nI 1) z_times z_letter (nI 0) (nI 1) hw H locs hP hD hS ls (lv_sub hl [1, 2, 0] rfl)
set_option maxHeartbeats 4000000 in
set_option maxRecDepth 100000 in
theorem cl_X9_readFormula_39 (l : Launch) (D : va_G) (kI kC kB : ClassId) (a : AdT) (z_s : Nat → Int32) (z_text : Nat → Int32) (z_told : Nat → Int32) (z_formula : Nat → Int32) (z_states : Int32) (z_isKept : Int32) (z_typed : Int32) (z_at : Int32) (z_isRight : Int32) (z_times : Int32) (z_letter : Int32) (z_items : Int32) (z_length : Int32) (z_entries : Int32) (v3 : Int32) (Post : Int32 → (Nat → Int32) → (Nat → Int32) → Int32 → Int32 → Int32 → Int32 → Int32 → Int32 → Prop) {p : Program} {e : Env} {s : State} {m : MethodId} {args : Array Value} {below : List Frame} {meth : Method} {c : Code} {A : Nat → Prop} (hA : ∀ q : Nat, s.heap.size ≤ q → A q) (C : CtxT p s m args meth c cX9_readFormula 5 (some .int) yX9_readFormula.cls D kI kC kB) (K19 : Int32 → Int32 → Prop) (hK19 : ∀ (v2 : Int32) (v3 : Int32), K19 v2 v3 → ∀ (H : Heap) (locs : List Loc), va_P D vwCl (cwModel kI kC a z_s z_text z_told z_formula z_states z_isKept z_typed z_at z_isRight z_times z_letter z_items z_length z_entries) H → va_D A (cwModel kI kC a z_s z_text z_told z_formula z_states z_isKept z_typed z_at z_isRight z_times z_letter z_items z_length z_entries) → va_S A s.heap H locs → ∀ (ls : Array Slot), lv_has ls 5 [(0, .ref (a 0)), (2, .int v2), (3, .int v3)] → W p l e ({ frames := 5, cells := 0, slots := 0, locals := 109 } : Room) s m args below meth c H locs 0 0 (MQ below (va_Qi (fun (r : Int32) (u : (Nat → Int32) × (Nat → Int32) × Int32 × Int32 × Int32 × Int32 × Int32 × Int32) => Post r u.1 u.2.1 u.2.2.1 u.2.2.2.1 u.2.2.2.2.1 u.2.2.2.2.2.1 u.2.2.2.2.2.2.1 u.2.2.2.2.2.2.2) (BB D A (fun u : (Nat → Int32) × (Nat → Int32) × Int32 × Int32 × Int32 × Int32 × Int32 × Int32 => (cwModel kI kC a u.1 z_text u.2.1 z_formula u.2.2.1 z_isKept z_typed u.2.2.2.1 u.2.2.2.2.1 u.2.2.2.2.2.1 u.2.2.2.2.2.2.1 u.2.2.2.2.2.2.2 z_length z_entries))) A) args s 0 0 A) (F0 m 19 ls [])) : ∀ (n : Nat), ∀ (v2 : Int32) (v4 : Int32), wl_X9_readFormula_39 z_s z_text z_told z_states z_typed z_at z_isRight z_times z_letter z_items v3 K19 Post n v2 v4 → ∀ (H : Heap) (locs : List Loc), va_P D vwCl (cwModel kI kC a z_s z_text z_told z_formula z_states z_isKept z_typed z_at z_isRight z_times z_letter z_items z_length z_entries) H → va_D A (cwModel kI kC a z_s z_text z_told z_formula z_states z_isKept z_typed z_at z_isRight z_times z_letter z_items z_length z_entries) → va_S A s.heap H locs → ∀ (ls : Array Slot), lv_has ls 5 [(0, .ref (a 0)), (2, .int v2), (3, .int v3), (4, .int v4)] → W p l e ({ frames := 5, cells := 0, slots := 0, locals := 109 } : Room) s m args below meth c H locs 0 0 (MQ below (va_Qi (fun (r : Int32) (u : (Nat → Int32) × (Nat → Int32) × Int32 × Int32 × Int32 × Int32 × Int32 × Int32) => Post r u.1 u.2.1 u.2.2.1 u.2.2.2.1 u.2.2.2.2.1 u.2.2.2.2.2.1 u.2.2.2.2.2.2.1 u.2.2.2.2.2.2.2) (BB D A (fun u : (Nat → Int32) × (Nat → Int32) × Int32 × Int32 × Int32 × Int32 × Int32 × Int32 => (cwModel kI kC a u.1 z_text u.2.1 z_formula u.2.2.1 z_isKept z_typed u.2.2.2.1 u.2.2.2.2.1 u.2.2.2.2.2.1 u.2.2.2.2.2.2.1 u.2.2.2.2.2.2.2 z_length z_entries))) A) args s 0 0 A) (F0 m 39 ls []) := by
  obtain ⟨hx, hb, hr, hml, hown, hts, hlocks, hK⟩ := id C
  intro n
  induction n with
  | zero => intro v2 v4 hw; exact hw.elim
  | succ n ih =>
    intro v2 v4 hw H locs hP hD hS ls hl
    refine lv_iload hx hb dX9_readFormula_39 (lv_at hl 3 rfl) ?_
    refine lv_aload_n hx hb dX9_readFormula_41 rfl (lv_at hl 0 rfl) ?_
    refine va_get (D := D) (ci := 7) (v := .ref (a 3)) (C := RX9) (T := TX9) (N := 14) hx hb hts inX9 hown hK.1 hP 0 rfl rfl 9 (by decide) (hts _ tw_694) (fun _ h9 => h9) rfl dX9_readFormula_42 ?_
    refine lv_iconst (v := (nI 4)) hx hb dX9_readFormula_45 (by decide) ?_
    refine lv_iload_n hx hb dX9_readFormula_46 rfl (lv_at hl 2 rfl) ?_
    refine lv_imul hx hb dX9_readFormula_47 ?_
    refine lv_iconst (v := (nI 2)) hx hb dX9_readFormula_48 (by decide) ?_
    refine lv_iadd hx hb dX9_readFormula_49 ?_
    have hin := hw.1
    replace hw := hw.2
    refine va_iald hx hb hK.1 hP 3 0 rfl rfl hin dX9_readFormula_50 ?_
    refine lv_icmp_gt (tgt := 82) hx hb dX9_readFormula_51 (by decide) (fun hc => ?_) (fun hc => ?_)
    · replace hw := hw.1 hc
      refine lv_iinc (v := (v3 + nI 1)) (lv' := [(3, .int (v3 + nI 1)), (0, .ref (a 0)), (2, .int v2), (4, .int v4)]) hx hb dX9_readFormula_82 hl (k := 2) rfl rfl (by decide) rfl (fun ls hl => ?_)
      refine lv_goto (tgt := 19) hx hb dX9_readFormula_85 (by decide) ?_
      exact hK19 v2 (v3 + nI 1) hw H locs hP hD hS ls (lv_sub hl [1, 2, 0] rfl)
    · replace hw := hw.2 hc
      refine lv_iload_n hx hb dX9_readFormula_54 rfl (lv_at hl 1 rfl) ?_
      refine lv_iload hx hb dX9_readFormula_55 (lv_at hl 3 rfl) ?_
      refine lv_if_lt (tgt := 69) hx hb dX9_readFormula_57 (by decide) (fun hc => ?_) (fun hc => ?_)
      · replace hw := hw.1 hc
        refine lv_iconst (v := (nI 1)) hx hb dX9_readFormula_69 (by decide) ?_
        refine lv_goto (tgt := 74) hx hb dX9_readFormula_70 (by decide) ?_
        refine lv_iadd hx hb dX9_readFormula_74 ?_
        refine lv_topi (fun y1 ey1 => ?_)
        replace hw := hw y1 ey1
        refine lv_istore_n (lv' := [(2, .int y1), (0, .ref (a 0)), (3, .int v3), (4, .int v4)]) hx hb dX9_readFormula_75 rfl hl (by decide) rfl (fun ls hl => ?_)
        refine lv_iinc (v := (v4 + nI 1)) (lv' := [(4, .int (v4 + nI 1)), (2, .int y1), (0, .ref (a 0)), (3, .int v3)]) hx hb dX9_readFormula_76 hl (k := 3) rfl rfl (by decide) rfl (fun ls hl => ?_)
        refine lv_goto (tgt := 39) hx hb dX9_readFormula_79 (by decide) ?_
        exact ih y1 (v4 + nI 1) hw H locs hP hD hS ls (lv_sub hl [2, 1, 3, 0] rfl)
      · replace hw := hw.2 hc
        refine lv_aload_n hx hb dX9_readFormula_60 rfl (lv_at hl 0 rfl) ?_
        refine lv_iload hx hb dX9_readFormula_61 (lv_at hl 3 rfl) ?_
        refine kRV (As := [.int v4]) (rest := [.int v2]) (q0 := 0) C (c_X9_isOut l D kI kC kB a z_s z_text z_told z_formula z_states z_isKept z_typed z_at z_isRight z_times z_letter z_items z_length z_entries v4 _ hw) ⟨rfl, rfl⟩ ce_X9_isOut cv_X9_isOut tw_736 ⟨Nat.le_of_ble_eq_true rfl, Nat.le_of_ble_eq_true rfl⟩ hP [0, 1, 2, 3, 4] rfl rfl rfl rfl hl.1 rfl (Nat.le_of_ble_eq_true rfl) ⟨Nat.zero_le _, Nat.zero_le _⟩ dX9_readFormula_63 (fun r2 hw => ?_)
        refine lv_if_ne (tgt := 73) hx hb dX9_readFormula_66 (by decide) (fun hc => ?_) (fun hc => ?_)
        · replace hw := hw.2 hc
          refine lv_iconst (v := (nI 0)) hx hb dX9_readFormula_73 (by decide) ?_
          refine lv_iadd hx hb dX9_readFormula_74 ?_
          refine lv_topi (fun y3 ey3 => ?_)
          replace hw := hw y3 ey3
          refine lv_istore_n (lv' := [(2, .int y3), (0, .ref (a 0)), (3, .int v3), (4, .int v4)]) hx hb dX9_readFormula_75 rfl hl (by decide) rfl (fun ls hl => ?_)
          refine lv_iinc (v := (v4 + nI 1)) (lv' := [(4, .int (v4 + nI 1)), (2, .int y3), (0, .ref (a 0)), (3, .int v3)]) hx hb dX9_readFormula_76 hl (k := 3) rfl rfl (by decide) rfl (fun ls hl => ?_)
          refine lv_goto (tgt := 39) hx hb dX9_readFormula_79 (by decide) ?_
          exact ih y3 (v4 + nI 1) hw H locs hP hD hS ls (lv_sub hl [2, 1, 3, 0] rfl)
        · replace hw := hw.1 hc
          refine lv_iconst (v := (nI 1)) hx hb dX9_readFormula_69 (by decide) ?_
          refine lv_goto (tgt := 74) hx hb dX9_readFormula_70 (by decide) ?_
          refine lv_iadd hx hb dX9_readFormula_74 ?_
          refine lv_topi (fun y4 ey4 => ?_)
          replace hw := hw y4 ey4
          refine lv_istore_n (lv' := [(2, .int y4), (0, .ref (a 0)), (3, .int v3), (4, .int v4)]) hx hb dX9_readFormula_75 rfl hl (by decide) rfl (fun ls hl => ?_)
          refine lv_iinc (v := (v4 + nI 1)) (lv' := [(4, .int (v4 + nI 1)), (2, .int y4), (0, .ref (a 0)), (3, .int v3)]) hx hb dX9_readFormula_76 hl (k := 3) rfl rfl (by decide) rfl (fun ls hl => ?_)
          refine lv_goto (tgt := 39) hx hb dX9_readFormula_79 (by decide) ?_
          exact ih y4 (v4 + nI 1) hw H locs hP hD hS ls (lv_sub hl [2, 1, 3, 0] rfl)
set_option maxHeartbeats 4000000 in
set_option maxRecDepth 100000 in
theorem cj_X9_readFormula_159 (l : Launch) (D : va_G) (kI kC kB : ClassId) (a : AdT) (z_s : Nat → Int32) (z_text : Nat → Int32) (z_told : Nat → Int32) (z_formula : Nat → Int32) (z_states : Int32) (z_isKept : Int32) (z_typed : Int32) (z_at : Int32) (z_isRight : Int32) (z_times : Int32) (z_letter : Int32) (z_items : Int32) (z_length : Int32) (z_entries : Int32) (v3 : Int32) (v4 : Int32) (Post : Int32 → (Nat → Int32) → (Nat → Int32) → Int32 → Int32 → Int32 → Int32 → Int32 → Int32 → Prop) {p : Program} {e : Env} {s : State} {m : MethodId} {args : Array Value} {below : List Frame} {meth : Method} {c : Code} {A : Nat → Prop} (hA : ∀ q : Nat, s.heap.size ≤ q → A q) (C : CtxT p s m args meth c cX9_readFormula 5 (some .int) yX9_readFormula.cls D kI kC kB) (K110 : (Nat → Int32) → Int32 → Prop) (hK110 : ∀ (z_s : Nat → Int32) (v3 : Int32), K110 z_s v3 → ∀ (H : Heap) (locs : List Loc), va_P D vwCl (cwModel kI kC a z_s z_text z_told z_formula z_states z_isKept z_typed z_at z_isRight z_times z_letter z_items z_length z_entries) H → va_D A (cwModel kI kC a z_s z_text z_told z_formula z_states z_isKept z_typed z_at z_isRight z_times z_letter z_items z_length z_entries) → va_S A s.heap H locs → ∀ (ls : Array Slot), lv_has ls 5 [(0, .ref (a 0)), (3, .int v3)] → W p l e ({ frames := 5, cells := 0, slots := 0, locals := 109 } : Room) s m args below meth c H locs 0 0 (MQ below (va_Qi (fun (r : Int32) (u : (Nat → Int32) × (Nat → Int32) × Int32 × Int32 × Int32 × Int32 × Int32 × Int32) => Post r u.1 u.2.1 u.2.2.1 u.2.2.2.1 u.2.2.2.2.1 u.2.2.2.2.2.1 u.2.2.2.2.2.2.1 u.2.2.2.2.2.2.2) (BB D A (fun u : (Nat → Int32) × (Nat → Int32) × Int32 × Int32 × Int32 × Int32 × Int32 × Int32 => (cwModel kI kC a u.1 z_text u.2.1 z_formula u.2.2.1 z_isKept z_typed u.2.2.2.1 u.2.2.2.2.1 u.2.2.2.2.2.1 u.2.2.2.2.2.2.1 u.2.2.2.2.2.2.2 z_length z_entries))) A) args s 0 0 A) (F0 m 110 ls [])) (K130 : (Nat → Int32) → Int32 → Prop) (hK130 : ∀ (z_s : Nat → Int32) (v4 : Int32), K130 z_s v4 → ∀ (H : Heap) (locs : List Loc), va_P D vwCl (cwModel kI kC a z_s z_text z_told z_formula z_states z_isKept z_typed z_at z_isRight z_times z_letter z_items z_length z_entries) H → va_D A (cwModel kI kC a z_s z_text z_told z_formula z_states z_isKept z_typed z_at z_isRight z_times z_letter z_items z_length z_entries) → va_S A s.heap H locs → ∀ (ls : Array Slot), lv_has ls 5 [(0, .ref (a 0)), (3, .int v3), (4, .int v4)] → W p l e ({ frames := 5, cells := 0, slots := 0, locals := 109 } : Room) s m args below meth c H locs 0 0 (MQ below (va_Qi (fun (r : Int32) (u : (Nat → Int32) × (Nat → Int32) × Int32 × Int32 × Int32 × Int32 × Int32 × Int32) => Post r u.1 u.2.1 u.2.2.1 u.2.2.2.1 u.2.2.2.2.1 u.2.2.2.2.2.1 u.2.2.2.2.2.2.1 u.2.2.2.2.2.2.2) (BB D A (fun u : (Nat → Int32) × (Nat → Int32) × Int32 × Int32 × Int32 × Int32 × Int32 × Int32 => (cwModel kI kC a u.1 z_text u.2.1 z_formula u.2.2.1 z_isKept z_typed u.2.2.2.1 u.2.2.2.2.1 u.2.2.2.2.2.1 u.2.2.2.2.2.2.1 u.2.2.2.2.2.2.2 z_length z_entries))) A) args s 0 0 A) (F0 m 130 ls [])) : wj_X9_readFormula_159 z_s z_text z_told z_states z_typed z_at z_isRight z_times z_letter z_items v3 v4 K110 K130 Post → ∀ (H : Heap) (locs : List Loc), va_P D vwCl (cwModel kI kC a z_s z_text z_told z_formula z_states z_isKept z_typed z_at z_isRight z_times z_letter z_items z_length z_entries) H → va_D A (cwModel kI kC a z_s z_text z_told z_formula z_states z_isKept z_typed z_at z_isRight z_times z_letter z_items z_length z_entries) → va_S A s.heap H locs → ∀ (ls : Array Slot), lv_has ls 5 [(0, .ref (a 0)), (3, .int v3), (4, .int v4)] → W p l e ({ frames := 5, cells := 0, slots := 0, locals := 109 } : Room) s m args below meth c H locs 0 0 (MQ below (va_Qi (fun (r : Int32) (u : (Nat → Int32) × (Nat → Int32) × Int32 × Int32 × Int32 × Int32 × Int32 × Int32) => Post r u.1 u.2.1 u.2.2.1 u.2.2.2.1 u.2.2.2.2.1 u.2.2.2.2.2.1 u.2.2.2.2.2.2.1 u.2.2.2.2.2.2.2) (BB D A (fun u : (Nat → Int32) × (Nat → Int32) × Int32 × Int32 × Int32 × Int32 × Int32 × Int32 => (cwModel kI kC a u.1 z_text u.2.1 z_formula u.2.2.1 z_isKept z_typed u.2.2.2.1 u.2.2.2.2.1 u.2.2.2.2.2.1 u.2.2.2.2.2.2.1 u.2.2.2.2.2.2.2 z_length z_entries))) A) args s 0 0 A) (F0 m 159 ls []) := by
  obtain ⟨hx, hb, hr, hml, hown, hts, hlocks, hK⟩ := id C
  intro hw H locs hP hD hS ls hl
  refine lv_aload_n hx hb dX9_readFormula_159 rfl (lv_at hl 0 rfl) ?_
  refine lv_aload_n hx hb dX9_readFormula_160 rfl (lv_at hl 0 rfl) ?_
  refine va_get (D := D) (ci := 7) (v := .ref (a 1)) (C := RX9) (T := TX9) (N := 14) hx hb hts inX9 hown hK.1 hP 0 rfl rfl 0 (by decide) (hts _ tw_685) (fun _ h9 => h9) rfl dX9_readFormula_161 ?_
  refine lv_iconst (v := (nI 2)) hx hb dX9_readFormula_164 (by decide) ?_
  have hin := hw.1
  replace hw := hw.2
  refine va_iald hx hb hK.1 hP 1 0 rfl rfl hin dX9_readFormula_165 ?_
  refine lv_aload_n hx hb dX9_readFormula_166 rfl (lv_at hl 0 rfl) ?_
  refine va_get (D := D) (ci := 7) (v := .ref (a 3)) (C := RX9) (T := TX9) (N := 14) hx hb hts inX9 hown hK.1 hP 0 rfl rfl 9 (by decide) (hts _ tw_694) (fun _ h9 => h9) rfl dX9_readFormula_167 ?_
  refine lv_iconst (v := (nI 4)) hx hb dX9_readFormula_170 (by decide) ?_
  refine lv_iload_n hx hb dX9_readFormula_171 rfl (lv_at hl 1 rfl) ?_
  refine lv_imul hx hb dX9_readFormula_172 ?_
  have hin := hw.1
  replace hw := hw.2
  refine va_iald hx hb hK.1 hP 3 0 rfl rfl hin dX9_readFormula_173 ?_
  refine lv_iload hx hb dX9_readFormula_174 (lv_at hl 2 rfl) ?_
  refine lv_aload_n hx hb dX9_readFormula_176 rfl (lv_at hl 0 rfl) ?_
  refine va_get (D := D) (ci := 7) (v := .ref (a 3)) (C := RX9) (T := TX9) (N := 14) hx hb hts inX9 hown hK.1 hP 0 rfl rfl 9 (by decide) (hts _ tw_694) (fun _ h9 => h9) rfl dX9_readFormula_177 ?_
  refine lv_iconst (v := (nI 4)) hx hb dX9_readFormula_180 (by decide) ?_
  refine lv_iload_n hx hb dX9_readFormula_181 rfl (lv_at hl 1 rfl) ?_
  refine lv_imul hx hb dX9_readFormula_182 ?_
  refine lv_iconst (v := (nI 3)) hx hb dX9_readFormula_183 (by decide) ?_
  refine lv_iadd hx hb dX9_readFormula_184 ?_
  have hin := hw.1
  replace hw := hw.2
  refine va_iald hx hb hK.1 hP 3 0 rfl rfl hin dX9_readFormula_185 ?_
  refine kMVv (q0 := 0) (As := [.int (z_s (nI 2).toNatClampNeg), .int (z_told ((nI 4) * v3).toNatClampNeg), .int v4, .int (z_told (((nI 4) * v3) + (nI 3)).toNatClampNeg)]) (rest := []) C (c_X9_puts l D kI kC kB a z_s z_text z_told z_formula z_states z_isKept z_typed z_at z_isRight z_times z_letter z_items z_length z_entries H.size (z_s (nI 2).toNatClampNeg) (z_told ((nI 4) * v3).toNatClampNeg) v4 (z_told (((nI 4) * v3) + (nI 3)).toNatClampNeg) _ hw) ⟨rfl, rfl⟩ ce_X9_puts cv_X9_puts tw_791 ⟨Nat.le_of_ble_eq_true rfl, Nat.le_of_ble_eq_true rfl⟩ hP hD hS hA [0, 1, 2, 3, 4] rfl rfl (fun _ => rfl) rfl rfl rfl hl.1 rfl (Nat.le_of_ble_eq_true rfl) ⟨Nat.zero_le _, Nat.zero_le _⟩ dX9_readFormula_186 (fun u H locs hw hP hD hS => ?_)
  obtain ⟨u5, rfl⟩ : ∃ z, z = u := ⟨_, rfl⟩
  try dsimp only at hw
  replace hP : va_P D vwCl (cwModel kI kC a u5 z_text z_told z_formula z_states z_isKept z_typed z_at z_isRight z_times z_letter z_items z_length z_entries) H := hP
  replace hD : va_D A (cwModel kI kC a u5 z_text z_told z_formula z_states z_isKept z_typed z_at z_isRight z_times z_letter z_items z_length z_entries) := hD
  refine lv_iinc (v := (v4 + nI 1)) (lv' := [(4, .int (v4 + nI 1)), (0, .ref (a 0)), (3, .int v3)]) hx hb dX9_readFormula_189 hl (k := 2) rfl rfl (by decide) rfl (fun ls hl => ?_)
  refine lv_goto (tgt := 130) hx hb dX9_readFormula_192 (by decide) ?_
  exact hK130 u5 (v4 + nI 1) hw H locs hP hD hS ls (lv_sub hl [1, 2, 0] rfl)
set_option maxHeartbeats 4000000 in
set_option maxRecDepth 100000 in
theorem cl_X9_readFormula_130 (l : Launch) (D : va_G) (kI kC kB : ClassId) (a : AdT) (z_text : Nat → Int32) (z_told : Nat → Int32) (z_formula : Nat → Int32) (z_states : Int32) (z_isKept : Int32) (z_typed : Int32) (z_at : Int32) (z_isRight : Int32) (z_times : Int32) (z_letter : Int32) (z_items : Int32) (z_length : Int32) (z_entries : Int32) (v3 : Int32) (Post : Int32 → (Nat → Int32) → (Nat → Int32) → Int32 → Int32 → Int32 → Int32 → Int32 → Int32 → Prop) {p : Program} {e : Env} {s : State} {m : MethodId} {args : Array Value} {below : List Frame} {meth : Method} {c : Code} {A : Nat → Prop} (hA : ∀ q : Nat, s.heap.size ≤ q → A q) (C : CtxT p s m args meth c cX9_readFormula 5 (some .int) yX9_readFormula.cls D kI kC kB) (K110 : (Nat → Int32) → Int32 → Prop) (hK110 : ∀ (z_s : Nat → Int32) (v3 : Int32), K110 z_s v3 → ∀ (H : Heap) (locs : List Loc), va_P D vwCl (cwModel kI kC a z_s z_text z_told z_formula z_states z_isKept z_typed z_at z_isRight z_times z_letter z_items z_length z_entries) H → va_D A (cwModel kI kC a z_s z_text z_told z_formula z_states z_isKept z_typed z_at z_isRight z_times z_letter z_items z_length z_entries) → va_S A s.heap H locs → ∀ (ls : Array Slot), lv_has ls 5 [(0, .ref (a 0)), (3, .int v3)] → W p l e ({ frames := 5, cells := 0, slots := 0, locals := 109 } : Room) s m args below meth c H locs 0 0 (MQ below (va_Qi (fun (r : Int32) (u : (Nat → Int32) × (Nat → Int32) × Int32 × Int32 × Int32 × Int32 × Int32 × Int32) => Post r u.1 u.2.1 u.2.2.1 u.2.2.2.1 u.2.2.2.2.1 u.2.2.2.2.2.1 u.2.2.2.2.2.2.1 u.2.2.2.2.2.2.2) (BB D A (fun u : (Nat → Int32) × (Nat → Int32) × Int32 × Int32 × Int32 × Int32 × Int32 × Int32 => (cwModel kI kC a u.1 z_text u.2.1 z_formula u.2.2.1 z_isKept z_typed u.2.2.2.1 u.2.2.2.2.1 u.2.2.2.2.2.1 u.2.2.2.2.2.2.1 u.2.2.2.2.2.2.2 z_length z_entries))) A) args s 0 0 A) (F0 m 110 ls [])) : ∀ (n : Nat), ∀ (z_s : Nat → Int32) (v4 : Int32), wl_X9_readFormula_130 z_text z_told z_states z_typed z_at z_isRight z_times z_letter z_items v3 K110 Post n z_s v4 → ∀ (H : Heap) (locs : List Loc), va_P D vwCl (cwModel kI kC a z_s z_text z_told z_formula z_states z_isKept z_typed z_at z_isRight z_times z_letter z_items z_length z_entries) H → va_D A (cwModel kI kC a z_s z_text z_told z_formula z_states z_isKept z_typed z_at z_isRight z_times z_letter z_items z_length z_entries) → va_S A s.heap H locs → ∀ (ls : Array Slot), lv_has ls 5 [(0, .ref (a 0)), (3, .int v3), (4, .int v4)] → W p l e ({ frames := 5, cells := 0, slots := 0, locals := 109 } : Room) s m args below meth c H locs 0 0 (MQ below (va_Qi (fun (r : Int32) (u : (Nat → Int32) × (Nat → Int32) × Int32 × Int32 × Int32 × Int32 × Int32 × Int32) => Post r u.1 u.2.1 u.2.2.1 u.2.2.2.1 u.2.2.2.2.1 u.2.2.2.2.2.1 u.2.2.2.2.2.2.1 u.2.2.2.2.2.2.2) (BB D A (fun u : (Nat → Int32) × (Nat → Int32) × Int32 × Int32 × Int32 × Int32 × Int32 × Int32 => (cwModel kI kC a u.1 z_text u.2.1 z_formula u.2.2.1 z_isKept z_typed u.2.2.2.1 u.2.2.2.2.1 u.2.2.2.2.2.1 u.2.2.2.2.2.2.1 u.2.2.2.2.2.2.2 z_length z_entries))) A) args s 0 0 A) (F0 m 130 ls []) := by
  obtain ⟨hx, hb, hr, hml, hown, hts, hlocks, hK⟩ := id C
  intro n
  induction n with
  | zero => intro z_s v4 hw; exact hw.elim
  | succ n ih =>
    intro z_s v4 hw H locs hP hD hS ls hl
    refine lv_iload hx hb dX9_readFormula_130 (lv_at hl 2 rfl) ?_
    refine lv_aload_n hx hb dX9_readFormula_132 rfl (lv_at hl 0 rfl) ?_
    refine va_get (D := D) (ci := 7) (v := .ref (a 3)) (C := RX9) (T := TX9) (N := 14) hx hb hts inX9 hown hK.1 hP 0 rfl rfl 9 (by decide) (hts _ tw_694) (fun _ h9 => h9) rfl dX9_readFormula_133 ?_
    refine lv_iconst (v := (nI 4)) hx hb dX9_readFormula_136 (by decide) ?_
    refine lv_iload_n hx hb dX9_readFormula_137 rfl (lv_at hl 1 rfl) ?_
    refine lv_imul hx hb dX9_readFormula_138 ?_
    refine lv_iconst (v := (nI 2)) hx hb dX9_readFormula_139 (by decide) ?_
    refine lv_iadd hx hb dX9_readFormula_140 ?_
    have hin := hw.1
    replace hw := hw.2
    refine va_iald hx hb hK.1 hP 3 0 rfl rfl hin dX9_readFormula_141 ?_
    refine lv_icmp_gt (tgt := 195) hx hb dX9_readFormula_142 (by decide) (fun hc => ?_) (fun hc => ?_)
    · replace hw := hw.1 hc
      refine lv_iinc (v := (v3 + nI 1)) (lv' := [(3, .int (v3 + nI 1)), (0, .ref (a 0)), (4, .int v4)]) hx hb dX9_readFormula_195 hl (k := 1) rfl rfl (by decide) rfl (fun ls hl => ?_)
      refine lv_goto (tgt := 110) hx hb dX9_readFormula_198 (by decide) ?_
      exact hK110 z_s (v3 + nI 1) hw H locs hP hD hS ls (lv_sub hl [1, 0] rfl)
    · replace hw := hw.2 hc
      refine lv_iload hx hb dX9_readFormula_145 (lv_at hl 2 rfl) ?_
      refine lv_if_lt (tgt := 159) hx hb dX9_readFormula_147 (by decide) (fun hc => ?_) (fun hc => ?_)
      · replace hw := hw.1 hc
        exact cj_X9_readFormula_159 l D kI kC kB a z_s z_text z_told z_formula z_states z_isKept z_typed z_at z_isRight z_times z_letter z_items z_length z_entries v3 v4 Post hA C _ hK110 _ ih hw H locs hP hD hS ls (lv_sub hl [0, 1, 2] rfl)
      · replace hw := hw.2 hc
        refine lv_aload_n hx hb dX9_readFormula_150 rfl (lv_at hl 0 rfl) ?_
        refine lv_iload hx hb dX9_readFormula_151 (lv_at hl 2 rfl) ?_
        refine kRV (As := [.int v4]) (rest := []) (q0 := 0) C (c_X9_isOut l D kI kC kB a z_s z_text z_told z_formula z_states z_isKept z_typed z_at z_isRight z_times z_letter z_items z_length z_entries v4 _ hw) ⟨rfl, rfl⟩ ce_X9_isOut cv_X9_isOut tw_736 ⟨Nat.le_of_ble_eq_true rfl, Nat.le_of_ble_eq_true rfl⟩ hP [0, 1, 2, 3, 4] rfl rfl rfl rfl hl.1 rfl (Nat.le_of_ble_eq_true rfl) ⟨Nat.zero_le _, Nat.zero_le _⟩ dX9_readFormula_153 (fun r6 hw => ?_)
        refine lv_if_ne (tgt := 189) hx hb dX9_readFormula_156 (by decide) (fun hc => ?_) (fun hc => ?_)
        · replace hw := hw.2 hc
          refine lv_iinc (v := (v4 + nI 1)) (lv' := [(4, .int (v4 + nI 1)), (0, .ref (a 0)), (3, .int v3)]) hx hb dX9_readFormula_189 hl (k := 2) rfl rfl (by decide) rfl (fun ls hl => ?_)
          refine lv_goto (tgt := 130) hx hb dX9_readFormula_192 (by decide) ?_
          exact ih z_s (v4 + nI 1) hw H locs hP hD hS ls (lv_sub hl [1, 2, 0] rfl)
        · replace hw := hw.1 hc
          exact cj_X9_readFormula_159 l D kI kC kB a z_s z_text z_told z_formula z_states z_isKept z_typed z_at z_isRight z_times z_letter z_items z_length z_entries v3 v4 Post hA C _ hK110 _ ih hw H locs hP hD hS ls (lv_sub hl [0, 1, 2] rfl)
set_option maxHeartbeats 4000000 in
set_option maxRecDepth 100000 in
theorem cl_X9_readFormula_110 (l : Launch) (D : va_G) (kI kC kB : ClassId) (a : AdT) (z_text : Nat → Int32) (z_told : Nat → Int32) (z_formula : Nat → Int32) (z_states : Int32) (z_isKept : Int32) (z_typed : Int32) (z_at : Int32) (z_isRight : Int32) (z_times : Int32) (z_letter : Int32) (z_items : Int32) (z_length : Int32) (z_entries : Int32) (Post : Int32 → (Nat → Int32) → (Nat → Int32) → Int32 → Int32 → Int32 → Int32 → Int32 → Int32 → Prop) {p : Program} {e : Env} {s : State} {m : MethodId} {args : Array Value} {below : List Frame} {meth : Method} {c : Code} {A : Nat → Prop} (hA : ∀ q : Nat, s.heap.size ≤ q → A q) (C : CtxT p s m args meth c cX9_readFormula 5 (some .int) yX9_readFormula.cls D kI kC kB) : ∀ (n : Nat), ∀ (z_s : Nat → Int32) (v3 : Int32), wl_X9_readFormula_110 z_text z_told z_states z_typed z_at z_isRight z_times z_letter z_items Post n z_s v3 → ∀ (H : Heap) (locs : List Loc), va_P D vwCl (cwModel kI kC a z_s z_text z_told z_formula z_states z_isKept z_typed z_at z_isRight z_times z_letter z_items z_length z_entries) H → va_D A (cwModel kI kC a z_s z_text z_told z_formula z_states z_isKept z_typed z_at z_isRight z_times z_letter z_items z_length z_entries) → va_S A s.heap H locs → ∀ (ls : Array Slot), lv_has ls 5 [(0, .ref (a 0)), (3, .int v3)] → W p l e ({ frames := 5, cells := 0, slots := 0, locals := 109 } : Room) s m args below meth c H locs 0 0 (MQ below (va_Qi (fun (r : Int32) (u : (Nat → Int32) × (Nat → Int32) × Int32 × Int32 × Int32 × Int32 × Int32 × Int32) => Post r u.1 u.2.1 u.2.2.1 u.2.2.2.1 u.2.2.2.2.1 u.2.2.2.2.2.1 u.2.2.2.2.2.2.1 u.2.2.2.2.2.2.2) (BB D A (fun u : (Nat → Int32) × (Nat → Int32) × Int32 × Int32 × Int32 × Int32 × Int32 × Int32 => (cwModel kI kC a u.1 z_text u.2.1 z_formula u.2.2.1 z_isKept z_typed u.2.2.2.1 u.2.2.2.2.1 u.2.2.2.2.2.1 u.2.2.2.2.2.2.1 u.2.2.2.2.2.2.2 z_length z_entries))) A) args s 0 0 A) (F0 m 110 ls []) := by
  obtain ⟨hx, hb, hr, hml, hown, hts, hlocks, hK⟩ := id C
  intro n
  induction n with
  | zero => intro z_s v3 hw; exact hw.elim
  | succ n ih =>
    intro z_s v3 hw H locs hP hD hS ls hl
    refine lv_iload_n hx hb dX9_readFormula_110 rfl (lv_at hl 1 rfl) ?_
    refine lv_aload_n hx hb dX9_readFormula_111 rfl (lv_at hl 0 rfl) ?_
    refine va_get (D := D) (ci := 7) (v := .int z_items) (C := RX9) (T := TX9) (N := 14) hx hb hts inX9 hown hK.1 hP 0 rfl rfl 10 (by decide) (hts _ tw_695) (fun _ h9 => h9) rfl dX9_readFormula_112 ?_
    refine lv_icmp_ge (tgt := 201) hx hb dX9_readFormula_115 (by decide) (fun hc => ?_) (fun hc => ?_)
    · replace hw := hw.1 hc
      refine lv_aload_n hx hb dX9_readFormula_201 rfl (lv_at hl 0 rfl) ?_
      refine va_get (D := D) (ci := 7) (v := .ref (a 1)) (C := RX9) (T := TX9) (N := 14) hx hb hts inX9 hown hK.1 hP 0 rfl rfl 0 (by decide) (hts _ tw_685) (fun _ h9 => h9) rfl dX9_readFormula_202 ?_
      refine lv_iconst (v := (nI 2)) hx hb dX9_readFormula_205 (by decide) ?_
      have hin := hw.1
      replace hw := hw.2
      refine va_iald hx hb hK.1 hP 1 0 rfl rfl hin dX9_readFormula_206 ?_
      exact retMi C (z_s, z_told, z_states, z_at, z_isRight, z_times, z_letter, z_items) hw hP hD hS dX9_readFormula_207
    · replace hw := hw.2 hc
      refine lv_aload_n hx hb dX9_readFormula_118 rfl (lv_at hl 0 rfl) ?_
      refine va_get (D := D) (ci := 7) (v := .ref (a 3)) (C := RX9) (T := TX9) (N := 14) hx hb hts inX9 hown hK.1 hP 0 rfl rfl 9 (by decide) (hts _ tw_694) (fun _ h9 => h9) rfl dX9_readFormula_119 ?_
      refine lv_iconst (v := (nI 4)) hx hb dX9_readFormula_122 (by decide) ?_
      refine lv_iload_n hx hb dX9_readFormula_123 rfl (lv_at hl 1 rfl) ?_
      refine lv_imul hx hb dX9_readFormula_124 ?_
      refine lv_iconst (v := (nI 1)) hx hb dX9_readFormula_125 (by decide) ?_
      refine lv_iadd hx hb dX9_readFormula_126 ?_
      have hin := hw.1
      replace hw := hw.2
      refine va_iald hx hb hK.1 hP 3 0 rfl rfl hin dX9_readFormula_127 ?_
      refine lv_topi (fun y7 ey7 => ?_)
      replace hw := hw y7 ey7
      refine lv_istore (lv' := [(4, .int y7), (0, .ref (a 0)), (3, .int v3)]) hx hb dX9_readFormula_128 hl (by decide) rfl (fun ls hl => ?_)
      obtain ⟨n9, hw⟩ := hw
      exact cl_X9_readFormula_130 l D kI kC kB a z_text z_told z_formula z_states z_isKept z_typed z_at z_isRight z_times z_letter z_items z_length z_entries v3 Post hA C _ ih n9 z_s y7 hw H locs hP hD hS ls (lv_sub hl [1, 2, 0] rfl)
set_option maxHeartbeats 4000000 in
set_option maxRecDepth 100000 in
theorem cl_X9_readFormula_19 (l : Launch) (D : va_G) (kI kC kB : ClassId) (a : AdT) (z_s : Nat → Int32) (z_text : Nat → Int32) (z_told : Nat → Int32) (z_formula : Nat → Int32) (z_states : Int32) (z_isKept : Int32) (z_typed : Int32) (z_at : Int32) (z_isRight : Int32) (z_times : Int32) (z_letter : Int32) (z_items : Int32) (z_length : Int32) (z_entries : Int32) (Post : Int32 → (Nat → Int32) → (Nat → Int32) → Int32 → Int32 → Int32 → Int32 → Int32 → Int32 → Prop) {p : Program} {e : Env} {s : State} {m : MethodId} {args : Array Value} {below : List Frame} {meth : Method} {c : Code} {A : Nat → Prop} (hA : ∀ q : Nat, s.heap.size ≤ q → A q) (C : CtxT p s m args meth c cX9_readFormula 5 (some .int) yX9_readFormula.cls D kI kC kB) : ∀ (n : Nat), ∀ (v2 : Int32) (v3 : Int32), wl_X9_readFormula_19 z_s z_text z_told z_states z_typed z_at z_isRight z_times z_letter z_items Post n v2 v3 → ∀ (H : Heap) (locs : List Loc), va_P D vwCl (cwModel kI kC a z_s z_text z_told z_formula z_states z_isKept z_typed z_at z_isRight z_times z_letter z_items z_length z_entries) H → va_D A (cwModel kI kC a z_s z_text z_told z_formula z_states z_isKept z_typed z_at z_isRight z_times z_letter z_items z_length z_entries) → va_S A s.heap H locs → ∀ (ls : Array Slot), lv_has ls 5 [(0, .ref (a 0)), (2, .int v2), (3, .int v3)] → W p l e ({ frames := 5, cells := 0, slots := 0, locals := 109 } : Room) s m args below meth c H locs 0 0 (MQ below (va_Qi (fun (r : Int32) (u : (Nat → Int32) × (Nat → Int32) × Int32 × Int32 × Int32 × Int32 × Int32 × Int32) => Post r u.1 u.2.1 u.2.2.1 u.2.2.2.1 u.2.2.2.2.1 u.2.2.2.2.2.1 u.2.2.2.2.2.2.1 u.2.2.2.2.2.2.2) (BB D A (fun u : (Nat → Int32) × (Nat → Int32) × Int32 × Int32 × Int32 × Int32 × Int32 × Int32 => (cwModel kI kC a u.1 z_text u.2.1 z_formula u.2.2.1 z_isKept z_typed u.2.2.2.1 u.2.2.2.2.1 u.2.2.2.2.2.1 u.2.2.2.2.2.2.1 u.2.2.2.2.2.2.2 z_length z_entries))) A) args s 0 0 A) (F0 m 19 ls []) := by
  obtain ⟨hx, hb, hr, hml, hown, hts, hlocks, hK⟩ := id C
  intro n
  induction n with
  | zero => intro v2 v3 hw; exact hw.elim
  | succ n ih =>
    intro v2 v3 hw H locs hP hD hS ls hl
    refine lv_iload_n hx hb dX9_readFormula_19 rfl (lv_at hl 2 rfl) ?_
    refine lv_aload_n hx hb dX9_readFormula_20 rfl (lv_at hl 0 rfl) ?_
    refine va_get (D := D) (ci := 7) (v := .int z_items) (C := RX9) (T := TX9) (N := 14) hx hb hts inX9 hown hK.1 hP 0 rfl rfl 10 (by decide) (hts _ tw_695) (fun _ h9 => h9) rfl dX9_readFormula_21 ?_
    refine lv_icmp_ge (tgt := 88) hx hb dX9_readFormula_24 (by decide) (fun hc => ?_) (fun hc => ?_)
    · replace hw := hw.1 hc
      refine lv_iload_n hx hb dX9_readFormula_88 rfl (lv_at hl 1 rfl) ?_
      refine lv_bipush (v := (nI 40)) hx hb dX9_readFormula_89 (by decide) ?_
      refine lv_aload_n hx hb dX9_readFormula_91 rfl (lv_at hl 0 rfl) ?_
      refine va_get (D := D) (ci := 7) (v := .ref (a 1)) (C := RX9) (T := TX9) (N := 14) hx hb hts inX9 hown hK.1 hP 0 rfl rfl 0 (by decide) (hts _ tw_685) (fun _ h9 => h9) rfl dX9_readFormula_92 ?_
      refine lv_iconst (v := (nI 2)) hx hb dX9_readFormula_95 (by decide) ?_
      have hin := hw.1
      replace hw := hw.2
      refine va_iald hx hb hK.1 hP 1 0 rfl rfl hin dX9_readFormula_96 ?_
      refine lv_isub hx hb dX9_readFormula_97 ?_
      refine lv_icmp_le (tgt := 104) hx hb dX9_readFormula_98 (by decide) (fun hc => ?_) (fun hc => ?_)
      · replace hw := hw.1 hc
        refine lv_aload_n hx hb dX9_readFormula_104 rfl (lv_at hl 0 rfl) ?_
        refine kMVv (q0 := 0) (As := []) (rest := []) C (c_X9_records l D kI kC kB a z_s z_text z_told z_formula z_states z_isKept z_typed z_at z_isRight z_times z_letter z_items z_length z_entries H.size _ hw) ⟨rfl, rfl⟩ ce_X9_records cv_X9_records tw_744 ⟨Nat.le_of_ble_eq_true rfl, Nat.le_of_ble_eq_true rfl⟩ hP hD hS hA [0, 1, 2, 3, 4] rfl rfl (fun _ => rfl) rfl rfl rfl hl.1 rfl (Nat.le_of_ble_eq_true rfl) ⟨Nat.zero_le _, Nat.zero_le _⟩ dX9_readFormula_105 (fun u H locs hw hP hD hS => ?_)
        obtain ⟨u8, u9⟩ := u
        try dsimp only at hw
        replace hP : va_P D vwCl (cwModel kI kC a u8 z_text z_told z_formula u9 z_isKept z_typed z_at z_isRight z_times z_letter z_items z_length z_entries) H := hP
        replace hD : va_D A (cwModel kI kC a u8 z_text z_told z_formula u9 z_isKept z_typed z_at z_isRight z_times z_letter z_items z_length z_entries) := hD
        refine lv_iconst (v := (nI 0)) hx hb dX9_readFormula_108 (by decide) ?_
        refine lv_istore_n (lv' := [(3, .int (nI 0)), (0, .ref (a 0)), (2, .int v2)]) hx hb dX9_readFormula_109 rfl hl (by decide) rfl (fun ls hl => ?_)
        obtain ⟨n9, hw⟩ := hw
        exact cl_X9_readFormula_110 l D kI kC kB a z_text z_told z_formula u9 z_isKept z_typed z_at z_isRight z_times z_letter z_items z_length z_entries Post hA C n9 u8 (nI 0) hw H locs hP hD hS ls (lv_sub hl [1, 0] rfl)
      · replace hw := hw.2 hc
        refine lv_bipush (v := (-3)) hx hb dX9_readFormula_101 (by decide) ?_
        exact retMi C (z_s, z_told, z_states, z_at, z_isRight, z_times, z_letter, z_items) hw hP hD hS dX9_readFormula_103
    · replace hw := hw.2 hc
      refine lv_aload_n hx hb dX9_readFormula_27 rfl (lv_at hl 0 rfl) ?_
      refine va_get (D := D) (ci := 7) (v := .ref (a 3)) (C := RX9) (T := TX9) (N := 14) hx hb hts inX9 hown hK.1 hP 0 rfl rfl 9 (by decide) (hts _ tw_694) (fun _ h9 => h9) rfl dX9_readFormula_28 ?_
      refine lv_iconst (v := (nI 4)) hx hb dX9_readFormula_31 (by decide) ?_
      refine lv_iload_n hx hb dX9_readFormula_32 rfl (lv_at hl 2 rfl) ?_
      refine lv_imul hx hb dX9_readFormula_33 ?_
      refine lv_iconst (v := (nI 1)) hx hb dX9_readFormula_34 (by decide) ?_
      refine lv_iadd hx hb dX9_readFormula_35 ?_
      have hin := hw.1
      replace hw := hw.2
      refine va_iald hx hb hK.1 hP 3 0 rfl rfl hin dX9_readFormula_36 ?_
      refine lv_topi (fun y10 ey10 => ?_)
      replace hw := hw y10 ey10
      refine lv_istore (lv' := [(4, .int y10), (0, .ref (a 0)), (2, .int v2), (3, .int v3)]) hx hb dX9_readFormula_37 hl (by decide) rfl (fun ls hl => ?_)
      obtain ⟨n9, hw⟩ := hw
      exact cl_X9_readFormula_39 l D kI kC kB a z_s z_text z_told z_formula z_states z_isKept z_typed z_at z_isRight z_times z_letter z_items z_length z_entries v3 Post hA C _ ih n9 v2 y10 hw H locs hP hD hS ls (lv_sub hl [1, 2, 3, 0] rfl)
set_option maxHeartbeats 4000000 in
set_option maxRecDepth 100000 in
theorem c_X9_readFormula (l : Launch) (D : va_G) (kI kC kB : ClassId) (a : AdT) (z_s : Nat → Int32) (z_text : Nat → Int32) (z_told : Nat → Int32) (z_formula : Nat → Int32) (z_states : Int32) (z_isKept : Int32) (z_typed : Int32) (z_at : Int32) (z_isRight : Int32) (z_times : Int32) (z_letter : Int32) (z_items : Int32) (z_length : Int32) (z_entries : Int32) (sz : Nat) (Post : Int32 → (Nat → Int32) → (Nat → Int32) → Int32 → Int32 → Int32 → Int32 → Int32 → Int32 → Prop) (hw : wp_X9_readFormula z_s z_text z_told z_states z_typed z_at z_isRight z_times z_letter z_items Post) : CMi l D kI kC kB yX9_readFormula cX9_readFormula 5 (some .int) ({ frames := 5, cells := 0, slots := 0, locals := 109 } : Room) [.ref (a 0)] (cwModel kI kC a z_s z_text z_told z_formula z_states z_isKept z_typed z_at z_isRight z_times z_letter z_items z_length z_entries) sz (fun (r : Int32) (u : (Nat → Int32) × (Nat → Int32) × Int32 × Int32 × Int32 × Int32 × Int32 × Int32) => Post r u.1 u.2.1 u.2.2.1 u.2.2.2.1 u.2.2.2.2.1 u.2.2.2.2.2.1 u.2.2.2.2.2.2.1 u.2.2.2.2.2.2.2) (fun u : (Nat → Int32) × (Nat → Int32) × Int32 × Int32 × Int32 × Int32 × Int32 × Int32 => (cwModel kI kC a u.1 z_text u.2.1 z_formula u.2.2.1 z_isKept z_typed u.2.2.2.1 u.2.2.2.2.1 u.2.2.2.2.2.1 u.2.2.2.2.2.2.1 u.2.2.2.2.2.2.2 z_length z_entries)) := by
  refine entMi (by decide) (Nat.le_of_ble_eq_true rfl) ?_
  intro p e s m args below meth c ls A C hA hP hD hS hl
  obtain ⟨H, hHe⟩ : ∃ H, H = s.heap := ⟨_, rfl⟩
  obtain ⟨locs, hlo⟩ : ∃ lo : List Loc, lo = [] := ⟨_, rfl⟩
  have hS : va_S A s.heap H locs := by rw [hHe, hlo]; exact hS
  rw [← hHe] at hP
  suffices hg : W p l e ({ frames := 5, cells := 0, slots := 0, locals := 109 } : Room) s m args below meth c H locs 0 0 (MQ below (va_Qi (fun (r : Int32) (u : (Nat → Int32) × (Nat → Int32) × Int32 × Int32 × Int32 × Int32 × Int32 × Int32) => Post r u.1 u.2.1 u.2.2.1 u.2.2.2.1 u.2.2.2.2.1 u.2.2.2.2.2.1 u.2.2.2.2.2.2.1 u.2.2.2.2.2.2.2) (BB D A (fun u : (Nat → Int32) × (Nat → Int32) × Int32 × Int32 × Int32 × Int32 × Int32 × Int32 => (cwModel kI kC a u.1 z_text u.2.1 z_formula u.2.2.1 z_isKept z_typed u.2.2.2.1 u.2.2.2.2.1 u.2.2.2.2.2.1 u.2.2.2.2.2.2.1 u.2.2.2.2.2.2.2 z_length z_entries))) A) args s 0 0 A) (F0 m 0 ls []) by rw [hHe, hlo] at hg; exact hg
  replace hl : lv_has ls 5 [(0, .ref (a 0))] := hl
  obtain ⟨hx, hb, hr, hml, hown, hts, hlocks, hK⟩ := id C
  refine lv_aload_n hx hb dX9_readFormula_0 rfl (lv_at hl 0 rfl) ?_
  refine lv_iconst (v := (nI 1)) hx hb dX9_readFormula_1 (by decide) ?_
  refine kMVi (q0 := 0) (As := [.int (nI 1)]) (rest := []) C (c_X9_fault l D kI kC kB a z_s z_text z_told z_formula z_states z_isKept z_typed z_at z_isRight z_times z_letter z_items z_length z_entries H.size (nI 1) _ hw) ⟨rfl, rfl⟩ ce_X9_fault cv_X9_fault tw_771 ⟨Nat.le_of_ble_eq_true rfl, Nat.le_of_ble_eq_true rfl⟩ hP hD hS hA [0, 1, 2, 3, 4] rfl rfl (fun _ => rfl) rfl rfl rfl hl.1 rfl (Nat.le_of_ble_eq_true rfl) ⟨Nat.zero_le _, Nat.zero_le _⟩ dX9_readFormula_2 (fun r11 u H locs hw hP hD hS => ?_)
  obtain ⟨u12, u13, u14, u15, u16, u17⟩ := u
  try dsimp only at hw
  replace hP : va_P D vwCl (cwModel kI kC a z_s z_text u12 z_formula z_states z_isKept z_typed u13 u14 u15 u16 u17 z_length z_entries) H := hP
  replace hD : va_D A (cwModel kI kC a z_s z_text u12 z_formula z_states z_isKept z_typed u13 u14 u15 u16 u17 z_length z_entries) := hD
  refine lv_istore_n (lv' := [(1, .int r11), (0, .ref (a 0))]) hx hb dX9_readFormula_5 rfl hl (by decide) rfl (fun ls hl => ?_)
  refine lv_iload_n hx hb dX9_readFormula_6 rfl (lv_at hl 0 rfl) ?_
  refine lv_if_lt (tgt := 15) hx hb dX9_readFormula_7 (by decide) (fun hc => ?_) (fun hc => ?_)
  · replace hw := hw.1 hc
    refine lv_iconst (v := (nI 0)) hx hb dX9_readFormula_15 (by decide) ?_
    refine lv_istore_n (lv' := [(2, .int (nI 0)), (1, .int r11), (0, .ref (a 0))]) hx hb dX9_readFormula_16 rfl hl (by decide) rfl (fun ls hl => ?_)
    refine lv_iconst (v := (nI 0)) hx hb dX9_readFormula_17 (by decide) ?_
    refine lv_istore_n (lv' := [(3, .int (nI 0)), (2, .int (nI 0)), (1, .int r11), (0, .ref (a 0))]) hx hb dX9_readFormula_18 rfl hl (by decide) rfl (fun ls hl => ?_)
    obtain ⟨n9, hw⟩ := hw
    exact cl_X9_readFormula_19 l D kI kC kB a z_s z_text u12 z_formula z_states z_isKept z_typed u13 u14 u15 u16 u17 z_length z_entries Post hA C n9 (nI 0) (nI 0) hw H locs hP hD hS ls (lv_sub hl [3, 1, 0] rfl)
  · replace hw := hw.2 hc
    refine lv_bipush (v := (-100)) hx hb dX9_readFormula_10 (by decide) ?_
    refine lv_iload_n hx hb dX9_readFormula_12 rfl (lv_at hl 0 rfl) ?_
    refine lv_isub hx hb dX9_readFormula_13 ?_
    exact retMi C (z_s, u12, z_states, u13, u14, u15, u16, u17) hw hP hD hS dX9_readFormula_14
set_option maxHeartbeats 4000000 in
set_option maxRecDepth 100000 in
theorem cl_X9_signNext_31 (l : Launch) (D : va_G) (kI kC kB : ClassId) (a : AdT) (z_s : Nat → Int32) (z_text : Nat → Int32) (z_told : Nat → Int32) (z_formula : Nat → Int32) (z_states : Int32) (z_isKept : Int32) (z_typed : Int32) (z_at : Int32) (z_isRight : Int32) (z_times : Int32) (z_letter : Int32) (z_items : Int32) (z_length : Int32) (z_entries : Int32) (p1 : Int32) (Post : Int32 → (Nat → Int32) → Int32 → Prop) {p : Program} {e : Env} {s : State} {m : MethodId} {args : Array Value} {below : List Frame} {meth : Method} {c : Code} {A : Nat → Prop} (hA : ∀ q : Nat, s.heap.size ≤ q → A q) (C : CtxT p s m args meth c cX9_signNext 4 (some .int) yX9_signNext.cls D kI kC kB) : ∀ (n : Nat), ∀ (v2 : Int32) (v3 : Int32), wl_X9_signNext_31 z_s z_states p1 Post n v2 v3 → ∀ (H : Heap) (locs : List Loc), va_P D vwCl (cwModel kI kC a z_s z_text z_told z_formula z_states z_isKept z_typed z_at z_isRight z_times z_letter z_items z_length z_entries) H → va_D A (cwModel kI kC a z_s z_text z_told z_formula z_states z_isKept z_typed z_at z_isRight z_times z_letter z_items z_length z_entries) → va_S A s.heap H locs → ∀ (ls : Array Slot), lv_has ls 4 [(0, .ref (a 0)), (1, .int p1), (2, .int v2), (3, .int v3)] → W p l e ({ frames := 2, cells := 0, slots := 0, locals := 47 } : Room) s m args below meth c H locs 0 0 (MQ below (va_Qi (fun (r : Int32) (u : (Nat → Int32) × Int32) => Post r u.1 u.2) (BB D A (fun u : (Nat → Int32) × Int32 => (cwModel kI kC a u.1 z_text z_told z_formula u.2 z_isKept z_typed z_at z_isRight z_times z_letter z_items z_length z_entries))) A) args s 0 0 A) (F0 m 31 ls []) := by
  obtain ⟨hx, hb, hr, hml, hown, hts, hlocks, hK⟩ := id C
  intro n
  induction n with
  | zero => intro v2 v3 hw; exact hw.elim
  | succ n ih =>
    intro v2 v3 hw H locs hP hD hS ls hl
    refine lv_iload_n hx hb dX9_signNext_31 rfl (lv_at hl 3 rfl) ?_
    refine lv_aload_n hx hb dX9_signNext_32 rfl (lv_at hl 0 rfl) ?_
    refine va_get (D := D) (ci := 7) (v := .ref (a 1)) (C := RX9) (T := TX9) (N := 14) hx hb hts inX9 hown hK.1 hP 0 rfl rfl 0 (by decide) (hts _ tw_685) (fun _ h9 => h9) rfl dX9_signNext_33 ?_
    refine lv_iconst (v := (nI 2)) hx hb dX9_signNext_36 (by decide) ?_
    have hin := hw.1
    replace hw := hw.2
    refine va_iald hx hb hK.1 hP 1 0 rfl rfl hin dX9_signNext_37 ?_
    refine lv_icmp_ge (tgt := 65) hx hb dX9_signNext_38 (by decide) (fun hc => ?_) (fun hc => ?_)
    · replace hw := hw.1 hc
      refine lv_aload_n hx hb dX9_signNext_65 rfl (lv_at hl 0 rfl) ?_
      refine lv_iload_n hx hb dX9_signNext_66 rfl (lv_at hl 2 rfl) ?_
      refine kRV (As := [.int v2]) (rest := []) (q0 := 0) C (c_X9_next l D kI kC kB a z_s z_text z_told z_formula z_states z_isKept z_typed z_at z_isRight z_times z_letter z_items z_length z_entries v2 _ hw) ⟨rfl, rfl⟩ ce_X9_next cv_X9_next tw_807 ⟨Nat.le_of_ble_eq_true rfl, Nat.le_of_ble_eq_true rfl⟩ hP [0, 1, 2, 3, 4] rfl rfl rfl rfl hl.1 rfl (Nat.le_of_ble_eq_true rfl) ⟨Nat.zero_le _, Nat.zero_le _⟩ dX9_signNext_67 (fun r1 hw => ?_)
      refine lv_istore_n (lv' := [(3, .int r1), (0, .ref (a 0)), (1, .int p1), (2, .int v2)]) hx hb dX9_signNext_70 rfl hl (by decide) rfl (fun ls hl => ?_)
      refine lv_iload_n hx hb dX9_signNext_71 rfl (lv_at hl 0 rfl) ?_
      refine lv_if_ge (tgt := 78) hx hb dX9_signNext_72 (by decide) (fun hc => ?_) (fun hc => ?_)
      · replace hw := hw.1 hc
        refine lv_aload_n hx hb dX9_signNext_78 rfl (lv_at hl 1 rfl) ?_
        refine kMVv (q0 := 0) (As := []) (rest := []) C (c_X9_records l D kI kC kB a z_s z_text z_told z_formula z_states z_isKept z_typed z_at z_isRight z_times z_letter z_items z_length z_entries H.size _ hw) ⟨rfl, rfl⟩ ce_X9_records cv_X9_records tw_744 ⟨Nat.le_of_ble_eq_true rfl, Nat.le_of_ble_eq_true rfl⟩ hP hD hS hA [0, 1, 2, 3, 4] rfl rfl (fun _ => rfl) rfl rfl rfl hl.1 rfl (Nat.le_of_ble_eq_true rfl) ⟨Nat.zero_le _, Nat.zero_le _⟩ dX9_signNext_79 (fun u H locs hw hP hD hS => ?_)
        obtain ⟨u2, u3⟩ := u
        try dsimp only at hw
        replace hP : va_P D vwCl (cwModel kI kC a u2 z_text z_told z_formula u3 z_isKept z_typed z_at z_isRight z_times z_letter z_items z_length z_entries) H := hP
        replace hD : va_D A (cwModel kI kC a u2 z_text z_told z_formula u3 z_isKept z_typed z_at z_isRight z_times z_letter z_items z_length z_entries) := hD
        refine lv_aload_n hx hb dX9_signNext_82 rfl (lv_at hl 1 rfl) ?_
        refine lv_aload_n hx hb dX9_signNext_83 rfl (lv_at hl 1 rfl) ?_
        refine va_get (D := D) (ci := 7) (v := .ref (a 1)) (C := RX9) (T := TX9) (N := 14) hx hb hts inX9 hown hK.1 hP 0 rfl rfl 0 (by decide) (hts _ tw_685) (fun _ h9 => h9) rfl dX9_signNext_84 ?_
        refine lv_iconst (v := (nI 2)) hx hb dX9_signNext_87 (by decide) ?_
        have hin := hw.1
        replace hw := hw.2
        refine va_iald hx hb hK.1 hP 1 0 rfl rfl hin dX9_signNext_88 ?_
        refine lv_iload_n hx hb dX9_signNext_89 rfl (lv_at hl 0 rfl) ?_
        refine lv_bipush (v := (nI 26)) hx hb dX9_signNext_90 (by decide) ?_
        refine lv_idiv hx hb dX9_signNext_92 (by decide) ?_
        refine lv_iconst (v := (nI 1)) hx hb dX9_signNext_93 (by decide) ?_
        refine lv_iadd hx hb dX9_signNext_94 ?_
        refine lv_iload_n hx hb dX9_signNext_95 rfl (lv_at hl 0 rfl) ?_
        refine lv_bipush (v := (nI 26)) hx hb dX9_signNext_96 (by decide) ?_
        refine lv_irem hx hb dX9_signNext_98 (by decide) ?_
        refine lv_iload_n hx hb dX9_signNext_99 rfl (lv_at hl 2 rfl) ?_
        refine kMVv (q0 := 0) (As := [.int (u2 (nI 2).toNatClampNeg), .int ((r1 / (nI 26)) + (nI 1)), .int (r1 - r1 / (nI 26) * (nI 26)), .int p1]) (rest := []) C (c_X9_puts l D kI kC kB a u2 z_text z_told z_formula u3 z_isKept z_typed z_at z_isRight z_times z_letter z_items z_length z_entries H.size (u2 (nI 2).toNatClampNeg) ((r1 / (nI 26)) + (nI 1)) (r1 - r1 / (nI 26) * (nI 26)) p1 _ hw) ⟨rfl, rfl⟩ ce_X9_puts cv_X9_puts tw_791 ⟨Nat.le_of_ble_eq_true rfl, Nat.le_of_ble_eq_true rfl⟩ hP hD hS hA [0, 1, 2, 3, 4] rfl rfl (fun _ => rfl) rfl rfl rfl hl.1 rfl (Nat.le_of_ble_eq_true rfl) ⟨Nat.zero_le _, Nat.zero_le _⟩ dX9_signNext_100 (fun u H locs hw hP hD hS => ?_)
        obtain ⟨u4, rfl⟩ : ∃ z, z = u := ⟨_, rfl⟩
        try dsimp only at hw
        replace hP : va_P D vwCl (cwModel kI kC a u4 z_text z_told z_formula u3 z_isKept z_typed z_at z_isRight z_times z_letter z_items z_length z_entries) H := hP
        replace hD : va_D A (cwModel kI kC a u4 z_text z_told z_formula u3 z_isKept z_typed z_at z_isRight z_times z_letter z_items z_length z_entries) := hD
        refine lv_aload_n hx hb dX9_signNext_103 rfl (lv_at hl 1 rfl) ?_
        refine va_get (D := D) (ci := 7) (v := .ref (a 1)) (C := RX9) (T := TX9) (N := 14) hx hb hts inX9 hown hK.1 hP 0 rfl rfl 0 (by decide) (hts _ tw_685) (fun _ h9 => h9) rfl dX9_signNext_104 ?_
        refine lv_iconst (v := (nI 2)) hx hb dX9_signNext_107 (by decide) ?_
        have hin := hw.1
        replace hw := hw.2
        refine va_iald hx hb hK.1 hP 1 0 rfl rfl hin dX9_signNext_108 ?_
        refine lv_iconst (v := (nI 1)) hx hb dX9_signNext_109 (by decide) ?_
        refine lv_isub hx hb dX9_signNext_110 ?_
        exact retMi C (u4, u3) hw hP hD hS dX9_signNext_111
      · replace hw := hw.2 hc
        refine lv_bipush (v := (-4)) hx hb dX9_signNext_75 (by decide) ?_
        exact retMi C (z_s, z_states) hw hP hD hS dX9_signNext_77
    · replace hw := hw.2 hc
      refine lv_aload_n hx hb dX9_signNext_41 rfl (lv_at hl 0 rfl) ?_
      refine lv_iload_n hx hb dX9_signNext_42 rfl (lv_at hl 3 rfl) ?_
      refine kRV (As := [.int v3]) (rest := []) (q0 := 0) C (c_X9_isStarred l D kI kC kB a z_s z_text z_told z_formula z_states z_isKept z_typed z_at z_isRight z_times z_letter z_items z_length z_entries v3 _ hw) ⟨rfl, rfl⟩ ce_X9_isStarred cv_X9_isStarred tw_799 ⟨Nat.le_of_ble_eq_true rfl, Nat.le_of_ble_eq_true rfl⟩ hP [0, 1, 2, 3, 4] rfl rfl rfl rfl hl.1 rfl (Nat.le_of_ble_eq_true rfl) ⟨Nat.zero_le _, Nat.zero_le _⟩ dX9_signNext_43 (fun r5 hw => ?_)
      refine lv_if_eq (tgt := 53) hx hb dX9_signNext_46 (by decide) (fun hc => ?_) (fun hc => ?_)
      · replace hw := hw.1 hc
        refine lv_aload_n hx hb dX9_signNext_53 rfl (lv_at hl 0 rfl) ?_
        refine lv_iload_n hx hb dX9_signNext_54 rfl (lv_at hl 3 rfl) ?_
        refine kRV (As := [.int v3]) (rest := []) (q0 := 0) C (c_X9_sign l D kI kC kB a z_s z_text z_told z_formula z_states z_isKept z_typed z_at z_isRight z_times z_letter z_items z_length z_entries v3 _ hw) ⟨rfl, rfl⟩ ce_X9_sign cv_X9_sign tw_803 ⟨Nat.le_of_ble_eq_true rfl, Nat.le_of_ble_eq_true rfl⟩ hP [0, 1, 2, 3, 4] rfl rfl rfl rfl hl.1 rfl (Nat.le_of_ble_eq_true rfl) ⟨Nat.zero_le _, Nat.zero_le _⟩ dX9_signNext_55 (fun r6 hw => ?_)
        refine lv_istore_n (lv' := [(2, .int r6), (0, .ref (a 0)), (1, .int p1), (3, .int v3)]) hx hb dX9_signNext_58 rfl hl (by decide) rfl (fun ls hl => ?_)
        refine lv_iinc (v := (v3 + nI 1)) (lv' := [(3, .int (v3 + nI 1)), (2, .int r6), (0, .ref (a 0)), (1, .int p1)]) hx hb dX9_signNext_59 hl (k := 3) rfl rfl (by decide) rfl (fun ls hl => ?_)
        refine lv_goto (tgt := 31) hx hb dX9_signNext_62 (by decide) ?_
        exact ih r6 (v3 + nI 1) hw H locs hP hD hS ls (lv_sub hl [2, 3, 1, 0] rfl)
      · replace hw := hw.2 hc
        refine lv_iload_n hx hb dX9_signNext_49 rfl (lv_at hl 2 rfl) ?_
        refine lv_goto (tgt := 58) hx hb dX9_signNext_50 (by decide) ?_
        refine lv_istore_n (lv' := [(2, .int v2), (0, .ref (a 0)), (1, .int p1), (3, .int v3)]) hx hb dX9_signNext_58 rfl hl (by decide) rfl (fun ls hl => ?_)
        refine lv_iinc (v := (v3 + nI 1)) (lv' := [(3, .int (v3 + nI 1)), (2, .int v2), (0, .ref (a 0)), (1, .int p1)]) hx hb dX9_signNext_59 hl (k := 3) rfl rfl (by decide) rfl (fun ls hl => ?_)
        refine lv_goto (tgt := 31) hx hb dX9_signNext_62 (by decide) ?_
        exact ih v2 (v3 + nI 1) hw H locs hP hD hS ls (lv_sub hl [2, 3, 1, 0] rfl)
set_option maxHeartbeats 4000000 in
set_option maxRecDepth 100000 in
theorem c_X9_signNext (l : Launch) (D : va_G) (kI kC kB : ClassId) (a : AdT) (z_s : Nat → Int32) (z_text : Nat → Int32) (z_told : Nat → Int32) (z_formula : Nat → Int32) (z_states : Int32) (z_isKept : Int32) (z_typed : Int32) (z_at : Int32) (z_isRight : Int32) (z_times : Int32) (z_letter : Int32) (z_items : Int32) (z_length : Int32) (z_entries : Int32) (sz : Nat) (p1 : Int32) (Post : Int32 → (Nat → Int32) → Int32 → Prop) (hw : wp_X9_signNext z_s z_states p1 Post) : CMi l D kI kC kB yX9_signNext cX9_signNext 4 (some .int) ({ frames := 2, cells := 0, slots := 0, locals := 47 } : Room) [.ref (a 0), .int p1] (cwModel kI kC a z_s z_text z_told z_formula z_states z_isKept z_typed z_at z_isRight z_times z_letter z_items z_length z_entries) sz (fun (r : Int32) (u : (Nat → Int32) × Int32) => Post r u.1 u.2) (fun u : (Nat → Int32) × Int32 => (cwModel kI kC a u.1 z_text z_told z_formula u.2 z_isKept z_typed z_at z_isRight z_times z_letter z_items z_length z_entries)) := by
  refine entMi (by decide) (Nat.le_of_ble_eq_true rfl) ?_
  intro p e s m args below meth c ls A C hA hP hD hS hl
  obtain ⟨H, hHe⟩ : ∃ H, H = s.heap := ⟨_, rfl⟩
  obtain ⟨locs, hlo⟩ : ∃ lo : List Loc, lo = [] := ⟨_, rfl⟩
  have hS : va_S A s.heap H locs := by rw [hHe, hlo]; exact hS
  rw [← hHe] at hP
  suffices hg : W p l e ({ frames := 2, cells := 0, slots := 0, locals := 47 } : Room) s m args below meth c H locs 0 0 (MQ below (va_Qi (fun (r : Int32) (u : (Nat → Int32) × Int32) => Post r u.1 u.2) (BB D A (fun u : (Nat → Int32) × Int32 => (cwModel kI kC a u.1 z_text z_told z_formula u.2 z_isKept z_typed z_at z_isRight z_times z_letter z_items z_length z_entries))) A) args s 0 0 A) (F0 m 0 ls []) by rw [hHe, hlo] at hg; exact hg
  replace hl : lv_has ls 4 [(0, .ref (a 0)), (1, .int p1)] := hl
  obtain ⟨hx, hb, hr, hml, hown, hts, hlocks, hK⟩ := id C
  refine lv_iload_n hx hb dX9_signNext_0 rfl (lv_at hl 1 rfl) ?_
  refine lv_iconst (v := (nI 1)) hx hb dX9_signNext_1 (by decide) ?_
  refine lv_bipush (v := (nI 24)) hx hb dX9_signNext_2 (by decide) ?_
  refine kRS (As := [.int p1, .int (nI 1), .int (nI 24)]) (rest := []) C (c_X9_in l D kI kC kB  p1 (nI 1) (nI 24) _ hw) ⟨rfl, rfl⟩ ce_X9_in cv_X9_in tw_733 ⟨Nat.le_of_ble_eq_true rfl, Nat.le_of_ble_eq_true rfl⟩ hP [] rfl hl.1 rfl (Nat.le_of_ble_eq_true rfl) ⟨Nat.zero_le _, Nat.zero_le _⟩ dX9_signNext_4 (fun r7 hw => ?_)
  refine lv_if_ne (tgt := 13) hx hb dX9_signNext_7 (by decide) (fun hc => ?_) (fun hc => ?_)
  · replace hw := hw.2 hc
    refine lv_aload_n hx hb dX9_signNext_13 rfl (lv_at hl 0 rfl) ?_
    refine va_get (D := D) (ci := 7) (v := .ref (a 1)) (C := RX9) (T := TX9) (N := 14) hx hb hts inX9 hown hK.1 hP 0 rfl rfl 0 (by decide) (hts _ tw_685) (fun _ h9 => h9) rfl dX9_signNext_14 ?_
    refine lv_iconst (v := (nI 2)) hx hb dX9_signNext_17 (by decide) ?_
    have hin := hw.1
    replace hw := hw.2
    refine va_iald hx hb hK.1 hP 1 0 rfl rfl hin dX9_signNext_18 ?_
    refine lv_bipush (v := (nI 40)) hx hb dX9_signNext_19 (by decide) ?_
    refine lv_icmp_ne (tgt := 27) hx hb dX9_signNext_21 (by decide) (fun hc => ?_) (fun hc => ?_)
    · replace hw := hw.2 hc
      refine lv_iconst (v := (-1)) hx hb dX9_signNext_27 (by decide) ?_
      refine lv_istore_n (lv' := [(2, .int (-1)), (0, .ref (a 0)), (1, .int p1)]) hx hb dX9_signNext_28 rfl hl (by decide) rfl (fun ls hl => ?_)
      refine lv_iconst (v := (nI 0)) hx hb dX9_signNext_29 (by decide) ?_
      refine lv_istore_n (lv' := [(3, .int (nI 0)), (2, .int (-1)), (0, .ref (a 0)), (1, .int p1)]) hx hb dX9_signNext_30 rfl hl (by decide) rfl (fun ls hl => ?_)
      obtain ⟨n9, hw⟩ := hw
      exact cl_X9_signNext_31 l D kI kC kB a z_s z_text z_told z_formula z_states z_isKept z_typed z_at z_isRight z_times z_letter z_items z_length z_entries p1 Post hA C n9 (-1) (nI 0) hw H locs hP hD hS ls (lv_sub hl [2, 3, 1, 0] rfl)
    · replace hw := hw.1 hc
      refine lv_bipush (v := (-3)) hx hb dX9_signNext_24 (by decide) ?_
      exact retMi C (z_s, z_states) hw hP hD hS dX9_signNext_26
  · replace hw := hw.1 hc
    refine lv_bipush (v := (-2)) hx hb dX9_signNext_10 (by decide) ?_
    exact retMi C (z_s, z_states) hw hP hD hS dX9_signNext_12
set_option maxHeartbeats 4000000 in
set_option maxRecDepth 100000 in
theorem c_X9_insert (l : Launch) (D : va_G) (kI kC kB : ClassId) (a : AdT) (z_s : Nat → Int32) (z_text : Nat → Int32) (z_told : Nat → Int32) (z_formula : Nat → Int32) (z_states : Int32) (z_isKept : Int32) (z_typed : Int32) (z_at : Int32) (z_isRight : Int32) (z_times : Int32) (z_letter : Int32) (z_items : Int32) (z_length : Int32) (z_entries : Int32) (sz : Nat) (p1 : Int32) (p2 : Int32) (p3 : Int32) (Post : Int32 → (Nat → Int32) → Int32 → Prop) (hw : wp_X9_insert z_s z_states p1 p2 p3 Post) : CMi l D kI kC kB yX9_insert cX9_insert 4 (some .int) ({ frames := 2, cells := 0, slots := 0, locals := 47 } : Room) [.ref (a 0), .int p1, .int p2, .int p3] (cwModel kI kC a z_s z_text z_told z_formula z_states z_isKept z_typed z_at z_isRight z_times z_letter z_items z_length z_entries) sz (fun (r : Int32) (u : (Nat → Int32) × Int32) => Post r u.1 u.2) (fun u : (Nat → Int32) × Int32 => (cwModel kI kC a u.1 z_text z_told z_formula u.2 z_isKept z_typed z_at z_isRight z_times z_letter z_items z_length z_entries)) := by
  refine entMi (by decide) (Nat.le_of_ble_eq_true rfl) ?_
  intro p e s m args below meth c ls A C hA hP hD hS hl
  obtain ⟨H, hHe⟩ : ∃ H, H = s.heap := ⟨_, rfl⟩
  obtain ⟨locs, hlo⟩ : ∃ lo : List Loc, lo = [] := ⟨_, rfl⟩
  have hS : va_S A s.heap H locs := by rw [hHe, hlo]; exact hS
  rw [← hHe] at hP
  suffices hg : W p l e ({ frames := 2, cells := 0, slots := 0, locals := 47 } : Room) s m args below meth c H locs 0 0 (MQ below (va_Qi (fun (r : Int32) (u : (Nat → Int32) × Int32) => Post r u.1 u.2) (BB D A (fun u : (Nat → Int32) × Int32 => (cwModel kI kC a u.1 z_text z_told z_formula u.2 z_isKept z_typed z_at z_isRight z_times z_letter z_items z_length z_entries))) A) args s 0 0 A) (F0 m 0 ls []) by rw [hHe, hlo] at hg; exact hg
  replace hl : lv_has ls 4 [(0, .ref (a 0)), (1, .int p1), (2, .int p2), (3, .int p3)] := hl
  obtain ⟨hx, hb, hr, hml, hown, hts, hlocks, hK⟩ := id C
  refine lv_iload_n hx hb dX9_insert_0 rfl (lv_at hl 1 rfl) ?_
  refine lv_iconst (v := (nI 0)) hx hb dX9_insert_1 (by decide) ?_
  refine lv_aload_n hx hb dX9_insert_2 rfl (lv_at hl 0 rfl) ?_
  refine va_get (D := D) (ci := 7) (v := .ref (a 1)) (C := RX9) (T := TX9) (N := 14) hx hb hts inX9 hown hK.1 hP 0 rfl rfl 0 (by decide) (hts _ tw_685) (fun _ h9 => h9) rfl dX9_insert_3 ?_
  refine lv_iconst (v := (nI 2)) hx hb dX9_insert_6 (by decide) ?_
  have hin := hw.1
  replace hw := hw.2
  refine va_iald hx hb hK.1 hP 1 0 rfl rfl hin dX9_insert_7 ?_
  refine kRS (As := [.int p1, .int (nI 0), .int (z_s (nI 2).toNatClampNeg)]) (rest := []) C (c_X9_in l D kI kC kB  p1 (nI 0) (z_s (nI 2).toNatClampNeg) _ hw) ⟨rfl, rfl⟩ ce_X9_in cv_X9_in tw_733 ⟨Nat.le_of_ble_eq_true rfl, Nat.le_of_ble_eq_true rfl⟩ hP [] rfl hl.1 rfl (Nat.le_of_ble_eq_true rfl) ⟨Nat.zero_le _, Nat.zero_le _⟩ dX9_insert_8 (fun r1 hw => ?_)
  refine lv_if_ne (tgt := 16) hx hb dX9_insert_11 (by decide) (fun hc => ?_) (fun hc => ?_)
  · replace hw := hw.2 hc
    refine lv_iload_n hx hb dX9_insert_16 rfl (lv_at hl 2 rfl) ?_
    refine lv_iconst (v := (nI 1)) hx hb dX9_insert_17 (by decide) ?_
    refine lv_iconst (v := (nI 5)) hx hb dX9_insert_18 (by decide) ?_
    refine kRS (As := [.int p2, .int (nI 1), .int (nI 5)]) (rest := []) C (c_X9_in l D kI kC kB  p2 (nI 1) (nI 5) _ hw) ⟨rfl, rfl⟩ ce_X9_in cv_X9_in tw_733 ⟨Nat.le_of_ble_eq_true rfl, Nat.le_of_ble_eq_true rfl⟩ hP [] rfl hl.1 rfl (Nat.le_of_ble_eq_true rfl) ⟨Nat.zero_le _, Nat.zero_le _⟩ dX9_insert_19 (fun r2 hw => ?_)
    refine lv_if_eq (tgt := 35) hx hb dX9_insert_22 (by decide) (fun hc => ?_) (fun hc => ?_)
    · replace hw := hw.1 hc
      refine lv_bipush (v := (-2)) hx hb dX9_insert_35 (by decide) ?_
      exact retMi C (z_s, z_states) hw hP hD hS dX9_insert_37
    · replace hw := hw.2 hc
      refine lv_iload_n hx hb dX9_insert_25 rfl (lv_at hl 3 rfl) ?_
      refine lv_iconst (v := (nI 1)) hx hb dX9_insert_26 (by decide) ?_
      refine lv_bipush (v := (nI 24)) hx hb dX9_insert_27 (by decide) ?_
      refine kRS (As := [.int p3, .int (nI 1), .int (nI 24)]) (rest := []) C (c_X9_in l D kI kC kB  p3 (nI 1) (nI 24) _ hw) ⟨rfl, rfl⟩ ce_X9_in cv_X9_in tw_733 ⟨Nat.le_of_ble_eq_true rfl, Nat.le_of_ble_eq_true rfl⟩ hP [] rfl hl.1 rfl (Nat.le_of_ble_eq_true rfl) ⟨Nat.zero_le _, Nat.zero_le _⟩ dX9_insert_29 (fun r3 hw => ?_)
      refine lv_if_ne (tgt := 38) hx hb dX9_insert_32 (by decide) (fun hc => ?_) (fun hc => ?_)
      · replace hw := hw.2 hc
        refine lv_aload_n hx hb dX9_insert_38 rfl (lv_at hl 0 rfl) ?_
        refine va_get (D := D) (ci := 7) (v := .ref (a 1)) (C := RX9) (T := TX9) (N := 14) hx hb hts inX9 hown hK.1 hP 0 rfl rfl 0 (by decide) (hts _ tw_685) (fun _ h9 => h9) rfl dX9_insert_39 ?_
        refine lv_iconst (v := (nI 2)) hx hb dX9_insert_42 (by decide) ?_
        have hin := hw.1
        replace hw := hw.2
        refine va_iald hx hb hK.1 hP 1 0 rfl rfl hin dX9_insert_43 ?_
        refine lv_bipush (v := (nI 40)) hx hb dX9_insert_44 (by decide) ?_
        refine lv_icmp_ne (tgt := 52) hx hb dX9_insert_46 (by decide) (fun hc => ?_) (fun hc => ?_)
        · replace hw := hw.2 hc
          refine lv_aload_n hx hb dX9_insert_52 rfl (lv_at hl 0 rfl) ?_
          refine kMVv (q0 := 0) (As := []) (rest := []) C (c_X9_records l D kI kC kB a z_s z_text z_told z_formula z_states z_isKept z_typed z_at z_isRight z_times z_letter z_items z_length z_entries H.size _ hw) ⟨rfl, rfl⟩ ce_X9_records cv_X9_records tw_744 ⟨Nat.le_of_ble_eq_true rfl, Nat.le_of_ble_eq_true rfl⟩ hP hD hS hA [0, 1, 2, 3, 4] rfl rfl (fun _ => rfl) rfl rfl rfl hl.1 rfl (Nat.le_of_ble_eq_true rfl) ⟨Nat.zero_le _, Nat.zero_le _⟩ dX9_insert_53 (fun u H locs hw hP hD hS => ?_)
          obtain ⟨u4, u5⟩ := u
          try dsimp only at hw
          replace hP : va_P D vwCl (cwModel kI kC a u4 z_text z_told z_formula u5 z_isKept z_typed z_at z_isRight z_times z_letter z_items z_length z_entries) H := hP
          replace hD : va_D A (cwModel kI kC a u4 z_text z_told z_formula u5 z_isKept z_typed z_at z_isRight z_times z_letter z_items z_length z_entries) := hD
          refine lv_aload_n hx hb dX9_insert_56 rfl (lv_at hl 0 rfl) ?_
          refine lv_iload_n hx hb dX9_insert_57 rfl (lv_at hl 1 rfl) ?_
          refine lv_iload_n hx hb dX9_insert_58 rfl (lv_at hl 2 rfl) ?_
          refine lv_iconst (v := (-1)) hx hb dX9_insert_59 (by decide) ?_
          refine lv_iload_n hx hb dX9_insert_60 rfl (lv_at hl 3 rfl) ?_
          refine kMVv (q0 := 0) (As := [.int p1, .int p2, .int (-1), .int p3]) (rest := []) C (c_X9_puts l D kI kC kB a u4 z_text z_told z_formula u5 z_isKept z_typed z_at z_isRight z_times z_letter z_items z_length z_entries H.size p1 p2 (-1) p3 _ hw) ⟨rfl, rfl⟩ ce_X9_puts cv_X9_puts tw_791 ⟨Nat.le_of_ble_eq_true rfl, Nat.le_of_ble_eq_true rfl⟩ hP hD hS hA [0, 1, 2, 3, 4] rfl rfl (fun _ => rfl) rfl rfl rfl hl.1 rfl (Nat.le_of_ble_eq_true rfl) ⟨Nat.zero_le _, Nat.zero_le _⟩ dX9_insert_61 (fun u H locs hw hP hD hS => ?_)
          obtain ⟨u6, rfl⟩ : ∃ z, z = u := ⟨_, rfl⟩
          try dsimp only at hw
          replace hP : va_P D vwCl (cwModel kI kC a u6 z_text z_told z_formula u5 z_isKept z_typed z_at z_isRight z_times z_letter z_items z_length z_entries) H := hP
          replace hD : va_D A (cwModel kI kC a u6 z_text z_told z_formula u5 z_isKept z_typed z_at z_isRight z_times z_letter z_items z_length z_entries) := hD
          refine lv_aload_n hx hb dX9_insert_64 rfl (lv_at hl 0 rfl) ?_
          refine kRV (As := []) (rest := []) (q0 := 0) C (c_X9_leaves l D kI kC kB a u6 z_text z_told z_formula u5 z_isKept z_typed z_at z_isRight z_times z_letter z_items z_length z_entries _ hw) ⟨rfl, rfl⟩ ce_X9_leaves cv_X9_leaves tw_815 ⟨Nat.le_of_ble_eq_true rfl, Nat.le_of_ble_eq_true rfl⟩ hP [0, 1, 2, 3, 4] rfl rfl rfl rfl hl.1 rfl (Nat.le_of_ble_eq_true rfl) ⟨Nat.zero_le _, Nat.zero_le _⟩ dX9_insert_65 (fun r7 hw => ?_)
          exact retMi C (u6, u5) hw hP hD hS dX9_insert_68
        · replace hw := hw.1 hc
          refine lv_bipush (v := (-3)) hx hb dX9_insert_49 (by decide) ?_
          exact retMi C (z_s, z_states) hw hP hD hS dX9_insert_51
      · replace hw := hw.1 hc
        refine lv_bipush (v := (-2)) hx hb dX9_insert_35 (by decide) ?_
        exact retMi C (z_s, z_states) hw hP hD hS dX9_insert_37
  · replace hw := hw.1 hc
    refine lv_iconst (v := (-1)) hx hb dX9_insert_14 (by decide) ?_
    exact retMi C (z_s, z_states) hw hP hD hS dX9_insert_15
set_option maxHeartbeats 4000000 in
set_option maxRecDepth 100000 in
theorem cl_X9_remove_30 (l : Launch) (D : va_G) (kI kC kB : ClassId) (a : AdT) (z_text : Nat → Int32) (z_told : Nat → Int32) (z_formula : Nat → Int32) (z_states : Int32) (z_isKept : Int32) (z_typed : Int32) (z_at : Int32) (z_isRight : Int32) (z_times : Int32) (z_letter : Int32) (z_items : Int32) (z_length : Int32) (z_entries : Int32) (v2 : Int32) (Post : Int32 → (Nat → Int32) → Int32 → Prop) {p : Program} {e : Env} {s : State} {m : MethodId} {args : Array Value} {below : List Frame} {meth : Method} {c : Code} {A : Nat → Prop} (hA : ∀ q : Nat, s.heap.size ≤ q → A q) (C : CtxT p s m args meth c cX9_remove 4 (some .int) yX9_remove.cls D kI kC kB) (K16 : (Nat → Int32) → Int32 → Prop) (hK16 : ∀ (z_s : Nat → Int32) (v2 : Int32), K16 z_s v2 → ∀ (H : Heap) (locs : List Loc), va_P D vwCl (cwModel kI kC a z_s z_text z_told z_formula z_states z_isKept z_typed z_at z_isRight z_times z_letter z_items z_length z_entries) H → va_D A (cwModel kI kC a z_s z_text z_told z_formula z_states z_isKept z_typed z_at z_isRight z_times z_letter z_items z_length z_entries) → va_S A s.heap H locs → ∀ (ls : Array Slot), lv_has ls 4 [(0, .ref (a 0)), (2, .int v2)] → W p l e ({ frames := 2, cells := 0, slots := 0, locals := 44 } : Room) s m args below meth c H locs 0 0 (MQ below (va_Qi (fun (r : Int32) (u : (Nat → Int32) × Int32) => Post r u.1 u.2) (BB D A (fun u : (Nat → Int32) × Int32 => (cwModel kI kC a u.1 z_text z_told z_formula u.2 z_isKept z_typed z_at z_isRight z_times z_letter z_items z_length z_entries))) A) args s 0 0 A) (F0 m 16 ls [])) : ∀ (n : Nat), ∀ (z_s : Nat → Int32) (v3 : Int32), wl_X9_remove_30 z_states v2 K16 Post n z_s v3 → ∀ (H : Heap) (locs : List Loc), va_P D vwCl (cwModel kI kC a z_s z_text z_told z_formula z_states z_isKept z_typed z_at z_isRight z_times z_letter z_items z_length z_entries) H → va_D A (cwModel kI kC a z_s z_text z_told z_formula z_states z_isKept z_typed z_at z_isRight z_times z_letter z_items z_length z_entries) → va_S A s.heap H locs → ∀ (ls : Array Slot), lv_has ls 4 [(0, .ref (a 0)), (2, .int v2), (3, .int v3)] → W p l e ({ frames := 2, cells := 0, slots := 0, locals := 44 } : Room) s m args below meth c H locs 0 0 (MQ below (va_Qi (fun (r : Int32) (u : (Nat → Int32) × Int32) => Post r u.1 u.2) (BB D A (fun u : (Nat → Int32) × Int32 => (cwModel kI kC a u.1 z_text z_told z_formula u.2 z_isKept z_typed z_at z_isRight z_times z_letter z_items z_length z_entries))) A) args s 0 0 A) (F0 m 30 ls []) := by
  obtain ⟨hx, hb, hr, hml, hown, hts, hlocks, hK⟩ := id C
  intro n
  induction n with
  | zero => intro z_s v3 hw; exact hw.elim
  | succ n ih =>
    intro z_s v3 hw H locs hP hD hS ls hl
    refine lv_iload_n hx hb dX9_remove_30 rfl (lv_at hl 2 rfl) ?_
    refine lv_iconst (v := (nI 4)) hx hb dX9_remove_31 (by decide) ?_
    refine lv_icmp_ge (tgt := 63) hx hb dX9_remove_32 (by decide) (fun hc => ?_) (fun hc => ?_)
    · replace hw := hw.1 hc
      refine lv_iinc (v := (v2 + nI 1)) (lv' := [(2, .int (v2 + nI 1)), (0, .ref (a 0)), (3, .int v3)]) hx hb dX9_remove_63 hl (k := 1) rfl rfl (by decide) rfl (fun ls hl => ?_)
      refine lv_goto (tgt := 16) hx hb dX9_remove_66 (by decide) ?_
      exact hK16 z_s (v2 + nI 1) hw H locs hP hD hS ls (lv_sub hl [1, 0] rfl)
    · replace hw := hw.2 hc
      refine lv_aload_n hx hb dX9_remove_35 rfl (lv_at hl 0 rfl) ?_
      refine va_get (D := D) (ci := 7) (v := .ref (a 1)) (C := RX9) (T := TX9) (N := 14) hx hb hts inX9 hown hK.1 hP 0 rfl rfl 0 (by decide) (hts _ tw_685) (fun _ h9 => h9) rfl dX9_remove_36 ?_
      refine lv_iload_n hx hb dX9_remove_39 rfl (lv_at hl 1 rfl) ?_
      refine lv_iload_n hx hb dX9_remove_40 rfl (lv_at hl 2 rfl) ?_
      refine kRS (As := [.int v2, .int v3]) (rest := [.ref (a 1)]) C (c_X9_of l D kI kC kB  v2 v3 _ hw) ⟨rfl, rfl⟩ ce_X9_of cv_X9_of tw_764 ⟨Nat.le_of_ble_eq_true rfl, Nat.le_of_ble_eq_true rfl⟩ hP [] rfl hl.1 rfl (Nat.le_of_ble_eq_true rfl) ⟨Nat.zero_le _, Nat.zero_le _⟩ dX9_remove_41 (fun r1 hw => ?_)
      refine lv_aload_n hx hb dX9_remove_44 rfl (lv_at hl 0 rfl) ?_
      refine va_get (D := D) (ci := 7) (v := .ref (a 1)) (C := RX9) (T := TX9) (N := 14) hx hb hts inX9 hown hK.1 hP 0 rfl rfl 0 (by decide) (hts _ tw_685) (fun _ h9 => h9) rfl dX9_remove_45 ?_
      refine lv_iload_n hx hb dX9_remove_48 rfl (lv_at hl 1 rfl) ?_
      refine lv_iconst (v := (nI 1)) hx hb dX9_remove_49 (by decide) ?_
      refine lv_iadd hx hb dX9_remove_50 ?_
      refine lv_iload_n hx hb dX9_remove_51 rfl (lv_at hl 2 rfl) ?_
      refine kRS (As := [.int (v2 + (nI 1)), .int v3]) (rest := [.ref (a 1), .int r1, .ref (a 1)]) C (c_X9_of l D kI kC kB  (v2 + (nI 1)) v3 _ hw) ⟨rfl, rfl⟩ ce_X9_of cv_X9_of tw_764 ⟨Nat.le_of_ble_eq_true rfl, Nat.le_of_ble_eq_true rfl⟩ hP [] rfl hl.1 rfl (Nat.le_of_ble_eq_true rfl) ⟨Nat.zero_le _, Nat.zero_le _⟩ dX9_remove_52 (fun r2 hw => ?_)
      have hin := hw.1
      replace hw := hw.2
      refine va_iald hx hb hK.1 hP 1 0 rfl rfl hin dX9_remove_55 ?_
      have hin := hw.1
      replace hw := hw.2
      refine va_iast hx hb hK.1 hP hD hS 1 0 rfl rfl hin dX9_remove_56 (fun H locs hP hD hS => ?_)
      replace hP : va_P D vwCl (cwModel kI kC a (upd z_s r1.toNatClampNeg (z_s r2.toNatClampNeg)) z_text z_told z_formula z_states z_isKept z_typed z_at z_isRight z_times z_letter z_items z_length z_entries) H := hP
      replace hD : va_D A (cwModel kI kC a (upd z_s r1.toNatClampNeg (z_s r2.toNatClampNeg)) z_text z_told z_formula z_states z_isKept z_typed z_at z_isRight z_times z_letter z_items z_length z_entries) := hD
      refine lv_iinc (v := (v3 + nI 1)) (lv' := [(3, .int (v3 + nI 1)), (0, .ref (a 0)), (2, .int v2)]) hx hb dX9_remove_57 hl (k := 2) rfl rfl (by decide) rfl (fun ls hl => ?_)
      refine lv_goto (tgt := 30) hx hb dX9_remove_60 (by decide) ?_
      exact ih (upd z_s r1.toNatClampNeg (z_s r2.toNatClampNeg)) (v3 + nI 1) hw H locs hP hD hS ls (lv_sub hl [1, 2, 0] rfl)
set_option maxHeartbeats 4000000 in
set_option maxRecDepth 100000 in
theorem cl_X9_remove_16 (l : Launch) (D : va_G) (kI kC kB : ClassId) (a : AdT) (z_text : Nat → Int32) (z_told : Nat → Int32) (z_formula : Nat → Int32) (z_states : Int32) (z_isKept : Int32) (z_typed : Int32) (z_at : Int32) (z_isRight : Int32) (z_times : Int32) (z_letter : Int32) (z_items : Int32) (z_length : Int32) (z_entries : Int32) (Post : Int32 → (Nat → Int32) → Int32 → Prop) {p : Program} {e : Env} {s : State} {m : MethodId} {args : Array Value} {below : List Frame} {meth : Method} {c : Code} {A : Nat → Prop} (hA : ∀ q : Nat, s.heap.size ≤ q → A q) (C : CtxT p s m args meth c cX9_remove 4 (some .int) yX9_remove.cls D kI kC kB) : ∀ (n : Nat), ∀ (z_s : Nat → Int32) (v2 : Int32), wl_X9_remove_16 z_states Post n z_s v2 → ∀ (H : Heap) (locs : List Loc), va_P D vwCl (cwModel kI kC a z_s z_text z_told z_formula z_states z_isKept z_typed z_at z_isRight z_times z_letter z_items z_length z_entries) H → va_D A (cwModel kI kC a z_s z_text z_told z_formula z_states z_isKept z_typed z_at z_isRight z_times z_letter z_items z_length z_entries) → va_S A s.heap H locs → ∀ (ls : Array Slot), lv_has ls 4 [(0, .ref (a 0)), (2, .int v2)] → W p l e ({ frames := 2, cells := 0, slots := 0, locals := 44 } : Room) s m args below meth c H locs 0 0 (MQ below (va_Qi (fun (r : Int32) (u : (Nat → Int32) × Int32) => Post r u.1 u.2) (BB D A (fun u : (Nat → Int32) × Int32 => (cwModel kI kC a u.1 z_text z_told z_formula u.2 z_isKept z_typed z_at z_isRight z_times z_letter z_items z_length z_entries))) A) args s 0 0 A) (F0 m 16 ls []) := by
  obtain ⟨hx, hb, hr, hml, hown, hts, hlocks, hK⟩ := id C
  intro n
  induction n with
  | zero => intro z_s v2 hw; exact hw.elim
  | succ n ih =>
    intro z_s v2 hw H locs hP hD hS ls hl
    refine lv_iload_n hx hb dX9_remove_16 rfl (lv_at hl 1 rfl) ?_
    refine lv_iconst (v := (nI 1)) hx hb dX9_remove_17 (by decide) ?_
    refine lv_iadd hx hb dX9_remove_18 ?_
    refine lv_aload_n hx hb dX9_remove_19 rfl (lv_at hl 0 rfl) ?_
    refine va_get (D := D) (ci := 7) (v := .ref (a 1)) (C := RX9) (T := TX9) (N := 14) hx hb hts inX9 hown hK.1 hP 0 rfl rfl 0 (by decide) (hts _ tw_685) (fun _ h9 => h9) rfl dX9_remove_20 ?_
    refine lv_iconst (v := (nI 2)) hx hb dX9_remove_23 (by decide) ?_
    have hin := hw.1
    replace hw := hw.2
    refine va_iald hx hb hK.1 hP 1 0 rfl rfl hin dX9_remove_24 ?_
    refine lv_icmp_ge (tgt := 69) hx hb dX9_remove_25 (by decide) (fun hc => ?_) (fun hc => ?_)
    · replace hw := hw.1 hc
      refine lv_aload_n hx hb dX9_remove_69 rfl (lv_at hl 0 rfl) ?_
      refine va_get (D := D) (ci := 7) (v := .ref (a 1)) (C := RX9) (T := TX9) (N := 14) hx hb hts inX9 hown hK.1 hP 0 rfl rfl 0 (by decide) (hts _ tw_685) (fun _ h9 => h9) rfl dX9_remove_70 ?_
      refine lv_iconst (v := (nI 2)) hx hb dX9_remove_73 (by decide) ?_
      refine lv_dup2_11 hx hb dX9_remove_74 rfl rfl ?_
      have hin := hw.1
      replace hw := hw.2
      refine va_iald hx hb hK.1 hP 1 0 rfl rfl hin dX9_remove_75 ?_
      refine lv_iconst (v := (nI 1)) hx hb dX9_remove_76 (by decide) ?_
      refine lv_isub hx hb dX9_remove_77 ?_
      have hin := hw.1
      replace hw := hw.2
      refine va_iast hx hb hK.1 hP hD hS 1 0 rfl rfl hin dX9_remove_78 (fun H locs hP hD hS => ?_)
      replace hP : va_P D vwCl (cwModel kI kC a (upd z_s (nI 2).toNatClampNeg ((z_s (nI 2).toNatClampNeg) - (nI 1))) z_text z_told z_formula z_states z_isKept z_typed z_at z_isRight z_times z_letter z_items z_length z_entries) H := hP
      replace hD : va_D A (cwModel kI kC a (upd z_s (nI 2).toNatClampNeg ((z_s (nI 2).toNatClampNeg) - (nI 1))) z_text z_told z_formula z_states z_isKept z_typed z_at z_isRight z_times z_letter z_items z_length z_entries) := hD
      refine lv_aload_n hx hb dX9_remove_79 rfl (lv_at hl 0 rfl) ?_
      refine va_get (D := D) (ci := 7) (v := .ref (a 1)) (C := RX9) (T := TX9) (N := 14) hx hb hts inX9 hown hK.1 hP 0 rfl rfl 0 (by decide) (hts _ tw_685) (fun _ h9 => h9) rfl dX9_remove_80 ?_
      refine lv_sipush (v := (nI 163)) hx hb dX9_remove_83 (by decide) ?_
      refine lv_iconst (v := (nI 0)) hx hb dX9_remove_86 (by decide) ?_
      have hin := hw.1
      replace hw := hw.2
      refine va_iast hx hb hK.1 hP hD hS 1 0 rfl rfl hin dX9_remove_87 (fun H locs hP hD hS => ?_)
      replace hP : va_P D vwCl (cwModel kI kC a (upd (upd z_s (nI 2).toNatClampNeg ((z_s (nI 2).toNatClampNeg) - (nI 1))) (nI 163).toNatClampNeg (nI 0)) z_text z_told z_formula z_states z_isKept z_typed z_at z_isRight z_times z_letter z_items z_length z_entries) H := hP
      replace hD : va_D A (cwModel kI kC a (upd (upd z_s (nI 2).toNatClampNeg ((z_s (nI 2).toNatClampNeg) - (nI 1))) (nI 163).toNatClampNeg (nI 0)) z_text z_told z_formula z_states z_isKept z_typed z_at z_isRight z_times z_letter z_items z_length z_entries) := hD
      refine lv_aload_n hx hb dX9_remove_88 rfl (lv_at hl 0 rfl) ?_
      refine kRV (As := []) (rest := []) (q0 := 0) C (c_X9_leaves l D kI kC kB a (upd (upd z_s (nI 2).toNatClampNeg ((z_s (nI 2).toNatClampNeg) - (nI 1))) (nI 163).toNatClampNeg (nI 0)) z_text z_told z_formula z_states z_isKept z_typed z_at z_isRight z_times z_letter z_items z_length z_entries _ hw) ⟨rfl, rfl⟩ ce_X9_leaves cv_X9_leaves tw_815 ⟨Nat.le_of_ble_eq_true rfl, Nat.le_of_ble_eq_true rfl⟩ hP [0, 1, 2, 3, 4] rfl rfl rfl rfl hl.1 rfl (Nat.le_of_ble_eq_true rfl) ⟨Nat.zero_le _, Nat.zero_le _⟩ dX9_remove_89 (fun r3 hw => ?_)
      exact retMi C ((upd (upd z_s (nI 2).toNatClampNeg ((z_s (nI 2).toNatClampNeg) - (nI 1))) (nI 163).toNatClampNeg (nI 0)), z_states) hw hP hD hS dX9_remove_92
    · replace hw := hw.2 hc
      refine lv_iconst (v := (nI 0)) hx hb dX9_remove_28 (by decide) ?_
      refine lv_istore_n (lv' := [(3, .int (nI 0)), (0, .ref (a 0)), (2, .int v2)]) hx hb dX9_remove_29 rfl hl (by decide) rfl (fun ls hl => ?_)
      obtain ⟨n9, hw⟩ := hw
      exact cl_X9_remove_30 l D kI kC kB a z_text z_told z_formula z_states z_isKept z_typed z_at z_isRight z_times z_letter z_items z_length z_entries v2 Post hA C _ ih n9 z_s (nI 0) hw H locs hP hD hS ls (lv_sub hl [1, 2, 0] rfl)
set_option maxHeartbeats 4000000 in
set_option maxRecDepth 100000 in
theorem c_X9_remove (l : Launch) (D : va_G) (kI kC kB : ClassId) (a : AdT) (z_s : Nat → Int32) (z_text : Nat → Int32) (z_told : Nat → Int32) (z_formula : Nat → Int32) (z_states : Int32) (z_isKept : Int32) (z_typed : Int32) (z_at : Int32) (z_isRight : Int32) (z_times : Int32) (z_letter : Int32) (z_items : Int32) (z_length : Int32) (z_entries : Int32) (sz : Nat) (p1 : Int32) (Post : Int32 → (Nat → Int32) → Int32 → Prop) (hw : wp_X9_remove z_s z_states p1 Post) : CMi l D kI kC kB yX9_remove cX9_remove 4 (some .int) ({ frames := 2, cells := 0, slots := 0, locals := 44 } : Room) [.ref (a 0), .int p1] (cwModel kI kC a z_s z_text z_told z_formula z_states z_isKept z_typed z_at z_isRight z_times z_letter z_items z_length z_entries) sz (fun (r : Int32) (u : (Nat → Int32) × Int32) => Post r u.1 u.2) (fun u : (Nat → Int32) × Int32 => (cwModel kI kC a u.1 z_text z_told z_formula u.2 z_isKept z_typed z_at z_isRight z_times z_letter z_items z_length z_entries)) := by
  refine entMi (by decide) (Nat.le_of_ble_eq_true rfl) ?_
  intro p e s m args below meth c ls A C hA hP hD hS hl
  obtain ⟨H, hHe⟩ : ∃ H, H = s.heap := ⟨_, rfl⟩
  obtain ⟨locs, hlo⟩ : ∃ lo : List Loc, lo = [] := ⟨_, rfl⟩
  have hS : va_S A s.heap H locs := by rw [hHe, hlo]; exact hS
  rw [← hHe] at hP
  suffices hg : W p l e ({ frames := 2, cells := 0, slots := 0, locals := 44 } : Room) s m args below meth c H locs 0 0 (MQ below (va_Qi (fun (r : Int32) (u : (Nat → Int32) × Int32) => Post r u.1 u.2) (BB D A (fun u : (Nat → Int32) × Int32 => (cwModel kI kC a u.1 z_text z_told z_formula u.2 z_isKept z_typed z_at z_isRight z_times z_letter z_items z_length z_entries))) A) args s 0 0 A) (F0 m 0 ls []) by rw [hHe, hlo] at hg; exact hg
  replace hl : lv_has ls 4 [(0, .ref (a 0)), (1, .int p1)] := hl
  obtain ⟨hx, hb, hr, hml, hown, hts, hlocks, hK⟩ := id C
  refine lv_aload_n hx hb dX9_remove_0 rfl (lv_at hl 0 rfl) ?_
  refine lv_iload_n hx hb dX9_remove_1 rfl (lv_at hl 1 rfl) ?_
  refine kRV (As := [.int p1]) (rest := []) (q0 := 0) C (c_X9_isQuire l D kI kC kB a z_s z_text z_told z_formula z_states z_isKept z_typed z_at z_isRight z_times z_letter z_items z_length z_entries p1 _ hw) ⟨rfl, rfl⟩ ce_X9_isQuire cv_X9_isQuire tw_823 ⟨Nat.le_of_ble_eq_true rfl, Nat.le_of_ble_eq_true rfl⟩ hP [0, 1, 2, 3, 4] rfl rfl rfl rfl hl.1 rfl (Nat.le_of_ble_eq_true rfl) ⟨Nat.zero_le _, Nat.zero_le _⟩ dX9_remove_2 (fun r4 hw => ?_)
  refine lv_if_ne (tgt := 10) hx hb dX9_remove_5 (by decide) (fun hc => ?_) (fun hc => ?_)
  · replace hw := hw.2 hc
    refine lv_aload_n hx hb dX9_remove_10 rfl (lv_at hl 0 rfl) ?_
    refine kMVv (q0 := 0) (As := []) (rest := []) C (c_X9_records l D kI kC kB a z_s z_text z_told z_formula z_states z_isKept z_typed z_at z_isRight z_times z_letter z_items z_length z_entries H.size _ hw) ⟨rfl, rfl⟩ ce_X9_records cv_X9_records tw_744 ⟨Nat.le_of_ble_eq_true rfl, Nat.le_of_ble_eq_true rfl⟩ hP hD hS hA [0, 1, 2, 3, 4] rfl rfl (fun _ => rfl) rfl rfl rfl hl.1 rfl (Nat.le_of_ble_eq_true rfl) ⟨Nat.zero_le _, Nat.zero_le _⟩ dX9_remove_11 (fun u H locs hw hP hD hS => ?_)
    obtain ⟨u5, u6⟩ := u
    try dsimp only at hw
    replace hP : va_P D vwCl (cwModel kI kC a u5 z_text z_told z_formula u6 z_isKept z_typed z_at z_isRight z_times z_letter z_items z_length z_entries) H := hP
    replace hD : va_D A (cwModel kI kC a u5 z_text z_told z_formula u6 z_isKept z_typed z_at z_isRight z_times z_letter z_items z_length z_entries) := hD
    refine lv_iload_n hx hb dX9_remove_14 rfl (lv_at hl 1 rfl) ?_
    refine lv_istore_n (lv' := [(2, .int p1), (0, .ref (a 0)), (1, .int p1)]) hx hb dX9_remove_15 rfl hl (by decide) rfl (fun ls hl => ?_)
    obtain ⟨n9, hw⟩ := hw
    exact cl_X9_remove_16 l D kI kC kB a z_text z_told z_formula u6 z_isKept z_typed z_at z_isRight z_times z_letter z_items z_length z_entries Post hA C n9 u5 p1 hw H locs hP hD hS ls (lv_sub hl [1, 0] rfl)
  · replace hw := hw.1 hc
    refine lv_iconst (v := (-1)) hx hb dX9_remove_8 (by decide) ?_
    exact retMi C (z_s, z_states) hw hP hD hS dX9_remove_9
set_option maxHeartbeats 4000000 in
set_option maxRecDepth 100000 in
theorem c_X9_lose (l : Launch) (D : va_G) (kI kC kB : ClassId) (a : AdT) (z_s : Nat → Int32) (z_text : Nat → Int32) (z_told : Nat → Int32) (z_formula : Nat → Int32) (z_states : Int32) (z_isKept : Int32) (z_typed : Int32) (z_at : Int32) (z_isRight : Int32) (z_times : Int32) (z_letter : Int32) (z_items : Int32) (z_length : Int32) (z_entries : Int32) (sz : Nat) (p1 : Int32) (p2 : Int32) (Post : Int32 → (Nat → Int32) → Int32 → Prop) (hw : wp_X9_lose z_s z_states p1 p2 Post) : CMi l D kI kC kB yX9_lose cX9_lose 4 (some .int) ({ frames := 4, cells := 0, slots := 0, locals := 88 } : Room) [.ref (a 0), .int p1, .int p2] (cwModel kI kC a z_s z_text z_told z_formula z_states z_isKept z_typed z_at z_isRight z_times z_letter z_items z_length z_entries) sz (fun (r : Int32) (u : (Nat → Int32) × Int32) => Post r u.1 u.2) (fun u : (Nat → Int32) × Int32 => (cwModel kI kC a u.1 z_text z_told z_formula u.2 z_isKept z_typed z_at z_isRight z_times z_letter z_items z_length z_entries)) := by
  refine entMi (by decide) (Nat.le_of_ble_eq_true rfl) ?_
  intro p e s m args below meth c ls A C hA hP hD hS hl
  obtain ⟨H, hHe⟩ : ∃ H, H = s.heap := ⟨_, rfl⟩
  obtain ⟨locs, hlo⟩ : ∃ lo : List Loc, lo = [] := ⟨_, rfl⟩
  have hS : va_S A s.heap H locs := by rw [hHe, hlo]; exact hS
  rw [← hHe] at hP
  suffices hg : W p l e ({ frames := 4, cells := 0, slots := 0, locals := 88 } : Room) s m args below meth c H locs 0 0 (MQ below (va_Qi (fun (r : Int32) (u : (Nat → Int32) × Int32) => Post r u.1 u.2) (BB D A (fun u : (Nat → Int32) × Int32 => (cwModel kI kC a u.1 z_text z_told z_formula u.2 z_isKept z_typed z_at z_isRight z_times z_letter z_items z_length z_entries))) A) args s 0 0 A) (F0 m 0 ls []) by rw [hHe, hlo] at hg; exact hg
  replace hl : lv_has ls 4 [(0, .ref (a 0)), (1, .int p1), (2, .int p2)] := hl
  obtain ⟨hx, hb, hr, hml, hown, hts, hlocks, hK⟩ := id C
  refine lv_aload_n hx hb dX9_lose_0 rfl (lv_at hl 0 rfl) ?_
  refine lv_iload_n hx hb dX9_lose_1 rfl (lv_at hl 1 rfl) ?_
  refine kRV (As := [.int p1]) (rest := []) (q0 := 0) C (c_X9_isLeaf l D kI kC kB a z_s z_text z_told z_formula z_states z_isKept z_typed z_at z_isRight z_times z_letter z_items z_length z_entries p1 _ hw) ⟨rfl, rfl⟩ ce_X9_isLeaf cv_X9_isLeaf tw_831 ⟨Nat.le_of_ble_eq_true rfl, Nat.le_of_ble_eq_true rfl⟩ hP [0, 1, 2, 3, 4] rfl rfl rfl rfl hl.1 rfl (Nat.le_of_ble_eq_true rfl) ⟨Nat.zero_le _, Nat.zero_le _⟩ dX9_lose_2 (fun r1 hw => ?_)
  refine lv_if_ne (tgt := 10) hx hb dX9_lose_5 (by decide) (fun hc => ?_) (fun hc => ?_)
  · replace hw := hw.2 hc
    refine lv_aload_n hx hb dX9_lose_10 rfl (lv_at hl 0 rfl) ?_
    refine lv_iload_n hx hb dX9_lose_11 rfl (lv_at hl 1 rfl) ?_
    refine kRV (As := [.int p1]) (rest := []) (q0 := 0) C (c_X9_isLost l D kI kC kB a z_s z_text z_told z_formula z_states z_isKept z_typed z_at z_isRight z_times z_letter z_items z_length z_entries p1 _ hw) ⟨rfl, rfl⟩ ce_X9_isLost cv_X9_isLost tw_835 ⟨Nat.le_of_ble_eq_true rfl, Nat.le_of_ble_eq_true rfl⟩ hP [0, 1, 2, 3, 4] rfl rfl rfl rfl hl.1 rfl (Nat.le_of_ble_eq_true rfl) ⟨Nat.zero_le _, Nat.zero_le _⟩ dX9_lose_12 (fun r2 hw => ?_)
    refine lv_iload_n hx hb dX9_lose_15 rfl (lv_at hl 2 rfl) ?_
    refine lv_icmp_ne (tgt := 22) hx hb dX9_lose_16 (by decide) (fun hc => ?_) (fun hc => ?_)
    · replace hw := hw.2 hc
      refine lv_aload_n hx hb dX9_lose_22 rfl (lv_at hl 0 rfl) ?_
      refine kMVv (q0 := 0) (As := []) (rest := []) C (c_X9_records l D kI kC kB a z_s z_text z_told z_formula z_states z_isKept z_typed z_at z_isRight z_times z_letter z_items z_length z_entries H.size _ hw) ⟨rfl, rfl⟩ ce_X9_records cv_X9_records tw_744 ⟨Nat.le_of_ble_eq_true rfl, Nat.le_of_ble_eq_true rfl⟩ hP hD hS hA [0, 1, 2, 3, 4] rfl rfl (fun _ => rfl) rfl rfl rfl hl.1 rfl (Nat.le_of_ble_eq_true rfl) ⟨Nat.zero_le _, Nat.zero_le _⟩ dX9_lose_23 (fun u H locs hw hP hD hS => ?_)
      obtain ⟨u3, u4⟩ := u
      try dsimp only at hw
      replace hP : va_P D vwCl (cwModel kI kC a u3 z_text z_told z_formula u4 z_isKept z_typed z_at z_isRight z_times z_letter z_items z_length z_entries) H := hP
      replace hD : va_D A (cwModel kI kC a u3 z_text z_told z_formula u4 z_isKept z_typed z_at z_isRight z_times z_letter z_items z_length z_entries) := hD
      refine lv_aload_n hx hb dX9_lose_26 rfl (lv_at hl 0 rfl) ?_
      refine lv_iload_n hx hb dX9_lose_27 rfl (lv_at hl 1 rfl) ?_
      refine kRV (As := [.int p1]) (rest := []) (q0 := 0) C (c_X9_quireOf l D kI kC kB a u3 z_text z_told z_formula u4 z_isKept z_typed z_at z_isRight z_times z_letter z_items z_length z_entries p1 _ hw) ⟨rfl, rfl⟩ ce_X9_quireOf cv_X9_quireOf tw_839 ⟨Nat.le_of_ble_eq_true rfl, Nat.le_of_ble_eq_true rfl⟩ hP [0, 1, 2, 3, 4] rfl rfl rfl rfl hl.1 rfl (Nat.le_of_ble_eq_true rfl) ⟨Nat.zero_le _, Nat.zero_le _⟩ dX9_lose_28 (fun r5 hw => ?_)
      refine lv_istore_n (lv' := [(3, .int r5), (0, .ref (a 0)), (1, .int p1), (2, .int p2)]) hx hb dX9_lose_31 rfl hl (by decide) rfl (fun ls hl => ?_)
      refine lv_aload_n hx hb dX9_lose_32 rfl (lv_at hl 1 rfl) ?_
      refine va_get (D := D) (ci := 7) (v := .ref (a 1)) (C := RX9) (T := TX9) (N := 14) hx hb hts inX9 hown hK.1 hP 0 rfl rfl 0 (by decide) (hts _ tw_685) (fun _ h9 => h9) rfl dX9_lose_33 ?_
      refine lv_iload_n hx hb dX9_lose_36 rfl (lv_at hl 0 rfl) ?_
      refine lv_iconst (v := (nI 3)) hx hb dX9_lose_37 (by decide) ?_
      refine kRS (As := [.int r5, .int (nI 3)]) (rest := [.ref (a 1)]) C (c_X9_of l D kI kC kB  r5 (nI 3) _ hw) ⟨rfl, rfl⟩ ce_X9_of cv_X9_of tw_764 ⟨Nat.le_of_ble_eq_true rfl, Nat.le_of_ble_eq_true rfl⟩ hP [] rfl hl.1 rfl (Nat.le_of_ble_eq_true rfl) ⟨Nat.zero_le _, Nat.zero_le _⟩ dX9_lose_38 (fun r6 hw => ?_)
      refine lv_dup2_11 hx hb dX9_lose_41 rfl rfl ?_
      have hin := hw.1
      replace hw := hw.2
      refine va_iald hx hb hK.1 hP 1 0 rfl rfl hin dX9_lose_42 ?_
      refine lv_iconst (v := (nI 1)) hx hb dX9_lose_43 (by decide) ?_
      refine lv_iload_n hx hb dX9_lose_44 rfl (lv_at hl 2 rfl) ?_
      refine lv_aload_n hx hb dX9_lose_45 rfl (lv_at hl 1 rfl) ?_
      refine lv_iload_n hx hb dX9_lose_46 rfl (lv_at hl 0 rfl) ?_
      refine kRV (As := [.int r5]) (rest := [.int p1, .int (nI 1), .int (u3 r6.toNatClampNeg), .int r6, .ref (a 1)]) (q0 := 0) C (c_X9_first l D kI kC kB a u3 z_text z_told z_formula u4 z_isKept z_typed z_at z_isRight z_times z_letter z_items z_length z_entries r5 _ hw) ⟨rfl, rfl⟩ ce_X9_first cv_X9_first tw_843 ⟨Nat.le_of_ble_eq_true rfl, Nat.le_of_ble_eq_true rfl⟩ hP [0, 1, 2, 3, 4] rfl rfl rfl rfl hl.1 rfl (Nat.le_of_ble_eq_true rfl) ⟨Nat.zero_le _, Nat.zero_le _⟩ dX9_lose_47 (fun r7 hw => ?_)
      refine lv_isub hx hb dX9_lose_50 ?_
      refine lv_ishl hx hb dX9_lose_51 ?_
      refine lv_ixor hx hb dX9_lose_52 ?_
      have hin := hw.1
      replace hw := hw.2
      refine va_iast hx hb hK.1 hP hD hS 1 0 rfl rfl hin dX9_lose_53 (fun H locs hP hD hS => ?_)
      replace hP : va_P D vwCl (cwModel kI kC a (upd u3 r6.toNatClampNeg ((u3 r6.toNatClampNeg) ^^^ ((nI 1) <<< ((p1 - r7) &&& 31)))) z_text z_told z_formula u4 z_isKept z_typed z_at z_isRight z_times z_letter z_items z_length z_entries) H := hP
      replace hD : va_D A (cwModel kI kC a (upd u3 r6.toNatClampNeg ((u3 r6.toNatClampNeg) ^^^ ((nI 1) <<< ((p1 - r7) &&& 31)))) z_text z_told z_formula u4 z_isKept z_typed z_at z_isRight z_times z_letter z_items z_length z_entries) := hD
      refine lv_aload_n hx hb dX9_lose_54 rfl (lv_at hl 1 rfl) ?_
      refine va_get (D := D) (ci := 7) (v := .ref (a 1)) (C := RX9) (T := TX9) (N := 14) hx hb hts inX9 hown hK.1 hP 0 rfl rfl 0 (by decide) (hts _ tw_685) (fun _ h9 => h9) rfl dX9_lose_55 ?_
      refine lv_sipush (v := (nI 163)) hx hb dX9_lose_58 (by decide) ?_
      refine lv_iconst (v := (nI 0)) hx hb dX9_lose_61 (by decide) ?_
      have hin := hw.1
      replace hw := hw.2
      refine va_iast hx hb hK.1 hP hD hS 1 0 rfl rfl hin dX9_lose_62 (fun H locs hP hD hS => ?_)
      replace hP : va_P D vwCl (cwModel kI kC a (upd (upd u3 r6.toNatClampNeg ((u3 r6.toNatClampNeg) ^^^ ((nI 1) <<< ((p1 - r7) &&& 31)))) (nI 163).toNatClampNeg (nI 0)) z_text z_told z_formula u4 z_isKept z_typed z_at z_isRight z_times z_letter z_items z_length z_entries) H := hP
      replace hD : va_D A (cwModel kI kC a (upd (upd u3 r6.toNatClampNeg ((u3 r6.toNatClampNeg) ^^^ ((nI 1) <<< ((p1 - r7) &&& 31)))) (nI 163).toNatClampNeg (nI 0)) z_text z_told z_formula u4 z_isKept z_typed z_at z_isRight z_times z_letter z_items z_length z_entries) := hD
      refine lv_aload_n hx hb dX9_lose_63 rfl (lv_at hl 1 rfl) ?_
      refine kRV (As := []) (rest := []) (q0 := 0) C (c_X9_thereOfAll l D kI kC kB a (upd (upd u3 r6.toNatClampNeg ((u3 r6.toNatClampNeg) ^^^ ((nI 1) <<< ((p1 - r7) &&& 31)))) (nI 163).toNatClampNeg (nI 0)) z_text z_told z_formula u4 z_isKept z_typed z_at z_isRight z_times z_letter z_items z_length z_entries _ hw) ⟨rfl, rfl⟩ ce_X9_thereOfAll cv_X9_thereOfAll tw_847 ⟨Nat.le_of_ble_eq_true rfl, Nat.le_of_ble_eq_true rfl⟩ hP [0, 1, 2, 3, 4] rfl rfl rfl rfl hl.1 rfl (Nat.le_of_ble_eq_true rfl) ⟨Nat.zero_le _, Nat.zero_le _⟩ dX9_lose_64 (fun r8 hw => ?_)
      exact retMi C ((upd (upd u3 r6.toNatClampNeg ((u3 r6.toNatClampNeg) ^^^ ((nI 1) <<< ((p1 - r7) &&& 31)))) (nI 163).toNatClampNeg (nI 0)), u4) hw hP hD hS dX9_lose_67
    · replace hw := hw.1 hc
      refine lv_bipush (v := (-5)) hx hb dX9_lose_19 (by decide) ?_
      exact retMi C (z_s, z_states) hw hP hD hS dX9_lose_21
  · replace hw := hw.1 hc
    refine lv_iconst (v := (-1)) hx hb dX9_lose_8 (by decide) ?_
    exact retMi C (z_s, z_states) hw hP hD hS dX9_lose_9
set_option maxHeartbeats 4000000 in
set_option maxRecDepth 100000 in
theorem cj_X9_found_61 (l : Launch) (D : va_G) (kI kC kB : ClassId) (a : AdT) (z_s : Nat → Int32) (z_text : Nat → Int32) (z_told : Nat → Int32) (z_formula : Nat → Int32) (z_states : Int32) (z_isKept : Int32) (z_typed : Int32) (z_at : Int32) (z_isRight : Int32) (z_times : Int32) (z_letter : Int32) (z_items : Int32) (z_length : Int32) (z_entries : Int32) (p1 : Int32) (v2 : Int32) (Post : Int32 → Prop) {p : Program} {e : Env} {s : State} {m : MethodId} {args : Array Value} {below : List Frame} {meth : Method} {c : Code} (C : CtxT p s m args meth c cX9_found 4 (some .int) yX9_found.cls D kI kC kB) (hP : va_P D vwCl (cwModel kI kC a z_s z_text z_told z_formula z_states z_isKept z_typed z_at z_isRight z_times z_letter z_items z_length z_entries) s.heap) (K2 : Int32 → Prop) (hK2 : ∀ (v2 : Int32), K2 v2 → ∀ (ls : Array Slot), lv_has ls 4 [(0, .ref (a 0)), (1, .int p1), (2, .int v2)] → W p l e ({ frames := 2, cells := 0, slots := 0, locals := 44 } : Room) s m args below meth c s.heap [] 0 0 (MQ below (vp_Si Post) args s 0 0 (fun _ => False)) (F0 m 2 ls [])) : ∀ (t0 : Int32), wj_X9_found_61 z_s z_told p1 v2 t0 K2 Post → ∀ (ls : Array Slot), lv_has ls 4 [(0, .ref (a 0)), (1, .int p1), (2, .int v2)] → W p l e ({ frames := 2, cells := 0, slots := 0, locals := 44 } : Room) s m args below meth c s.heap [] 0 0 (MQ below (vp_Si Post) args s 0 0 (fun _ => False)) (F0 m 61 ls [.int t0]) := by
  obtain ⟨hx, hb, hr, hml, hown, hts, hlocks, hK⟩ := id C
  intro t0 hw ls hl
  refine lv_istore_n (lv' := [(3, .int t0), (0, .ref (a 0)), (1, .int p1), (2, .int v2)]) hx hb dX9_found_61 rfl hl (by decide) rfl (fun ls hl => ?_)
  refine lv_iload_n hx hb dX9_found_62 rfl (lv_at hl 0 rfl) ?_
  refine lv_if_eq (tgt := 108) hx hb dX9_found_63 (by decide) (fun hc => ?_) (fun hc => ?_)
  · replace hw := hw.1 hc
    refine lv_iinc (v := (v2 + nI 1)) (lv' := [(2, .int (v2 + nI 1)), (3, .int t0), (0, .ref (a 0)), (1, .int p1)]) hx hb dX9_found_108 hl (k := 3) rfl rfl (by decide) rfl (fun ls hl => ?_)
    refine lv_goto (tgt := 2) hx hb dX9_found_111 (by decide) ?_
    exact hK2 (v2 + nI 1) hw ls (lv_sub hl [2, 3, 0] rfl)
  · replace hw := hw.2 hc
    refine lv_aload_n hx hb dX9_found_66 rfl (lv_at hl 1 rfl) ?_
    refine va_get (D := D) (ci := 7) (v := .ref (a 3)) (C := RX9) (T := TX9) (N := 14) hx hb hts inX9 hown hK.1 hP 0 rfl rfl 9 (by decide) (hts _ tw_694) (fun _ h9 => h9) rfl dX9_found_67 ?_
    refine lv_iconst (v := (nI 4)) hx hb dX9_found_70 (by decide) ?_
    refine lv_iload_n hx hb dX9_found_71 rfl (lv_at hl 2 rfl) ?_
    refine lv_imul hx hb dX9_found_72 ?_
    refine lv_iconst (v := (nI 3)) hx hb dX9_found_73 (by decide) ?_
    refine lv_iadd hx hb dX9_found_74 ?_
    have hin := hw.1
    replace hw := hw.2
    refine va_iald hx hb hK.1 hP 3 0 rfl rfl hin dX9_found_75 ?_
    refine lv_aload_n hx hb dX9_found_76 rfl (lv_at hl 1 rfl) ?_
    refine va_get (D := D) (ci := 7) (v := .ref (a 1)) (C := RX9) (T := TX9) (N := 14) hx hb hts inX9 hown hK.1 hP 0 rfl rfl 0 (by decide) (hts _ tw_685) (fun _ h9 => h9) rfl dX9_found_77 ?_
    refine lv_iload_n hx hb dX9_found_80 rfl (lv_at hl 3 rfl) ?_
    refine lv_iconst (v := (nI 2)) hx hb dX9_found_81 (by decide) ?_
    refine kRS (As := [.int v2, .int (nI 2)]) (rest := [.ref (a 1), .int (z_told (((nI 4) * p1) + (nI 3)).toNatClampNeg)]) C (c_X9_of l D kI kC kB  v2 (nI 2) _ hw) ⟨rfl, rfl⟩ ce_X9_of cv_X9_of tw_764 ⟨Nat.le_of_ble_eq_true rfl, Nat.le_of_ble_eq_true rfl⟩ hP [] rfl hl.1 rfl (Nat.le_of_ble_eq_true rfl) ⟨Nat.zero_le _, Nat.zero_le _⟩ dX9_found_82 (fun r1 hw => ?_)
    have hin := hw.1
    replace hw := hw.2
    refine va_iald hx hb hK.1 hP 1 0 rfl rfl hin dX9_found_85 ?_
    refine lv_icmp_gt (tgt := 108) hx hb dX9_found_86 (by decide) (fun hc => ?_) (fun hc => ?_)
    · replace hw := hw.1 hc
      refine lv_iinc (v := (v2 + nI 1)) (lv' := [(2, .int (v2 + nI 1)), (3, .int t0), (0, .ref (a 0)), (1, .int p1)]) hx hb dX9_found_108 hl (k := 3) rfl rfl (by decide) rfl (fun ls hl => ?_)
      refine lv_goto (tgt := 2) hx hb dX9_found_111 (by decide) ?_
      exact hK2 (v2 + nI 1) hw ls (lv_sub hl [2, 3, 0] rfl)
    · replace hw := hw.2 hc
      refine lv_aload_n hx hb dX9_found_89 rfl (lv_at hl 1 rfl) ?_
      refine lv_iload_n hx hb dX9_found_90 rfl (lv_at hl 3 rfl) ?_
      refine kRV (As := [.int v2]) (rest := []) (q0 := 0) C (c_X9_first l D kI kC kB a z_s z_text z_told z_formula z_states z_isKept z_typed z_at z_isRight z_times z_letter z_items z_length z_entries v2 _ hw) ⟨rfl, rfl⟩ ce_X9_first cv_X9_first tw_843 ⟨Nat.le_of_ble_eq_true rfl, Nat.le_of_ble_eq_true rfl⟩ hP [0, 1, 2, 3, 4] rfl rfl rfl rfl hl.1 rfl (Nat.le_of_ble_eq_true rfl) ⟨Nat.zero_le _, Nat.zero_le _⟩ dX9_found_91 (fun r2 hw => ?_)
      refine lv_aload_n hx hb dX9_found_94 rfl (lv_at hl 1 rfl) ?_
      refine va_get (D := D) (ci := 7) (v := .ref (a 3)) (C := RX9) (T := TX9) (N := 14) hx hb hts inX9 hown hK.1 hP 0 rfl rfl 9 (by decide) (hts _ tw_694) (fun _ h9 => h9) rfl dX9_found_95 ?_
      refine lv_iconst (v := (nI 4)) hx hb dX9_found_98 (by decide) ?_
      refine lv_iload_n hx hb dX9_found_99 rfl (lv_at hl 2 rfl) ?_
      refine lv_imul hx hb dX9_found_100 ?_
      refine lv_iconst (v := (nI 3)) hx hb dX9_found_101 (by decide) ?_
      refine lv_iadd hx hb dX9_found_102 ?_
      have hin := hw.1
      replace hw := hw.2
      refine va_iald hx hb hK.1 hP 3 0 rfl rfl hin dX9_found_103 ?_
      refine lv_iadd hx hb dX9_found_104 ?_
      refine lv_iconst (v := (nI 1)) hx hb dX9_found_105 (by decide) ?_
      refine lv_isub hx hb dX9_found_106 ?_
      exact retR C hw dX9_found_107
set_option maxHeartbeats 4000000 in
set_option maxRecDepth 100000 in
theorem cj_X9_found_60 (l : Launch) (D : va_G) (kI kC kB : ClassId) (a : AdT) (z_s : Nat → Int32) (z_text : Nat → Int32) (z_told : Nat → Int32) (z_formula : Nat → Int32) (z_states : Int32) (z_isKept : Int32) (z_typed : Int32) (z_at : Int32) (z_isRight : Int32) (z_times : Int32) (z_letter : Int32) (z_items : Int32) (z_length : Int32) (z_entries : Int32) (p1 : Int32) (v2 : Int32) (Post : Int32 → Prop) {p : Program} {e : Env} {s : State} {m : MethodId} {args : Array Value} {below : List Frame} {meth : Method} {c : Code} (C : CtxT p s m args meth c cX9_found 4 (some .int) yX9_found.cls D kI kC kB) (hP : va_P D vwCl (cwModel kI kC a z_s z_text z_told z_formula z_states z_isKept z_typed z_at z_isRight z_times z_letter z_items z_length z_entries) s.heap) (K2 : Int32 → Prop) (hK2 : ∀ (v2 : Int32), K2 v2 → ∀ (ls : Array Slot), lv_has ls 4 [(0, .ref (a 0)), (1, .int p1), (2, .int v2)] → W p l e ({ frames := 2, cells := 0, slots := 0, locals := 44 } : Room) s m args below meth c s.heap [] 0 0 (MQ below (vp_Si Post) args s 0 0 (fun _ => False)) (F0 m 2 ls [])) : wj_X9_found_60 z_s z_told p1 v2 K2 Post → ∀ (ls : Array Slot), lv_has ls 4 [(0, .ref (a 0)), (1, .int p1), (2, .int v2)] → W p l e ({ frames := 2, cells := 0, slots := 0, locals := 44 } : Room) s m args below meth c s.heap [] 0 0 (MQ below (vp_Si Post) args s 0 0 (fun _ => False)) (F0 m 60 ls []) := by
  obtain ⟨hx, hb, hr, hml, hown, hts, hlocks, hK⟩ := id C
  intro hw ls hl
  refine lv_iconst (v := (nI 0)) hx hb dX9_found_60 (by decide) ?_
  exact cj_X9_found_61 l D kI kC kB a z_s z_text z_told z_formula z_states z_isKept z_typed z_at z_isRight z_times z_letter z_items z_length z_entries p1 v2 Post C hP _ hK2 (nI 0) hw ls (lv_sub hl [0, 1, 2] rfl)
set_option maxHeartbeats 4000000 in
set_option maxRecDepth 100000 in
theorem cl_X9_found_2 (l : Launch) (D : va_G) (kI kC kB : ClassId) (a : AdT) (z_s : Nat → Int32) (z_text : Nat → Int32) (z_told : Nat → Int32) (z_formula : Nat → Int32) (z_states : Int32) (z_isKept : Int32) (z_typed : Int32) (z_at : Int32) (z_isRight : Int32) (z_times : Int32) (z_letter : Int32) (z_items : Int32) (z_length : Int32) (z_entries : Int32) (p1 : Int32) (Post : Int32 → Prop) {p : Program} {e : Env} {s : State} {m : MethodId} {args : Array Value} {below : List Frame} {meth : Method} {c : Code} (C : CtxT p s m args meth c cX9_found 4 (some .int) yX9_found.cls D kI kC kB) (hP : va_P D vwCl (cwModel kI kC a z_s z_text z_told z_formula z_states z_isKept z_typed z_at z_isRight z_times z_letter z_items z_length z_entries) s.heap) : ∀ (n : Nat), ∀ (v2 : Int32), wl_X9_found_2 z_s z_told p1 Post n v2 → ∀ (ls : Array Slot), lv_has ls 4 [(0, .ref (a 0)), (1, .int p1), (2, .int v2)] → W p l e ({ frames := 2, cells := 0, slots := 0, locals := 44 } : Room) s m args below meth c s.heap [] 0 0 (MQ below (vp_Si Post) args s 0 0 (fun _ => False)) (F0 m 2 ls []) := by
  obtain ⟨hx, hb, hr, hml, hown, hts, hlocks, hK⟩ := id C
  intro n
  induction n with
  | zero => intro v2 hw; exact hw.elim
  | succ n ih =>
    intro v2 hw ls hl
    refine lv_iload_n hx hb dX9_found_2 rfl (lv_at hl 2 rfl) ?_
    refine lv_aload_n hx hb dX9_found_3 rfl (lv_at hl 0 rfl) ?_
    refine va_get (D := D) (ci := 7) (v := .ref (a 1)) (C := RX9) (T := TX9) (N := 14) hx hb hts inX9 hown hK.1 hP 0 rfl rfl 0 (by decide) (hts _ tw_685) (fun _ h9 => h9) rfl dX9_found_4 ?_
    refine lv_iconst (v := (nI 2)) hx hb dX9_found_7 (by decide) ?_
    have hin := hw.1
    replace hw := hw.2
    refine va_iald hx hb hK.1 hP 1 0 rfl rfl hin dX9_found_8 ?_
    refine lv_icmp_ge (tgt := 114) hx hb dX9_found_9 (by decide) (fun hc => ?_) (fun hc => ?_)
    · replace hw := hw.1 hc
      refine lv_iconst (v := (-1)) hx hb dX9_found_114 (by decide) ?_
      exact retR C hw dX9_found_115
    · replace hw := hw.2 hc
      refine lv_aload_n hx hb dX9_found_12 rfl (lv_at hl 0 rfl) ?_
      refine va_get (D := D) (ci := 7) (v := .ref (a 1)) (C := RX9) (T := TX9) (N := 14) hx hb hts inX9 hown hK.1 hP 0 rfl rfl 0 (by decide) (hts _ tw_685) (fun _ h9 => h9) rfl dX9_found_13 ?_
      refine lv_iload_n hx hb dX9_found_16 rfl (lv_at hl 2 rfl) ?_
      refine lv_iconst (v := (nI 0)) hx hb dX9_found_17 (by decide) ?_
      refine kRS (As := [.int v2, .int (nI 0)]) (rest := [.ref (a 1)]) C (c_X9_of l D kI kC kB  v2 (nI 0) _ hw) ⟨rfl, rfl⟩ ce_X9_of cv_X9_of tw_764 ⟨Nat.le_of_ble_eq_true rfl, Nat.le_of_ble_eq_true rfl⟩ hP [] rfl hl.1 rfl (Nat.le_of_ble_eq_true rfl) ⟨Nat.zero_le _, Nat.zero_le _⟩ dX9_found_18 (fun r3 hw => ?_)
      have hin := hw.1
      replace hw := hw.2
      refine va_iald hx hb hK.1 hP 1 0 rfl rfl hin dX9_found_21 ?_
      refine lv_aload_n hx hb dX9_found_22 rfl (lv_at hl 0 rfl) ?_
      refine va_get (D := D) (ci := 7) (v := .ref (a 3)) (C := RX9) (T := TX9) (N := 14) hx hb hts inX9 hown hK.1 hP 0 rfl rfl 9 (by decide) (hts _ tw_694) (fun _ h9 => h9) rfl dX9_found_23 ?_
      refine lv_iconst (v := (nI 4)) hx hb dX9_found_26 (by decide) ?_
      refine lv_iload_n hx hb dX9_found_27 rfl (lv_at hl 1 rfl) ?_
      refine lv_imul hx hb dX9_found_28 ?_
      have hin := hw.1
      replace hw := hw.2
      refine va_iald hx hb hK.1 hP 3 0 rfl rfl hin dX9_found_29 ?_
      refine lv_icmp_ne (tgt := 60) hx hb dX9_found_30 (by decide) (fun hc => ?_) (fun hc => ?_)
      · replace hw := hw.2 hc
        exact cj_X9_found_60 l D kI kC kB a z_s z_text z_told z_formula z_states z_isKept z_typed z_at z_isRight z_times z_letter z_items z_length z_entries p1 v2 Post C hP _ ih hw ls (lv_sub hl [0, 1, 2] rfl)
      · replace hw := hw.1 hc
        refine lv_aload_n hx hb dX9_found_33 rfl (lv_at hl 0 rfl) ?_
        refine va_get (D := D) (ci := 7) (v := .ref (a 1)) (C := RX9) (T := TX9) (N := 14) hx hb hts inX9 hown hK.1 hP 0 rfl rfl 0 (by decide) (hts _ tw_685) (fun _ h9 => h9) rfl dX9_found_34 ?_
        refine lv_iload_n hx hb dX9_found_37 rfl (lv_at hl 2 rfl) ?_
        refine lv_iconst (v := (nI 1)) hx hb dX9_found_38 (by decide) ?_
        refine kRS (As := [.int v2, .int (nI 1)]) (rest := [.ref (a 1)]) C (c_X9_of l D kI kC kB  v2 (nI 1) _ hw) ⟨rfl, rfl⟩ ce_X9_of cv_X9_of tw_764 ⟨Nat.le_of_ble_eq_true rfl, Nat.le_of_ble_eq_true rfl⟩ hP [] rfl hl.1 rfl (Nat.le_of_ble_eq_true rfl) ⟨Nat.zero_le _, Nat.zero_le _⟩ dX9_found_39 (fun r4 hw => ?_)
        have hin := hw.1
        replace hw := hw.2
        refine va_iald hx hb hK.1 hP 1 0 rfl rfl hin dX9_found_42 ?_
        refine lv_aload_n hx hb dX9_found_43 rfl (lv_at hl 0 rfl) ?_
        refine va_get (D := D) (ci := 7) (v := .ref (a 3)) (C := RX9) (T := TX9) (N := 14) hx hb hts inX9 hown hK.1 hP 0 rfl rfl 9 (by decide) (hts _ tw_694) (fun _ h9 => h9) rfl dX9_found_44 ?_
        refine lv_iconst (v := (nI 4)) hx hb dX9_found_47 (by decide) ?_
        refine lv_iload_n hx hb dX9_found_48 rfl (lv_at hl 1 rfl) ?_
        refine lv_imul hx hb dX9_found_49 ?_
        refine lv_iconst (v := (nI 1)) hx hb dX9_found_50 (by decide) ?_
        refine lv_iadd hx hb dX9_found_51 ?_
        have hin := hw.1
        replace hw := hw.2
        refine va_iald hx hb hK.1 hP 3 0 rfl rfl hin dX9_found_52 ?_
        refine lv_icmp_ne (tgt := 60) hx hb dX9_found_53 (by decide) (fun hc => ?_) (fun hc => ?_)
        · replace hw := hw.2 hc
          exact cj_X9_found_60 l D kI kC kB a z_s z_text z_told z_formula z_states z_isKept z_typed z_at z_isRight z_times z_letter z_items z_length z_entries p1 v2 Post C hP _ ih hw ls (lv_sub hl [0, 1, 2] rfl)
        · replace hw := hw.1 hc
          refine lv_iconst (v := (nI 1)) hx hb dX9_found_56 (by decide) ?_
          refine lv_goto (tgt := 61) hx hb dX9_found_57 (by decide) ?_
          exact cj_X9_found_61 l D kI kC kB a z_s z_text z_told z_formula z_states z_isKept z_typed z_at z_isRight z_times z_letter z_items z_length z_entries p1 v2 Post C hP _ ih (nI 1) hw ls (lv_sub hl [0, 1, 2] rfl)
set_option maxHeartbeats 4000000 in
set_option maxRecDepth 100000 in
theorem c_X9_found (l : Launch) (D : va_G) (kI kC kB : ClassId) (a : AdT) (z_s : Nat → Int32) (z_text : Nat → Int32) (z_told : Nat → Int32) (z_formula : Nat → Int32) (z_states : Int32) (z_isKept : Int32) (z_typed : Int32) (z_at : Int32) (z_isRight : Int32) (z_times : Int32) (z_letter : Int32) (z_items : Int32) (z_length : Int32) (z_entries : Int32) (p1 : Int32) (Post : Int32 → Prop) (hw : wp_X9_found z_s z_told p1 Post) : CR l D kI kC kB yX9_found cX9_found 4 (some .int) ({ frames := 2, cells := 0, slots := 0, locals := 44 } : Room) [.ref (a 0), .int p1] (cwModel kI kC a z_s z_text z_told z_formula z_states z_isKept z_typed z_at z_isRight z_times z_letter z_items z_length z_entries) Post := by
  refine entR (by decide) (Nat.le_of_ble_eq_true rfl) ?_
  intro p e s m args below meth c ls C hP hl
  replace hl : lv_has ls 4 [(0, .ref (a 0)), (1, .int p1)] := hl
  obtain ⟨hx, hb, hr, hml, hown, hts, hlocks, hK⟩ := id C
  refine lv_iconst (v := (nI 0)) hx hb dX9_found_0 (by decide) ?_
  refine lv_istore_n (lv' := [(2, .int (nI 0)), (0, .ref (a 0)), (1, .int p1)]) hx hb dX9_found_1 rfl hl (by decide) rfl (fun ls hl => ?_)
  obtain ⟨n9, hw⟩ := hw
  exact cl_X9_found_2 l D kI kC kB a z_s z_text z_told z_formula z_states z_isKept z_typed z_at z_isRight z_times z_letter z_items z_length z_entries p1 Post C hP n9 (nI 0) hw ls (lv_sub hl [1, 2, 0] rfl)
set_option maxHeartbeats 4000000 in
set_option maxRecDepth 100000 in
theorem cl_X9_readPile_56 (l : Launch) (D : va_G) (kI kC kB : ClassId) (a : AdT) (z_s : Nat → Int32) (z_text : Nat → Int32) (z_told : Nat → Int32) (z_formula : Nat → Int32) (z_states : Int32) (z_isKept : Int32) (z_typed : Int32) (z_at : Int32) (z_isRight : Int32) (z_times : Int32) (z_letter : Int32) (z_items : Int32) (z_length : Int32) (z_entries : Int32) (v2 : Int32) (Post : Int32 → (Nat → Int32) → (Nat → Int32) → Int32 → Int32 → Int32 → Int32 → Int32 → Int32 → Prop) {p : Program} {e : Env} {s : State} {m : MethodId} {args : Array Value} {below : List Frame} {meth : Method} {c : Code} {A : Nat → Prop} (hA : ∀ q : Nat, s.heap.size ≤ q → A q) (C : CtxT p s m args meth c cX9_readPile 5 (some .int) yX9_readPile.cls D kI kC kB) (K43 : Int32 → Prop) (hK43 : ∀ (v2 : Int32), K43 v2 → ∀ (H : Heap) (locs : List Loc), va_P D vwCl (cwModel kI kC a z_s z_text z_told z_formula z_states z_isKept z_typed z_at z_isRight z_times z_letter z_items z_length z_entries) H → va_D A (cwModel kI kC a z_s z_text z_told z_formula z_states z_isKept z_typed z_at z_isRight z_times z_letter z_items z_length z_entries) → va_S A s.heap H locs → ∀ (ls : Array Slot), lv_has ls 5 [(0, .ref (a 0)), (2, .int v2)] → W p l e ({ frames := 5, cells := 0, slots := 0, locals := 109 } : Room) s m args below meth c H locs 0 0 (MQ below (va_Qi (fun (r : Int32) (u : (Nat → Int32) × (Nat → Int32) × Int32 × Int32 × Int32 × Int32 × Int32 × Int32) => Post r u.1 u.2.1 u.2.2.1 u.2.2.2.1 u.2.2.2.2.1 u.2.2.2.2.2.1 u.2.2.2.2.2.2.1 u.2.2.2.2.2.2.2) (BB D A (fun u : (Nat → Int32) × (Nat → Int32) × Int32 × Int32 × Int32 × Int32 × Int32 × Int32 => (cwModel kI kC a u.1 z_text u.2.1 z_formula u.2.2.1 z_isKept z_typed u.2.2.2.1 u.2.2.2.2.1 u.2.2.2.2.2.1 u.2.2.2.2.2.2.1 u.2.2.2.2.2.2.2 z_length z_entries))) A) args s 0 0 A) (F0 m 43 ls [])) : ∀ (n : Nat), ∀ (v3 : Int32) (v4 : Int32), wl_X9_readPile_56 z_s z_text z_told z_states z_typed z_at z_isRight z_times z_letter z_items v2 K43 Post n v3 v4 → ∀ (H : Heap) (locs : List Loc), va_P D vwCl (cwModel kI kC a z_s z_text z_told z_formula z_states z_isKept z_typed z_at z_isRight z_times z_letter z_items z_length z_entries) H → va_D A (cwModel kI kC a z_s z_text z_told z_formula z_states z_isKept z_typed z_at z_isRight z_times z_letter z_items z_length z_entries) → va_S A s.heap H locs → ∀ (ls : Array Slot), lv_has ls 5 [(0, .ref (a 0)), (2, .int v2), (3, .int v3), (4, .int v4)] → W p l e ({ frames := 5, cells := 0, slots := 0, locals := 109 } : Room) s m args below meth c H locs 0 0 (MQ below (va_Qi (fun (r : Int32) (u : (Nat → Int32) × (Nat → Int32) × Int32 × Int32 × Int32 × Int32 × Int32 × Int32) => Post r u.1 u.2.1 u.2.2.1 u.2.2.2.1 u.2.2.2.2.1 u.2.2.2.2.2.1 u.2.2.2.2.2.2.1 u.2.2.2.2.2.2.2) (BB D A (fun u : (Nat → Int32) × (Nat → Int32) × Int32 × Int32 × Int32 × Int32 × Int32 × Int32 => (cwModel kI kC a u.1 z_text u.2.1 z_formula u.2.2.1 z_isKept z_typed u.2.2.2.1 u.2.2.2.2.1 u.2.2.2.2.2.1 u.2.2.2.2.2.2.1 u.2.2.2.2.2.2.2 z_length z_entries))) A) args s 0 0 A) (F0 m 56 ls []) := by
  obtain ⟨hx, hb, hr, hml, hown, hts, hlocks, hK⟩ := id C
  intro n
  induction n with
  | zero => intro v3 v4 hw; exact hw.elim
  | succ n ih =>
    intro v3 v4 hw H locs hP hD hS ls hl
    refine lv_iload hx hb dX9_readPile_56 (lv_at hl 3 rfl) ?_
    refine lv_iload_n hx hb dX9_readPile_58 rfl (lv_at hl 1 rfl) ?_
    refine lv_icmp_ge (tgt := 92) hx hb dX9_readPile_59 (by decide) (fun hc => ?_) (fun hc => ?_)
    · replace hw := hw.1 hc
      refine lv_iload_n hx hb dX9_readPile_92 rfl (lv_at hl 2 rfl) ?_
      refine lv_if_ne (tgt := 108) hx hb dX9_readPile_93 (by decide) (fun hc => ?_) (fun hc => ?_)
      · replace hw := hw.2 hc
        refine lv_bipush (v := (-4)) hx hb dX9_readPile_108 (by decide) ?_
        exact retMi C (z_s, z_told, z_states, z_at, z_isRight, z_times, z_letter, z_items) hw hP hD hS dX9_readPile_110
      · replace hw := hw.1 hc
        refine lv_aload_n hx hb dX9_readPile_96 rfl (lv_at hl 0 rfl) ?_
        refine lv_aload_n hx hb dX9_readPile_97 rfl (lv_at hl 0 rfl) ?_
        refine lv_iload_n hx hb dX9_readPile_98 rfl (lv_at hl 1 rfl) ?_
        refine kRV (As := [.int v2]) (rest := [.ref (a 0)]) (q0 := 0) C (c_X9_found l D kI kC kB a z_s z_text z_told z_formula z_states z_isKept z_typed z_at z_isRight z_times z_letter z_items z_length z_entries v2 _ hw) ⟨rfl, rfl⟩ ce_X9_found cv_X9_found tw_859 ⟨Nat.le_of_ble_eq_true rfl, Nat.le_of_ble_eq_true rfl⟩ hP [0, 1, 2, 3, 4] rfl rfl rfl rfl hl.1 rfl (Nat.le_of_ble_eq_true rfl) ⟨Nat.zero_le _, Nat.zero_le _⟩ dX9_readPile_99 (fun r1 hw => ?_)
        refine kRV (As := [.int r1]) (rest := []) (q0 := 0) C (c_X9_isLost l D kI kC kB a z_s z_text z_told z_formula z_states z_isKept z_typed z_at z_isRight z_times z_letter z_items z_length z_entries r1 _ hw) ⟨rfl, rfl⟩ ce_X9_isLost cv_X9_isLost tw_835 ⟨Nat.le_of_ble_eq_true rfl, Nat.le_of_ble_eq_true rfl⟩ hP [0, 1, 2, 3, 4] rfl rfl rfl rfl hl.1 rfl (Nat.le_of_ble_eq_true rfl) ⟨Nat.zero_le _, Nat.zero_le _⟩ dX9_readPile_102 (fun r2 hw => ?_)
        refine lv_if_eq (tgt := 111) hx hb dX9_readPile_105 (by decide) (fun hc => ?_) (fun hc => ?_)
        · replace hw := hw.1 hc
          refine lv_iinc (v := (v2 + nI 1)) (lv' := [(2, .int (v2 + nI 1)), (0, .ref (a 0)), (3, .int v3), (4, .int v4)]) hx hb dX9_readPile_111 hl (k := 1) rfl rfl (by decide) rfl (fun ls hl => ?_)
          refine lv_goto (tgt := 43) hx hb dX9_readPile_114 (by decide) ?_
          exact hK43 (v2 + nI 1) hw H locs hP hD hS ls (lv_sub hl [1, 0] rfl)
        · replace hw := hw.2 hc
          refine lv_bipush (v := (-4)) hx hb dX9_readPile_108 (by decide) ?_
          exact retMi C (z_s, z_told, z_states, z_at, z_isRight, z_times, z_letter, z_items) hw hP hD hS dX9_readPile_110
    · replace hw := hw.2 hc
      refine lv_iload_n hx hb dX9_readPile_62 rfl (lv_at hl 2 rfl) ?_
      refine lv_if_ne (tgt := 80) hx hb dX9_readPile_63 (by decide) (fun hc => ?_) (fun hc => ?_)
      · replace hw := hw.2 hc
        refine lv_iconst (v := (nI 1)) hx hb dX9_readPile_80 (by decide) ?_
        refine lv_goto (tgt := 85) hx hb dX9_readPile_81 (by decide) ?_
        refine lv_istore_n (lv' := [(3, .int (nI 1)), (0, .ref (a 0)), (2, .int v2), (4, .int v4)]) hx hb dX9_readPile_85 rfl hl (by decide) rfl (fun ls hl => ?_)
        refine lv_iinc (v := (v4 + nI 1)) (lv' := [(4, .int (v4 + nI 1)), (3, .int (nI 1)), (0, .ref (a 0)), (2, .int v2)]) hx hb dX9_readPile_86 hl (k := 3) rfl rfl (by decide) rfl (fun ls hl => ?_)
        refine lv_goto (tgt := 56) hx hb dX9_readPile_89 (by decide) ?_
        exact ih (nI 1) (v4 + nI 1) hw H locs hP hD hS ls (lv_sub hl [2, 3, 1, 0] rfl)
      · replace hw := hw.1 hc
        refine lv_aload_n hx hb dX9_readPile_66 rfl (lv_at hl 0 rfl) ?_
        refine lv_iload hx hb dX9_readPile_67 (lv_at hl 3 rfl) ?_
        refine kRV (As := [.int v4]) (rest := []) (q0 := 0) C (c_X9_found l D kI kC kB a z_s z_text z_told z_formula z_states z_isKept z_typed z_at z_isRight z_times z_letter z_items z_length z_entries v4 _ hw) ⟨rfl, rfl⟩ ce_X9_found cv_X9_found tw_859 ⟨Nat.le_of_ble_eq_true rfl, Nat.le_of_ble_eq_true rfl⟩ hP [0, 1, 2, 3, 4] rfl rfl rfl rfl hl.1 rfl (Nat.le_of_ble_eq_true rfl) ⟨Nat.zero_le _, Nat.zero_le _⟩ dX9_readPile_69 (fun r3 hw => ?_)
        refine lv_aload_n hx hb dX9_readPile_72 rfl (lv_at hl 0 rfl) ?_
        refine lv_iload_n hx hb dX9_readPile_73 rfl (lv_at hl 1 rfl) ?_
        refine kRV (As := [.int v2]) (rest := [.int r3]) (q0 := 0) C (c_X9_found l D kI kC kB a z_s z_text z_told z_formula z_states z_isKept z_typed z_at z_isRight z_times z_letter z_items z_length z_entries v2 _ hw) ⟨rfl, rfl⟩ ce_X9_found cv_X9_found tw_859 ⟨Nat.le_of_ble_eq_true rfl, Nat.le_of_ble_eq_true rfl⟩ hP [0, 1, 2, 3, 4] rfl rfl rfl rfl hl.1 rfl (Nat.le_of_ble_eq_true rfl) ⟨Nat.zero_le _, Nat.zero_le _⟩ dX9_readPile_74 (fun r4 hw => ?_)
        refine lv_icmp_ne (tgt := 84) hx hb dX9_readPile_77 (by decide) (fun hc => ?_) (fun hc => ?_)
        · replace hw := hw.2 hc
          refine lv_iconst (v := (nI 0)) hx hb dX9_readPile_84 (by decide) ?_
          refine lv_istore_n (lv' := [(3, .int (nI 0)), (0, .ref (a 0)), (2, .int v2), (4, .int v4)]) hx hb dX9_readPile_85 rfl hl (by decide) rfl (fun ls hl => ?_)
          refine lv_iinc (v := (v4 + nI 1)) (lv' := [(4, .int (v4 + nI 1)), (3, .int (nI 0)), (0, .ref (a 0)), (2, .int v2)]) hx hb dX9_readPile_86 hl (k := 3) rfl rfl (by decide) rfl (fun ls hl => ?_)
          refine lv_goto (tgt := 56) hx hb dX9_readPile_89 (by decide) ?_
          exact ih (nI 0) (v4 + nI 1) hw H locs hP hD hS ls (lv_sub hl [2, 3, 1, 0] rfl)
        · replace hw := hw.1 hc
          refine lv_iconst (v := (nI 1)) hx hb dX9_readPile_80 (by decide) ?_
          refine lv_goto (tgt := 85) hx hb dX9_readPile_81 (by decide) ?_
          refine lv_istore_n (lv' := [(3, .int (nI 1)), (0, .ref (a 0)), (2, .int v2), (4, .int v4)]) hx hb dX9_readPile_85 rfl hl (by decide) rfl (fun ls hl => ?_)
          refine lv_iinc (v := (v4 + nI 1)) (lv' := [(4, .int (v4 + nI 1)), (3, .int (nI 1)), (0, .ref (a 0)), (2, .int v2)]) hx hb dX9_readPile_86 hl (k := 3) rfl rfl (by decide) rfl (fun ls hl => ?_)
          refine lv_goto (tgt := 56) hx hb dX9_readPile_89 (by decide) ?_
          exact ih (nI 1) (v4 + nI 1) hw H locs hP hD hS ls (lv_sub hl [2, 3, 1, 0] rfl)
set_option maxHeartbeats 4000000 in
set_option maxRecDepth 100000 in
theorem cl_X9_readPile_135 (l : Launch) (D : va_G) (kI kC kB : ClassId) (a : AdT) (z_text : Nat → Int32) (z_told : Nat → Int32) (z_formula : Nat → Int32) (z_states : Int32) (z_isKept : Int32) (z_typed : Int32) (z_at : Int32) (z_isRight : Int32) (z_times : Int32) (z_letter : Int32) (z_items : Int32) (z_length : Int32) (z_entries : Int32) (Post : Int32 → (Nat → Int32) → (Nat → Int32) → Int32 → Int32 → Int32 → Int32 → Int32 → Int32 → Prop) {p : Program} {e : Env} {s : State} {m : MethodId} {args : Array Value} {below : List Frame} {meth : Method} {c : Code} {A : Nat → Prop} (hA : ∀ q : Nat, s.heap.size ≤ q → A q) (C : CtxT p s m args meth c cX9_readPile 5 (some .int) yX9_readPile.cls D kI kC kB) : ∀ (n : Nat), ∀ (z_s : Nat → Int32) (v2 : Int32), wl_X9_readPile_135 z_text z_told z_states z_typed z_at z_isRight z_times z_letter z_items Post n z_s v2 → ∀ (H : Heap) (locs : List Loc), va_P D vwCl (cwModel kI kC a z_s z_text z_told z_formula z_states z_isKept z_typed z_at z_isRight z_times z_letter z_items z_length z_entries) H → va_D A (cwModel kI kC a z_s z_text z_told z_formula z_states z_isKept z_typed z_at z_isRight z_times z_letter z_items z_length z_entries) → va_S A s.heap H locs → ∀ (ls : Array Slot), lv_has ls 5 [(0, .ref (a 0)), (2, .int v2)] → W p l e ({ frames := 5, cells := 0, slots := 0, locals := 109 } : Room) s m args below meth c H locs 0 0 (MQ below (va_Qi (fun (r : Int32) (u : (Nat → Int32) × (Nat → Int32) × Int32 × Int32 × Int32 × Int32 × Int32 × Int32) => Post r u.1 u.2.1 u.2.2.1 u.2.2.2.1 u.2.2.2.2.1 u.2.2.2.2.2.1 u.2.2.2.2.2.2.1 u.2.2.2.2.2.2.2) (BB D A (fun u : (Nat → Int32) × (Nat → Int32) × Int32 × Int32 × Int32 × Int32 × Int32 × Int32 => (cwModel kI kC a u.1 z_text u.2.1 z_formula u.2.2.1 z_isKept z_typed u.2.2.2.1 u.2.2.2.2.1 u.2.2.2.2.2.1 u.2.2.2.2.2.2.1 u.2.2.2.2.2.2.2 z_length z_entries))) A) args s 0 0 A) (F0 m 135 ls []) := by
  obtain ⟨hx, hb, hr, hml, hown, hts, hlocks, hK⟩ := id C
  intro n
  induction n with
  | zero => intro z_s v2 hw; exact hw.elim
  | succ n ih =>
    intro z_s v2 hw H locs hP hD hS ls hl
    refine lv_iload_n hx hb dX9_readPile_135 rfl (lv_at hl 1 rfl) ?_
    refine lv_aload_n hx hb dX9_readPile_136 rfl (lv_at hl 0 rfl) ?_
    refine va_get (D := D) (ci := 7) (v := .int z_items) (C := RX9) (T := TX9) (N := 14) hx hb hts inX9 hown hK.1 hP 0 rfl rfl 10 (by decide) (hts _ tw_695) (fun _ h9 => h9) rfl dX9_readPile_137 ?_
    refine lv_icmp_ge (tgt := 164) hx hb dX9_readPile_140 (by decide) (fun hc => ?_) (fun hc => ?_)
    · replace hw := hw.1 hc
      refine lv_aload_n hx hb dX9_readPile_164 rfl (lv_at hl 0 rfl) ?_
      refine va_get (D := D) (ci := 7) (v := .ref (a 1)) (C := RX9) (T := TX9) (N := 14) hx hb hts inX9 hown hK.1 hP 0 rfl rfl 0 (by decide) (hts _ tw_685) (fun _ h9 => h9) rfl dX9_readPile_165 ?_
      refine lv_sipush (v := (nI 163)) hx hb dX9_readPile_168 (by decide) ?_
      refine lv_aload_n hx hb dX9_readPile_171 rfl (lv_at hl 0 rfl) ?_
      refine va_get (D := D) (ci := 7) (v := .int z_items) (C := RX9) (T := TX9) (N := 14) hx hb hts inX9 hown hK.1 hP 0 rfl rfl 10 (by decide) (hts _ tw_695) (fun _ h9 => h9) rfl dX9_readPile_172 ?_
      have hin := hw.1
      replace hw := hw.2
      refine va_iast hx hb hK.1 hP hD hS 1 0 rfl rfl hin dX9_readPile_175 (fun H locs hP hD hS => ?_)
      replace hP : va_P D vwCl (cwModel kI kC a (upd z_s (nI 163).toNatClampNeg z_items) z_text z_told z_formula z_states z_isKept z_typed z_at z_isRight z_times z_letter z_items z_length z_entries) H := hP
      replace hD : va_D A (cwModel kI kC a (upd z_s (nI 163).toNatClampNeg z_items) z_text z_told z_formula z_states z_isKept z_typed z_at z_isRight z_times z_letter z_items z_length z_entries) := hD
      refine lv_aload_n hx hb dX9_readPile_176 rfl (lv_at hl 0 rfl) ?_
      refine va_get (D := D) (ci := 7) (v := .int z_items) (C := RX9) (T := TX9) (N := 14) hx hb hts inX9 hown hK.1 hP 0 rfl rfl 10 (by decide) (hts _ tw_695) (fun _ h9 => h9) rfl dX9_readPile_177 ?_
      exact retMi C ((upd z_s (nI 163).toNatClampNeg z_items), z_told, z_states, z_at, z_isRight, z_times, z_letter, z_items) hw hP hD hS dX9_readPile_180
    · replace hw := hw.2 hc
      refine lv_aload_n hx hb dX9_readPile_143 rfl (lv_at hl 0 rfl) ?_
      refine va_get (D := D) (ci := 7) (v := .ref (a 1)) (C := RX9) (T := TX9) (N := 14) hx hb hts inX9 hown hK.1 hP 0 rfl rfl 0 (by decide) (hts _ tw_685) (fun _ h9 => h9) rfl dX9_readPile_144 ?_
      refine lv_sipush (v := (nI 164)) hx hb dX9_readPile_147 (by decide) ?_
      refine lv_iload_n hx hb dX9_readPile_150 rfl (lv_at hl 1 rfl) ?_
      refine lv_iadd hx hb dX9_readPile_151 ?_
      refine lv_aload_n hx hb dX9_readPile_152 rfl (lv_at hl 0 rfl) ?_
      refine lv_iload_n hx hb dX9_readPile_153 rfl (lv_at hl 1 rfl) ?_
      refine kRV (As := [.int v2]) (rest := [.int ((nI 164) + v2), .ref (a 1)]) (q0 := 0) C (c_X9_found l D kI kC kB a z_s z_text z_told z_formula z_states z_isKept z_typed z_at z_isRight z_times z_letter z_items z_length z_entries v2 _ hw) ⟨rfl, rfl⟩ ce_X9_found cv_X9_found tw_859 ⟨Nat.le_of_ble_eq_true rfl, Nat.le_of_ble_eq_true rfl⟩ hP [0, 1, 2, 3, 4] rfl rfl rfl rfl hl.1 rfl (Nat.le_of_ble_eq_true rfl) ⟨Nat.zero_le _, Nat.zero_le _⟩ dX9_readPile_154 (fun r5 hw => ?_)
      have hin := hw.1
      replace hw := hw.2
      refine va_iast hx hb hK.1 hP hD hS 1 0 rfl rfl hin dX9_readPile_157 (fun H locs hP hD hS => ?_)
      replace hP : va_P D vwCl (cwModel kI kC a (upd z_s ((nI 164) + v2).toNatClampNeg r5) z_text z_told z_formula z_states z_isKept z_typed z_at z_isRight z_times z_letter z_items z_length z_entries) H := hP
      replace hD : va_D A (cwModel kI kC a (upd z_s ((nI 164) + v2).toNatClampNeg r5) z_text z_told z_formula z_states z_isKept z_typed z_at z_isRight z_times z_letter z_items z_length z_entries) := hD
      refine lv_iinc (v := (v2 + nI 1)) (lv' := [(2, .int (v2 + nI 1)), (0, .ref (a 0))]) hx hb dX9_readPile_158 hl (k := 1) rfl rfl (by decide) rfl (fun ls hl => ?_)
      refine lv_goto (tgt := 135) hx hb dX9_readPile_161 (by decide) ?_
      exact ih (upd z_s ((nI 164) + v2).toNatClampNeg r5) (v2 + nI 1) hw H locs hP hD hS ls (lv_sub hl [1, 0] rfl)
set_option maxHeartbeats 4000000 in
set_option maxRecDepth 100000 in
theorem cl_X9_readPile_43 (l : Launch) (D : va_G) (kI kC kB : ClassId) (a : AdT) (z_s : Nat → Int32) (z_text : Nat → Int32) (z_told : Nat → Int32) (z_formula : Nat → Int32) (z_states : Int32) (z_isKept : Int32) (z_typed : Int32) (z_at : Int32) (z_isRight : Int32) (z_times : Int32) (z_letter : Int32) (z_items : Int32) (z_length : Int32) (z_entries : Int32) (Post : Int32 → (Nat → Int32) → (Nat → Int32) → Int32 → Int32 → Int32 → Int32 → Int32 → Int32 → Prop) {p : Program} {e : Env} {s : State} {m : MethodId} {args : Array Value} {below : List Frame} {meth : Method} {c : Code} {A : Nat → Prop} (hA : ∀ q : Nat, s.heap.size ≤ q → A q) (C : CtxT p s m args meth c cX9_readPile 5 (some .int) yX9_readPile.cls D kI kC kB) : ∀ (n : Nat), ∀ (v2 : Int32), wl_X9_readPile_43 z_s z_text z_told z_states z_typed z_at z_isRight z_times z_letter z_items Post n v2 → ∀ (H : Heap) (locs : List Loc), va_P D vwCl (cwModel kI kC a z_s z_text z_told z_formula z_states z_isKept z_typed z_at z_isRight z_times z_letter z_items z_length z_entries) H → va_D A (cwModel kI kC a z_s z_text z_told z_formula z_states z_isKept z_typed z_at z_isRight z_times z_letter z_items z_length z_entries) → va_S A s.heap H locs → ∀ (ls : Array Slot), lv_has ls 5 [(0, .ref (a 0)), (2, .int v2)] → W p l e ({ frames := 5, cells := 0, slots := 0, locals := 109 } : Room) s m args below meth c H locs 0 0 (MQ below (va_Qi (fun (r : Int32) (u : (Nat → Int32) × (Nat → Int32) × Int32 × Int32 × Int32 × Int32 × Int32 × Int32) => Post r u.1 u.2.1 u.2.2.1 u.2.2.2.1 u.2.2.2.2.1 u.2.2.2.2.2.1 u.2.2.2.2.2.2.1 u.2.2.2.2.2.2.2) (BB D A (fun u : (Nat → Int32) × (Nat → Int32) × Int32 × Int32 × Int32 × Int32 × Int32 × Int32 => (cwModel kI kC a u.1 z_text u.2.1 z_formula u.2.2.1 z_isKept z_typed u.2.2.2.1 u.2.2.2.2.1 u.2.2.2.2.2.1 u.2.2.2.2.2.2.1 u.2.2.2.2.2.2.2 z_length z_entries))) A) args s 0 0 A) (F0 m 43 ls []) := by
  obtain ⟨hx, hb, hr, hml, hown, hts, hlocks, hK⟩ := id C
  intro n
  induction n with
  | zero => intro v2 hw; exact hw.elim
  | succ n ih =>
    intro v2 hw H locs hP hD hS ls hl
    refine lv_iload_n hx hb dX9_readPile_43 rfl (lv_at hl 1 rfl) ?_
    refine lv_aload_n hx hb dX9_readPile_44 rfl (lv_at hl 0 rfl) ?_
    refine va_get (D := D) (ci := 7) (v := .int z_items) (C := RX9) (T := TX9) (N := 14) hx hb hts inX9 hown hK.1 hP 0 rfl rfl 10 (by decide) (hts _ tw_695) (fun _ h9 => h9) rfl dX9_readPile_45 ?_
    refine lv_icmp_ge (tgt := 117) hx hb dX9_readPile_48 (by decide) (fun hc => ?_) (fun hc => ?_)
    · replace hw := hw.1 hc
      refine lv_aload_n hx hb dX9_readPile_117 rfl (lv_at hl 0 rfl) ?_
      refine va_get (D := D) (ci := 7) (v := .int z_items) (C := RX9) (T := TX9) (N := 14) hx hb hts inX9 hown hK.1 hP 0 rfl rfl 10 (by decide) (hts _ tw_695) (fun _ h9 => h9) rfl dX9_readPile_118 ?_
      refine lv_bipush (v := (nI 12)) hx hb dX9_readPile_121 (by decide) ?_
      refine lv_icmp_le (tgt := 129) hx hb dX9_readPile_123 (by decide) (fun hc => ?_) (fun hc => ?_)
      · replace hw := hw.1 hc
        refine lv_aload_n hx hb dX9_readPile_129 rfl (lv_at hl 0 rfl) ?_
        refine kMVv (q0 := 0) (As := []) (rest := []) C (c_X9_records l D kI kC kB a z_s z_text z_told z_formula z_states z_isKept z_typed z_at z_isRight z_times z_letter z_items z_length z_entries H.size _ hw) ⟨rfl, rfl⟩ ce_X9_records cv_X9_records tw_744 ⟨Nat.le_of_ble_eq_true rfl, Nat.le_of_ble_eq_true rfl⟩ hP hD hS hA [0, 1, 2, 3, 4] rfl rfl (fun _ => rfl) rfl rfl rfl hl.1 rfl (Nat.le_of_ble_eq_true rfl) ⟨Nat.zero_le _, Nat.zero_le _⟩ dX9_readPile_130 (fun u H locs hw hP hD hS => ?_)
        obtain ⟨u6, u7⟩ := u
        try dsimp only at hw
        replace hP : va_P D vwCl (cwModel kI kC a u6 z_text z_told z_formula u7 z_isKept z_typed z_at z_isRight z_times z_letter z_items z_length z_entries) H := hP
        replace hD : va_D A (cwModel kI kC a u6 z_text z_told z_formula u7 z_isKept z_typed z_at z_isRight z_times z_letter z_items z_length z_entries) := hD
        refine lv_iconst (v := (nI 0)) hx hb dX9_readPile_133 (by decide) ?_
        refine lv_istore_n (lv' := [(2, .int (nI 0)), (0, .ref (a 0))]) hx hb dX9_readPile_134 rfl hl (by decide) rfl (fun ls hl => ?_)
        obtain ⟨n9, hw⟩ := hw
        exact cl_X9_readPile_135 l D kI kC kB a z_text z_told z_formula u7 z_isKept z_typed z_at z_isRight z_times z_letter z_items z_length z_entries Post hA C n9 u6 (nI 0) hw H locs hP hD hS ls (lv_sub hl [1, 0] rfl)
      · replace hw := hw.2 hc
        refine lv_bipush (v := (-3)) hx hb dX9_readPile_126 (by decide) ?_
        exact retMi C (z_s, z_told, z_states, z_at, z_isRight, z_times, z_letter, z_items) hw hP hD hS dX9_readPile_128
    · replace hw := hw.2 hc
      refine lv_iconst (v := (nI 0)) hx hb dX9_readPile_51 (by decide) ?_
      refine lv_istore_n (lv' := [(3, .int (nI 0)), (0, .ref (a 0)), (2, .int v2)]) hx hb dX9_readPile_52 rfl hl (by decide) rfl (fun ls hl => ?_)
      refine lv_iconst (v := (nI 0)) hx hb dX9_readPile_53 (by decide) ?_
      refine lv_istore (lv' := [(4, .int (nI 0)), (3, .int (nI 0)), (0, .ref (a 0)), (2, .int v2)]) hx hb dX9_readPile_54 hl (by decide) rfl (fun ls hl => ?_)
      obtain ⟨n9, hw⟩ := hw
      exact cl_X9_readPile_56 l D kI kC kB a z_s z_text z_told z_formula z_states z_isKept z_typed z_at z_isRight z_times z_letter z_items z_length z_entries v2 Post hA C _ ih n9 (nI 0) (nI 0) hw H locs hP hD hS ls (lv_sub hl [2, 3, 1, 0] rfl)
set_option maxHeartbeats 4000000 in
set_option maxRecDepth 100000 in
theorem cl_X9_readPile_17 (l : Launch) (D : va_G) (kI kC kB : ClassId) (a : AdT) (z_s : Nat → Int32) (z_text : Nat → Int32) (z_told : Nat → Int32) (z_formula : Nat → Int32) (z_states : Int32) (z_isKept : Int32) (z_typed : Int32) (z_at : Int32) (z_isRight : Int32) (z_times : Int32) (z_letter : Int32) (z_items : Int32) (z_length : Int32) (z_entries : Int32) (Post : Int32 → (Nat → Int32) → (Nat → Int32) → Int32 → Int32 → Int32 → Int32 → Int32 → Int32 → Prop) {p : Program} {e : Env} {s : State} {m : MethodId} {args : Array Value} {below : List Frame} {meth : Method} {c : Code} {A : Nat → Prop} (hA : ∀ q : Nat, s.heap.size ≤ q → A q) (C : CtxT p s m args meth c cX9_readPile 5 (some .int) yX9_readPile.cls D kI kC kB) : ∀ (n : Nat), ∀ (v2 : Int32), wl_X9_readPile_17 z_s z_text z_told z_states z_typed z_at z_isRight z_times z_letter z_items Post n v2 → ∀ (H : Heap) (locs : List Loc), va_P D vwCl (cwModel kI kC a z_s z_text z_told z_formula z_states z_isKept z_typed z_at z_isRight z_times z_letter z_items z_length z_entries) H → va_D A (cwModel kI kC a z_s z_text z_told z_formula z_states z_isKept z_typed z_at z_isRight z_times z_letter z_items z_length z_entries) → va_S A s.heap H locs → ∀ (ls : Array Slot), lv_has ls 5 [(0, .ref (a 0)), (2, .int v2)] → W p l e ({ frames := 5, cells := 0, slots := 0, locals := 109 } : Room) s m args below meth c H locs 0 0 (MQ below (va_Qi (fun (r : Int32) (u : (Nat → Int32) × (Nat → Int32) × Int32 × Int32 × Int32 × Int32 × Int32 × Int32) => Post r u.1 u.2.1 u.2.2.1 u.2.2.2.1 u.2.2.2.2.1 u.2.2.2.2.2.1 u.2.2.2.2.2.2.1 u.2.2.2.2.2.2.2) (BB D A (fun u : (Nat → Int32) × (Nat → Int32) × Int32 × Int32 × Int32 × Int32 × Int32 × Int32 => (cwModel kI kC a u.1 z_text u.2.1 z_formula u.2.2.1 z_isKept z_typed u.2.2.2.1 u.2.2.2.2.1 u.2.2.2.2.2.1 u.2.2.2.2.2.2.1 u.2.2.2.2.2.2.2 z_length z_entries))) A) args s 0 0 A) (F0 m 17 ls []) := by
  obtain ⟨hx, hb, hr, hml, hown, hts, hlocks, hK⟩ := id C
  intro n
  induction n with
  | zero => intro v2 hw; exact hw.elim
  | succ n ih =>
    intro v2 hw H locs hP hD hS ls hl
    refine lv_iload_n hx hb dX9_readPile_17 rfl (lv_at hl 1 rfl) ?_
    refine lv_aload_n hx hb dX9_readPile_18 rfl (lv_at hl 0 rfl) ?_
    refine va_get (D := D) (ci := 7) (v := .int z_items) (C := RX9) (T := TX9) (N := 14) hx hb hts inX9 hown hK.1 hP 0 rfl rfl 10 (by decide) (hts _ tw_695) (fun _ h9 => h9) rfl dX9_readPile_19 ?_
    refine lv_icmp_ge (tgt := 41) hx hb dX9_readPile_22 (by decide) (fun hc => ?_) (fun hc => ?_)
    · replace hw := hw.1 hc
      refine lv_iconst (v := (nI 0)) hx hb dX9_readPile_41 (by decide) ?_
      refine lv_istore_n (lv' := [(2, .int (nI 0)), (0, .ref (a 0))]) hx hb dX9_readPile_42 rfl hl (by decide) rfl (fun ls hl => ?_)
      obtain ⟨n9, hw⟩ := hw
      exact cl_X9_readPile_43 l D kI kC kB a z_s z_text z_told z_formula z_states z_isKept z_typed z_at z_isRight z_times z_letter z_items z_length z_entries Post hA C n9 (nI 0) hw H locs hP hD hS ls (lv_sub hl [1, 0] rfl)
    · replace hw := hw.2 hc
      refine lv_aload_n hx hb dX9_readPile_25 rfl (lv_at hl 0 rfl) ?_
      refine lv_iload_n hx hb dX9_readPile_26 rfl (lv_at hl 1 rfl) ?_
      refine kRV (As := [.int v2]) (rest := []) (q0 := 0) C (c_X9_found l D kI kC kB a z_s z_text z_told z_formula z_states z_isKept z_typed z_at z_isRight z_times z_letter z_items z_length z_entries v2 _ hw) ⟨rfl, rfl⟩ ce_X9_found cv_X9_found tw_859 ⟨Nat.le_of_ble_eq_true rfl, Nat.le_of_ble_eq_true rfl⟩ hP [0, 1, 2, 3, 4] rfl rfl rfl rfl hl.1 rfl (Nat.le_of_ble_eq_true rfl) ⟨Nat.zero_le _, Nat.zero_le _⟩ dX9_readPile_27 (fun r8 hw => ?_)
      refine lv_if_ge (tgt := 35) hx hb dX9_readPile_30 (by decide) (fun hc => ?_) (fun hc => ?_)
      · replace hw := hw.1 hc
        refine lv_iinc (v := (v2 + nI 1)) (lv' := [(2, .int (v2 + nI 1)), (0, .ref (a 0))]) hx hb dX9_readPile_35 hl (k := 1) rfl rfl (by decide) rfl (fun ls hl => ?_)
        refine lv_goto (tgt := 17) hx hb dX9_readPile_38 (by decide) ?_
        exact ih (v2 + nI 1) hw H locs hP hD hS ls (lv_sub hl [1, 0] rfl)
      · replace hw := hw.2 hc
        refine lv_iconst (v := (-1)) hx hb dX9_readPile_33 (by decide) ?_
        exact retMi C (z_s, z_told, z_states, z_at, z_isRight, z_times, z_letter, z_items) hw hP hD hS dX9_readPile_34
set_option maxHeartbeats 4000000 in
set_option maxRecDepth 100000 in
theorem c_X9_readPile (l : Launch) (D : va_G) (kI kC kB : ClassId) (a : AdT) (z_s : Nat → Int32) (z_text : Nat → Int32) (z_told : Nat → Int32) (z_formula : Nat → Int32) (z_states : Int32) (z_isKept : Int32) (z_typed : Int32) (z_at : Int32) (z_isRight : Int32) (z_times : Int32) (z_letter : Int32) (z_items : Int32) (z_length : Int32) (z_entries : Int32) (sz : Nat) (Post : Int32 → (Nat → Int32) → (Nat → Int32) → Int32 → Int32 → Int32 → Int32 → Int32 → Int32 → Prop) (hw : wp_X9_readPile z_s z_text z_told z_states z_typed z_at z_isRight z_times z_letter z_items Post) : CMi l D kI kC kB yX9_readPile cX9_readPile 5 (some .int) ({ frames := 5, cells := 0, slots := 0, locals := 109 } : Room) [.ref (a 0)] (cwModel kI kC a z_s z_text z_told z_formula z_states z_isKept z_typed z_at z_isRight z_times z_letter z_items z_length z_entries) sz (fun (r : Int32) (u : (Nat → Int32) × (Nat → Int32) × Int32 × Int32 × Int32 × Int32 × Int32 × Int32) => Post r u.1 u.2.1 u.2.2.1 u.2.2.2.1 u.2.2.2.2.1 u.2.2.2.2.2.1 u.2.2.2.2.2.2.1 u.2.2.2.2.2.2.2) (fun u : (Nat → Int32) × (Nat → Int32) × Int32 × Int32 × Int32 × Int32 × Int32 × Int32 => (cwModel kI kC a u.1 z_text u.2.1 z_formula u.2.2.1 z_isKept z_typed u.2.2.2.1 u.2.2.2.2.1 u.2.2.2.2.2.1 u.2.2.2.2.2.2.1 u.2.2.2.2.2.2.2 z_length z_entries)) := by
  refine entMi (by decide) (Nat.le_of_ble_eq_true rfl) ?_
  intro p e s m args below meth c ls A C hA hP hD hS hl
  obtain ⟨H, hHe⟩ : ∃ H, H = s.heap := ⟨_, rfl⟩
  obtain ⟨locs, hlo⟩ : ∃ lo : List Loc, lo = [] := ⟨_, rfl⟩
  have hS : va_S A s.heap H locs := by rw [hHe, hlo]; exact hS
  rw [← hHe] at hP
  suffices hg : W p l e ({ frames := 5, cells := 0, slots := 0, locals := 109 } : Room) s m args below meth c H locs 0 0 (MQ below (va_Qi (fun (r : Int32) (u : (Nat → Int32) × (Nat → Int32) × Int32 × Int32 × Int32 × Int32 × Int32 × Int32) => Post r u.1 u.2.1 u.2.2.1 u.2.2.2.1 u.2.2.2.2.1 u.2.2.2.2.2.1 u.2.2.2.2.2.2.1 u.2.2.2.2.2.2.2) (BB D A (fun u : (Nat → Int32) × (Nat → Int32) × Int32 × Int32 × Int32 × Int32 × Int32 × Int32 => (cwModel kI kC a u.1 z_text u.2.1 z_formula u.2.2.1 z_isKept z_typed u.2.2.2.1 u.2.2.2.2.1 u.2.2.2.2.2.1 u.2.2.2.2.2.2.1 u.2.2.2.2.2.2.2 z_length z_entries))) A) args s 0 0 A) (F0 m 0 ls []) by rw [hHe, hlo] at hg; exact hg
  replace hl : lv_has ls 5 [(0, .ref (a 0))] := hl
  obtain ⟨hx, hb, hr, hml, hown, hts, hlocks, hK⟩ := id C
  refine lv_aload_n hx hb dX9_readPile_0 rfl (lv_at hl 0 rfl) ?_
  refine lv_iconst (v := (nI 0)) hx hb dX9_readPile_1 (by decide) ?_
  refine kMVi (q0 := 0) (As := [.int (nI 0)]) (rest := []) C (c_X9_fault l D kI kC kB a z_s z_text z_told z_formula z_states z_isKept z_typed z_at z_isRight z_times z_letter z_items z_length z_entries H.size (nI 0) _ hw) ⟨rfl, rfl⟩ ce_X9_fault cv_X9_fault tw_771 ⟨Nat.le_of_ble_eq_true rfl, Nat.le_of_ble_eq_true rfl⟩ hP hD hS hA [0, 1, 2, 3, 4] rfl rfl (fun _ => rfl) rfl rfl rfl hl.1 rfl (Nat.le_of_ble_eq_true rfl) ⟨Nat.zero_le _, Nat.zero_le _⟩ dX9_readPile_2 (fun r9 u H locs hw hP hD hS => ?_)
  obtain ⟨u10, u11, u12, u13, u14, u15⟩ := u
  try dsimp only at hw
  replace hP : va_P D vwCl (cwModel kI kC a z_s z_text u10 z_formula z_states z_isKept z_typed u11 u12 u13 u14 u15 z_length z_entries) H := hP
  replace hD : va_D A (cwModel kI kC a z_s z_text u10 z_formula z_states z_isKept z_typed u11 u12 u13 u14 u15 z_length z_entries) := hD
  refine lv_istore_n (lv' := [(1, .int r9), (0, .ref (a 0))]) hx hb dX9_readPile_5 rfl hl (by decide) rfl (fun ls hl => ?_)
  refine lv_iload_n hx hb dX9_readPile_6 rfl (lv_at hl 0 rfl) ?_
  refine lv_if_lt (tgt := 15) hx hb dX9_readPile_7 (by decide) (fun hc => ?_) (fun hc => ?_)
  · replace hw := hw.1 hc
    refine lv_iconst (v := (nI 0)) hx hb dX9_readPile_15 (by decide) ?_
    refine lv_istore_n (lv' := [(2, .int (nI 0)), (1, .int r9), (0, .ref (a 0))]) hx hb dX9_readPile_16 rfl hl (by decide) rfl (fun ls hl => ?_)
    obtain ⟨n9, hw⟩ := hw
    exact cl_X9_readPile_17 l D kI kC kB a z_s z_text u10 z_formula z_states z_isKept z_typed u11 u12 u13 u14 u15 z_length z_entries Post hA C n9 (nI 0) hw H locs hP hD hS ls (lv_sub hl [2, 0] rfl)
  · replace hw := hw.2 hc
    refine lv_bipush (v := (-100)) hx hb dX9_readPile_10 (by decide) ?_
    refine lv_iload_n hx hb dX9_readPile_12 rfl (lv_at hl 0 rfl) ?_
    refine lv_isub hx hb dX9_readPile_13 ?_
    exact retMi C (z_s, u10, z_states, u11, u12, u13, u14, u15) hw hP hD hS dX9_readPile_14
set_option maxHeartbeats 4000000 in
set_option maxRecDepth 100000 in
theorem c_X9_type (l : Launch) (D : va_G) (kI kC kB : ClassId) (a : AdT) (z_s : Nat → Int32) (z_text : Nat → Int32) (z_told : Nat → Int32) (z_formula : Nat → Int32) (z_states : Int32) (z_isKept : Int32) (z_typed : Int32) (z_at : Int32) (z_isRight : Int32) (z_times : Int32) (z_letter : Int32) (z_items : Int32) (z_length : Int32) (z_entries : Int32) (sz : Nat) (p1 : Int32) (Post : Int32 → (Nat → Int32) → Int32 → Prop) (hw : wp_X9_type z_text z_typed p1 Post) : CMi l D kI kC kB yX9_type cX9_type 2 (some .int) ({ frames := 0, cells := 0, slots := 0, locals := 0 } : Room) [.ref (a 0), .int p1] (cwModel kI kC a z_s z_text z_told z_formula z_states z_isKept z_typed z_at z_isRight z_times z_letter z_items z_length z_entries) sz (fun (r : Int32) (u : (Nat → Int32) × Int32) => Post r u.1 u.2) (fun u : (Nat → Int32) × Int32 => (cwModel kI kC a z_s u.1 z_told z_formula z_states z_isKept u.2 z_at z_isRight z_times z_letter z_items z_length z_entries)) := by
  refine entMi (by decide) (Nat.le_of_ble_eq_true rfl) ?_
  intro p e s m args below meth c ls A C hA hP hD hS hl
  obtain ⟨H, hHe⟩ : ∃ H, H = s.heap := ⟨_, rfl⟩
  obtain ⟨locs, hlo⟩ : ∃ lo : List Loc, lo = [] := ⟨_, rfl⟩
  have hS : va_S A s.heap H locs := by rw [hHe, hlo]; exact hS
  rw [← hHe] at hP
  suffices hg : W p l e ({ frames := 0, cells := 0, slots := 0, locals := 0 } : Room) s m args below meth c H locs 0 0 (MQ below (va_Qi (fun (r : Int32) (u : (Nat → Int32) × Int32) => Post r u.1 u.2) (BB D A (fun u : (Nat → Int32) × Int32 => (cwModel kI kC a z_s u.1 z_told z_formula z_states z_isKept u.2 z_at z_isRight z_times z_letter z_items z_length z_entries))) A) args s 0 0 A) (F0 m 0 ls []) by rw [hHe, hlo] at hg; exact hg
  replace hl : lv_has ls 2 [(0, .ref (a 0)), (1, .int p1)] := hl
  obtain ⟨hx, hb, hr, hml, hown, hts, hlocks, hK⟩ := id C
  refine lv_aload_n hx hb dX9_type_0 rfl (lv_at hl 0 rfl) ?_
  refine va_get (D := D) (ci := 7) (v := .int z_typed) (C := RX9) (T := TX9) (N := 14) hx hb hts inX9 hown hK.1 hP 0 rfl rfl 4 (by decide) (hts _ tw_689) (fun _ h9 => h9) rfl dX9_type_1 ?_
  refine lv_bipush (v := (nI 60)) hx hb dX9_type_4 (by decide) ?_
  refine lv_icmp_ne (tgt := 12) hx hb dX9_type_6 (by decide) (fun hc => ?_) (fun hc => ?_)
  · replace hw := hw.2 hc
    refine lv_aload_n hx hb dX9_type_12 rfl (lv_at hl 0 rfl) ?_
    refine va_get (D := D) (ci := 7) (v := .ref (a 2)) (C := RX9) (T := TX9) (N := 14) hx hb hts inX9 hown hK.1 hP 0 rfl rfl 3 (by decide) (hts _ tw_688) (fun _ h9 => h9) rfl dX9_type_13 ?_
    refine lv_aload_n hx hb dX9_type_16 rfl (lv_at hl 0 rfl) ?_
    refine va_get (D := D) (ci := 7) (v := .int z_typed) (C := RX9) (T := TX9) (N := 14) hx hb hts inX9 hown hK.1 hP 0 rfl rfl 4 (by decide) (hts _ tw_689) (fun _ h9 => h9) rfl dX9_type_17 ?_
    refine lv_iload_n hx hb dX9_type_20 rfl (lv_at hl 1 rfl) ?_
    have hin := hw.1
    replace hw := hw.2
    refine va_cast hx hb hK.1 hP hD hS 2 1 rfl rfl hin dX9_type_21 (fun H locs hP hD hS => ?_)
    replace hP : va_P D vwCl (cwModel kI kC a z_s (upd z_text z_typed.toNatClampNeg (vp_nar .char p1)) z_told z_formula z_states z_isKept z_typed z_at z_isRight z_times z_letter z_items z_length z_entries) H := hP
    replace hD : va_D A (cwModel kI kC a z_s (upd z_text z_typed.toNatClampNeg (vp_nar .char p1)) z_told z_formula z_states z_isKept z_typed z_at z_isRight z_times z_letter z_items z_length z_entries) := hD
    refine lv_aload_n hx hb dX9_type_22 rfl (lv_at hl 0 rfl) ?_
    refine lv_dup hx hb dX9_type_23 rfl ?_
    refine va_get (D := D) (ci := 7) (v := .int z_typed) (C := RX9) (T := TX9) (N := 14) hx hb hts inX9 hown hK.1 hP 0 rfl rfl 4 (by decide) (hts _ tw_689) (fun _ h9 => h9) rfl dX9_type_24 ?_
    refine lv_iconst (v := (nI 1)) hx hb dX9_type_27 (by decide) ?_
    refine lv_iadd hx hb dX9_type_28 ?_
    refine va_put (D := D) (ci := 7) (v := .int (z_typed + (nI 1))) (ty := .int) (C := RX9) (T := TX9) (N := 14) hx hb hts inX9 tyX9 tyX9_ok nmX9 hown hK.1 hP hD hS 0 rfl rfl 4 (by decide) (hts _ tw_689) (fun _ h9 => h9) rfl (tyX9_ok 4 (by decide)) rfl rfl (Nat.le_of_ble_eq_true rfl) dX9_type_29 (fun H locs hP hD hS => ?_)
    replace hP : va_P D vwCl (cwModel kI kC a z_s (upd z_text z_typed.toNatClampNeg (vp_nar .char p1)) z_told z_formula z_states z_isKept (z_typed + (nI 1)) z_at z_isRight z_times z_letter z_items z_length z_entries) H := hP
    replace hD : va_D A (cwModel kI kC a z_s (upd z_text z_typed.toNatClampNeg (vp_nar .char p1)) z_told z_formula z_states z_isKept (z_typed + (nI 1)) z_at z_isRight z_times z_letter z_items z_length z_entries) := hD
    refine lv_aload_n hx hb dX9_type_32 rfl (lv_at hl 0 rfl) ?_
    refine va_get (D := D) (ci := 7) (v := .int (z_typed + (nI 1))) (C := RX9) (T := TX9) (N := 14) hx hb hts inX9 hown hK.1 hP 0 rfl rfl 4 (by decide) (hts _ tw_689) (fun _ h9 => h9) rfl dX9_type_33 ?_
    exact retMi C ((upd z_text z_typed.toNatClampNeg (vp_nar .char p1)), (z_typed + (nI 1))) hw hP hD hS dX9_type_36
  · replace hw := hw.1 hc
    refine lv_bipush (v := (-3)) hx hb dX9_type_9 (by decide) ?_
    exact retMi C (z_text, z_typed) hw hP hD hS dX9_type_11
set_option maxHeartbeats 4000000 in
set_option maxRecDepth 100000 in
theorem c_X9_clearText (l : Launch) (D : va_G) (kI kC kB : ClassId) (a : AdT) (z_s : Nat → Int32) (z_text : Nat → Int32) (z_told : Nat → Int32) (z_formula : Nat → Int32) (z_states : Int32) (z_isKept : Int32) (z_typed : Int32) (z_at : Int32) (z_isRight : Int32) (z_times : Int32) (z_letter : Int32) (z_items : Int32) (z_length : Int32) (z_entries : Int32) (sz : Nat) (Post : Int32 → Int32 → Prop) (hw : wp_X9_clearText z_typed Post) : CMi l D kI kC kB yX9_clearText cX9_clearText 2 (some .int) ({ frames := 0, cells := 0, slots := 0, locals := 0 } : Room) [.ref (a 0)] (cwModel kI kC a z_s z_text z_told z_formula z_states z_isKept z_typed z_at z_isRight z_times z_letter z_items z_length z_entries) sz (fun (r : Int32) (u : Int32) => Post r u) (fun u : Int32 => (cwModel kI kC a z_s z_text z_told z_formula z_states z_isKept u z_at z_isRight z_times z_letter z_items z_length z_entries)) := by
  refine entMi (by decide) (Nat.le_of_ble_eq_true rfl) ?_
  intro p e s m args below meth c ls A C hA hP hD hS hl
  obtain ⟨H, hHe⟩ : ∃ H, H = s.heap := ⟨_, rfl⟩
  obtain ⟨locs, hlo⟩ : ∃ lo : List Loc, lo = [] := ⟨_, rfl⟩
  have hS : va_S A s.heap H locs := by rw [hHe, hlo]; exact hS
  rw [← hHe] at hP
  suffices hg : W p l e ({ frames := 0, cells := 0, slots := 0, locals := 0 } : Room) s m args below meth c H locs 0 0 (MQ below (va_Qi (fun (r : Int32) (u : Int32) => Post r u) (BB D A (fun u : Int32 => (cwModel kI kC a z_s z_text z_told z_formula z_states z_isKept u z_at z_isRight z_times z_letter z_items z_length z_entries))) A) args s 0 0 A) (F0 m 0 ls []) by rw [hHe, hlo] at hg; exact hg
  replace hl : lv_has ls 2 [(0, .ref (a 0))] := hl
  obtain ⟨hx, hb, hr, hml, hown, hts, hlocks, hK⟩ := id C
  refine lv_aload_n hx hb dX9_clearText_0 rfl (lv_at hl 0 rfl) ?_
  refine va_get (D := D) (ci := 7) (v := .int z_typed) (C := RX9) (T := TX9) (N := 14) hx hb hts inX9 hown hK.1 hP 0 rfl rfl 4 (by decide) (hts _ tw_689) (fun _ h9 => h9) rfl dX9_clearText_1 ?_
  refine lv_istore_n (lv' := [(1, .int z_typed), (0, .ref (a 0))]) hx hb dX9_clearText_4 rfl hl (by decide) rfl (fun ls hl => ?_)
  refine lv_aload_n hx hb dX9_clearText_5 rfl (lv_at hl 1 rfl) ?_
  refine lv_iconst (v := (nI 0)) hx hb dX9_clearText_6 (by decide) ?_
  refine va_put (D := D) (ci := 7) (v := .int (nI 0)) (ty := .int) (C := RX9) (T := TX9) (N := 14) hx hb hts inX9 tyX9 tyX9_ok nmX9 hown hK.1 hP hD hS 0 rfl rfl 4 (by decide) (hts _ tw_689) (fun _ h9 => h9) rfl (tyX9_ok 4 (by decide)) rfl rfl (Nat.le_of_ble_eq_true rfl) dX9_clearText_7 (fun H locs hP hD hS => ?_)
  replace hP : va_P D vwCl (cwModel kI kC a z_s z_text z_told z_formula z_states z_isKept (nI 0) z_at z_isRight z_times z_letter z_items z_length z_entries) H := hP
  replace hD : va_D A (cwModel kI kC a z_s z_text z_told z_formula z_states z_isKept (nI 0) z_at z_isRight z_times z_letter z_items z_length z_entries) := hD
  refine lv_iload_n hx hb dX9_clearText_10 rfl (lv_at hl 0 rfl) ?_
  exact retMi C ((nI 0)) hw hP hD hS dX9_clearText_11
set_option maxHeartbeats 4000000 in
set_option maxRecDepth 100000 in
theorem c_X9_undo (l : Launch) (D : va_G) (kI kC kB : ClassId) (a : AdT) (z_s : Nat → Int32) (z_text : Nat → Int32) (z_told : Nat → Int32) (z_formula : Nat → Int32) (z_states : Int32) (z_isKept : Int32) (z_typed : Int32) (z_at : Int32) (z_isRight : Int32) (z_times : Int32) (z_letter : Int32) (z_items : Int32) (z_length : Int32) (z_entries : Int32) (sz : Nat) (Post : Int32 → (Nat → Int32) → Int32 → Prop) (hw : wp_X9_undo z_s z_states Post) : CMi l D kI kC kB yX9_undo cX9_undo 1 (some .int) ({ frames := 1, cells := 0, slots := 0, locals := 23 } : Room) [.ref (a 0)] (cwModel kI kC a z_s z_text z_told z_formula z_states z_isKept z_typed z_at z_isRight z_times z_letter z_items z_length z_entries) sz (fun (r : Int32) (u : (Nat → Int32) × Int32) => Post r u.1 u.2) (fun u : (Nat → Int32) × Int32 => (cwModel kI kC a u.1 z_text z_told z_formula u.2 z_isKept z_typed z_at z_isRight z_times z_letter z_items z_length z_entries)) := by
  refine entMi (by decide) (Nat.le_of_ble_eq_true rfl) ?_
  intro p e s m args below meth c ls A C hA hP hD hS hl
  obtain ⟨H, hHe⟩ : ∃ H, H = s.heap := ⟨_, rfl⟩
  obtain ⟨locs, hlo⟩ : ∃ lo : List Loc, lo = [] := ⟨_, rfl⟩
  have hS : va_S A s.heap H locs := by rw [hHe, hlo]; exact hS
  rw [← hHe] at hP
  suffices hg : W p l e ({ frames := 1, cells := 0, slots := 0, locals := 23 } : Room) s m args below meth c H locs 0 0 (MQ below (va_Qi (fun (r : Int32) (u : (Nat → Int32) × Int32) => Post r u.1 u.2) (BB D A (fun u : (Nat → Int32) × Int32 => (cwModel kI kC a u.1 z_text z_told z_formula u.2 z_isKept z_typed z_at z_isRight z_times z_letter z_items z_length z_entries))) A) args s 0 0 A) (F0 m 0 ls []) by rw [hHe, hlo] at hg; exact hg
  replace hl : lv_has ls 1 [(0, .ref (a 0))] := hl
  obtain ⟨hx, hb, hr, hml, hown, hts, hlocks, hK⟩ := id C
  refine lv_aload_n hx hb dX9_undo_0 rfl (lv_at hl 0 rfl) ?_
  refine va_get (D := D) (ci := 7) (v := .int z_states) (C := RX9) (T := TX9) (N := 14) hx hb hts inX9 hown hK.1 hP 0 rfl rfl 1 (by decide) (hts _ tw_686) (fun _ h9 => h9) rfl dX9_undo_1 ?_
  refine lv_if_ne (tgt := 10) hx hb dX9_undo_4 (by decide) (fun hc => ?_) (fun hc => ?_)
  · replace hw := hw.2 hc
    refine lv_aload_n hx hb dX9_undo_10 rfl (lv_at hl 0 rfl) ?_
    refine lv_aload_n hx hb dX9_undo_11 rfl (lv_at hl 0 rfl) ?_
    refine va_get (D := D) (ci := 7) (v := .int z_states) (C := RX9) (T := TX9) (N := 14) hx hb hts inX9 hown hK.1 hP 0 rfl rfl 1 (by decide) (hts _ tw_686) (fun _ h9 => h9) rfl dX9_undo_12 ?_
    refine lv_iconst (v := (nI 0)) hx hb dX9_undo_15 (by decide) ?_
    refine kMVv (q0 := 0) (As := [.int z_states, .int (nI 0)]) (rest := []) C (c_X9_copies l D kI kC kB a z_s z_text z_told z_formula z_states z_isKept z_typed z_at z_isRight z_times z_letter z_items z_length z_entries H.size z_states (nI 0) _ hw) ⟨rfl, rfl⟩ ce_X9_copies cv_X9_copies tw_748 ⟨Nat.le_of_ble_eq_true rfl, Nat.le_of_ble_eq_true rfl⟩ hP hD hS hA [0, 1, 2, 3, 4] rfl rfl (fun _ => rfl) rfl rfl rfl hl.1 rfl (Nat.le_of_ble_eq_true rfl) ⟨Nat.zero_le _, Nat.zero_le _⟩ dX9_undo_16 (fun u H locs hw hP hD hS => ?_)
    obtain ⟨u1, rfl⟩ : ∃ z, z = u := ⟨_, rfl⟩
    try dsimp only at hw
    replace hP : va_P D vwCl (cwModel kI kC a u1 z_text z_told z_formula z_states z_isKept z_typed z_at z_isRight z_times z_letter z_items z_length z_entries) H := hP
    replace hD : va_D A (cwModel kI kC a u1 z_text z_told z_formula z_states z_isKept z_typed z_at z_isRight z_times z_letter z_items z_length z_entries) := hD
    refine lv_aload_n hx hb dX9_undo_19 rfl (lv_at hl 0 rfl) ?_
    refine lv_dup hx hb dX9_undo_20 rfl ?_
    refine va_get (D := D) (ci := 7) (v := .int z_states) (C := RX9) (T := TX9) (N := 14) hx hb hts inX9 hown hK.1 hP 0 rfl rfl 1 (by decide) (hts _ tw_686) (fun _ h9 => h9) rfl dX9_undo_21 ?_
    refine lv_iconst (v := (nI 1)) hx hb dX9_undo_24 (by decide) ?_
    refine lv_isub hx hb dX9_undo_25 ?_
    refine va_put (D := D) (ci := 7) (v := .int (z_states - (nI 1))) (ty := .int) (C := RX9) (T := TX9) (N := 14) hx hb hts inX9 tyX9 tyX9_ok nmX9 hown hK.1 hP hD hS 0 rfl rfl 1 (by decide) (hts _ tw_686) (fun _ h9 => h9) rfl (tyX9_ok 1 (by decide)) rfl rfl (Nat.le_of_ble_eq_true rfl) dX9_undo_26 (fun H locs hP hD hS => ?_)
    replace hP : va_P D vwCl (cwModel kI kC a u1 z_text z_told z_formula (z_states - (nI 1)) z_isKept z_typed z_at z_isRight z_times z_letter z_items z_length z_entries) H := hP
    replace hD : va_D A (cwModel kI kC a u1 z_text z_told z_formula (z_states - (nI 1)) z_isKept z_typed z_at z_isRight z_times z_letter z_items z_length z_entries) := hD
    refine lv_aload_n hx hb dX9_undo_29 rfl (lv_at hl 0 rfl) ?_
    refine va_get (D := D) (ci := 7) (v := .int (z_states - (nI 1))) (C := RX9) (T := TX9) (N := 14) hx hb hts inX9 hown hK.1 hP 0 rfl rfl 1 (by decide) (hts _ tw_686) (fun _ h9 => h9) rfl dX9_undo_30 ?_
    exact retMi C (u1, (z_states - (nI 1))) hw hP hD hS dX9_undo_33
  · replace hw := hw.1 hc
    refine lv_bipush (v := (-5)) hx hb dX9_undo_7 (by decide) ?_
    exact retMi C (z_s, z_states) hw hP hD hS dX9_undo_9
set_option maxHeartbeats 4000000 in
set_option maxRecDepth 100000 in
theorem c_X9_keep (l : Launch) (D : va_G) (kI kC kB : ClassId) (a : AdT) (z_s : Nat → Int32) (z_text : Nat → Int32) (z_told : Nat → Int32) (z_formula : Nat → Int32) (z_states : Int32) (z_isKept : Int32) (z_typed : Int32) (z_at : Int32) (z_isRight : Int32) (z_times : Int32) (z_letter : Int32) (z_items : Int32) (z_length : Int32) (z_entries : Int32) (sz : Nat) (Post : Int32 → (Nat → Int32) → Int32 → Prop) (hw : wp_X9_keep z_s z_isKept Post) : CMi l D kI kC kB yX9_keep cX9_keep 1 (some .int) ({ frames := 1, cells := 0, slots := 0, locals := 23 } : Room) [.ref (a 0)] (cwModel kI kC a z_s z_text z_told z_formula z_states z_isKept z_typed z_at z_isRight z_times z_letter z_items z_length z_entries) sz (fun (r : Int32) (u : (Nat → Int32) × Int32) => Post r u.1 u.2) (fun u : (Nat → Int32) × Int32 => (cwModel kI kC a u.1 z_text z_told z_formula z_states u.2 z_typed z_at z_isRight z_times z_letter z_items z_length z_entries)) := by
  refine entMi (by decide) (Nat.le_of_ble_eq_true rfl) ?_
  intro p e s m args below meth c ls A C hA hP hD hS hl
  obtain ⟨H, hHe⟩ : ∃ H, H = s.heap := ⟨_, rfl⟩
  obtain ⟨locs, hlo⟩ : ∃ lo : List Loc, lo = [] := ⟨_, rfl⟩
  have hS : va_S A s.heap H locs := by rw [hHe, hlo]; exact hS
  rw [← hHe] at hP
  suffices hg : W p l e ({ frames := 1, cells := 0, slots := 0, locals := 23 } : Room) s m args below meth c H locs 0 0 (MQ below (va_Qi (fun (r : Int32) (u : (Nat → Int32) × Int32) => Post r u.1 u.2) (BB D A (fun u : (Nat → Int32) × Int32 => (cwModel kI kC a u.1 z_text z_told z_formula z_states u.2 z_typed z_at z_isRight z_times z_letter z_items z_length z_entries))) A) args s 0 0 A) (F0 m 0 ls []) by rw [hHe, hlo] at hg; exact hg
  replace hl : lv_has ls 1 [(0, .ref (a 0))] := hl
  obtain ⟨hx, hb, hr, hml, hown, hts, hlocks, hK⟩ := id C
  refine lv_aload_n hx hb dX9_keep_0 rfl (lv_at hl 0 rfl) ?_
  refine lv_iconst (v := (nI 0)) hx hb dX9_keep_1 (by decide) ?_
  refine lv_iconst (v := (nI 5)) hx hb dX9_keep_2 (by decide) ?_
  refine kMVv (q0 := 0) (As := [.int (nI 0), .int (nI 5)]) (rest := []) C (c_X9_copies l D kI kC kB a z_s z_text z_told z_formula z_states z_isKept z_typed z_at z_isRight z_times z_letter z_items z_length z_entries H.size (nI 0) (nI 5) _ hw) ⟨rfl, rfl⟩ ce_X9_copies cv_X9_copies tw_748 ⟨Nat.le_of_ble_eq_true rfl, Nat.le_of_ble_eq_true rfl⟩ hP hD hS hA [0, 1, 2, 3, 4] rfl rfl (fun _ => rfl) rfl rfl rfl hl.1 rfl (Nat.le_of_ble_eq_true rfl) ⟨Nat.zero_le _, Nat.zero_le _⟩ dX9_keep_3 (fun u H locs hw hP hD hS => ?_)
  obtain ⟨u1, rfl⟩ : ∃ z, z = u := ⟨_, rfl⟩
  try dsimp only at hw
  replace hP : va_P D vwCl (cwModel kI kC a u1 z_text z_told z_formula z_states z_isKept z_typed z_at z_isRight z_times z_letter z_items z_length z_entries) H := hP
  replace hD : va_D A (cwModel kI kC a u1 z_text z_told z_formula z_states z_isKept z_typed z_at z_isRight z_times z_letter z_items z_length z_entries) := hD
  refine lv_aload_n hx hb dX9_keep_6 rfl (lv_at hl 0 rfl) ?_
  refine lv_iconst (v := (nI 1)) hx hb dX9_keep_7 (by decide) ?_
  refine va_put (D := D) (ci := 7) (v := .int (nI 1)) (ty := .boolean) (C := RX9) (T := TX9) (N := 14) hx hb hts inX9 tyX9 tyX9_ok nmX9 hown hK.1 hP hD hS 0 rfl rfl 2 (by decide) (hts _ tw_687) (fun _ h9 => h9) rfl (tyX9_ok 2 (by decide)) (bool_nar (by decide)).1 (bool_nar (by decide)).2 (Nat.le_of_ble_eq_true rfl) dX9_keep_8 (fun H locs hP hD hS => ?_)
  replace hP : va_P D vwCl (cwModel kI kC a u1 z_text z_told z_formula z_states (nI 1) z_typed z_at z_isRight z_times z_letter z_items z_length z_entries) H := hP
  replace hD : va_D A (cwModel kI kC a u1 z_text z_told z_formula z_states (nI 1) z_typed z_at z_isRight z_times z_letter z_items z_length z_entries) := hD
  refine lv_aload_n hx hb dX9_keep_11 rfl (lv_at hl 0 rfl) ?_
  refine va_get (D := D) (ci := 7) (v := .ref (a 1)) (C := RX9) (T := TX9) (N := 14) hx hb hts inX9 hown hK.1 hP 0 rfl rfl 0 (by decide) (hts _ tw_685) (fun _ h9 => h9) rfl dX9_keep_12 ?_
  refine lv_iconst (v := (nI 2)) hx hb dX9_keep_15 (by decide) ?_
  have hin := hw.1
  replace hw := hw.2
  refine va_iald hx hb hK.1 hP 1 0 rfl rfl hin dX9_keep_16 ?_
  exact retMi C (u1, (nI 1)) hw hP hD hS dX9_keep_17
set_option maxHeartbeats 4000000 in
set_option maxRecDepth 100000 in
theorem c_X9_restore (l : Launch) (D : va_G) (kI kC kB : ClassId) (a : AdT) (z_s : Nat → Int32) (z_text : Nat → Int32) (z_told : Nat → Int32) (z_formula : Nat → Int32) (z_states : Int32) (z_isKept : Int32) (z_typed : Int32) (z_at : Int32) (z_isRight : Int32) (z_times : Int32) (z_letter : Int32) (z_items : Int32) (z_length : Int32) (z_entries : Int32) (sz : Nat) (Post : Int32 → (Nat → Int32) → Int32 → Prop) (hw : wp_X9_restore z_s z_states z_isKept Post) : CMi l D kI kC kB yX9_restore cX9_restore 1 (some .int) ({ frames := 2, cells := 0, slots := 0, locals := 44 } : Room) [.ref (a 0)] (cwModel kI kC a z_s z_text z_told z_formula z_states z_isKept z_typed z_at z_isRight z_times z_letter z_items z_length z_entries) sz (fun (r : Int32) (u : (Nat → Int32) × Int32) => Post r u.1 u.2) (fun u : (Nat → Int32) × Int32 => (cwModel kI kC a u.1 z_text z_told z_formula u.2 z_isKept z_typed z_at z_isRight z_times z_letter z_items z_length z_entries)) := by
  refine entMi (by decide) (Nat.le_of_ble_eq_true rfl) ?_
  intro p e s m args below meth c ls A C hA hP hD hS hl
  obtain ⟨H, hHe⟩ : ∃ H, H = s.heap := ⟨_, rfl⟩
  obtain ⟨locs, hlo⟩ : ∃ lo : List Loc, lo = [] := ⟨_, rfl⟩
  have hS : va_S A s.heap H locs := by rw [hHe, hlo]; exact hS
  rw [← hHe] at hP
  suffices hg : W p l e ({ frames := 2, cells := 0, slots := 0, locals := 44 } : Room) s m args below meth c H locs 0 0 (MQ below (va_Qi (fun (r : Int32) (u : (Nat → Int32) × Int32) => Post r u.1 u.2) (BB D A (fun u : (Nat → Int32) × Int32 => (cwModel kI kC a u.1 z_text z_told z_formula u.2 z_isKept z_typed z_at z_isRight z_times z_letter z_items z_length z_entries))) A) args s 0 0 A) (F0 m 0 ls []) by rw [hHe, hlo] at hg; exact hg
  replace hl : lv_has ls 1 [(0, .ref (a 0))] := hl
  obtain ⟨hx, hb, hr, hml, hown, hts, hlocks, hK⟩ := id C
  refine lv_aload_n hx hb dX9_restore_0 rfl (lv_at hl 0 rfl) ?_
  refine va_get (D := D) (ci := 7) (v := .int z_isKept) (C := RX9) (T := TX9) (N := 14) hx hb hts inX9 hown hK.1 hP 0 rfl rfl 2 (by decide) (hts _ tw_687) (fun _ h9 => h9) rfl dX9_restore_1 ?_
  refine lv_if_ne (tgt := 10) hx hb dX9_restore_4 (by decide) (fun hc => ?_) (fun hc => ?_)
  · replace hw := hw.2 hc
    refine lv_aload_n hx hb dX9_restore_10 rfl (lv_at hl 0 rfl) ?_
    refine kMVv (q0 := 0) (As := []) (rest := []) C (c_X9_records l D kI kC kB a z_s z_text z_told z_formula z_states z_isKept z_typed z_at z_isRight z_times z_letter z_items z_length z_entries H.size _ hw) ⟨rfl, rfl⟩ ce_X9_records cv_X9_records tw_744 ⟨Nat.le_of_ble_eq_true rfl, Nat.le_of_ble_eq_true rfl⟩ hP hD hS hA [0, 1, 2, 3, 4] rfl rfl (fun _ => rfl) rfl rfl rfl hl.1 rfl (Nat.le_of_ble_eq_true rfl) ⟨Nat.zero_le _, Nat.zero_le _⟩ dX9_restore_11 (fun u H locs hw hP hD hS => ?_)
    obtain ⟨u1, u2⟩ := u
    try dsimp only at hw
    replace hP : va_P D vwCl (cwModel kI kC a u1 z_text z_told z_formula u2 z_isKept z_typed z_at z_isRight z_times z_letter z_items z_length z_entries) H := hP
    replace hD : va_D A (cwModel kI kC a u1 z_text z_told z_formula u2 z_isKept z_typed z_at z_isRight z_times z_letter z_items z_length z_entries) := hD
    refine lv_aload_n hx hb dX9_restore_14 rfl (lv_at hl 0 rfl) ?_
    refine lv_iconst (v := (nI 5)) hx hb dX9_restore_15 (by decide) ?_
    refine lv_iconst (v := (nI 0)) hx hb dX9_restore_16 (by decide) ?_
    refine kMVv (q0 := 0) (As := [.int (nI 5), .int (nI 0)]) (rest := []) C (c_X9_copies l D kI kC kB a u1 z_text z_told z_formula u2 z_isKept z_typed z_at z_isRight z_times z_letter z_items z_length z_entries H.size (nI 5) (nI 0) _ hw) ⟨rfl, rfl⟩ ce_X9_copies cv_X9_copies tw_748 ⟨Nat.le_of_ble_eq_true rfl, Nat.le_of_ble_eq_true rfl⟩ hP hD hS hA [0, 1, 2, 3, 4] rfl rfl (fun _ => rfl) rfl rfl rfl hl.1 rfl (Nat.le_of_ble_eq_true rfl) ⟨Nat.zero_le _, Nat.zero_le _⟩ dX9_restore_17 (fun u H locs hw hP hD hS => ?_)
    obtain ⟨u3, rfl⟩ : ∃ z, z = u := ⟨_, rfl⟩
    try dsimp only at hw
    replace hP : va_P D vwCl (cwModel kI kC a u3 z_text z_told z_formula u2 z_isKept z_typed z_at z_isRight z_times z_letter z_items z_length z_entries) H := hP
    replace hD : va_D A (cwModel kI kC a u3 z_text z_told z_formula u2 z_isKept z_typed z_at z_isRight z_times z_letter z_items z_length z_entries) := hD
    refine lv_aload_n hx hb dX9_restore_20 rfl (lv_at hl 0 rfl) ?_
    refine va_get (D := D) (ci := 7) (v := .ref (a 1)) (C := RX9) (T := TX9) (N := 14) hx hb hts inX9 hown hK.1 hP 0 rfl rfl 0 (by decide) (hts _ tw_685) (fun _ h9 => h9) rfl dX9_restore_21 ?_
    refine lv_iconst (v := (nI 2)) hx hb dX9_restore_24 (by decide) ?_
    have hin := hw.1
    replace hw := hw.2
    refine va_iald hx hb hK.1 hP 1 0 rfl rfl hin dX9_restore_25 ?_
    exact retMi C (u3, u2) hw hP hD hS dX9_restore_26
  · replace hw := hw.1 hc
    refine lv_bipush (v := (-5)) hx hb dX9_restore_7 (by decide) ?_
    exact retMi C (z_s, z_states) hw hP hD hS dX9_restore_9
set_option maxHeartbeats 4000000 in
set_option maxRecDepth 100000 in
theorem cl_X9_sameAhead_4 (l : Launch) (D : va_G) (kI kC kB : ClassId) (a : AdT) (z_s : Nat → Int32) (z_text : Nat → Int32) (z_told : Nat → Int32) (z_formula : Nat → Int32) (z_states : Int32) (z_isKept : Int32) (z_typed : Int32) (z_at : Int32) (z_isRight : Int32) (z_times : Int32) (z_letter : Int32) (z_items : Int32) (z_length : Int32) (z_entries : Int32) (p1 : Int32) (Post : Int32 → Prop) {p : Program} {e : Env} {s : State} {m : MethodId} {args : Array Value} {below : List Frame} {meth : Method} {c : Code} (C : CtxT p s m args meth c cX9_sameAhead 4 (some .int) yX9_sameAhead.cls D kI kC kB) (hP : va_P D vwCl (cwModel kI kC a z_s z_text z_told z_formula z_states z_isKept z_typed z_at z_isRight z_times z_letter z_items z_length z_entries) s.heap) : ∀ (n : Nat), ∀ (v2 : Int32) (v3 : Int32), wl_X9_sameAhead_4 z_s p1 Post n v2 v3 → ∀ (ls : Array Slot), lv_has ls 4 [(0, .ref (a 0)), (1, .int p1), (2, .int v2), (3, .int v3)] → W p l e ({ frames := 2, cells := 0, slots := 0, locals := 43 } : Room) s m args below meth c s.heap [] 0 0 (MQ below (vp_Si Post) args s 0 0 (fun _ => False)) (F0 m 4 ls []) := by
  obtain ⟨hx, hb, hr, hml, hown, hts, hlocks, hK⟩ := id C
  intro n
  induction n with
  | zero => intro v2 v3 hw; exact hw.elim
  | succ n ih =>
    intro v2 v3 hw ls hl
    refine lv_iload_n hx hb dX9_sameAhead_4 rfl (lv_at hl 3 rfl) ?_
    refine lv_iload_n hx hb dX9_sameAhead_5 rfl (lv_at hl 1 rfl) ?_
    refine lv_icmp_ge (tgt := 32) hx hb dX9_sameAhead_6 (by decide) (fun hc => ?_) (fun hc => ?_)
    · replace hw := hw.1 hc
      refine lv_iload_n hx hb dX9_sameAhead_32 rfl (lv_at hl 2 rfl) ?_
      exact retR C hw dX9_sameAhead_33
    · replace hw := hw.2 hc
      refine lv_iload_n hx hb dX9_sameAhead_9 rfl (lv_at hl 2 rfl) ?_
      refine lv_aload_n hx hb dX9_sameAhead_10 rfl (lv_at hl 0 rfl) ?_
      refine lv_iload_n hx hb dX9_sameAhead_11 rfl (lv_at hl 3 rfl) ?_
      refine lv_iload_n hx hb dX9_sameAhead_12 rfl (lv_at hl 1 rfl) ?_
      refine kRV (As := [.int v3, .int p1]) (rest := [.int v2]) (q0 := 0) C (c_X9_areSame l D kI kC kB a z_s z_text z_told z_formula z_states z_isKept z_typed z_at z_isRight z_times z_letter z_items z_length z_entries v3 p1 _ hw) ⟨rfl, rfl⟩ ce_X9_areSame cv_X9_areSame tw_891 ⟨Nat.le_of_ble_eq_true rfl, Nat.le_of_ble_eq_true rfl⟩ hP [0, 1, 2, 3, 4] rfl rfl rfl rfl hl.1 rfl (Nat.le_of_ble_eq_true rfl) ⟨Nat.zero_le _, Nat.zero_le _⟩ dX9_sameAhead_13 (fun r1 hw => ?_)
      refine lv_if_eq (tgt := 23) hx hb dX9_sameAhead_16 (by decide) (fun hc => ?_) (fun hc => ?_)
      · replace hw := hw.1 hc
        refine lv_iconst (v := (nI 0)) hx hb dX9_sameAhead_23 (by decide) ?_
        refine lv_iadd hx hb dX9_sameAhead_24 ?_
        refine lv_topi (fun y2 ey2 => ?_)
        replace hw := hw y2 ey2
        refine lv_istore_n (lv' := [(2, .int y2), (0, .ref (a 0)), (1, .int p1), (3, .int v3)]) hx hb dX9_sameAhead_25 rfl hl (by decide) rfl (fun ls hl => ?_)
        refine lv_iinc (v := (v3 + nI 1)) (lv' := [(3, .int (v3 + nI 1)), (2, .int y2), (0, .ref (a 0)), (1, .int p1)]) hx hb dX9_sameAhead_26 hl (k := 3) rfl rfl (by decide) rfl (fun ls hl => ?_)
        refine lv_goto (tgt := 4) hx hb dX9_sameAhead_29 (by decide) ?_
        exact ih y2 (v3 + nI 1) hw ls (lv_sub hl [2, 3, 1, 0] rfl)
      · replace hw := hw.2 hc
        refine lv_iconst (v := (nI 1)) hx hb dX9_sameAhead_19 (by decide) ?_
        refine lv_goto (tgt := 24) hx hb dX9_sameAhead_20 (by decide) ?_
        refine lv_iadd hx hb dX9_sameAhead_24 ?_
        refine lv_topi (fun y3 ey3 => ?_)
        replace hw := hw y3 ey3
        refine lv_istore_n (lv' := [(2, .int y3), (0, .ref (a 0)), (1, .int p1), (3, .int v3)]) hx hb dX9_sameAhead_25 rfl hl (by decide) rfl (fun ls hl => ?_)
        refine lv_iinc (v := (v3 + nI 1)) (lv' := [(3, .int (v3 + nI 1)), (2, .int y3), (0, .ref (a 0)), (1, .int p1)]) hx hb dX9_sameAhead_26 hl (k := 3) rfl rfl (by decide) rfl (fun ls hl => ?_)
        refine lv_goto (tgt := 4) hx hb dX9_sameAhead_29 (by decide) ?_
        exact ih y3 (v3 + nI 1) hw ls (lv_sub hl [2, 3, 1, 0] rfl)
set_option maxHeartbeats 4000000 in
set_option maxRecDepth 100000 in
theorem c_X9_sameAhead (l : Launch) (D : va_G) (kI kC kB : ClassId) (a : AdT) (z_s : Nat → Int32) (z_text : Nat → Int32) (z_told : Nat → Int32) (z_formula : Nat → Int32) (z_states : Int32) (z_isKept : Int32) (z_typed : Int32) (z_at : Int32) (z_isRight : Int32) (z_times : Int32) (z_letter : Int32) (z_items : Int32) (z_length : Int32) (z_entries : Int32) (p1 : Int32) (Post : Int32 → Prop) (hw : wp_X9_sameAhead z_s p1 Post) : CR l D kI kC kB yX9_sameAhead cX9_sameAhead 4 (some .int) ({ frames := 2, cells := 0, slots := 0, locals := 43 } : Room) [.ref (a 0), .int p1] (cwModel kI kC a z_s z_text z_told z_formula z_states z_isKept z_typed z_at z_isRight z_times z_letter z_items z_length z_entries) Post := by
  refine entR (by decide) (Nat.le_of_ble_eq_true rfl) ?_
  intro p e s m args below meth c ls C hP hl
  replace hl : lv_has ls 4 [(0, .ref (a 0)), (1, .int p1)] := hl
  obtain ⟨hx, hb, hr, hml, hown, hts, hlocks, hK⟩ := id C
  refine lv_iconst (v := (nI 0)) hx hb dX9_sameAhead_0 (by decide) ?_
  refine lv_istore_n (lv' := [(2, .int (nI 0)), (0, .ref (a 0)), (1, .int p1)]) hx hb dX9_sameAhead_1 rfl hl (by decide) rfl (fun ls hl => ?_)
  refine lv_iconst (v := (nI 0)) hx hb dX9_sameAhead_2 (by decide) ?_
  refine lv_istore_n (lv' := [(3, .int (nI 0)), (2, .int (nI 0)), (0, .ref (a 0)), (1, .int p1)]) hx hb dX9_sameAhead_3 rfl hl (by decide) rfl (fun ls hl => ?_)
  obtain ⟨n9, hw⟩ := hw
  exact cl_X9_sameAhead_4 l D kI kC kB a z_s z_text z_told z_formula z_states z_isKept z_typed z_at z_isRight z_times z_letter z_items z_length z_entries p1 Post C hP n9 (nI 0) (nI 0) hw ls (lv_sub hl [2, 3, 1, 0] rfl)
set_option maxHeartbeats 4000000 in
set_option maxRecDepth 100000 in
theorem c_X9_quire (l : Launch) (D : va_G) (kI kC kB : ClassId) (a : AdT) (z_s : Nat → Int32) (z_text : Nat → Int32) (z_told : Nat → Int32) (z_formula : Nat → Int32) (z_states : Int32) (z_isKept : Int32) (z_typed : Int32) (z_at : Int32) (z_isRight : Int32) (z_times : Int32) (z_letter : Int32) (z_items : Int32) (z_length : Int32) (z_entries : Int32) (p1 : Int32) (p2 : Int32) (Post : Int32 → Prop) (hw : wp_X9_quire z_s p1 p2 Post) : CR l D kI kC kB yX9_quire cX9_quire 3 (some .int) ({ frames := 3, cells := 0, slots := 0, locals := 66 } : Room) [.ref (a 0), .int p1, .int p2] (cwModel kI kC a z_s z_text z_told z_formula z_states z_isKept z_typed z_at z_isRight z_times z_letter z_items z_length z_entries) Post := by
  refine entR (by decide) (Nat.le_of_ble_eq_true rfl) ?_
  intro p e s m args below meth c ls C hP hl
  replace hl : lv_has ls 3 [(0, .ref (a 0)), (1, .int p1), (2, .int p2)] := hl
  obtain ⟨hx, hb, hr, hml, hown, hts, hlocks, hK⟩ := id C
  refine lv_aload_n hx hb dX9_quire_0 rfl (lv_at hl 0 rfl) ?_
  refine lv_iload_n hx hb dX9_quire_1 rfl (lv_at hl 1 rfl) ?_
  refine kRV (As := [.int p1]) (rest := []) (q0 := 0) C (c_X9_isQuire l D kI kC kB a z_s z_text z_told z_formula z_states z_isKept z_typed z_at z_isRight z_times z_letter z_items z_length z_entries p1 _ hw) ⟨rfl, rfl⟩ ce_X9_isQuire cv_X9_isQuire tw_823 ⟨Nat.le_of_ble_eq_true rfl, Nat.le_of_ble_eq_true rfl⟩ hP [0, 1, 2, 3, 4] rfl rfl rfl rfl hl.1 rfl (Nat.le_of_ble_eq_true rfl) ⟨Nat.zero_le _, Nat.zero_le _⟩ dX9_quire_2 (fun r1 hw => ?_)
  refine lv_if_ne (tgt := 10) hx hb dX9_quire_5 (by decide) (fun hc => ?_) (fun hc => ?_)
  · replace hw := hw.2 hc
    refine lv_iload_n hx hb dX9_quire_10 rfl (lv_at hl 2 rfl) ?_
    by_cases hc0 : p2 = 0
    · replace hw := hw.1 hc0
      refine lv_tableIn (tgt := 52) (off := 41) hx hb dX9_quire_11 (by rw [hc0]; decide) (by rw [hc0]; decide) (by rw [hc0]; rfl) (by decide) ?_
      refine lv_aload_n hx hb dX9_quire_52 rfl (lv_at hl 0 rfl) ?_
      refine va_get (D := D) (ci := 7) (v := .ref (a 1)) (C := RX9) (T := TX9) (N := 14) hx hb hts inX9 hown hK.1 hP 0 rfl rfl 0 (by decide) (hts _ tw_685) (fun _ h9 => h9) rfl dX9_quire_53 ?_
      refine lv_iload_n hx hb dX9_quire_56 rfl (lv_at hl 1 rfl) ?_
      refine lv_iconst (v := (nI 0)) hx hb dX9_quire_57 (by decide) ?_
      refine kRS (As := [.int p1, .int (nI 0)]) (rest := [.ref (a 1)]) C (c_X9_of l D kI kC kB  p1 (nI 0) _ hw) ⟨rfl, rfl⟩ ce_X9_of cv_X9_of tw_764 ⟨Nat.le_of_ble_eq_true rfl, Nat.le_of_ble_eq_true rfl⟩ hP [] rfl hl.1 rfl (Nat.le_of_ble_eq_true rfl) ⟨Nat.zero_le _, Nat.zero_le _⟩ dX9_quire_58 (fun r2 hw => ?_)
      have hin := hw.1
      replace hw := hw.2
      refine va_iald hx hb hK.1 hP 1 0 rfl rfl hin dX9_quire_61 ?_
      exact retR C hw dX9_quire_62
    · replace hw := hw.2 hc0
      by_cases hc1 : p2 = 1
      · replace hw := hw.1 hc1
        refine lv_tableIn (tgt := 63) (off := 52) hx hb dX9_quire_11 (by rw [hc1]; decide) (by rw [hc1]; decide) (by rw [hc1]; rfl) (by decide) ?_
        refine lv_aload_n hx hb dX9_quire_63 rfl (lv_at hl 0 rfl) ?_
        refine lv_iload_n hx hb dX9_quire_64 rfl (lv_at hl 1 rfl) ?_
        refine kRV (As := [.int p1]) (rest := []) (q0 := 0) C (c_X9_isStarred l D kI kC kB a z_s z_text z_told z_formula z_states z_isKept z_typed z_at z_isRight z_times z_letter z_items z_length z_entries p1 _ hw) ⟨rfl, rfl⟩ ce_X9_isStarred cv_X9_isStarred tw_799 ⟨Nat.le_of_ble_eq_true rfl, Nat.le_of_ble_eq_true rfl⟩ hP [0, 1, 2, 3, 4] rfl rfl rfl rfl hl.1 rfl (Nat.le_of_ble_eq_true rfl) ⟨Nat.zero_le _, Nat.zero_le _⟩ dX9_quire_65 (fun r3 hw => ?_)
        refine lv_if_eq (tgt := 76) hx hb dX9_quire_68 (by decide) (fun hc => ?_) (fun hc => ?_)
        · replace hw := hw.1 hc
          refine lv_bipush (v := (nI 65)) hx hb dX9_quire_76 (by decide) ?_
          refine lv_aload_n hx hb dX9_quire_78 rfl (lv_at hl 0 rfl) ?_
          refine va_get (D := D) (ci := 7) (v := .ref (a 1)) (C := RX9) (T := TX9) (N := 14) hx hb hts inX9 hown hK.1 hP 0 rfl rfl 0 (by decide) (hts _ tw_685) (fun _ h9 => h9) rfl dX9_quire_79 ?_
          refine lv_iload_n hx hb dX9_quire_82 rfl (lv_at hl 1 rfl) ?_
          refine lv_iconst (v := (nI 1)) hx hb dX9_quire_83 (by decide) ?_
          refine kRS (As := [.int p1, .int (nI 1)]) (rest := [.ref (a 1), .int (nI 65)]) C (c_X9_of l D kI kC kB  p1 (nI 1) _ hw) ⟨rfl, rfl⟩ ce_X9_of cv_X9_of tw_764 ⟨Nat.le_of_ble_eq_true rfl, Nat.le_of_ble_eq_true rfl⟩ hP [] rfl hl.1 rfl (Nat.le_of_ble_eq_true rfl) ⟨Nat.zero_le _, Nat.zero_le _⟩ dX9_quire_84 (fun r4 hw => ?_)
          have hin := hw.1
          replace hw := hw.2
          refine va_iald hx hb hK.1 hP 1 0 rfl rfl hin dX9_quire_87 ?_
          refine lv_iadd hx hb dX9_quire_88 ?_
          exact retR C hw dX9_quire_89
        · replace hw := hw.2 hc
          refine lv_bipush (v := (-5)) hx hb dX9_quire_71 (by decide) ?_
          refine lv_goto (tgt := 89) hx hb dX9_quire_73 (by decide) ?_
          exact retR C hw dX9_quire_89
      · replace hw := hw.2 hc1
        by_cases hc2 : p2 = 2
        · replace hw := hw.1 hc2
          refine lv_tableIn (tgt := 90) (off := 79) hx hb dX9_quire_11 (by rw [hc2]; decide) (by rw [hc2]; decide) (by rw [hc2]; rfl) (by decide) ?_
          refine lv_aload_n hx hb dX9_quire_90 rfl (lv_at hl 0 rfl) ?_
          refine va_get (D := D) (ci := 7) (v := .ref (a 1)) (C := RX9) (T := TX9) (N := 14) hx hb hts inX9 hown hK.1 hP 0 rfl rfl 0 (by decide) (hts _ tw_685) (fun _ h9 => h9) rfl dX9_quire_91 ?_
          refine lv_iload_n hx hb dX9_quire_94 rfl (lv_at hl 1 rfl) ?_
          refine lv_iconst (v := (nI 2)) hx hb dX9_quire_95 (by decide) ?_
          refine kRS (As := [.int p1, .int (nI 2)]) (rest := [.ref (a 1)]) C (c_X9_of l D kI kC kB  p1 (nI 2) _ hw) ⟨rfl, rfl⟩ ce_X9_of cv_X9_of tw_764 ⟨Nat.le_of_ble_eq_true rfl, Nat.le_of_ble_eq_true rfl⟩ hP [] rfl hl.1 rfl (Nat.le_of_ble_eq_true rfl) ⟨Nat.zero_le _, Nat.zero_le _⟩ dX9_quire_96 (fun r5 hw => ?_)
          have hin := hw.1
          replace hw := hw.2
          refine va_iald hx hb hK.1 hP 1 0 rfl rfl hin dX9_quire_99 ?_
          exact retR C hw dX9_quire_100
        · replace hw := hw.2 hc2
          by_cases hc3 : p2 = 3
          · replace hw := hw.1 hc3
            refine lv_tableIn (tgt := 101) (off := 90) hx hb dX9_quire_11 (by rw [hc3]; decide) (by rw [hc3]; decide) (by rw [hc3]; rfl) (by decide) ?_
            refine lv_aload_n hx hb dX9_quire_101 rfl (lv_at hl 0 rfl) ?_
            refine lv_iload_n hx hb dX9_quire_102 rfl (lv_at hl 1 rfl) ?_
            refine kRV (As := [.int p1]) (rest := []) (q0 := 0) C (c_X9_first l D kI kC kB a z_s z_text z_told z_formula z_states z_isKept z_typed z_at z_isRight z_times z_letter z_items z_length z_entries p1 _ hw) ⟨rfl, rfl⟩ ce_X9_first cv_X9_first tw_843 ⟨Nat.le_of_ble_eq_true rfl, Nat.le_of_ble_eq_true rfl⟩ hP [0, 1, 2, 3, 4] rfl rfl rfl rfl hl.1 rfl (Nat.le_of_ble_eq_true rfl) ⟨Nat.zero_le _, Nat.zero_le _⟩ dX9_quire_103 (fun r6 hw => ?_)
            exact retR C hw dX9_quire_106
          · replace hw := hw.2 hc3
            by_cases hc4 : p2 = 4
            · replace hw := hw.1 hc4
              refine lv_tableIn (tgt := 107) (off := 96) hx hb dX9_quire_11 (by rw [hc4]; decide) (by rw [hc4]; decide) (by rw [hc4]; rfl) (by decide) ?_
              refine lv_aload_n hx hb dX9_quire_107 rfl (lv_at hl 0 rfl) ?_
              refine lv_iload_n hx hb dX9_quire_108 rfl (lv_at hl 1 rfl) ?_
              refine kRV (As := [.int p1]) (rest := []) (q0 := 0) C (c_X9_signed l D kI kC kB a z_s z_text z_told z_formula z_states z_isKept z_typed z_at z_isRight z_times z_letter z_items z_length z_entries p1 _ hw) ⟨rfl, rfl⟩ ce_X9_signed cv_X9_signed tw_760 ⟨Nat.le_of_ble_eq_true rfl, Nat.le_of_ble_eq_true rfl⟩ hP [0, 1, 2, 3, 4] rfl rfl rfl rfl hl.1 rfl (Nat.le_of_ble_eq_true rfl) ⟨Nat.zero_le _, Nat.zero_le _⟩ dX9_quire_109 (fun r7 hw => ?_)
              exact retR C hw dX9_quire_112
            · replace hw := hw.2 hc4
              by_cases hc5 : p2 = 5
              · replace hw := hw.1 hc5
                refine lv_tableIn (tgt := 113) (off := 102) hx hb dX9_quire_11 (by rw [hc5]; decide) (by rw [hc5]; decide) (by rw [hc5]; rfl) (by decide) ?_
                refine lv_aload_n hx hb dX9_quire_113 rfl (lv_at hl 0 rfl) ?_
                refine lv_iload_n hx hb dX9_quire_114 rfl (lv_at hl 1 rfl) ?_
                refine kRV (As := [.int p1]) (rest := []) (q0 := 0) C (c_X9_there l D kI kC kB a z_s z_text z_told z_formula z_states z_isKept z_typed z_at z_isRight z_times z_letter z_items z_length z_entries p1 _ hw) ⟨rfl, rfl⟩ ce_X9_there cv_X9_there tw_851 ⟨Nat.le_of_ble_eq_true rfl, Nat.le_of_ble_eq_true rfl⟩ hP [0, 1, 2, 3, 4] rfl rfl rfl rfl hl.1 rfl (Nat.le_of_ble_eq_true rfl) ⟨Nat.zero_le _, Nat.zero_le _⟩ dX9_quire_115 (fun r8 hw => ?_)
                exact retR C hw dX9_quire_118
              · replace hw := hw.2 hc5
                by_cases hc6 : p2 = 6
                · replace hw := hw.1 hc6
                  refine lv_tableIn (tgt := 119) (off := 108) hx hb dX9_quire_11 (by rw [hc6]; decide) (by rw [hc6]; decide) (by rw [hc6]; rfl) (by decide) ?_
                  refine lv_aload_n hx hb dX9_quire_119 rfl (lv_at hl 0 rfl) ?_
                  refine lv_iload_n hx hb dX9_quire_120 rfl (lv_at hl 1 rfl) ?_
                  refine kRV (As := [.int p1]) (rest := []) (q0 := 0) C (c_X9_sameAhead l D kI kC kB a z_s z_text z_told z_formula z_states z_isKept z_typed z_at z_isRight z_times z_letter z_items z_length z_entries p1 _ hw) ⟨rfl, rfl⟩ ce_X9_sameAhead cv_X9_sameAhead tw_887 ⟨Nat.le_of_ble_eq_true rfl, Nat.le_of_ble_eq_true rfl⟩ hP [0, 1, 2, 3, 4] rfl rfl rfl rfl hl.1 rfl (Nat.le_of_ble_eq_true rfl) ⟨Nat.zero_le _, Nat.zero_le _⟩ dX9_quire_121 (fun r9 hw => ?_)
                  exact retR C hw dX9_quire_124
                · replace hw := hw.2 hc6
                  refine lv_tableOut (tgt := 125) hx hb dX9_quire_11 (by have := lv_neT hc0 (a := 0) (by decide); have := lv_neT hc1 (a := 1) (by decide); have := lv_neT hc2 (a := 2) (by decide); have := lv_neT hc3 (a := 3) (by decide); have := lv_neT hc4 (a := 4) (by decide); have := lv_neT hc5 (a := 5) (by decide); have := lv_neT hc6 (a := 6) (by decide); omega) (by decide) ?_
                  refine lv_bipush (v := (-2)) hx hb dX9_quire_125 (by decide) ?_
                  exact retR C hw dX9_quire_127
  · replace hw := hw.1 hc
    refine lv_iconst (v := (-1)) hx hb dX9_quire_8 (by decide) ?_
    exact retR C hw dX9_quire_9
set_option maxHeartbeats 4000000 in
set_option maxRecDepth 100000 in
theorem cl_X9_thereAhead_4 (l : Launch) (D : va_G) (kI kC kB : ClassId) (a : AdT) (z_s : Nat → Int32) (z_text : Nat → Int32) (z_told : Nat → Int32) (z_formula : Nat → Int32) (z_states : Int32) (z_isKept : Int32) (z_typed : Int32) (z_at : Int32) (z_isRight : Int32) (z_times : Int32) (z_letter : Int32) (z_items : Int32) (z_length : Int32) (z_entries : Int32) (p1 : Int32) (Post : Int32 → Prop) {p : Program} {e : Env} {s : State} {m : MethodId} {args : Array Value} {below : List Frame} {meth : Method} {c : Code} (C : CtxT p s m args meth c cX9_thereAhead 4 (some .int) yX9_thereAhead.cls D kI kC kB) (hP : va_P D vwCl (cwModel kI kC a z_s z_text z_told z_formula z_states z_isKept z_typed z_at z_isRight z_times z_letter z_items z_length z_entries) s.heap) : ∀ (n : Nat), ∀ (v2 : Int32) (v3 : Int32), wl_X9_thereAhead_4 z_s p1 Post n v2 v3 → ∀ (ls : Array Slot), lv_has ls 4 [(0, .ref (a 0)), (1, .int p1), (2, .int v2), (3, .int v3)] → W p l e ({ frames := 4, cells := 0, slots := 0, locals := 88 } : Room) s m args below meth c s.heap [] 0 0 (MQ below (vp_Si Post) args s 0 0 (fun _ => False)) (F0 m 4 ls []) := by
  obtain ⟨hx, hb, hr, hml, hown, hts, hlocks, hK⟩ := id C
  intro n
  induction n with
  | zero => intro v2 v3 hw; exact hw.elim
  | succ n ih =>
    intro v2 v3 hw ls hl
    refine lv_iload_n hx hb dX9_thereAhead_4 rfl (lv_at hl 3 rfl) ?_
    refine lv_iload_n hx hb dX9_thereAhead_5 rfl (lv_at hl 1 rfl) ?_
    refine lv_icmp_ge (tgt := 31) hx hb dX9_thereAhead_6 (by decide) (fun hc => ?_) (fun hc => ?_)
    · replace hw := hw.1 hc
      refine lv_iload_n hx hb dX9_thereAhead_31 rfl (lv_at hl 2 rfl) ?_
      exact retR C hw dX9_thereAhead_32
    · replace hw := hw.2 hc
      refine lv_iload_n hx hb dX9_thereAhead_9 rfl (lv_at hl 2 rfl) ?_
      refine lv_aload_n hx hb dX9_thereAhead_10 rfl (lv_at hl 0 rfl) ?_
      refine lv_iload_n hx hb dX9_thereAhead_11 rfl (lv_at hl 3 rfl) ?_
      refine kRV (As := [.int v3]) (rest := [.int v2]) (q0 := 0) C (c_X9_isLost l D kI kC kB a z_s z_text z_told z_formula z_states z_isKept z_typed z_at z_isRight z_times z_letter z_items z_length z_entries v3 _ hw) ⟨rfl, rfl⟩ ce_X9_isLost cv_X9_isLost tw_835 ⟨Nat.le_of_ble_eq_true rfl, Nat.le_of_ble_eq_true rfl⟩ hP [0, 1, 2, 3, 4] rfl rfl rfl rfl hl.1 rfl (Nat.le_of_ble_eq_true rfl) ⟨Nat.zero_le _, Nat.zero_le _⟩ dX9_thereAhead_12 (fun r1 hw => ?_)
      refine lv_if_eq (tgt := 22) hx hb dX9_thereAhead_15 (by decide) (fun hc => ?_) (fun hc => ?_)
      · replace hw := hw.1 hc
        refine lv_iconst (v := (nI 1)) hx hb dX9_thereAhead_22 (by decide) ?_
        refine lv_iadd hx hb dX9_thereAhead_23 ?_
        refine lv_topi (fun y2 ey2 => ?_)
        replace hw := hw y2 ey2
        refine lv_istore_n (lv' := [(2, .int y2), (0, .ref (a 0)), (1, .int p1), (3, .int v3)]) hx hb dX9_thereAhead_24 rfl hl (by decide) rfl (fun ls hl => ?_)
        refine lv_iinc (v := (v3 + nI 1)) (lv' := [(3, .int (v3 + nI 1)), (2, .int y2), (0, .ref (a 0)), (1, .int p1)]) hx hb dX9_thereAhead_25 hl (k := 3) rfl rfl (by decide) rfl (fun ls hl => ?_)
        refine lv_goto (tgt := 4) hx hb dX9_thereAhead_28 (by decide) ?_
        exact ih y2 (v3 + nI 1) hw ls (lv_sub hl [2, 3, 1, 0] rfl)
      · replace hw := hw.2 hc
        refine lv_iconst (v := (nI 0)) hx hb dX9_thereAhead_18 (by decide) ?_
        refine lv_goto (tgt := 23) hx hb dX9_thereAhead_19 (by decide) ?_
        refine lv_iadd hx hb dX9_thereAhead_23 ?_
        refine lv_topi (fun y3 ey3 => ?_)
        replace hw := hw y3 ey3
        refine lv_istore_n (lv' := [(2, .int y3), (0, .ref (a 0)), (1, .int p1), (3, .int v3)]) hx hb dX9_thereAhead_24 rfl hl (by decide) rfl (fun ls hl => ?_)
        refine lv_iinc (v := (v3 + nI 1)) (lv' := [(3, .int (v3 + nI 1)), (2, .int y3), (0, .ref (a 0)), (1, .int p1)]) hx hb dX9_thereAhead_25 hl (k := 3) rfl rfl (by decide) rfl (fun ls hl => ?_)
        refine lv_goto (tgt := 4) hx hb dX9_thereAhead_28 (by decide) ?_
        exact ih y3 (v3 + nI 1) hw ls (lv_sub hl [2, 3, 1, 0] rfl)
set_option maxHeartbeats 4000000 in
set_option maxRecDepth 100000 in
theorem c_X9_thereAhead (l : Launch) (D : va_G) (kI kC kB : ClassId) (a : AdT) (z_s : Nat → Int32) (z_text : Nat → Int32) (z_told : Nat → Int32) (z_formula : Nat → Int32) (z_states : Int32) (z_isKept : Int32) (z_typed : Int32) (z_at : Int32) (z_isRight : Int32) (z_times : Int32) (z_letter : Int32) (z_items : Int32) (z_length : Int32) (z_entries : Int32) (p1 : Int32) (Post : Int32 → Prop) (hw : wp_X9_thereAhead z_s p1 Post) : CR l D kI kC kB yX9_thereAhead cX9_thereAhead 4 (some .int) ({ frames := 4, cells := 0, slots := 0, locals := 88 } : Room) [.ref (a 0), .int p1] (cwModel kI kC a z_s z_text z_told z_formula z_states z_isKept z_typed z_at z_isRight z_times z_letter z_items z_length z_entries) Post := by
  refine entR (by decide) (Nat.le_of_ble_eq_true rfl) ?_
  intro p e s m args below meth c ls C hP hl
  replace hl : lv_has ls 4 [(0, .ref (a 0)), (1, .int p1)] := hl
  obtain ⟨hx, hb, hr, hml, hown, hts, hlocks, hK⟩ := id C
  refine lv_iconst (v := (nI 0)) hx hb dX9_thereAhead_0 (by decide) ?_
  refine lv_istore_n (lv' := [(2, .int (nI 0)), (0, .ref (a 0)), (1, .int p1)]) hx hb dX9_thereAhead_1 rfl hl (by decide) rfl (fun ls hl => ?_)
  refine lv_iconst (v := (nI 0)) hx hb dX9_thereAhead_2 (by decide) ?_
  refine lv_istore_n (lv' := [(3, .int (nI 0)), (2, .int (nI 0)), (0, .ref (a 0)), (1, .int p1)]) hx hb dX9_thereAhead_3 rfl hl (by decide) rfl (fun ls hl => ?_)
  obtain ⟨n9, hw⟩ := hw
  exact cl_X9_thereAhead_4 l D kI kC kB a z_s z_text z_told z_formula z_states z_isKept z_typed z_at z_isRight z_times z_letter z_items z_length z_entries p1 Post C hP n9 (nI 0) (nI 0) hw ls (lv_sub hl [2, 3, 1, 0] rfl)
set_option maxHeartbeats 4000000 in
set_option maxRecDepth 100000 in
theorem c_X9_leaf (l : Launch) (D : va_G) (kI kC kB : ClassId) (a : AdT) (z_s : Nat → Int32) (z_text : Nat → Int32) (z_told : Nat → Int32) (z_formula : Nat → Int32) (z_states : Int32) (z_isKept : Int32) (z_typed : Int32) (z_at : Int32) (z_isRight : Int32) (z_times : Int32) (z_letter : Int32) (z_items : Int32) (z_length : Int32) (z_entries : Int32) (p1 : Int32) (p2 : Int32) (Post : Int32 → Prop) (hw : wp_X9_leaf z_s p1 p2 Post) : CR l D kI kC kB yX9_leaf cX9_leaf 6 (some .int) ({ frames := 5, cells := 0, slots := 0, locals := 111 } : Room) [.ref (a 0), .int p1, .int p2] (cwModel kI kC a z_s z_text z_told z_formula z_states z_isKept z_typed z_at z_isRight z_times z_letter z_items z_length z_entries) Post := by
  refine entR (by decide) (Nat.le_of_ble_eq_true rfl) ?_
  intro p e s m args below meth c ls C hP hl
  replace hl : lv_has ls 6 [(0, .ref (a 0)), (1, .int p1), (2, .int p2)] := hl
  obtain ⟨hx, hb, hr, hml, hown, hts, hlocks, hK⟩ := id C
  refine lv_aload_n hx hb dX9_leaf_0 rfl (lv_at hl 0 rfl) ?_
  refine lv_iload_n hx hb dX9_leaf_1 rfl (lv_at hl 1 rfl) ?_
  refine kRV (As := [.int p1]) (rest := []) (q0 := 0) C (c_X9_isLeaf l D kI kC kB a z_s z_text z_told z_formula z_states z_isKept z_typed z_at z_isRight z_times z_letter z_items z_length z_entries p1 _ hw) ⟨rfl, rfl⟩ ce_X9_isLeaf cv_X9_isLeaf tw_831 ⟨Nat.le_of_ble_eq_true rfl, Nat.le_of_ble_eq_true rfl⟩ hP [0, 1, 2, 3, 4] rfl rfl rfl rfl hl.1 rfl (Nat.le_of_ble_eq_true rfl) ⟨Nat.zero_le _, Nat.zero_le _⟩ dX9_leaf_2 (fun r1 hw => ?_)
  refine lv_if_ne (tgt := 10) hx hb dX9_leaf_5 (by decide) (fun hc => ?_) (fun hc => ?_)
  · replace hw := hw.2 hc
    refine lv_aload_n hx hb dX9_leaf_10 rfl (lv_at hl 0 rfl) ?_
    refine lv_iload_n hx hb dX9_leaf_11 rfl (lv_at hl 1 rfl) ?_
    refine kRV (As := [.int p1]) (rest := []) (q0 := 0) C (c_X9_quireOf l D kI kC kB a z_s z_text z_told z_formula z_states z_isKept z_typed z_at z_isRight z_times z_letter z_items z_length z_entries p1 _ hw) ⟨rfl, rfl⟩ ce_X9_quireOf cv_X9_quireOf tw_839 ⟨Nat.le_of_ble_eq_true rfl, Nat.le_of_ble_eq_true rfl⟩ hP [0, 1, 2, 3, 4] rfl rfl rfl rfl hl.1 rfl (Nat.le_of_ble_eq_true rfl) ⟨Nat.zero_le _, Nat.zero_le _⟩ dX9_leaf_12 (fun r2 hw => ?_)
    refine lv_istore_n (lv' := [(3, .int r2), (0, .ref (a 0)), (1, .int p1), (2, .int p2)]) hx hb dX9_leaf_15 rfl hl (by decide) rfl (fun ls hl => ?_)
    refine lv_iload_n hx hb dX9_leaf_16 rfl (lv_at hl 2 rfl) ?_
    refine lv_aload_n hx hb dX9_leaf_17 rfl (lv_at hl 1 rfl) ?_
    refine lv_iload_n hx hb dX9_leaf_18 rfl (lv_at hl 0 rfl) ?_
    refine kRV (As := [.int r2]) (rest := [.int p1]) (q0 := 0) C (c_X9_first l D kI kC kB a z_s z_text z_told z_formula z_states z_isKept z_typed z_at z_isRight z_times z_letter z_items z_length z_entries r2 _ hw) ⟨rfl, rfl⟩ ce_X9_first cv_X9_first tw_843 ⟨Nat.le_of_ble_eq_true rfl, Nat.le_of_ble_eq_true rfl⟩ hP [0, 1, 2, 3, 4] rfl rfl rfl rfl hl.1 rfl (Nat.le_of_ble_eq_true rfl) ⟨Nat.zero_le _, Nat.zero_le _⟩ dX9_leaf_19 (fun r3 hw => ?_)
    refine lv_isub hx hb dX9_leaf_22 ?_
    refine lv_iconst (v := (nI 1)) hx hb dX9_leaf_23 (by decide) ?_
    refine lv_iadd hx hb dX9_leaf_24 ?_
    refine lv_topi (fun y4 ey4 => ?_)
    replace hw := hw y4 ey4
    refine lv_istore (lv' := [(4, .int y4), (3, .int r2), (0, .ref (a 0)), (1, .int p1), (2, .int p2)]) hx hb dX9_leaf_25 hl (by decide) rfl (fun ls hl => ?_)
    refine lv_aload_n hx hb dX9_leaf_27 rfl (lv_at hl 2 rfl) ?_
    refine va_get (D := D) (ci := 7) (v := .ref (a 1)) (C := RX9) (T := TX9) (N := 14) hx hb hts inX9 hown hK.1 hP 0 rfl rfl 0 (by decide) (hts _ tw_685) (fun _ h9 => h9) rfl dX9_leaf_28 ?_
    refine lv_iload_n hx hb dX9_leaf_31 rfl (lv_at hl 1 rfl) ?_
    refine lv_iconst (v := (nI 2)) hx hb dX9_leaf_32 (by decide) ?_
    refine kRS (As := [.int r2, .int (nI 2)]) (rest := [.ref (a 1)]) C (c_X9_of l D kI kC kB  r2 (nI 2) _ hw) ⟨rfl, rfl⟩ ce_X9_of cv_X9_of tw_764 ⟨Nat.le_of_ble_eq_true rfl, Nat.le_of_ble_eq_true rfl⟩ hP [] rfl hl.1 rfl (Nat.le_of_ble_eq_true rfl) ⟨Nat.zero_le _, Nat.zero_le _⟩ dX9_leaf_33 (fun r5 hw => ?_)
    have hin := hw.1
    replace hw := hw.2
    refine va_iald hx hb hK.1 hP 1 0 rfl rfl hin dX9_leaf_36 ?_
    refine lv_iconst (v := (nI 1)) hx hb dX9_leaf_37 (by decide) ?_
    refine lv_iadd hx hb dX9_leaf_38 ?_
    refine lv_iload hx hb dX9_leaf_39 (lv_at hl 0 rfl) ?_
    refine lv_isub hx hb dX9_leaf_41 ?_
    refine lv_topi (fun y6 ey6 => ?_)
    replace hw := hw y6 ey6
    refine lv_istore (lv' := [(5, .int y6), (4, .int y4), (3, .int r2), (0, .ref (a 0)), (1, .int p1), (2, .int p2)]) hx hb dX9_leaf_42 hl (by decide) rfl (fun ls hl => ?_)
    refine lv_iload_n hx hb dX9_leaf_44 rfl (lv_at hl 5 rfl) ?_
    by_cases hc0 : p2 = 0
    · replace hw := hw.1 hc0
      refine lv_tableIn (tgt := 84) (off := 39) hx hb dX9_leaf_45 (by rw [hc0]; decide) (by rw [hc0]; decide) (by rw [hc0]; rfl) (by decide) ?_
      refine lv_iload_n hx hb dX9_leaf_84 rfl (lv_at hl 2 rfl) ?_
      exact retR C hw dX9_leaf_85
    · replace hw := hw.2 hc0
      by_cases hc1 : p2 = 1
      · replace hw := hw.1 hc1
        refine lv_tableIn (tgt := 86) (off := 41) hx hb dX9_leaf_45 (by rw [hc1]; decide) (by rw [hc1]; decide) (by rw [hc1]; rfl) (by decide) ?_
        refine lv_iload hx hb dX9_leaf_86 (lv_at hl 1 rfl) ?_
        exact retR C hw dX9_leaf_88
      · replace hw := hw.2 hc1
        by_cases hc2 : p2 = 2
        · replace hw := hw.1 hc2
          refine lv_tableIn (tgt := 89) (off := 44) hx hb dX9_leaf_45 (by rw [hc2]; decide) (by rw [hc2]; decide) (by rw [hc2]; rfl) (by decide) ?_
          refine lv_iload hx hb dX9_leaf_89 (lv_at hl 1 rfl) ?_
          refine lv_aload_n hx hb dX9_leaf_91 rfl (lv_at hl 3 rfl) ?_
          refine lv_iload_n hx hb dX9_leaf_92 rfl (lv_at hl 2 rfl) ?_
          refine kRV (As := [.int r2]) (rest := [.int y4]) (q0 := 0) C (c_X9_signed l D kI kC kB a z_s z_text z_told z_formula z_states z_isKept z_typed z_at z_isRight z_times z_letter z_items z_length z_entries r2 _ hw) ⟨rfl, rfl⟩ ce_X9_signed cv_X9_signed tw_760 ⟨Nat.le_of_ble_eq_true rfl, Nat.le_of_ble_eq_true rfl⟩ hP [0, 1, 2, 3, 4] rfl rfl rfl rfl hl.1 rfl (Nat.le_of_ble_eq_true rfl) ⟨Nat.zero_le _, Nat.zero_le _⟩ dX9_leaf_93 (fun r7 hw => ?_)
          refine lv_icmp_gt (tgt := 103) hx hb dX9_leaf_96 (by decide) (fun hc => ?_) (fun hc => ?_)
          · replace hw := hw.1 hc
            refine lv_iconst (v := (nI 0)) hx hb dX9_leaf_103 (by decide) ?_
            exact retR C hw dX9_leaf_104
          · replace hw := hw.2 hc
            refine lv_iconst (v := (nI 1)) hx hb dX9_leaf_99 (by decide) ?_
            refine lv_goto (tgt := 104) hx hb dX9_leaf_100 (by decide) ?_
            exact retR C hw dX9_leaf_104
        · replace hw := hw.2 hc2
          by_cases hc3 : p2 = 3
          · replace hw := hw.1 hc3
            refine lv_tableIn (tgt := 105) (off := 60) hx hb dX9_leaf_45 (by rw [hc3]; decide) (by rw [hc3]; decide) (by rw [hc3]; rfl) (by decide) ?_
            refine lv_iload hx hb dX9_leaf_105 (lv_at hl 0 rfl) ?_
            refine lv_iload hx hb dX9_leaf_107 (lv_at hl 1 rfl) ?_
            refine lv_icmp_ne (tgt := 117) hx hb dX9_leaf_109 (by decide) (fun hc => ?_) (fun hc => ?_)
            · replace hw := hw.2 hc
              refine lv_aload_n hx hb dX9_leaf_117 rfl (lv_at hl 3 rfl) ?_
              refine lv_iload_n hx hb dX9_leaf_118 rfl (lv_at hl 2 rfl) ?_
              refine kRV (As := [.int r2]) (rest := []) (q0 := 0) C (c_X9_first l D kI kC kB a z_s z_text z_told z_formula z_states z_isKept z_typed z_at z_isRight z_times z_letter z_items z_length z_entries r2 _ hw) ⟨rfl, rfl⟩ ce_X9_first cv_X9_first tw_843 ⟨Nat.le_of_ble_eq_true rfl, Nat.le_of_ble_eq_true rfl⟩ hP [0, 1, 2, 3, 4] rfl rfl rfl rfl hl.1 rfl (Nat.le_of_ble_eq_true rfl) ⟨Nat.zero_le _, Nat.zero_le _⟩ dX9_leaf_119 (fun r8 hw => ?_)
              refine lv_iload hx hb dX9_leaf_122 (lv_at hl 0 rfl) ?_
              refine lv_iadd hx hb dX9_leaf_124 ?_
              refine lv_iconst (v := (nI 1)) hx hb dX9_leaf_125 (by decide) ?_
              refine lv_isub hx hb dX9_leaf_126 ?_
              exact retR C hw dX9_leaf_127
            · replace hw := hw.1 hc
              refine lv_bipush (v := (-5)) hx hb dX9_leaf_112 (by decide) ?_
              refine lv_goto (tgt := 127) hx hb dX9_leaf_114 (by decide) ?_
              exact retR C hw dX9_leaf_127
          · replace hw := hw.2 hc3
            by_cases hc4 : p2 = 4
            · replace hw := hw.1 hc4
              refine lv_tableIn (tgt := 128) (off := 83) hx hb dX9_leaf_45 (by rw [hc4]; decide) (by rw [hc4]; decide) (by rw [hc4]; rfl) (by decide) ?_
              refine lv_aload_n hx hb dX9_leaf_128 rfl (lv_at hl 3 rfl) ?_
              refine lv_iload_n hx hb dX9_leaf_129 rfl (lv_at hl 4 rfl) ?_
              refine kRV (As := [.int p1]) (rest := []) (q0 := 0) C (c_X9_isLost l D kI kC kB a z_s z_text z_told z_formula z_states z_isKept z_typed z_at z_isRight z_times z_letter z_items z_length z_entries p1 _ hw) ⟨rfl, rfl⟩ ce_X9_isLost cv_X9_isLost tw_835 ⟨Nat.le_of_ble_eq_true rfl, Nat.le_of_ble_eq_true rfl⟩ hP [0, 1, 2, 3, 4] rfl rfl rfl rfl hl.1 rfl (Nat.le_of_ble_eq_true rfl) ⟨Nat.zero_le _, Nat.zero_le _⟩ dX9_leaf_130 (fun r9 hw => ?_)
              refine lv_if_eq (tgt := 140) hx hb dX9_leaf_133 (by decide) (fun hc => ?_) (fun hc => ?_)
              · replace hw := hw.1 hc
                refine lv_iconst (v := (nI 0)) hx hb dX9_leaf_140 (by decide) ?_
                exact retR C hw dX9_leaf_141
              · replace hw := hw.2 hc
                refine lv_iconst (v := (nI 1)) hx hb dX9_leaf_136 (by decide) ?_
                refine lv_goto (tgt := 141) hx hb dX9_leaf_137 (by decide) ?_
                exact retR C hw dX9_leaf_141
            · replace hw := hw.2 hc4
              by_cases hc5 : p2 = 5
              · replace hw := hw.1 hc5
                refine lv_tableIn (tgt := 142) (off := 97) hx hb dX9_leaf_45 (by rw [hc5]; decide) (by rw [hc5]; decide) (by rw [hc5]; rfl) (by decide) ?_
                refine lv_aload_n hx hb dX9_leaf_142 rfl (lv_at hl 3 rfl) ?_
                refine lv_iload_n hx hb dX9_leaf_143 rfl (lv_at hl 4 rfl) ?_
                refine kRV (As := [.int p1]) (rest := []) (q0 := 0) C (c_X9_thereAhead l D kI kC kB a z_s z_text z_told z_formula z_states z_isKept z_typed z_at z_isRight z_times z_letter z_items z_length z_entries p1 _ hw) ⟨rfl, rfl⟩ ce_X9_thereAhead cv_X9_thereAhead tw_899 ⟨Nat.le_of_ble_eq_true rfl, Nat.le_of_ble_eq_true rfl⟩ hP [0, 1, 2, 3, 4] rfl rfl rfl rfl hl.1 rfl (Nat.le_of_ble_eq_true rfl) ⟨Nat.zero_le _, Nat.zero_le _⟩ dX9_leaf_144 (fun r10 hw => ?_)
                exact retR C hw dX9_leaf_147
              · replace hw := hw.2 hc5
                refine lv_tableOut (tgt := 148) hx hb dX9_leaf_45 (by have := lv_neT hc0 (a := 0) (by decide); have := lv_neT hc1 (a := 1) (by decide); have := lv_neT hc2 (a := 2) (by decide); have := lv_neT hc3 (a := 3) (by decide); have := lv_neT hc4 (a := 4) (by decide); have := lv_neT hc5 (a := 5) (by decide); omega) (by decide) ?_
                refine lv_bipush (v := (-2)) hx hb dX9_leaf_148 (by decide) ?_
                exact retR C hw dX9_leaf_150
  · replace hw := hw.1 hc
    refine lv_iconst (v := (-1)) hx hb dX9_leaf_8 (by decide) ?_
    exact retR C hw dX9_leaf_9
set_option maxHeartbeats 4000000 in
set_option maxRecDepth 100000 in
theorem c_X9_find (l : Launch) (D : va_G) (kI kC kB : ClassId) (a : AdT) (z_s : Nat → Int32) (z_text : Nat → Int32) (z_told : Nat → Int32) (z_formula : Nat → Int32) (z_states : Int32) (z_isKept : Int32) (z_typed : Int32) (z_at : Int32) (z_isRight : Int32) (z_times : Int32) (z_letter : Int32) (z_items : Int32) (z_length : Int32) (z_entries : Int32) (sz : Nat) (Post : Int32 → (Nat → Int32) → Int32 → Int32 → Int32 → Int32 → Int32 → Prop) (hw : wp_X9_find z_s z_text z_told z_typed z_at z_isRight z_times z_letter z_items Post) : CMi l D kI kC kB yX9_find cX9_find 3 (some .int) ({ frames := 5, cells := 0, slots := 0, locals := 109 } : Room) [.ref (a 0)] (cwModel kI kC a z_s z_text z_told z_formula z_states z_isKept z_typed z_at z_isRight z_times z_letter z_items z_length z_entries) sz (fun (r : Int32) (u : (Nat → Int32) × Int32 × Int32 × Int32 × Int32 × Int32) => Post r u.1 u.2.1 u.2.2.1 u.2.2.2.1 u.2.2.2.2.1 u.2.2.2.2.2) (fun u : (Nat → Int32) × Int32 × Int32 × Int32 × Int32 × Int32 => (cwModel kI kC a z_s z_text u.1 z_formula z_states z_isKept z_typed u.2.1 u.2.2.1 u.2.2.2.1 u.2.2.2.2.1 u.2.2.2.2.2 z_length z_entries)) := by
  refine entMi (by decide) (Nat.le_of_ble_eq_true rfl) ?_
  intro p e s m args below meth c ls A C hA hP hD hS hl
  obtain ⟨H, hHe⟩ : ∃ H, H = s.heap := ⟨_, rfl⟩
  obtain ⟨locs, hlo⟩ : ∃ lo : List Loc, lo = [] := ⟨_, rfl⟩
  have hS : va_S A s.heap H locs := by rw [hHe, hlo]; exact hS
  rw [← hHe] at hP
  suffices hg : W p l e ({ frames := 5, cells := 0, slots := 0, locals := 109 } : Room) s m args below meth c H locs 0 0 (MQ below (va_Qi (fun (r : Int32) (u : (Nat → Int32) × Int32 × Int32 × Int32 × Int32 × Int32) => Post r u.1 u.2.1 u.2.2.1 u.2.2.2.1 u.2.2.2.2.1 u.2.2.2.2.2) (BB D A (fun u : (Nat → Int32) × Int32 × Int32 × Int32 × Int32 × Int32 => (cwModel kI kC a z_s z_text u.1 z_formula z_states z_isKept z_typed u.2.1 u.2.2.1 u.2.2.2.1 u.2.2.2.2.1 u.2.2.2.2.2 z_length z_entries))) A) args s 0 0 A) (F0 m 0 ls []) by rw [hHe, hlo] at hg; exact hg
  replace hl : lv_has ls 3 [(0, .ref (a 0))] := hl
  obtain ⟨hx, hb, hr, hml, hown, hts, hlocks, hK⟩ := id C
  refine lv_aload_n hx hb dX9_find_0 rfl (lv_at hl 0 rfl) ?_
  refine lv_iconst (v := (nI 0)) hx hb dX9_find_1 (by decide) ?_
  refine kMVi (q0 := 0) (As := [.int (nI 0)]) (rest := []) C (c_X9_fault l D kI kC kB a z_s z_text z_told z_formula z_states z_isKept z_typed z_at z_isRight z_times z_letter z_items z_length z_entries H.size (nI 0) _ hw) ⟨rfl, rfl⟩ ce_X9_fault cv_X9_fault tw_771 ⟨Nat.le_of_ble_eq_true rfl, Nat.le_of_ble_eq_true rfl⟩ hP hD hS hA [0, 1, 2, 3, 4] rfl rfl (fun _ => rfl) rfl rfl rfl hl.1 rfl (Nat.le_of_ble_eq_true rfl) ⟨Nat.zero_le _, Nat.zero_le _⟩ dX9_find_2 (fun r1 u H locs hw hP hD hS => ?_)
  obtain ⟨u2, u3, u4, u5, u6, u7⟩ := u
  try dsimp only at hw
  replace hP : va_P D vwCl (cwModel kI kC a z_s z_text u2 z_formula z_states z_isKept z_typed u3 u4 u5 u6 u7 z_length z_entries) H := hP
  replace hD : va_D A (cwModel kI kC a z_s z_text u2 z_formula z_states z_isKept z_typed u3 u4 u5 u6 u7 z_length z_entries) := hD
  refine lv_istore_n (lv' := [(1, .int r1), (0, .ref (a 0))]) hx hb dX9_find_5 rfl hl (by decide) rfl (fun ls hl => ?_)
  refine lv_iload_n hx hb dX9_find_6 rfl (lv_at hl 0 rfl) ?_
  refine lv_if_lt (tgt := 15) hx hb dX9_find_7 (by decide) (fun hc => ?_) (fun hc => ?_)
  · replace hw := hw.1 hc
    refine lv_aload_n hx hb dX9_find_15 rfl (lv_at hl 1 rfl) ?_
    refine va_get (D := D) (ci := 7) (v := .int u7) (C := RX9) (T := TX9) (N := 14) hx hb hts inX9 hown hK.1 hP 0 rfl rfl 10 (by decide) (hts _ tw_695) (fun _ h9 => h9) rfl dX9_find_16 ?_
    refine lv_iconst (v := (nI 1)) hx hb dX9_find_19 (by decide) ?_
    refine lv_icmp_le (tgt := 26) hx hb dX9_find_20 (by decide) (fun hc => ?_) (fun hc => ?_)
    · replace hw := hw.1 hc
      refine lv_aload_n hx hb dX9_find_26 rfl (lv_at hl 1 rfl) ?_
      refine lv_iconst (v := (nI 0)) hx hb dX9_find_27 (by decide) ?_
      refine kRV (As := [.int (nI 0)]) (rest := []) (q0 := 0) C (c_X9_found l D kI kC kB a z_s z_text u2 z_formula z_states z_isKept z_typed u3 u4 u5 u6 u7 z_length z_entries (nI 0) _ hw) ⟨rfl, rfl⟩ ce_X9_found cv_X9_found tw_859 ⟨Nat.le_of_ble_eq_true rfl, Nat.le_of_ble_eq_true rfl⟩ hP [0, 1, 2, 3, 4] rfl rfl rfl rfl hl.1 rfl (Nat.le_of_ble_eq_true rfl) ⟨Nat.zero_le _, Nat.zero_le _⟩ dX9_find_28 (fun r8 hw => ?_)
      refine lv_istore_n (lv' := [(2, .int r8), (1, .int r1), (0, .ref (a 0))]) hx hb dX9_find_31 rfl hl (by decide) rfl (fun ls hl => ?_)
      refine lv_iload_n hx hb dX9_find_32 rfl (lv_at hl 0 rfl) ?_
      refine lv_if_ge (tgt := 41) hx hb dX9_find_33 (by decide) (fun hc => ?_) (fun hc => ?_)
      · replace hw := hw.1 hc
        refine lv_iload_n hx hb dX9_find_41 rfl (lv_at hl 0 rfl) ?_
        exact retMi C (u2, u3, u4, u5, u6, u7) hw hP hD hS dX9_find_42
      · replace hw := hw.2 hc
        refine lv_bipush (v := (-5)) hx hb dX9_find_36 (by decide) ?_
        refine lv_goto (tgt := 42) hx hb dX9_find_38 (by decide) ?_
        exact retMi C (u2, u3, u4, u5, u6, u7) hw hP hD hS dX9_find_42
    · replace hw := hw.2 hc
      refine lv_bipush (v := (-2)) hx hb dX9_find_23 (by decide) ?_
      exact retMi C (u2, u3, u4, u5, u6, u7) hw hP hD hS dX9_find_25
  · replace hw := hw.2 hc
    refine lv_bipush (v := (-100)) hx hb dX9_find_10 (by decide) ?_
    refine lv_iload_n hx hb dX9_find_12 rfl (lv_at hl 0 rfl) ?_
    refine lv_isub hx hb dX9_find_13 ?_
    exact retMi C (u2, u3, u4, u5, u6, u7) hw hP hD hS dX9_find_14
set_option maxHeartbeats 4000000 in
set_option maxRecDepth 100000 in
theorem cl_X9_before_4 (l : Launch) (D : va_G) (kI kC kB : ClassId) (a : AdT) (z_s : Nat → Int32) (z_text : Nat → Int32) (z_told : Nat → Int32) (z_formula : Nat → Int32) (z_states : Int32) (z_isKept : Int32) (z_typed : Int32) (z_at : Int32) (z_isRight : Int32) (z_times : Int32) (z_letter : Int32) (z_items : Int32) (z_length : Int32) (z_entries : Int32) (p1 : Int32) (Post : Int32 → Prop) {p : Program} {e : Env} {s : State} {m : MethodId} {args : Array Value} {below : List Frame} {meth : Method} {c : Code} (C : CtxT p s m args meth c cX9_before 4 (some .int) yX9_before.cls D kI kC kB) (hP : va_P D vwCl (cwModel kI kC a z_s z_text z_told z_formula z_states z_isKept z_typed z_at z_isRight z_times z_letter z_items z_length z_entries) s.heap) : ∀ (n : Nat), ∀ (v2 : Int32) (v3 : Int32), wl_X9_before_4 z_s p1 Post n v2 v3 → ∀ (ls : Array Slot), lv_has ls 4 [(0, .ref (a 0)), (1, .int p1), (2, .int v2), (3, .int v3)] → W p l e ({ frames := 2, cells := 0, slots := 0, locals := 42 } : Room) s m args below meth c s.heap [] 0 0 (MQ below (vp_Si Post) args s 0 0 (fun _ => False)) (F0 m 4 ls []) := by
  obtain ⟨hx, hb, hr, hml, hown, hts, hlocks, hK⟩ := id C
  intro n
  induction n with
  | zero => intro v2 v3 hw; exact hw.elim
  | succ n ih =>
    intro v2 v3 hw ls hl
    refine lv_iload_n hx hb dX9_before_4 rfl (lv_at hl 3 rfl) ?_
    refine lv_iload_n hx hb dX9_before_5 rfl (lv_at hl 1 rfl) ?_
    refine lv_icmp_ge (tgt := 29) hx hb dX9_before_6 (by decide) (fun hc => ?_) (fun hc => ?_)
    · replace hw := hw.1 hc
      refine lv_iload_n hx hb dX9_before_29 rfl (lv_at hl 2 rfl) ?_
      exact retR C hw dX9_before_30
    · replace hw := hw.2 hc
      refine lv_aload_n hx hb dX9_before_9 rfl (lv_at hl 0 rfl) ?_
      refine lv_iload_n hx hb dX9_before_10 rfl (lv_at hl 3 rfl) ?_
      refine kRV (As := [.int v3]) (rest := []) (q0 := 0) C (c_X9_isStarred l D kI kC kB a z_s z_text z_told z_formula z_states z_isKept z_typed z_at z_isRight z_times z_letter z_items z_length z_entries v3 _ hw) ⟨rfl, rfl⟩ ce_X9_isStarred cv_X9_isStarred tw_799 ⟨Nat.le_of_ble_eq_true rfl, Nat.le_of_ble_eq_true rfl⟩ hP [0, 1, 2, 3, 4] rfl rfl rfl rfl hl.1 rfl (Nat.le_of_ble_eq_true rfl) ⟨Nat.zero_le _, Nat.zero_le _⟩ dX9_before_11 (fun r1 hw => ?_)
      refine lv_if_eq (tgt := 21) hx hb dX9_before_14 (by decide) (fun hc => ?_) (fun hc => ?_)
      · replace hw := hw.1 hc
        refine lv_iload_n hx hb dX9_before_21 rfl (lv_at hl 3 rfl) ?_
        refine lv_istore_n (lv' := [(2, .int v3), (0, .ref (a 0)), (1, .int p1), (3, .int v3)]) hx hb dX9_before_22 rfl hl (by decide) rfl (fun ls hl => ?_)
        refine lv_iinc (v := (v3 + nI 1)) (lv' := [(3, .int (v3 + nI 1)), (2, .int v3), (0, .ref (a 0)), (1, .int p1)]) hx hb dX9_before_23 hl (k := 3) rfl rfl (by decide) rfl (fun ls hl => ?_)
        refine lv_goto (tgt := 4) hx hb dX9_before_26 (by decide) ?_
        exact ih v3 (v3 + nI 1) hw ls (lv_sub hl [2, 3, 1, 0] rfl)
      · replace hw := hw.2 hc
        refine lv_iload_n hx hb dX9_before_17 rfl (lv_at hl 2 rfl) ?_
        refine lv_goto (tgt := 22) hx hb dX9_before_18 (by decide) ?_
        refine lv_istore_n (lv' := [(2, .int v2), (0, .ref (a 0)), (1, .int p1), (3, .int v3)]) hx hb dX9_before_22 rfl hl (by decide) rfl (fun ls hl => ?_)
        refine lv_iinc (v := (v3 + nI 1)) (lv' := [(3, .int (v3 + nI 1)), (2, .int v2), (0, .ref (a 0)), (1, .int p1)]) hx hb dX9_before_23 hl (k := 3) rfl rfl (by decide) rfl (fun ls hl => ?_)
        refine lv_goto (tgt := 4) hx hb dX9_before_26 (by decide) ?_
        exact ih v2 (v3 + nI 1) hw ls (lv_sub hl [2, 3, 1, 0] rfl)
set_option maxHeartbeats 4000000 in
set_option maxRecDepth 100000 in
theorem c_X9_before (l : Launch) (D : va_G) (kI kC kB : ClassId) (a : AdT) (z_s : Nat → Int32) (z_text : Nat → Int32) (z_told : Nat → Int32) (z_formula : Nat → Int32) (z_states : Int32) (z_isKept : Int32) (z_typed : Int32) (z_at : Int32) (z_isRight : Int32) (z_times : Int32) (z_letter : Int32) (z_items : Int32) (z_length : Int32) (z_entries : Int32) (p1 : Int32) (Post : Int32 → Prop) (hw : wp_X9_before z_s p1 Post) : CR l D kI kC kB yX9_before cX9_before 4 (some .int) ({ frames := 2, cells := 0, slots := 0, locals := 42 } : Room) [.ref (a 0), .int p1] (cwModel kI kC a z_s z_text z_told z_formula z_states z_isKept z_typed z_at z_isRight z_times z_letter z_items z_length z_entries) Post := by
  refine entR (by decide) (Nat.le_of_ble_eq_true rfl) ?_
  intro p e s m args below meth c ls C hP hl
  replace hl : lv_has ls 4 [(0, .ref (a 0)), (1, .int p1)] := hl
  obtain ⟨hx, hb, hr, hml, hown, hts, hlocks, hK⟩ := id C
  refine lv_iconst (v := (-1)) hx hb dX9_before_0 (by decide) ?_
  refine lv_istore_n (lv' := [(2, .int (-1)), (0, .ref (a 0)), (1, .int p1)]) hx hb dX9_before_1 rfl hl (by decide) rfl (fun ls hl => ?_)
  refine lv_iconst (v := (nI 0)) hx hb dX9_before_2 (by decide) ?_
  refine lv_istore_n (lv' := [(3, .int (nI 0)), (2, .int (-1)), (0, .ref (a 0)), (1, .int p1)]) hx hb dX9_before_3 rfl hl (by decide) rfl (fun ls hl => ?_)
  obtain ⟨n9, hw⟩ := hw
  exact cl_X9_before_4 l D kI kC kB a z_s z_text z_told z_formula z_states z_isKept z_typed z_at z_isRight z_times z_letter z_items z_length z_entries p1 Post C hP n9 (-1) (nI 0) hw ls (lv_sub hl [2, 3, 1, 0] rfl)
set_option maxHeartbeats 4000000 in
set_option maxRecDepth 100000 in
theorem cj_X9_isLapse_17 (l : Launch) (D : va_G) (kI kC kB : ClassId) (a : AdT) (z_s : Nat → Int32) (z_text : Nat → Int32) (z_told : Nat → Int32) (z_formula : Nat → Int32) (z_states : Int32) (z_isKept : Int32) (z_typed : Int32) (z_at : Int32) (z_isRight : Int32) (z_times : Int32) (z_letter : Int32) (z_items : Int32) (z_length : Int32) (z_entries : Int32) (p1 : Int32) (Post : Int32 → Prop) {p : Program} {e : Env} {s : State} {m : MethodId} {args : Array Value} {below : List Frame} {meth : Method} {c : Code} (C : CtxT p s m args meth c cX9_isLapse 3 (some .boolean) yX9_isLapse.cls D kI kC kB) (hP : va_P D vwCl (cwModel kI kC a z_s z_text z_told z_formula z_states z_isKept z_typed z_at z_isRight z_times z_letter z_items z_length z_entries) s.heap) : ∀ (t0 : Int32), wj_X9_isLapse_17 z_s p1 t0 Post → ∀ (ls : Array Slot), lv_has ls 3 [(0, .ref (a 0)), (1, .int p1)] → W p l e ({ frames := 3, cells := 0, slots := 0, locals := 65 } : Room) s m args below meth c s.heap [] 0 0 (MQ below (vp_Si Post) args s 0 0 (fun _ => False)) (F0 m 17 ls [.int t0]) := by
  obtain ⟨hx, hb, hr, hml, hown, hts, hlocks, hK⟩ := id C
  intro t0 hw ls hl
  refine lv_istore_n (lv' := [(2, .int t0), (0, .ref (a 0)), (1, .int p1)]) hx hb dX9_isLapse_17 rfl hl (by decide) rfl (fun ls hl => ?_)
  refine lv_iload_n hx hb dX9_isLapse_18 rfl (lv_at hl 0 rfl) ?_
  refine lv_if_lt (tgt := 43) hx hb dX9_isLapse_19 (by decide) (fun hc => ?_) (fun hc => ?_)
  · replace hw := hw.1 hc
    refine lv_iconst (v := (nI 0)) hx hb dX9_isLapse_43 (by decide) ?_
    exact retRz C (by decide) hw dX9_isLapse_44
  · replace hw := hw.2 hc
    refine lv_aload_n hx hb dX9_isLapse_22 rfl (lv_at hl 1 rfl) ?_
    refine lv_iload_n hx hb dX9_isLapse_23 rfl (lv_at hl 2 rfl) ?_
    refine kRV (As := [.int p1]) (rest := []) (q0 := 0) C (c_X9_sign l D kI kC kB a z_s z_text z_told z_formula z_states z_isKept z_typed z_at z_isRight z_times z_letter z_items z_length z_entries p1 _ hw) ⟨rfl, rfl⟩ ce_X9_sign cv_X9_sign tw_803 ⟨Nat.le_of_ble_eq_true rfl, Nat.le_of_ble_eq_true rfl⟩ hP [0, 1, 2, 3, 4] rfl rfl rfl rfl hl.1 rfl (Nat.le_of_ble_eq_true rfl) ⟨Nat.zero_le _, Nat.zero_le _⟩ dX9_isLapse_24 (fun r1 hw => ?_)
    refine lv_aload_n hx hb dX9_isLapse_27 rfl (lv_at hl 1 rfl) ?_
    refine lv_aload_n hx hb dX9_isLapse_28 rfl (lv_at hl 1 rfl) ?_
    refine lv_iload_n hx hb dX9_isLapse_29 rfl (lv_at hl 0 rfl) ?_
    refine kRV (As := [.int t0]) (rest := [.ref (a 0), .int r1]) (q0 := 0) C (c_X9_sign l D kI kC kB a z_s z_text z_told z_formula z_states z_isKept z_typed z_at z_isRight z_times z_letter z_items z_length z_entries t0 _ hw) ⟨rfl, rfl⟩ ce_X9_sign cv_X9_sign tw_803 ⟨Nat.le_of_ble_eq_true rfl, Nat.le_of_ble_eq_true rfl⟩ hP [0, 1, 2, 3, 4] rfl rfl rfl rfl hl.1 rfl (Nat.le_of_ble_eq_true rfl) ⟨Nat.zero_le _, Nat.zero_le _⟩ dX9_isLapse_30 (fun r2 hw => ?_)
    refine kRV (As := [.int r2]) (rest := [.int r1]) (q0 := 0) C (c_X9_next l D kI kC kB a z_s z_text z_told z_formula z_states z_isKept z_typed z_at z_isRight z_times z_letter z_items z_length z_entries r2 _ hw) ⟨rfl, rfl⟩ ce_X9_next cv_X9_next tw_807 ⟨Nat.le_of_ble_eq_true rfl, Nat.le_of_ble_eq_true rfl⟩ hP [0, 1, 2, 3, 4] rfl rfl rfl rfl hl.1 rfl (Nat.le_of_ble_eq_true rfl) ⟨Nat.zero_le _, Nat.zero_le _⟩ dX9_isLapse_33 (fun r3 hw => ?_)
    refine lv_icmp_eq (tgt := 43) hx hb dX9_isLapse_36 (by decide) (fun hc => ?_) (fun hc => ?_)
    · replace hw := hw.1 hc
      refine lv_iconst (v := (nI 0)) hx hb dX9_isLapse_43 (by decide) ?_
      exact retRz C (by decide) hw dX9_isLapse_44
    · replace hw := hw.2 hc
      refine lv_iconst (v := (nI 1)) hx hb dX9_isLapse_39 (by decide) ?_
      refine lv_goto (tgt := 44) hx hb dX9_isLapse_40 (by decide) ?_
      exact retRz C (by decide) hw dX9_isLapse_44
set_option maxHeartbeats 4000000 in
set_option maxRecDepth 100000 in
theorem c_X9_isLapse (l : Launch) (D : va_G) (kI kC kB : ClassId) (a : AdT) (z_s : Nat → Int32) (z_text : Nat → Int32) (z_told : Nat → Int32) (z_formula : Nat → Int32) (z_states : Int32) (z_isKept : Int32) (z_typed : Int32) (z_at : Int32) (z_isRight : Int32) (z_times : Int32) (z_letter : Int32) (z_items : Int32) (z_length : Int32) (z_entries : Int32) (p1 : Int32) (Post : Int32 → Prop) (hw : wp_X9_isLapse z_s p1 Post) : CR l D kI kC kB yX9_isLapse cX9_isLapse 3 (some .boolean) ({ frames := 3, cells := 0, slots := 0, locals := 65 } : Room) [.ref (a 0), .int p1] (cwModel kI kC a z_s z_text z_told z_formula z_states z_isKept z_typed z_at z_isRight z_times z_letter z_items z_length z_entries) Post := by
  refine entR (by decide) (Nat.le_of_ble_eq_true rfl) ?_
  intro p e s m args below meth c ls C hP hl
  replace hl : lv_has ls 3 [(0, .ref (a 0)), (1, .int p1)] := hl
  obtain ⟨hx, hb, hr, hml, hown, hts, hlocks, hK⟩ := id C
  refine lv_aload_n hx hb dX9_isLapse_0 rfl (lv_at hl 0 rfl) ?_
  refine lv_iload_n hx hb dX9_isLapse_1 rfl (lv_at hl 1 rfl) ?_
  refine kRV (As := [.int p1]) (rest := []) (q0 := 0) C (c_X9_isStarred l D kI kC kB a z_s z_text z_told z_formula z_states z_isKept z_typed z_at z_isRight z_times z_letter z_items z_length z_entries p1 _ hw) ⟨rfl, rfl⟩ ce_X9_isStarred cv_X9_isStarred tw_799 ⟨Nat.le_of_ble_eq_true rfl, Nat.le_of_ble_eq_true rfl⟩ hP [0, 1, 2, 3, 4] rfl rfl rfl rfl hl.1 rfl (Nat.le_of_ble_eq_true rfl) ⟨Nat.zero_le _, Nat.zero_le _⟩ dX9_isLapse_2 (fun r4 hw => ?_)
  refine lv_if_eq (tgt := 12) hx hb dX9_isLapse_5 (by decide) (fun hc => ?_) (fun hc => ?_)
  · replace hw := hw.1 hc
    refine lv_aload_n hx hb dX9_isLapse_12 rfl (lv_at hl 0 rfl) ?_
    refine lv_iload_n hx hb dX9_isLapse_13 rfl (lv_at hl 1 rfl) ?_
    refine kRV (As := [.int p1]) (rest := []) (q0 := 0) C (c_X9_before l D kI kC kB a z_s z_text z_told z_formula z_states z_isKept z_typed z_at z_isRight z_times z_letter z_items z_length z_entries p1 _ hw) ⟨rfl, rfl⟩ ce_X9_before cv_X9_before tw_915 ⟨Nat.le_of_ble_eq_true rfl, Nat.le_of_ble_eq_true rfl⟩ hP [0, 1, 2, 3, 4] rfl rfl rfl rfl hl.1 rfl (Nat.le_of_ble_eq_true rfl) ⟨Nat.zero_le _, Nat.zero_le _⟩ dX9_isLapse_14 (fun r5 hw => ?_)
    exact cj_X9_isLapse_17 l D kI kC kB a z_s z_text z_told z_formula z_states z_isKept z_typed z_at z_isRight z_times z_letter z_items z_length z_entries p1 Post C hP r5 hw ls (lv_sub hl [0, 1] rfl)
  · replace hw := hw.2 hc
    refine lv_iconst (v := (-1)) hx hb dX9_isLapse_8 (by decide) ?_
    refine lv_goto (tgt := 17) hx hb dX9_isLapse_9 (by decide) ?_
    exact cj_X9_isLapse_17 l D kI kC kB a z_s z_text z_told z_formula z_states z_isKept z_typed z_at z_isRight z_times z_letter z_items z_length z_entries p1 Post C hP (-1) hw ls (lv_sub hl [0, 1] rfl)
set_option maxHeartbeats 4000000 in
set_option maxRecDepth 100000 in
theorem cl_X9_between_7 (l : Launch) (D : va_G) (kI kC kB : ClassId) (a : AdT) (z_s : Nat → Int32) (z_text : Nat → Int32) (z_told : Nat → Int32) (z_formula : Nat → Int32) (z_states : Int32) (z_isKept : Int32) (z_typed : Int32) (z_at : Int32) (z_isRight : Int32) (z_times : Int32) (z_letter : Int32) (z_items : Int32) (z_length : Int32) (z_entries : Int32) (p2 : Int32) (Post : Int32 → Prop) {p : Program} {e : Env} {s : State} {m : MethodId} {args : Array Value} {below : List Frame} {meth : Method} {c : Code} (C : CtxT p s m args meth c cX9_between 5 (some .int) yX9_between.cls D kI kC kB) (hP : va_P D vwCl (cwModel kI kC a z_s z_text z_told z_formula z_states z_isKept z_typed z_at z_isRight z_times z_letter z_items z_length z_entries) s.heap) : ∀ (n : Nat), ∀ (v3 : Int32) (v4 : Int32), wl_X9_between_7 z_s p2 Post n v3 v4 → ∀ (ls : Array Slot), lv_has ls 5 [(0, .ref (a 0)), (2, .int p2), (3, .int v3), (4, .int v4)] → W p l e ({ frames := 1, cells := 0, slots := 0, locals := 21 } : Room) s m args below meth c s.heap [] 0 0 (MQ below (vp_Si Post) args s 0 0 (fun _ => False)) (F0 m 7 ls []) := by
  obtain ⟨hx, hb, hr, hml, hown, hts, hlocks, hK⟩ := id C
  intro n
  induction n with
  | zero => intro v3 v4 hw; exact hw.elim
  | succ n ih =>
    intro v3 v4 hw ls hl
    refine lv_iload hx hb dX9_between_7 (lv_at hl 3 rfl) ?_
    refine lv_iload_n hx hb dX9_between_9 rfl (lv_at hl 1 rfl) ?_
    refine lv_icmp_ge (tgt := 39) hx hb dX9_between_10 (by decide) (fun hc => ?_) (fun hc => ?_)
    · replace hw := hw.1 hc
      refine lv_iload_n hx hb dX9_between_39 rfl (lv_at hl 2 rfl) ?_
      exact retR C hw dX9_between_40
    · replace hw := hw.2 hc
      refine lv_iload_n hx hb dX9_between_13 rfl (lv_at hl 2 rfl) ?_
      refine lv_aload_n hx hb dX9_between_14 rfl (lv_at hl 0 rfl) ?_
      refine lv_iload hx hb dX9_between_15 (lv_at hl 3 rfl) ?_
      refine lv_bipush (v := (nI 26)) hx hb dX9_between_17 (by decide) ?_
      refine lv_irem hx hb dX9_between_19 (by decide) ?_
      refine kRV (As := [.int (v4 - v4 / (nI 26) * (nI 26))]) (rest := [.int v3]) (q0 := 0) C (c_X9_isOut l D kI kC kB a z_s z_text z_told z_formula z_states z_isKept z_typed z_at z_isRight z_times z_letter z_items z_length z_entries (v4 - v4 / (nI 26) * (nI 26)) _ hw) ⟨rfl, rfl⟩ ce_X9_isOut cv_X9_isOut tw_736 ⟨Nat.le_of_ble_eq_true rfl, Nat.le_of_ble_eq_true rfl⟩ hP [0, 1, 2, 3, 4] rfl rfl rfl rfl hl.1 rfl (Nat.le_of_ble_eq_true rfl) ⟨Nat.zero_le _, Nat.zero_le _⟩ dX9_between_20 (fun r1 hw => ?_)
      refine lv_if_eq (tgt := 30) hx hb dX9_between_23 (by decide) (fun hc => ?_) (fun hc => ?_)
      · replace hw := hw.1 hc
        refine lv_iconst (v := (nI 1)) hx hb dX9_between_30 (by decide) ?_
        refine lv_iadd hx hb dX9_between_31 ?_
        refine lv_topi (fun y2 ey2 => ?_)
        replace hw := hw y2 ey2
        refine lv_istore_n (lv' := [(3, .int y2), (0, .ref (a 0)), (2, .int p2), (4, .int v4)]) hx hb dX9_between_32 rfl hl (by decide) rfl (fun ls hl => ?_)
        refine lv_iinc (v := (v4 + nI 1)) (lv' := [(4, .int (v4 + nI 1)), (3, .int y2), (0, .ref (a 0)), (2, .int p2)]) hx hb dX9_between_33 hl (k := 3) rfl rfl (by decide) rfl (fun ls hl => ?_)
        refine lv_goto (tgt := 7) hx hb dX9_between_36 (by decide) ?_
        exact ih y2 (v4 + nI 1) hw ls (lv_sub hl [2, 3, 1, 0] rfl)
      · replace hw := hw.2 hc
        refine lv_iconst (v := (nI 0)) hx hb dX9_between_26 (by decide) ?_
        refine lv_goto (tgt := 31) hx hb dX9_between_27 (by decide) ?_
        refine lv_iadd hx hb dX9_between_31 ?_
        refine lv_topi (fun y3 ey3 => ?_)
        replace hw := hw y3 ey3
        refine lv_istore_n (lv' := [(3, .int y3), (0, .ref (a 0)), (2, .int p2), (4, .int v4)]) hx hb dX9_between_32 rfl hl (by decide) rfl (fun ls hl => ?_)
        refine lv_iinc (v := (v4 + nI 1)) (lv' := [(4, .int (v4 + nI 1)), (3, .int y3), (0, .ref (a 0)), (2, .int p2)]) hx hb dX9_between_33 hl (k := 3) rfl rfl (by decide) rfl (fun ls hl => ?_)
        refine lv_goto (tgt := 7) hx hb dX9_between_36 (by decide) ?_
        exact ih y3 (v4 + nI 1) hw ls (lv_sub hl [2, 3, 1, 0] rfl)
set_option maxHeartbeats 4000000 in
set_option maxRecDepth 100000 in
theorem c_X9_between (l : Launch) (D : va_G) (kI kC kB : ClassId) (a : AdT) (z_s : Nat → Int32) (z_text : Nat → Int32) (z_told : Nat → Int32) (z_formula : Nat → Int32) (z_states : Int32) (z_isKept : Int32) (z_typed : Int32) (z_at : Int32) (z_isRight : Int32) (z_times : Int32) (z_letter : Int32) (z_items : Int32) (z_length : Int32) (z_entries : Int32) (p1 : Int32) (p2 : Int32) (Post : Int32 → Prop) (hw : wp_X9_between z_s p1 p2 Post) : CR l D kI kC kB yX9_between cX9_between 5 (some .int) ({ frames := 1, cells := 0, slots := 0, locals := 21 } : Room) [.ref (a 0), .int p1, .int p2] (cwModel kI kC a z_s z_text z_told z_formula z_states z_isKept z_typed z_at z_isRight z_times z_letter z_items z_length z_entries) Post := by
  refine entR (by decide) (Nat.le_of_ble_eq_true rfl) ?_
  intro p e s m args below meth c ls C hP hl
  replace hl : lv_has ls 5 [(0, .ref (a 0)), (1, .int p1), (2, .int p2)] := hl
  obtain ⟨hx, hb, hr, hml, hown, hts, hlocks, hK⟩ := id C
  refine lv_iconst (v := (nI 0)) hx hb dX9_between_0 (by decide) ?_
  refine lv_istore_n (lv' := [(3, .int (nI 0)), (0, .ref (a 0)), (1, .int p1), (2, .int p2)]) hx hb dX9_between_1 rfl hl (by decide) rfl (fun ls hl => ?_)
  refine lv_iload_n hx hb dX9_between_2 rfl (lv_at hl 2 rfl) ?_
  refine lv_iconst (v := (nI 1)) hx hb dX9_between_3 (by decide) ?_
  refine lv_iadd hx hb dX9_between_4 ?_
  refine lv_topi (fun y4 ey4 => ?_)
  replace hw := hw y4 ey4
  refine lv_istore (lv' := [(4, .int y4), (3, .int (nI 0)), (0, .ref (a 0)), (1, .int p1), (2, .int p2)]) hx hb dX9_between_5 hl (by decide) rfl (fun ls hl => ?_)
  obtain ⟨n9, hw⟩ := hw
  exact cl_X9_between_7 l D kI kC kB a z_s z_text z_told z_formula z_states z_isKept z_typed z_at z_isRight z_times z_letter z_items z_length z_entries p2 Post C hP n9 (nI 0) y4 hw ls (lv_sub hl [2, 4, 1, 0] rfl)
set_option maxHeartbeats 4000000 in
set_option maxRecDepth 100000 in
theorem cj_X9_lapse_88 (l : Launch) (D : va_G) (kI kC kB : ClassId) (a : AdT) (z_s : Nat → Int32) (z_text : Nat → Int32) (z_told : Nat → Int32) (z_formula : Nat → Int32) (z_states : Int32) (z_isKept : Int32) (z_typed : Int32) (z_at : Int32) (z_isRight : Int32) (z_times : Int32) (z_letter : Int32) (z_items : Int32) (z_length : Int32) (z_entries : Int32) (p2 : Int32) (v4 : Int32) (v5 : Int32) (v6 : Int32) (Post : Int32 → Prop) {p : Program} {e : Env} {s : State} {m : MethodId} {args : Array Value} {below : List Frame} {meth : Method} {c : Code} (C : CtxT p s m args meth c cX9_lapse 8 (some .int) yX9_lapse.cls D kI kC kB) (hP : va_P D vwCl (cwModel kI kC a z_s z_text z_told z_formula z_states z_isKept z_typed z_at z_isRight z_times z_letter z_items z_length z_entries) s.heap) : ∀ (t0 : Int32), wj_X9_lapse_88 z_s p2 v4 v5 v6 t0 Post → ∀ (ls : Array Slot), lv_has ls 8 [(0, .ref (a 0)), (2, .int p2), (4, .int v4), (5, .int v5), (6, .int v6)] → W p l e ({ frames := 4, cells := 0, slots := 0, locals := 87 } : Room) s m args below meth c s.heap [] 0 0 (MQ below (vp_Si Post) args s 0 0 (fun _ => False)) (F0 m 88 ls [.int t0]) := by
  obtain ⟨hx, hb, hr, hml, hown, hts, hlocks, hK⟩ := id C
  intro t0 hw ls hl
  refine lv_istore (lv' := [(7, .int t0), (0, .ref (a 0)), (2, .int p2), (4, .int v4), (5, .int v5), (6, .int v6)]) hx hb dX9_lapse_88 hl (by decide) rfl (fun ls hl => ?_)
  refine lv_iload_n hx hb dX9_lapse_90 rfl (lv_at hl 2 rfl) ?_
  refine lv_if_ne (tgt := 99) hx hb dX9_lapse_91 (by decide) (fun hc => ?_) (fun hc => ?_)
  · replace hw := hw.2 hc
    refine lv_iload_n hx hb dX9_lapse_99 rfl (lv_at hl 2 rfl) ?_
    refine lv_iconst (v := (nI 1)) hx hb dX9_lapse_100 (by decide) ?_
    refine lv_icmp_ne (tgt := 109) hx hb dX9_lapse_101 (by decide) (fun hc => ?_) (fun hc => ?_)
    · replace hw := hw.2 hc
      refine lv_aload_n hx hb dX9_lapse_109 rfl (lv_at hl 1 rfl) ?_
      refine lv_iload hx hb dX9_lapse_110 (lv_at hl 4 rfl) ?_
      refine lv_iload hx hb dX9_lapse_112 (lv_at hl 5 rfl) ?_
      refine kRV (As := [.int v5, .int v6]) (rest := []) (q0 := 0) C (c_X9_between l D kI kC kB a z_s z_text z_told z_formula z_states z_isKept z_typed z_at z_isRight z_times z_letter z_items z_length z_entries v5 v6 _ hw) ⟨rfl, rfl⟩ ce_X9_between cv_X9_between tw_919 ⟨Nat.le_of_ble_eq_true rfl, Nat.le_of_ble_eq_true rfl⟩ hP [0, 1, 2, 3, 4] rfl rfl rfl rfl hl.1 rfl (Nat.le_of_ble_eq_true rfl) ⟨Nat.zero_le _, Nat.zero_le _⟩ dX9_lapse_114 (fun r1 hw => ?_)
      exact retR C hw dX9_lapse_117
    · replace hw := hw.1 hc
      refine lv_iload hx hb dX9_lapse_104 (lv_at hl 0 rfl) ?_
      refine lv_goto (tgt := 117) hx hb dX9_lapse_106 (by decide) ?_
      exact retR C hw dX9_lapse_117
  · replace hw := hw.1 hc
    refine lv_iload hx hb dX9_lapse_94 (lv_at hl 3 rfl) ?_
    refine lv_goto (tgt := 117) hx hb dX9_lapse_96 (by decide) ?_
    exact retR C hw dX9_lapse_117
set_option maxHeartbeats 4000000 in
set_option maxRecDepth 100000 in
theorem cl_X9_lapse_21 (l : Launch) (D : va_G) (kI kC kB : ClassId) (a : AdT) (z_s : Nat → Int32) (z_text : Nat → Int32) (z_told : Nat → Int32) (z_formula : Nat → Int32) (z_states : Int32) (z_isKept : Int32) (z_typed : Int32) (z_at : Int32) (z_isRight : Int32) (z_times : Int32) (z_letter : Int32) (z_items : Int32) (z_length : Int32) (z_entries : Int32) (p2 : Int32) (Post : Int32 → Prop) {p : Program} {e : Env} {s : State} {m : MethodId} {args : Array Value} {below : List Frame} {meth : Method} {c : Code} (C : CtxT p s m args meth c cX9_lapse 8 (some .int) yX9_lapse.cls D kI kC kB) (hP : va_P D vwCl (cwModel kI kC a z_s z_text z_told z_formula z_states z_isKept z_typed z_at z_isRight z_times z_letter z_items z_length z_entries) s.heap) : ∀ (n : Nat), ∀ (v3 : Int32) (v4 : Int32), wl_X9_lapse_21 z_s p2 Post n v3 v4 → ∀ (ls : Array Slot), lv_has ls 8 [(0, .ref (a 0)), (2, .int p2), (3, .int v3), (4, .int v4)] → W p l e ({ frames := 4, cells := 0, slots := 0, locals := 87 } : Room) s m args below meth c s.heap [] 0 0 (MQ below (vp_Si Post) args s 0 0 (fun _ => False)) (F0 m 21 ls []) := by
  obtain ⟨hx, hb, hr, hml, hown, hts, hlocks, hK⟩ := id C
  intro n
  induction n with
  | zero => intro v3 v4 hw; exact hw.elim
  | succ n ih =>
    intro v3 v4 hw ls hl
    refine lv_iload hx hb dX9_lapse_21 (lv_at hl 3 rfl) ?_
    refine lv_aload_n hx hb dX9_lapse_23 rfl (lv_at hl 0 rfl) ?_
    refine va_get (D := D) (ci := 7) (v := .ref (a 1)) (C := RX9) (T := TX9) (N := 14) hx hb hts inX9 hown hK.1 hP 0 rfl rfl 0 (by decide) (hts _ tw_685) (fun _ h9 => h9) rfl dX9_lapse_24 ?_
    refine lv_iconst (v := (nI 2)) hx hb dX9_lapse_27 (by decide) ?_
    have hin := hw.1
    replace hw := hw.2
    refine va_iald hx hb hK.1 hP 1 0 rfl rfl hin dX9_lapse_28 ?_
    refine lv_icmp_ge (tgt := 127) hx hb dX9_lapse_29 (by decide) (fun hc => ?_) (fun hc => ?_)
    · replace hw := hw.1 hc
      refine lv_bipush (v := (-5)) hx hb dX9_lapse_127 (by decide) ?_
      exact retR C hw dX9_lapse_129
    · replace hw := hw.2 hc
      refine lv_aload_n hx hb dX9_lapse_32 rfl (lv_at hl 0 rfl) ?_
      refine lv_iload hx hb dX9_lapse_33 (lv_at hl 3 rfl) ?_
      refine kRV (As := [.int v4]) (rest := []) (q0 := 0) C (c_X9_isLapse l D kI kC kB a z_s z_text z_told z_formula z_states z_isKept z_typed z_at z_isRight z_times z_letter z_items z_length z_entries v4 _ hw) ⟨rfl, rfl⟩ ce_X9_isLapse cv_X9_isLapse tw_911 ⟨Nat.le_of_ble_eq_true rfl, Nat.le_of_ble_eq_true rfl⟩ hP [0, 1, 2, 3, 4] rfl rfl rfl rfl hl.1 rfl (Nat.le_of_ble_eq_true rfl) ⟨Nat.zero_le _, Nat.zero_le _⟩ dX9_lapse_35 (fun r2 hw => ?_)
      refine lv_if_eq (tgt := 121) hx hb dX9_lapse_38 (by decide) (fun hc => ?_) (fun hc => ?_)
      · replace hw := hw.1 hc
        refine lv_iinc (v := (v4 + nI 1)) (lv' := [(4, .int (v4 + nI 1)), (0, .ref (a 0)), (2, .int p2), (3, .int v3)]) hx hb dX9_lapse_121 hl (k := 3) rfl rfl (by decide) rfl (fun ls hl => ?_)
        refine lv_goto (tgt := 21) hx hb dX9_lapse_124 (by decide) ?_
        exact ih v3 (v4 + nI 1) hw ls (lv_sub hl [1, 2, 3, 0] rfl)
      · replace hw := hw.2 hc
        refine lv_iload_n hx hb dX9_lapse_41 rfl (lv_at hl 2 rfl) ?_
        refine lv_if_ne (tgt := 118) hx hb dX9_lapse_42 (by decide) (fun hc => ?_) (fun hc => ?_)
        · replace hw := hw.2 hc
          refine lv_iinc (v := (v3 + (-1))) (lv' := [(3, .int (v3 + (-1))), (0, .ref (a 0)), (2, .int p2), (4, .int v4)]) hx hb dX9_lapse_118 hl (k := 2) rfl rfl (by decide) rfl (fun ls hl => ?_)
          refine lv_iinc (v := (v4 + nI 1)) (lv' := [(4, .int (v4 + nI 1)), (3, .int (v3 + (-1))), (0, .ref (a 0)), (2, .int p2)]) hx hb dX9_lapse_121 hl (k := 3) rfl rfl (by decide) rfl (fun ls hl => ?_)
          refine lv_goto (tgt := 21) hx hb dX9_lapse_124 (by decide) ?_
          exact ih (v3 + (-1)) (v4 + nI 1) hw ls (lv_sub hl [2, 3, 1, 0] rfl)
        · replace hw := hw.1 hc
          refine lv_aload_n hx hb dX9_lapse_45 rfl (lv_at hl 0 rfl) ?_
          refine lv_aload_n hx hb dX9_lapse_46 rfl (lv_at hl 0 rfl) ?_
          refine lv_iload hx hb dX9_lapse_47 (lv_at hl 3 rfl) ?_
          refine kRV (As := [.int v4]) (rest := [.ref (a 0)]) (q0 := 0) C (c_X9_before l D kI kC kB a z_s z_text z_told z_formula z_states z_isKept z_typed z_at z_isRight z_times z_letter z_items z_length z_entries v4 _ hw) ⟨rfl, rfl⟩ ce_X9_before cv_X9_before tw_915 ⟨Nat.le_of_ble_eq_true rfl, Nat.le_of_ble_eq_true rfl⟩ hP [0, 1, 2, 3, 4] rfl rfl rfl rfl hl.1 rfl (Nat.le_of_ble_eq_true rfl) ⟨Nat.zero_le _, Nat.zero_le _⟩ dX9_lapse_49 (fun r3 hw => ?_)
          refine kRV (As := [.int r3]) (rest := []) (q0 := 0) C (c_X9_sign l D kI kC kB a z_s z_text z_told z_formula z_states z_isKept z_typed z_at z_isRight z_times z_letter z_items z_length z_entries r3 _ hw) ⟨rfl, rfl⟩ ce_X9_sign cv_X9_sign tw_803 ⟨Nat.le_of_ble_eq_true rfl, Nat.le_of_ble_eq_true rfl⟩ hP [0, 1, 2, 3, 4] rfl rfl rfl rfl hl.1 rfl (Nat.le_of_ble_eq_true rfl) ⟨Nat.zero_le _, Nat.zero_le _⟩ dX9_lapse_52 (fun r4 hw => ?_)
          refine lv_istore (lv' := [(5, .int r4), (0, .ref (a 0)), (2, .int p2), (3, .int v3), (4, .int v4)]) hx hb dX9_lapse_55 hl (by decide) rfl (fun ls hl => ?_)
          refine lv_aload_n hx hb dX9_lapse_57 rfl (lv_at hl 1 rfl) ?_
          refine lv_iload hx hb dX9_lapse_58 (lv_at hl 4 rfl) ?_
          refine kRV (As := [.int v4]) (rest := []) (q0 := 0) C (c_X9_sign l D kI kC kB a z_s z_text z_told z_formula z_states z_isKept z_typed z_at z_isRight z_times z_letter z_items z_length z_entries v4 _ hw) ⟨rfl, rfl⟩ ce_X9_sign cv_X9_sign tw_803 ⟨Nat.le_of_ble_eq_true rfl, Nat.le_of_ble_eq_true rfl⟩ hP [0, 1, 2, 3, 4] rfl rfl rfl rfl hl.1 rfl (Nat.le_of_ble_eq_true rfl) ⟨Nat.zero_le _, Nat.zero_le _⟩ dX9_lapse_60 (fun r5 hw => ?_)
          refine lv_istore (lv' := [(6, .int r5), (5, .int r4), (0, .ref (a 0)), (2, .int p2), (3, .int v3), (4, .int v4)]) hx hb dX9_lapse_63 hl (by decide) rfl (fun ls hl => ?_)
          refine lv_iload hx hb dX9_lapse_65 (lv_at hl 1 rfl) ?_
          refine lv_iload hx hb dX9_lapse_67 (lv_at hl 0 rfl) ?_
          refine lv_icmp_ne (tgt := 76) hx hb dX9_lapse_69 (by decide) (fun hc => ?_) (fun hc => ?_)
          · replace hw := hw.2 hc
            refine lv_iload hx hb dX9_lapse_76 (lv_at hl 0 rfl) ?_
            refine lv_iload hx hb dX9_lapse_78 (lv_at hl 1 rfl) ?_
            refine lv_icmp_ge (tgt := 87) hx hb dX9_lapse_80 (by decide) (fun hc => ?_) (fun hc => ?_)
            · replace hw := hw.1 hc
              refine lv_iconst (v := (nI 2)) hx hb dX9_lapse_87 (by decide) ?_
              exact cj_X9_lapse_88 l D kI kC kB a z_s z_text z_told z_formula z_states z_isKept z_typed z_at z_isRight z_times z_letter z_items z_length z_entries p2 v4 r4 r5 Post C hP (nI 2) hw ls (lv_sub hl [2, 3, 5, 1, 0] rfl)
            · replace hw := hw.2 hc
              refine lv_iconst (v := (nI 1)) hx hb dX9_lapse_83 (by decide) ?_
              refine lv_goto (tgt := 88) hx hb dX9_lapse_84 (by decide) ?_
              exact cj_X9_lapse_88 l D kI kC kB a z_s z_text z_told z_formula z_states z_isKept z_typed z_at z_isRight z_times z_letter z_items z_length z_entries p2 v4 r4 r5 Post C hP (nI 1) hw ls (lv_sub hl [2, 3, 5, 1, 0] rfl)
          · replace hw := hw.1 hc
            refine lv_iconst (v := (nI 0)) hx hb dX9_lapse_72 (by decide) ?_
            refine lv_goto (tgt := 88) hx hb dX9_lapse_73 (by decide) ?_
            exact cj_X9_lapse_88 l D kI kC kB a z_s z_text z_told z_formula z_states z_isKept z_typed z_at z_isRight z_times z_letter z_items z_length z_entries p2 v4 r4 r5 Post C hP (nI 0) hw ls (lv_sub hl [2, 3, 5, 1, 0] rfl)
set_option maxHeartbeats 4000000 in
set_option maxRecDepth 100000 in
theorem c_X9_lapse (l : Launch) (D : va_G) (kI kC kB : ClassId) (a : AdT) (z_s : Nat → Int32) (z_text : Nat → Int32) (z_told : Nat → Int32) (z_formula : Nat → Int32) (z_states : Int32) (z_isKept : Int32) (z_typed : Int32) (z_at : Int32) (z_isRight : Int32) (z_times : Int32) (z_letter : Int32) (z_items : Int32) (z_length : Int32) (z_entries : Int32) (p1 : Int32) (p2 : Int32) (Post : Int32 → Prop) (hw : wp_X9_lapse z_s p1 p2 Post) : CR l D kI kC kB yX9_lapse cX9_lapse 8 (some .int) ({ frames := 4, cells := 0, slots := 0, locals := 87 } : Room) [.ref (a 0), .int p1, .int p2] (cwModel kI kC a z_s z_text z_told z_formula z_states z_isKept z_typed z_at z_isRight z_times z_letter z_items z_length z_entries) Post := by
  refine entR (by decide) (Nat.le_of_ble_eq_true rfl) ?_
  intro p e s m args below meth c ls C hP hl
  replace hl : lv_has ls 8 [(0, .ref (a 0)), (1, .int p1), (2, .int p2)] := hl
  obtain ⟨hx, hb, hr, hml, hown, hts, hlocks, hK⟩ := id C
  refine lv_iload_n hx hb dX9_lapse_0 rfl (lv_at hl 1 rfl) ?_
  refine lv_if_lt (tgt := 13) hx hb dX9_lapse_1 (by decide) (fun hc => ?_) (fun hc => ?_)
  · replace hw := hw.1 hc
    refine lv_bipush (v := (-2)) hx hb dX9_lapse_13 (by decide) ?_
    exact retR C hw dX9_lapse_15
  · replace hw := hw.2 hc
    refine lv_iload_n hx hb dX9_lapse_4 rfl (lv_at hl 2 rfl) ?_
    refine lv_iconst (v := (nI 0)) hx hb dX9_lapse_5 (by decide) ?_
    refine lv_iconst (v := (nI 2)) hx hb dX9_lapse_6 (by decide) ?_
    refine kRS (As := [.int p2, .int (nI 0), .int (nI 2)]) (rest := []) C (c_X9_in l D kI kC kB  p2 (nI 0) (nI 2) _ hw) ⟨rfl, rfl⟩ ce_X9_in cv_X9_in tw_733 ⟨Nat.le_of_ble_eq_true rfl, Nat.le_of_ble_eq_true rfl⟩ hP [] rfl hl.1 rfl (Nat.le_of_ble_eq_true rfl) ⟨Nat.zero_le _, Nat.zero_le _⟩ dX9_lapse_7 (fun r6 hw => ?_)
    refine lv_if_ne (tgt := 16) hx hb dX9_lapse_10 (by decide) (fun hc => ?_) (fun hc => ?_)
    · replace hw := hw.2 hc
      refine lv_iload_n hx hb dX9_lapse_16 rfl (lv_at hl 1 rfl) ?_
      refine lv_istore_n (lv' := [(3, .int p1), (0, .ref (a 0)), (1, .int p1), (2, .int p2)]) hx hb dX9_lapse_17 rfl hl (by decide) rfl (fun ls hl => ?_)
      refine lv_iconst (v := (nI 0)) hx hb dX9_lapse_18 (by decide) ?_
      refine lv_istore (lv' := [(4, .int (nI 0)), (3, .int p1), (0, .ref (a 0)), (1, .int p1), (2, .int p2)]) hx hb dX9_lapse_19 hl (by decide) rfl (fun ls hl => ?_)
      obtain ⟨n9, hw⟩ := hw
      exact cl_X9_lapse_21 l D kI kC kB a z_s z_text z_told z_formula z_states z_isKept z_typed z_at z_isRight z_times z_letter z_items z_length z_entries p2 Post C hP n9 p1 (nI 0) hw ls (lv_sub hl [2, 4, 1, 0] rfl)
    · replace hw := hw.1 hc
      refine lv_bipush (v := (-2)) hx hb dX9_lapse_13 (by decide) ?_
      exact retR C hw dX9_lapse_15
set_option maxHeartbeats 4000000 in
set_option maxRecDepth 100000 in
theorem cl_X9_isPiled_4 (l : Launch) (D : va_G) (kI kC kB : ClassId) (a : AdT) (z_s : Nat → Int32) (z_text : Nat → Int32) (z_told : Nat → Int32) (z_formula : Nat → Int32) (z_states : Int32) (z_isKept : Int32) (z_typed : Int32) (z_at : Int32) (z_isRight : Int32) (z_times : Int32) (z_letter : Int32) (z_items : Int32) (z_length : Int32) (z_entries : Int32) (p1 : Int32) (Post : Int32 → Prop) {p : Program} {e : Env} {s : State} {m : MethodId} {args : Array Value} {below : List Frame} {meth : Method} {c : Code} (C : CtxT p s m args meth c cX9_isPiled 4 (some .boolean) yX9_isPiled.cls D kI kC kB) (hP : va_P D vwCl (cwModel kI kC a z_s z_text z_told z_formula z_states z_isKept z_typed z_at z_isRight z_times z_letter z_items z_length z_entries) s.heap) : ∀ (n : Nat), ∀ (v2 : Int32) (v3 : Int32), wl_X9_isPiled_4 z_s p1 Post n v2 v3 → ∀ (ls : Array Slot), lv_has ls 4 [(0, .ref (a 0)), (1, .int p1), (2, .int v2), (3, .int v3)] → W p l e ({ frames := 0, cells := 0, slots := 0, locals := 0 } : Room) s m args below meth c s.heap [] 0 0 (MQ below (vp_Si Post) args s 0 0 (fun _ => False)) (F0 m 4 ls []) := by
  obtain ⟨hx, hb, hr, hml, hown, hts, hlocks, hK⟩ := id C
  intro n
  induction n with
  | zero => intro v2 v3 hw; exact hw.elim
  | succ n ih =>
    intro v2 v3 hw ls hl
    refine lv_iload_n hx hb dX9_isPiled_4 rfl (lv_at hl 3 rfl) ?_
    refine lv_aload_n hx hb dX9_isPiled_5 rfl (lv_at hl 0 rfl) ?_
    refine va_get (D := D) (ci := 7) (v := .ref (a 1)) (C := RX9) (T := TX9) (N := 14) hx hb hts inX9 hown hK.1 hP 0 rfl rfl 0 (by decide) (hts _ tw_685) (fun _ h9 => h9) rfl dX9_isPiled_6 ?_
    refine lv_sipush (v := (nI 163)) hx hb dX9_isPiled_9 (by decide) ?_
    have hin := hw.1
    replace hw := hw.2
    refine va_iald hx hb hK.1 hP 1 0 rfl rfl hin dX9_isPiled_12 ?_
    refine lv_icmp_ge (tgt := 46) hx hb dX9_isPiled_13 (by decide) (fun hc => ?_) (fun hc => ?_)
    · replace hw := hw.1 hc
      refine lv_iload_n hx hb dX9_isPiled_46 rfl (lv_at hl 2 rfl) ?_
      have hz := hw.1
      replace hw := hw.2
      exact retRz C hz hw dX9_isPiled_47
    · replace hw := hw.2 hc
      refine lv_iload_n hx hb dX9_isPiled_16 rfl (lv_at hl 2 rfl) ?_
      refine lv_if_ne (tgt := 34) hx hb dX9_isPiled_17 (by decide) (fun hc => ?_) (fun hc => ?_)
      · replace hw := hw.2 hc
        refine lv_iconst (v := (nI 1)) hx hb dX9_isPiled_34 (by decide) ?_
        refine lv_goto (tgt := 39) hx hb dX9_isPiled_35 (by decide) ?_
        refine lv_istore_n (lv' := [(2, .int (nI 1)), (0, .ref (a 0)), (1, .int p1), (3, .int v3)]) hx hb dX9_isPiled_39 rfl hl (by decide) rfl (fun ls hl => ?_)
        refine lv_iinc (v := (v3 + nI 1)) (lv' := [(3, .int (v3 + nI 1)), (2, .int (nI 1)), (0, .ref (a 0)), (1, .int p1)]) hx hb dX9_isPiled_40 hl (k := 3) rfl rfl (by decide) rfl (fun ls hl => ?_)
        refine lv_goto (tgt := 4) hx hb dX9_isPiled_43 (by decide) ?_
        exact ih (nI 1) (v3 + nI 1) hw ls (lv_sub hl [2, 3, 1, 0] rfl)
      · replace hw := hw.1 hc
        refine lv_aload_n hx hb dX9_isPiled_20 rfl (lv_at hl 0 rfl) ?_
        refine va_get (D := D) (ci := 7) (v := .ref (a 1)) (C := RX9) (T := TX9) (N := 14) hx hb hts inX9 hown hK.1 hP 0 rfl rfl 0 (by decide) (hts _ tw_685) (fun _ h9 => h9) rfl dX9_isPiled_21 ?_
        refine lv_sipush (v := (nI 164)) hx hb dX9_isPiled_24 (by decide) ?_
        refine lv_iload_n hx hb dX9_isPiled_27 rfl (lv_at hl 3 rfl) ?_
        refine lv_iadd hx hb dX9_isPiled_28 ?_
        have hin := hw.1
        replace hw := hw.2
        refine va_iald hx hb hK.1 hP 1 0 rfl rfl hin dX9_isPiled_29 ?_
        refine lv_iload_n hx hb dX9_isPiled_30 rfl (lv_at hl 1 rfl) ?_
        refine lv_icmp_ne (tgt := 38) hx hb dX9_isPiled_31 (by decide) (fun hc => ?_) (fun hc => ?_)
        · replace hw := hw.2 hc
          refine lv_iconst (v := (nI 0)) hx hb dX9_isPiled_38 (by decide) ?_
          refine lv_istore_n (lv' := [(2, .int (nI 0)), (0, .ref (a 0)), (1, .int p1), (3, .int v3)]) hx hb dX9_isPiled_39 rfl hl (by decide) rfl (fun ls hl => ?_)
          refine lv_iinc (v := (v3 + nI 1)) (lv' := [(3, .int (v3 + nI 1)), (2, .int (nI 0)), (0, .ref (a 0)), (1, .int p1)]) hx hb dX9_isPiled_40 hl (k := 3) rfl rfl (by decide) rfl (fun ls hl => ?_)
          refine lv_goto (tgt := 4) hx hb dX9_isPiled_43 (by decide) ?_
          exact ih (nI 0) (v3 + nI 1) hw ls (lv_sub hl [2, 3, 1, 0] rfl)
        · replace hw := hw.1 hc
          refine lv_iconst (v := (nI 1)) hx hb dX9_isPiled_34 (by decide) ?_
          refine lv_goto (tgt := 39) hx hb dX9_isPiled_35 (by decide) ?_
          refine lv_istore_n (lv' := [(2, .int (nI 1)), (0, .ref (a 0)), (1, .int p1), (3, .int v3)]) hx hb dX9_isPiled_39 rfl hl (by decide) rfl (fun ls hl => ?_)
          refine lv_iinc (v := (v3 + nI 1)) (lv' := [(3, .int (v3 + nI 1)), (2, .int (nI 1)), (0, .ref (a 0)), (1, .int p1)]) hx hb dX9_isPiled_40 hl (k := 3) rfl rfl (by decide) rfl (fun ls hl => ?_)
          refine lv_goto (tgt := 4) hx hb dX9_isPiled_43 (by decide) ?_
          exact ih (nI 1) (v3 + nI 1) hw ls (lv_sub hl [2, 3, 1, 0] rfl)
set_option maxHeartbeats 4000000 in
set_option maxRecDepth 100000 in
theorem c_X9_isPiled (l : Launch) (D : va_G) (kI kC kB : ClassId) (a : AdT) (z_s : Nat → Int32) (z_text : Nat → Int32) (z_told : Nat → Int32) (z_formula : Nat → Int32) (z_states : Int32) (z_isKept : Int32) (z_typed : Int32) (z_at : Int32) (z_isRight : Int32) (z_times : Int32) (z_letter : Int32) (z_items : Int32) (z_length : Int32) (z_entries : Int32) (p1 : Int32) (Post : Int32 → Prop) (hw : wp_X9_isPiled z_s p1 Post) : CR l D kI kC kB yX9_isPiled cX9_isPiled 4 (some .boolean) ({ frames := 0, cells := 0, slots := 0, locals := 0 } : Room) [.ref (a 0), .int p1] (cwModel kI kC a z_s z_text z_told z_formula z_states z_isKept z_typed z_at z_isRight z_times z_letter z_items z_length z_entries) Post := by
  refine entR (by decide) (Nat.le_of_ble_eq_true rfl) ?_
  intro p e s m args below meth c ls C hP hl
  replace hl : lv_has ls 4 [(0, .ref (a 0)), (1, .int p1)] := hl
  obtain ⟨hx, hb, hr, hml, hown, hts, hlocks, hK⟩ := id C
  refine lv_iconst (v := (nI 0)) hx hb dX9_isPiled_0 (by decide) ?_
  refine lv_istore_n (lv' := [(2, .int (nI 0)), (0, .ref (a 0)), (1, .int p1)]) hx hb dX9_isPiled_1 rfl hl (by decide) rfl (fun ls hl => ?_)
  refine lv_iconst (v := (nI 0)) hx hb dX9_isPiled_2 (by decide) ?_
  refine lv_istore_n (lv' := [(3, .int (nI 0)), (2, .int (nI 0)), (0, .ref (a 0)), (1, .int p1)]) hx hb dX9_isPiled_3 rfl hl (by decide) rfl (fun ls hl => ?_)
  obtain ⟨n9, hw⟩ := hw
  exact cl_X9_isPiled_4 l D kI kC kB a z_s z_text z_told z_formula z_states z_isKept z_typed z_at z_isRight z_times z_letter z_items z_length z_entries p1 Post C hP n9 (nI 0) (nI 0) hw ls (lv_sub hl [2, 3, 1, 0] rfl)
set_option maxHeartbeats 4000000 in
set_option maxRecDepth 100000 in
theorem cj_X9_piled_49 (l : Launch) (D : va_G) (kI kC kB : ClassId) (a : AdT) (z_s : Nat → Int32) (z_text : Nat → Int32) (z_told : Nat → Int32) (z_formula : Nat → Int32) (z_states : Int32) (z_isKept : Int32) (z_typed : Int32) (z_at : Int32) (z_isRight : Int32) (z_times : Int32) (z_letter : Int32) (z_items : Int32) (z_length : Int32) (z_entries : Int32) (p1 : Int32) (p2 : Int32) (v3 : Int32) (v4 : Int32) (Post : Int32 → Prop) {p : Program} {e : Env} {s : State} {m : MethodId} {args : Array Value} {below : List Frame} {meth : Method} {c : Code} (C : CtxT p s m args meth c cX9_piled 7 (some .int) yX9_piled.cls D kI kC kB) (hP : va_P D vwCl (cwModel kI kC a z_s z_text z_told z_formula z_states z_isKept z_typed z_at z_isRight z_times z_letter z_items z_length z_entries) s.heap) (K36 : Int32 → Int32 → Prop) (hK36 : ∀ (v3 : Int32) (v4 : Int32), K36 v3 v4 → ∀ (ls : Array Slot), lv_has ls 7 [(0, .ref (a 0)), (1, .int p1), (2, .int p2), (3, .int v3), (4, .int v4)] → W p l e ({ frames := 4, cells := 0, slots := 0, locals := 88 } : Room) s m args below meth c s.heap [] 0 0 (MQ below (vp_Si Post) args s 0 0 (fun _ => False)) (F0 m 36 ls [])) : wj_X9_piled_49 z_s p1 p2 v3 v4 K36 Post → ∀ (ls : Array Slot), lv_has ls 7 [(0, .ref (a 0)), (1, .int p1), (2, .int p2), (3, .int v3), (4, .int v4)] → W p l e ({ frames := 4, cells := 0, slots := 0, locals := 88 } : Room) s m args below meth c s.heap [] 0 0 (MQ below (vp_Si Post) args s 0 0 (fun _ => False)) (F0 m 49 ls []) := by
  obtain ⟨hx, hb, hr, hml, hown, hts, hlocks, hK⟩ := id C
  intro hw ls hl
  refine lv_iload_n hx hb dX9_piled_49 rfl (lv_at hl 3 rfl) ?_
  refine lv_aload_n hx hb dX9_piled_50 rfl (lv_at hl 0 rfl) ?_
  refine lv_iload hx hb dX9_piled_51 (lv_at hl 4 rfl) ?_
  refine kRV (As := [.int v4]) (rest := [.int v3]) (q0 := 0) C (c_X9_isPiled l D kI kC kB a z_s z_text z_told z_formula z_states z_isKept z_typed z_at z_isRight z_times z_letter z_items z_length z_entries v4 _ hw) ⟨rfl, rfl⟩ ce_X9_isPiled cv_X9_isPiled tw_927 ⟨Nat.le_of_ble_eq_true rfl, Nat.le_of_ble_eq_true rfl⟩ hP [0, 1, 2, 3, 4] rfl rfl rfl rfl hl.1 rfl (Nat.le_of_ble_eq_true rfl) ⟨Nat.zero_le _, Nat.zero_le _⟩ dX9_piled_53 (fun r1 hw => ?_)
  refine lv_if_eq (tgt := 63) hx hb dX9_piled_56 (by decide) (fun hc => ?_) (fun hc => ?_)
  · replace hw := hw.1 hc
    refine lv_iconst (v := (nI 0)) hx hb dX9_piled_63 (by decide) ?_
    refine lv_isub hx hb dX9_piled_64 ?_
    refine lv_topi (fun y2 ey2 => ?_)
    replace hw := hw y2 ey2
    refine lv_istore_n (lv' := [(3, .int y2), (0, .ref (a 0)), (1, .int p1), (2, .int p2), (4, .int v4)]) hx hb dX9_piled_65 rfl hl (by decide) rfl (fun ls hl => ?_)
    refine lv_iinc (v := (v4 + nI 1)) (lv' := [(4, .int (v4 + nI 1)), (3, .int y2), (0, .ref (a 0)), (1, .int p1), (2, .int p2)]) hx hb dX9_piled_66 hl (k := 4) rfl rfl (by decide) rfl (fun ls hl => ?_)
    refine lv_goto (tgt := 36) hx hb dX9_piled_69 (by decide) ?_
    exact hK36 y2 (v4 + nI 1) hw ls (lv_sub hl [2, 3, 4, 1, 0] rfl)
  · replace hw := hw.2 hc
    refine lv_iconst (v := (nI 1)) hx hb dX9_piled_59 (by decide) ?_
    refine lv_goto (tgt := 64) hx hb dX9_piled_60 (by decide) ?_
    refine lv_isub hx hb dX9_piled_64 ?_
    refine lv_topi (fun y3 ey3 => ?_)
    replace hw := hw y3 ey3
    refine lv_istore_n (lv' := [(3, .int y3), (0, .ref (a 0)), (1, .int p1), (2, .int p2), (4, .int v4)]) hx hb dX9_piled_65 rfl hl (by decide) rfl (fun ls hl => ?_)
    refine lv_iinc (v := (v4 + nI 1)) (lv' := [(4, .int (v4 + nI 1)), (3, .int y3), (0, .ref (a 0)), (1, .int p1), (2, .int p2)]) hx hb dX9_piled_66 hl (k := 4) rfl rfl (by decide) rfl (fun ls hl => ?_)
    refine lv_goto (tgt := 36) hx hb dX9_piled_69 (by decide) ?_
    exact hK36 y3 (v4 + nI 1) hw ls (lv_sub hl [2, 3, 4, 1, 0] rfl)
set_option maxHeartbeats 4000000 in
set_option maxRecDepth 100000 in
theorem cl_X9_piled_105 (l : Launch) (D : va_G) (kI kC kB : ClassId) (a : AdT) (z_s : Nat → Int32) (z_text : Nat → Int32) (z_told : Nat → Int32) (z_formula : Nat → Int32) (z_states : Int32) (z_isKept : Int32) (z_typed : Int32) (z_at : Int32) (z_isRight : Int32) (z_times : Int32) (z_letter : Int32) (z_items : Int32) (z_length : Int32) (z_entries : Int32) (Post : Int32 → Prop) {p : Program} {e : Env} {s : State} {m : MethodId} {args : Array Value} {below : List Frame} {meth : Method} {c : Code} (C : CtxT p s m args meth c cX9_piled 7 (some .int) yX9_piled.cls D kI kC kB) (hP : va_P D vwCl (cwModel kI kC a z_s z_text z_told z_formula z_states z_isKept z_typed z_at z_isRight z_times z_letter z_items z_length z_entries) s.heap) : ∀ (n : Nat), ∀ (v5 : Int32) (v6 : Int32), wl_X9_piled_105 z_s Post n v5 v6 → ∀ (ls : Array Slot), lv_has ls 7 [(0, .ref (a 0)), (5, .int v5), (6, .int v6)] → W p l e ({ frames := 4, cells := 0, slots := 0, locals := 88 } : Room) s m args below meth c s.heap [] 0 0 (MQ below (vp_Si Post) args s 0 0 (fun _ => False)) (F0 m 105 ls []) := by
  obtain ⟨hx, hb, hr, hml, hown, hts, hlocks, hK⟩ := id C
  intro n
  induction n with
  | zero => intro v5 v6 hw; exact hw.elim
  | succ n ih =>
    intro v5 v6 hw ls hl
    refine lv_aload_n hx hb dX9_piled_105 rfl (lv_at hl 0 rfl) ?_
    refine lv_iload hx hb dX9_piled_106 (lv_at hl 2 rfl) ?_
    refine kRV (As := [.int v6]) (rest := []) (q0 := 0) C (c_X9_isPiled l D kI kC kB a z_s z_text z_told z_formula z_states z_isKept z_typed z_at z_isRight z_times z_letter z_items z_length z_entries v6 _ hw) ⟨rfl, rfl⟩ ce_X9_isPiled cv_X9_isPiled tw_927 ⟨Nat.le_of_ble_eq_true rfl, Nat.le_of_ble_eq_true rfl⟩ hP [0, 1, 2, 3, 4] rfl rfl rfl rfl hl.1 rfl (Nat.le_of_ble_eq_true rfl) ⟨Nat.zero_le _, Nat.zero_le _⟩ dX9_piled_108 (fun r4 hw => ?_)
    refine lv_if_ne (tgt := 139) hx hb dX9_piled_111 (by decide) (fun hc => ?_) (fun hc => ?_)
    · replace hw := hw.2 hc
      refine lv_iload hx hb dX9_piled_139 (lv_at hl 1 rfl) ?_
      exact retR C hw dX9_piled_141
    · replace hw := hw.1 hc
      refine lv_iload hx hb dX9_piled_114 (lv_at hl 1 rfl) ?_
      refine lv_aload_n hx hb dX9_piled_116 rfl (lv_at hl 0 rfl) ?_
      refine lv_iload hx hb dX9_piled_117 (lv_at hl 2 rfl) ?_
      refine kRV (As := [.int v6]) (rest := [.int v5]) (q0 := 0) C (c_X9_isLost l D kI kC kB a z_s z_text z_told z_formula z_states z_isKept z_typed z_at z_isRight z_times z_letter z_items z_length z_entries v6 _ hw) ⟨rfl, rfl⟩ ce_X9_isLost cv_X9_isLost tw_835 ⟨Nat.le_of_ble_eq_true rfl, Nat.le_of_ble_eq_true rfl⟩ hP [0, 1, 2, 3, 4] rfl rfl rfl rfl hl.1 rfl (Nat.le_of_ble_eq_true rfl) ⟨Nat.zero_le _, Nat.zero_le _⟩ dX9_piled_119 (fun r5 hw => ?_)
      refine lv_if_eq (tgt := 129) hx hb dX9_piled_122 (by decide) (fun hc => ?_) (fun hc => ?_)
      · replace hw := hw.1 hc
        refine lv_iconst (v := (nI 1)) hx hb dX9_piled_129 (by decide) ?_
        refine lv_iadd hx hb dX9_piled_130 ?_
        refine lv_topi (fun y6 ey6 => ?_)
        replace hw := hw y6 ey6
        refine lv_istore (lv' := [(5, .int y6), (0, .ref (a 0)), (6, .int v6)]) hx hb dX9_piled_131 hl (by decide) rfl (fun ls hl => ?_)
        refine lv_iinc (v := (v6 + nI 1)) (lv' := [(6, .int (v6 + nI 1)), (5, .int y6), (0, .ref (a 0))]) hx hb dX9_piled_133 hl (k := 2) rfl rfl (by decide) rfl (fun ls hl => ?_)
        refine lv_goto (tgt := 105) hx hb dX9_piled_136 (by decide) ?_
        exact ih y6 (v6 + nI 1) hw ls (lv_sub hl [2, 1, 0] rfl)
      · replace hw := hw.2 hc
        refine lv_iconst (v := (nI 0)) hx hb dX9_piled_125 (by decide) ?_
        refine lv_goto (tgt := 130) hx hb dX9_piled_126 (by decide) ?_
        refine lv_iadd hx hb dX9_piled_130 ?_
        refine lv_topi (fun y7 ey7 => ?_)
        replace hw := hw y7 ey7
        refine lv_istore (lv' := [(5, .int y7), (0, .ref (a 0)), (6, .int v6)]) hx hb dX9_piled_131 hl (by decide) rfl (fun ls hl => ?_)
        refine lv_iinc (v := (v6 + nI 1)) (lv' := [(6, .int (v6 + nI 1)), (5, .int y7), (0, .ref (a 0))]) hx hb dX9_piled_133 hl (k := 2) rfl rfl (by decide) rfl (fun ls hl => ?_)
        refine lv_goto (tgt := 105) hx hb dX9_piled_136 (by decide) ?_
        exact ih y7 (v6 + nI 1) hw ls (lv_sub hl [2, 1, 0] rfl)
set_option maxHeartbeats 4000000 in
set_option maxRecDepth 100000 in
theorem cl_X9_piled_36 (l : Launch) (D : va_G) (kI kC kB : ClassId) (a : AdT) (z_s : Nat → Int32) (z_text : Nat → Int32) (z_told : Nat → Int32) (z_formula : Nat → Int32) (z_states : Int32) (z_isKept : Int32) (z_typed : Int32) (z_at : Int32) (z_isRight : Int32) (z_times : Int32) (z_letter : Int32) (z_items : Int32) (z_length : Int32) (z_entries : Int32) (p1 : Int32) (p2 : Int32) (Post : Int32 → Prop) {p : Program} {e : Env} {s : State} {m : MethodId} {args : Array Value} {below : List Frame} {meth : Method} {c : Code} (C : CtxT p s m args meth c cX9_piled 7 (some .int) yX9_piled.cls D kI kC kB) (hP : va_P D vwCl (cwModel kI kC a z_s z_text z_told z_formula z_states z_isKept z_typed z_at z_isRight z_times z_letter z_items z_length z_entries) s.heap) : ∀ (n : Nat), ∀ (v3 : Int32) (v4 : Int32), wl_X9_piled_36 z_s p1 p2 Post n v3 v4 → ∀ (ls : Array Slot), lv_has ls 7 [(0, .ref (a 0)), (1, .int p1), (2, .int p2), (3, .int v3), (4, .int v4)] → W p l e ({ frames := 4, cells := 0, slots := 0, locals := 88 } : Room) s m args below meth c s.heap [] 0 0 (MQ below (vp_Si Post) args s 0 0 (fun _ => False)) (F0 m 36 ls []) := by
  obtain ⟨hx, hb, hr, hml, hown, hts, hlocks, hK⟩ := id C
  intro n
  induction n with
  | zero => intro v3 v4 hw; exact hw.elim
  | succ n ih =>
    intro v3 v4 hw ls hl
    refine lv_iload_n hx hb dX9_piled_36 rfl (lv_at hl 3 rfl) ?_
    refine lv_if_gt (tgt := 49) hx hb dX9_piled_37 (by decide) (fun hc => ?_) (fun hc => ?_)
    · replace hw := hw.1 hc
      exact cj_X9_piled_49 l D kI kC kB a z_s z_text z_told z_formula z_states z_isKept z_typed z_at z_isRight z_times z_letter z_items z_length z_entries p1 p2 v3 v4 Post C hP _ ih hw ls (lv_sub hl [0, 1, 2, 3, 4] rfl)
    · replace hw := hw.2 hc
      refine lv_aload_n hx hb dX9_piled_40 rfl (lv_at hl 0 rfl) ?_
      refine lv_iload hx hb dX9_piled_41 (lv_at hl 4 rfl) ?_
      refine kRV (As := [.int v4]) (rest := []) (q0 := 0) C (c_X9_isPiled l D kI kC kB a z_s z_text z_told z_formula z_states z_isKept z_typed z_at z_isRight z_times z_letter z_items z_length z_entries v4 _ hw) ⟨rfl, rfl⟩ ce_X9_isPiled cv_X9_isPiled tw_927 ⟨Nat.le_of_ble_eq_true rfl, Nat.le_of_ble_eq_true rfl⟩ hP [0, 1, 2, 3, 4] rfl rfl rfl rfl hl.1 rfl (Nat.le_of_ble_eq_true rfl) ⟨Nat.zero_le _, Nat.zero_le _⟩ dX9_piled_43 (fun r8 hw => ?_)
      refine lv_if_ne (tgt := 72) hx hb dX9_piled_46 (by decide) (fun hc => ?_) (fun hc => ?_)
      · replace hw := hw.2 hc
        refine lv_iload_n hx hb dX9_piled_72 rfl (lv_at hl 2 rfl) ?_
        refine lv_if_ne (tgt := 79) hx hb dX9_piled_73 (by decide) (fun hc => ?_) (fun hc => ?_)
        · replace hw := hw.2 hc
          refine lv_iload_n hx hb dX9_piled_79 rfl (lv_at hl 1 rfl) ?_
          refine lv_aload_n hx hb dX9_piled_80 rfl (lv_at hl 0 rfl) ?_
          refine va_get (D := D) (ci := 7) (v := .ref (a 1)) (C := RX9) (T := TX9) (N := 14) hx hb hts inX9 hown hK.1 hP 0 rfl rfl 0 (by decide) (hts _ tw_685) (fun _ h9 => h9) rfl dX9_piled_81 ?_
          refine lv_sipush (v := (nI 163)) hx hb dX9_piled_84 (by decide) ?_
          have hin := hw.1
          replace hw := hw.2
          refine va_iald hx hb hK.1 hP 1 0 rfl rfl hin dX9_piled_87 ?_
          refine lv_iconst (v := (nI 1)) hx hb dX9_piled_88 (by decide) ?_
          refine lv_isub hx hb dX9_piled_89 ?_
          refine lv_icmp_ne (tgt := 96) hx hb dX9_piled_90 (by decide) (fun hc => ?_) (fun hc => ?_)
          · replace hw := hw.2 hc
            refine lv_iconst (v := (nI 0)) hx hb dX9_piled_96 (by decide) ?_
            refine lv_istore (lv' := [(5, .int (nI 0)), (0, .ref (a 0)), (1, .int p1), (2, .int p2), (3, .int v3), (4, .int v4)]) hx hb dX9_piled_97 hl (by decide) rfl (fun ls hl => ?_)
            refine lv_iload hx hb dX9_piled_99 (lv_at hl 5 rfl) ?_
            refine lv_iconst (v := (nI 1)) hx hb dX9_piled_101 (by decide) ?_
            refine lv_iadd hx hb dX9_piled_102 ?_
            refine lv_topi (fun y9 ey9 => ?_)
            replace hw := hw y9 ey9
            refine lv_istore (lv' := [(6, .int y9), (5, .int (nI 0)), (0, .ref (a 0)), (1, .int p1), (2, .int p2), (3, .int v3), (4, .int v4)]) hx hb dX9_piled_103 hl (by decide) rfl (fun ls hl => ?_)
            obtain ⟨n9, hw⟩ := hw
            exact cl_X9_piled_105 l D kI kC kB a z_s z_text z_told z_formula z_states z_isKept z_typed z_at z_isRight z_times z_letter z_items z_length z_entries Post C hP n9 (nI 0) y9 hw ls (lv_sub hl [2, 1, 0] rfl)
          · replace hw := hw.1 hc
            refine lv_bipush (v := (-5)) hx hb dX9_piled_93 (by decide) ?_
            exact retR C hw dX9_piled_95
        · replace hw := hw.1 hc
          refine lv_iload hx hb dX9_piled_76 (lv_at hl 4 rfl) ?_
          exact retR C hw dX9_piled_78
      · replace hw := hw.1 hc
        exact cj_X9_piled_49 l D kI kC kB a z_s z_text z_told z_formula z_states z_isKept z_typed z_at z_isRight z_times z_letter z_items z_length z_entries p1 p2 v3 v4 Post C hP _ ih hw ls (lv_sub hl [0, 1, 2, 3, 4] rfl)
set_option maxHeartbeats 4000000 in
set_option maxRecDepth 100000 in
theorem c_X9_piled (l : Launch) (D : va_G) (kI kC kB : ClassId) (a : AdT) (z_s : Nat → Int32) (z_text : Nat → Int32) (z_told : Nat → Int32) (z_formula : Nat → Int32) (z_states : Int32) (z_isKept : Int32) (z_typed : Int32) (z_at : Int32) (z_isRight : Int32) (z_times : Int32) (z_letter : Int32) (z_items : Int32) (z_length : Int32) (z_entries : Int32) (p1 : Int32) (p2 : Int32) (Post : Int32 → Prop) (hw : wp_X9_piled z_s p1 p2 Post) : CR l D kI kC kB yX9_piled cX9_piled 7 (some .int) ({ frames := 4, cells := 0, slots := 0, locals := 88 } : Room) [.ref (a 0), .int p1, .int p2] (cwModel kI kC a z_s z_text z_told z_formula z_states z_isKept z_typed z_at z_isRight z_times z_letter z_items z_length z_entries) Post := by
  refine entR (by decide) (Nat.le_of_ble_eq_true rfl) ?_
  intro p e s m args below meth c ls C hP hl
  replace hl : lv_has ls 7 [(0, .ref (a 0)), (1, .int p1), (2, .int p2)] := hl
  obtain ⟨hx, hb, hr, hml, hown, hts, hlocks, hK⟩ := id C
  refine lv_iload_n hx hb dX9_piled_0 rfl (lv_at hl 1 rfl) ?_
  refine lv_if_lt (tgt := 13) hx hb dX9_piled_1 (by decide) (fun hc => ?_) (fun hc => ?_)
  · replace hw := hw.1 hc
    refine lv_bipush (v := (-2)) hx hb dX9_piled_13 (by decide) ?_
    exact retR C hw dX9_piled_15
  · replace hw := hw.2 hc
    refine lv_iload_n hx hb dX9_piled_4 rfl (lv_at hl 2 rfl) ?_
    refine lv_iconst (v := (nI 0)) hx hb dX9_piled_5 (by decide) ?_
    refine lv_iconst (v := (nI 1)) hx hb dX9_piled_6 (by decide) ?_
    refine kRS (As := [.int p2, .int (nI 0), .int (nI 1)]) (rest := []) C (c_X9_in l D kI kC kB  p2 (nI 0) (nI 1) _ hw) ⟨rfl, rfl⟩ ce_X9_in cv_X9_in tw_733 ⟨Nat.le_of_ble_eq_true rfl, Nat.le_of_ble_eq_true rfl⟩ hP [] rfl hl.1 rfl (Nat.le_of_ble_eq_true rfl) ⟨Nat.zero_le _, Nat.zero_le _⟩ dX9_piled_7 (fun r10 hw => ?_)
    refine lv_if_ne (tgt := 16) hx hb dX9_piled_10 (by decide) (fun hc => ?_) (fun hc => ?_)
    · replace hw := hw.2 hc
      refine lv_iload_n hx hb dX9_piled_16 rfl (lv_at hl 1 rfl) ?_
      refine lv_aload_n hx hb dX9_piled_17 rfl (lv_at hl 0 rfl) ?_
      refine va_get (D := D) (ci := 7) (v := .ref (a 1)) (C := RX9) (T := TX9) (N := 14) hx hb hts inX9 hown hK.1 hP 0 rfl rfl 0 (by decide) (hts _ tw_685) (fun _ h9 => h9) rfl dX9_piled_18 ?_
      refine lv_sipush (v := (nI 163)) hx hb dX9_piled_21 (by decide) ?_
      have hin := hw.1
      replace hw := hw.2
      refine va_iald hx hb hK.1 hP 1 0 rfl rfl hin dX9_piled_24 ?_
      refine lv_icmp_lt (tgt := 31) hx hb dX9_piled_25 (by decide) (fun hc => ?_) (fun hc => ?_)
      · replace hw := hw.1 hc
        refine lv_iload_n hx hb dX9_piled_31 rfl (lv_at hl 1 rfl) ?_
        refine lv_istore_n (lv' := [(3, .int p1), (0, .ref (a 0)), (1, .int p1), (2, .int p2)]) hx hb dX9_piled_32 rfl hl (by decide) rfl (fun ls hl => ?_)
        refine lv_iconst (v := (nI 0)) hx hb dX9_piled_33 (by decide) ?_
        refine lv_istore (lv' := [(4, .int (nI 0)), (3, .int p1), (0, .ref (a 0)), (1, .int p1), (2, .int p2)]) hx hb dX9_piled_34 hl (by decide) rfl (fun ls hl => ?_)
        obtain ⟨n9, hw⟩ := hw
        exact cl_X9_piled_36 l D kI kC kB a z_s z_text z_told z_formula z_states z_isKept z_typed z_at z_isRight z_times z_letter z_items z_length z_entries p1 p2 Post C hP n9 p1 (nI 0) hw ls (lv_sub hl [2, 3, 4, 1, 0] rfl)
      · replace hw := hw.2 hc
        refine lv_bipush (v := (-5)) hx hb dX9_piled_28 (by decide) ?_
        exact retR C hw dX9_piled_30
    · replace hw := hw.1 hc
      refine lv_bipush (v := (-2)) hx hb dX9_piled_13 (by decide) ?_
      exact retR C hw dX9_piled_15
set_option maxHeartbeats 4000000 in
set_option maxRecDepth 100000 in
theorem cl_X9_sheets_29 (l : Launch) (D : va_G) (kI kC kB : ClassId) (a : AdT) (z_s : Nat → Int32) (z_text : Nat → Int32) (z_told : Nat → Int32) (z_formula : Nat → Int32) (z_states : Int32) (z_isKept : Int32) (z_typed : Int32) (z_at : Int32) (z_isRight : Int32) (z_times : Int32) (z_letter : Int32) (z_items : Int32) (z_length : Int32) (z_entries : Int32) (p1 : Int32) (Post : Int32 → Prop) {p : Program} {e : Env} {s : State} {m : MethodId} {args : Array Value} {below : List Frame} {meth : Method} {c : Code} (C : CtxT p s m args meth c cX9_sheets 4 (some .int) yX9_sheets.cls D kI kC kB) (hP : va_P D vwCl (cwModel kI kC a z_s z_text z_told z_formula z_states z_isKept z_typed z_at z_isRight z_times z_letter z_items z_length z_entries) s.heap) : ∀ (n : Nat), ∀ (v2 : Int32) (v3 : Int32), wl_X9_sheets_29 z_s p1 Post n v2 v3 → ∀ (ls : Array Slot), lv_has ls 4 [(0, .ref (a 0)), (1, .int p1), (2, .int v2), (3, .int v3)] → W p l e ({ frames := 1, cells := 0, slots := 0, locals := 21 } : Room) s m args below meth c s.heap [] 0 0 (MQ below (vp_Si Post) args s 0 0 (fun _ => False)) (F0 m 29 ls []) := by
  obtain ⟨hx, hb, hr, hml, hown, hts, hlocks, hK⟩ := id C
  intro n
  induction n with
  | zero => intro v2 v3 hw; exact hw.elim
  | succ n ih =>
    intro v2 v3 hw ls hl
    refine lv_iload_n hx hb dX9_sheets_29 rfl (lv_at hl 3 rfl) ?_
    refine lv_aload_n hx hb dX9_sheets_30 rfl (lv_at hl 0 rfl) ?_
    refine va_get (D := D) (ci := 7) (v := .ref (a 1)) (C := RX9) (T := TX9) (N := 14) hx hb hts inX9 hown hK.1 hP 0 rfl rfl 0 (by decide) (hts _ tw_685) (fun _ h9 => h9) rfl dX9_sheets_31 ?_
    refine lv_iconst (v := (nI 2)) hx hb dX9_sheets_34 (by decide) ?_
    have hin := hw.1
    replace hw := hw.2
    refine va_iald hx hb hK.1 hP 1 0 rfl rfl hin dX9_sheets_35 ?_
    refine lv_icmp_ge (tgt := 64) hx hb dX9_sheets_36 (by decide) (fun hc => ?_) (fun hc => ?_)
    · replace hw := hw.1 hc
      refine lv_iload_n hx hb dX9_sheets_64 rfl (lv_at hl 2 rfl) ?_
      exact retR C hw dX9_sheets_65
    · replace hw := hw.2 hc
      refine lv_iload_n hx hb dX9_sheets_39 rfl (lv_at hl 2 rfl) ?_
      refine lv_aload_n hx hb dX9_sheets_40 rfl (lv_at hl 0 rfl) ?_
      refine va_get (D := D) (ci := 7) (v := .ref (a 1)) (C := RX9) (T := TX9) (N := 14) hx hb hts inX9 hown hK.1 hP 0 rfl rfl 0 (by decide) (hts _ tw_685) (fun _ h9 => h9) rfl dX9_sheets_41 ?_
      refine lv_iload_n hx hb dX9_sheets_44 rfl (lv_at hl 3 rfl) ?_
      refine lv_iconst (v := (nI 2)) hx hb dX9_sheets_45 (by decide) ?_
      refine kRS (As := [.int v3, .int (nI 2)]) (rest := [.ref (a 1), .int v2]) C (c_X9_of l D kI kC kB  v3 (nI 2) _ hw) ⟨rfl, rfl⟩ ce_X9_of cv_X9_of tw_764 ⟨Nat.le_of_ble_eq_true rfl, Nat.le_of_ble_eq_true rfl⟩ hP [] rfl hl.1 rfl (Nat.le_of_ble_eq_true rfl) ⟨Nat.zero_le _, Nat.zero_le _⟩ dX9_sheets_46 (fun r1 hw => ?_)
      have hin := hw.1
      replace hw := hw.2
      refine va_iald hx hb hK.1 hP 1 0 rfl rfl hin dX9_sheets_49 ?_
      refine lv_iload_n hx hb dX9_sheets_50 rfl (lv_at hl 1 rfl) ?_
      refine lv_iadd hx hb dX9_sheets_51 ?_
      refine lv_iconst (v := (nI 1)) hx hb dX9_sheets_52 (by decide) ?_
      refine lv_isub hx hb dX9_sheets_53 ?_
      refine lv_iload_n hx hb dX9_sheets_54 rfl (lv_at hl 1 rfl) ?_
      have hne := hw.1
      replace hw := hw.2
      refine lv_idiv hx hb dX9_sheets_55 hne ?_
      refine lv_iadd hx hb dX9_sheets_56 ?_
      refine lv_topi (fun y2 ey2 => ?_)
      replace hw := hw y2 ey2
      refine lv_istore_n (lv' := [(2, .int y2), (0, .ref (a 0)), (1, .int p1), (3, .int v3)]) hx hb dX9_sheets_57 rfl hl (by decide) rfl (fun ls hl => ?_)
      refine lv_iinc (v := (v3 + nI 1)) (lv' := [(3, .int (v3 + nI 1)), (2, .int y2), (0, .ref (a 0)), (1, .int p1)]) hx hb dX9_sheets_58 hl (k := 3) rfl rfl (by decide) rfl (fun ls hl => ?_)
      refine lv_goto (tgt := 29) hx hb dX9_sheets_61 (by decide) ?_
      exact ih y2 (v3 + nI 1) hw ls (lv_sub hl [2, 3, 1, 0] rfl)
set_option maxHeartbeats 4000000 in
set_option maxRecDepth 100000 in
theorem c_X9_sheets (l : Launch) (D : va_G) (kI kC kB : ClassId) (a : AdT) (z_s : Nat → Int32) (z_text : Nat → Int32) (z_told : Nat → Int32) (z_formula : Nat → Int32) (z_states : Int32) (z_isKept : Int32) (z_typed : Int32) (z_at : Int32) (z_isRight : Int32) (z_times : Int32) (z_letter : Int32) (z_items : Int32) (z_length : Int32) (z_entries : Int32) (p1 : Int32) (Post : Int32 → Prop) (hw : wp_X9_sheets z_s p1 Post) : CR l D kI kC kB yX9_sheets cX9_sheets 4 (some .int) ({ frames := 1, cells := 0, slots := 0, locals := 21 } : Room) [.ref (a 0), .int p1] (cwModel kI kC a z_s z_text z_told z_formula z_states z_isKept z_typed z_at z_isRight z_times z_letter z_items z_length z_entries) Post := by
  refine entR (by decide) (Nat.le_of_ble_eq_true rfl) ?_
  intro p e s m args below meth c ls C hP hl
  replace hl : lv_has ls 4 [(0, .ref (a 0)), (1, .int p1)] := hl
  obtain ⟨hx, hb, hr, hml, hown, hts, hlocks, hK⟩ := id C
  refine lv_iload_n hx hb dX9_sheets_0 rfl (lv_at hl 1 rfl) ?_
  refine lv_iconst (v := (nI 2)) hx hb dX9_sheets_1 (by decide) ?_
  refine lv_icmp_eq (tgt := 25) hx hb dX9_sheets_2 (by decide) (fun hc => ?_) (fun hc => ?_)
  · replace hw := hw.1 hc
    refine lv_iconst (v := (nI 0)) hx hb dX9_sheets_25 (by decide) ?_
    refine lv_istore_n (lv' := [(2, .int (nI 0)), (0, .ref (a 0)), (1, .int p1)]) hx hb dX9_sheets_26 rfl hl (by decide) rfl (fun ls hl => ?_)
    refine lv_iconst (v := (nI 0)) hx hb dX9_sheets_27 (by decide) ?_
    refine lv_istore_n (lv' := [(3, .int (nI 0)), (2, .int (nI 0)), (0, .ref (a 0)), (1, .int p1)]) hx hb dX9_sheets_28 rfl hl (by decide) rfl (fun ls hl => ?_)
    obtain ⟨n9, hw⟩ := hw
    exact cl_X9_sheets_29 l D kI kC kB a z_s z_text z_told z_formula z_states z_isKept z_typed z_at z_isRight z_times z_letter z_items z_length z_entries p1 Post C hP n9 (nI 0) (nI 0) hw ls (lv_sub hl [2, 3, 1, 0] rfl)
  · replace hw := hw.2 hc
    refine lv_iload_n hx hb dX9_sheets_5 rfl (lv_at hl 1 rfl) ?_
    refine lv_iconst (v := (nI 4)) hx hb dX9_sheets_6 (by decide) ?_
    refine lv_icmp_eq (tgt := 25) hx hb dX9_sheets_7 (by decide) (fun hc => ?_) (fun hc => ?_)
    · replace hw := hw.1 hc
      refine lv_iconst (v := (nI 0)) hx hb dX9_sheets_25 (by decide) ?_
      refine lv_istore_n (lv' := [(2, .int (nI 0)), (0, .ref (a 0)), (1, .int p1)]) hx hb dX9_sheets_26 rfl hl (by decide) rfl (fun ls hl => ?_)
      refine lv_iconst (v := (nI 0)) hx hb dX9_sheets_27 (by decide) ?_
      refine lv_istore_n (lv' := [(3, .int (nI 0)), (2, .int (nI 0)), (0, .ref (a 0)), (1, .int p1)]) hx hb dX9_sheets_28 rfl hl (by decide) rfl (fun ls hl => ?_)
      obtain ⟨n9, hw⟩ := hw
      exact cl_X9_sheets_29 l D kI kC kB a z_s z_text z_told z_formula z_states z_isKept z_typed z_at z_isRight z_times z_letter z_items z_length z_entries p1 Post C hP n9 (nI 0) (nI 0) hw ls (lv_sub hl [2, 3, 1, 0] rfl)
    · replace hw := hw.2 hc
      refine lv_iload_n hx hb dX9_sheets_10 rfl (lv_at hl 1 rfl) ?_
      refine lv_bipush (v := (nI 8)) hx hb dX9_sheets_11 (by decide) ?_
      refine lv_icmp_eq (tgt := 25) hx hb dX9_sheets_13 (by decide) (fun hc => ?_) (fun hc => ?_)
      · replace hw := hw.1 hc
        refine lv_iconst (v := (nI 0)) hx hb dX9_sheets_25 (by decide) ?_
        refine lv_istore_n (lv' := [(2, .int (nI 0)), (0, .ref (a 0)), (1, .int p1)]) hx hb dX9_sheets_26 rfl hl (by decide) rfl (fun ls hl => ?_)
        refine lv_iconst (v := (nI 0)) hx hb dX9_sheets_27 (by decide) ?_
        refine lv_istore_n (lv' := [(3, .int (nI 0)), (2, .int (nI 0)), (0, .ref (a 0)), (1, .int p1)]) hx hb dX9_sheets_28 rfl hl (by decide) rfl (fun ls hl => ?_)
        obtain ⟨n9, hw⟩ := hw
        exact cl_X9_sheets_29 l D kI kC kB a z_s z_text z_told z_formula z_states z_isKept z_typed z_at z_isRight z_times z_letter z_items z_length z_entries p1 Post C hP n9 (nI 0) (nI 0) hw ls (lv_sub hl [2, 3, 1, 0] rfl)
      · replace hw := hw.2 hc
        refine lv_iload_n hx hb dX9_sheets_16 rfl (lv_at hl 1 rfl) ?_
        refine lv_bipush (v := (nI 12)) hx hb dX9_sheets_17 (by decide) ?_
        refine lv_icmp_eq (tgt := 25) hx hb dX9_sheets_19 (by decide) (fun hc => ?_) (fun hc => ?_)
        · replace hw := hw.1 hc
          refine lv_iconst (v := (nI 0)) hx hb dX9_sheets_25 (by decide) ?_
          refine lv_istore_n (lv' := [(2, .int (nI 0)), (0, .ref (a 0)), (1, .int p1)]) hx hb dX9_sheets_26 rfl hl (by decide) rfl (fun ls hl => ?_)
          refine lv_iconst (v := (nI 0)) hx hb dX9_sheets_27 (by decide) ?_
          refine lv_istore_n (lv' := [(3, .int (nI 0)), (2, .int (nI 0)), (0, .ref (a 0)), (1, .int p1)]) hx hb dX9_sheets_28 rfl hl (by decide) rfl (fun ls hl => ?_)
          obtain ⟨n9, hw⟩ := hw
          exact cl_X9_sheets_29 l D kI kC kB a z_s z_text z_told z_formula z_states z_isKept z_typed z_at z_isRight z_times z_letter z_items z_length z_entries p1 Post C hP n9 (nI 0) (nI 0) hw ls (lv_sub hl [2, 3, 1, 0] rfl)
        · replace hw := hw.2 hc
          refine lv_bipush (v := (-2)) hx hb dX9_sheets_22 (by decide) ?_
          exact retR C hw dX9_sheets_24
set_option maxHeartbeats 4000000 in
set_option maxRecDepth 100000 in
theorem c_X9_writes (l : Launch) (D : va_G) (kI kC kB : ClassId) (a : AdT) (z_s : Nat → Int32) (z_text : Nat → Int32) (z_told : Nat → Int32) (z_formula : Nat → Int32) (z_states : Int32) (z_isKept : Int32) (z_typed : Int32) (z_at : Int32) (z_isRight : Int32) (z_times : Int32) (z_letter : Int32) (z_items : Int32) (z_length : Int32) (z_entries : Int32) (sz : Nat) (p1 : Int32) (Post : (Nat → Int32) → Int32 → Prop) (hw : wp_X9_writes z_formula z_length p1 Post) : CMv l D kI kC kB yX9_writes cX9_writes 2 none ({ frames := 0, cells := 0, slots := 0, locals := 0 } : Room) [.ref (a 0), .int p1] (cwModel kI kC a z_s z_text z_told z_formula z_states z_isKept z_typed z_at z_isRight z_times z_letter z_items z_length z_entries) sz (fun (u : (Nat → Int32) × Int32) => Post u.1 u.2) (fun u : (Nat → Int32) × Int32 => (cwModel kI kC a z_s z_text z_told u.1 z_states z_isKept z_typed z_at z_isRight z_times z_letter z_items u.2 z_entries)) := by
  refine entMv (by decide) (Nat.le_of_ble_eq_true rfl) ?_
  intro p e s m args below meth c ls A C hA hP hD hS hl
  obtain ⟨H, hHe⟩ : ∃ H, H = s.heap := ⟨_, rfl⟩
  obtain ⟨locs, hlo⟩ : ∃ lo : List Loc, lo = [] := ⟨_, rfl⟩
  have hS : va_S A s.heap H locs := by rw [hHe, hlo]; exact hS
  rw [← hHe] at hP
  suffices hg : W p l e ({ frames := 0, cells := 0, slots := 0, locals := 0 } : Room) s m args below meth c H locs 0 0 (MQ below (va_Qv (fun (u : (Nat → Int32) × Int32) => Post u.1 u.2) (BB D A (fun u : (Nat → Int32) × Int32 => (cwModel kI kC a z_s z_text z_told u.1 z_states z_isKept z_typed z_at z_isRight z_times z_letter z_items u.2 z_entries))) A) args s 0 0 A) (F0 m 0 ls []) by rw [hHe, hlo] at hg; exact hg
  replace hl : lv_has ls 2 [(0, .ref (a 0)), (1, .int p1)] := hl
  obtain ⟨hx, hb, hr, hml, hown, hts, hlocks, hK⟩ := id C
  refine lv_aload_n hx hb dX9_writes_0 rfl (lv_at hl 0 rfl) ?_
  refine va_get (D := D) (ci := 7) (v := .ref (a 4)) (C := RX9) (T := TX9) (N := 14) hx hb hts inX9 hown hK.1 hP 0 rfl rfl 11 (by decide) (hts _ tw_696) (fun _ h9 => h9) rfl dX9_writes_1 ?_
  refine lv_aload_n hx hb dX9_writes_4 rfl (lv_at hl 0 rfl) ?_
  refine va_get (D := D) (ci := 7) (v := .int z_length) (C := RX9) (T := TX9) (N := 14) hx hb hts inX9 hown hK.1 hP 0 rfl rfl 12 (by decide) (hts _ tw_697) (fun _ h9 => h9) rfl dX9_writes_5 ?_
  refine lv_iload_n hx hb dX9_writes_8 rfl (lv_at hl 1 rfl) ?_
  refine lv_i2c (v := cI p1) hx hb dX9_writes_9 rfl ?_
  have hin := hw.1
  replace hw := hw.2
  refine va_cast hx hb hK.1 hP hD hS 4 1 rfl rfl hin dX9_writes_10 (fun H locs hP hD hS => ?_)
  replace hP : va_P D vwCl (cwModel kI kC a z_s z_text z_told (upd z_formula z_length.toNatClampNeg (vp_nar .char (cI p1))) z_states z_isKept z_typed z_at z_isRight z_times z_letter z_items z_length z_entries) H := hP
  replace hD : va_D A (cwModel kI kC a z_s z_text z_told (upd z_formula z_length.toNatClampNeg (vp_nar .char (cI p1))) z_states z_isKept z_typed z_at z_isRight z_times z_letter z_items z_length z_entries) := hD
  refine lv_aload_n hx hb dX9_writes_11 rfl (lv_at hl 0 rfl) ?_
  refine lv_dup hx hb dX9_writes_12 rfl ?_
  refine va_get (D := D) (ci := 7) (v := .int z_length) (C := RX9) (T := TX9) (N := 14) hx hb hts inX9 hown hK.1 hP 0 rfl rfl 12 (by decide) (hts _ tw_697) (fun _ h9 => h9) rfl dX9_writes_13 ?_
  refine lv_iconst (v := (nI 1)) hx hb dX9_writes_16 (by decide) ?_
  refine lv_iadd hx hb dX9_writes_17 ?_
  refine va_put (D := D) (ci := 7) (v := .int (z_length + (nI 1))) (ty := .int) (C := RX9) (T := TX9) (N := 14) hx hb hts inX9 tyX9 tyX9_ok nmX9 hown hK.1 hP hD hS 0 rfl rfl 12 (by decide) (hts _ tw_697) (fun _ h9 => h9) rfl (tyX9_ok 12 (by decide)) rfl rfl (Nat.le_of_ble_eq_true rfl) dX9_writes_18 (fun H locs hP hD hS => ?_)
  replace hP : va_P D vwCl (cwModel kI kC a z_s z_text z_told (upd z_formula z_length.toNatClampNeg (vp_nar .char (cI p1))) z_states z_isKept z_typed z_at z_isRight z_times z_letter z_items (z_length + (nI 1)) z_entries) H := hP
  replace hD : va_D A (cwModel kI kC a z_s z_text z_told (upd z_formula z_length.toNatClampNeg (vp_nar .char (cI p1))) z_states z_isKept z_typed z_at z_isRight z_times z_letter z_items (z_length + (nI 1)) z_entries) := hD
  exact retMv C ((upd z_formula z_length.toNatClampNeg (vp_nar .char (cI p1))), (z_length + (nI 1))) hw hP hD hS dX9_writes_21
set_option maxHeartbeats 4000000 in
set_option maxRecDepth 100000 in
theorem cj_X9_writesSign_63 (l : Launch) (D : va_G) (kI kC kB : ClassId) (a : AdT) (z_s : Nat → Int32) (z_text : Nat → Int32) (z_told : Nat → Int32) (z_formula : Nat → Int32) (z_states : Int32) (z_isKept : Int32) (z_typed : Int32) (z_at : Int32) (z_isRight : Int32) (z_times : Int32) (z_letter : Int32) (z_items : Int32) (z_length : Int32) (z_entries : Int32) (p1 : Int32) (v2 : Int32) (Post : (Nat → Int32) → Int32 → Prop) {p : Program} {e : Env} {s : State} {m : MethodId} {args : Array Value} {below : List Frame} {meth : Method} {c : Code} {A : Nat → Prop} (hA : ∀ q : Nat, s.heap.size ≤ q → A q) (C : CtxT p s m args meth c cX9_writesSign 3 none yX9_writesSign.cls D kI kC kB) (K2 : (Nat → Int32) → Int32 → Int32 → Prop) (hK2 : ∀ (z_formula : Nat → Int32) (z_length : Int32) (v2 : Int32), K2 z_formula z_length v2 → ∀ (H : Heap) (locs : List Loc), va_P D vwCl (cwModel kI kC a z_s z_text z_told z_formula z_states z_isKept z_typed z_at z_isRight z_times z_letter z_items z_length z_entries) H → va_D A (cwModel kI kC a z_s z_text z_told z_formula z_states z_isKept z_typed z_at z_isRight z_times z_letter z_items z_length z_entries) → va_S A s.heap H locs → ∀ (ls : Array Slot), lv_has ls 3 [(0, .ref (a 0)), (1, .int p1), (2, .int v2)] → W p l e ({ frames := 2, cells := 0, slots := 0, locals := 42 } : Room) s m args below meth c H locs 0 0 (MQ below (va_Qv (fun (u : (Nat → Int32) × Int32) => Post u.1 u.2) (BB D A (fun u : (Nat → Int32) × Int32 => (cwModel kI kC a z_s z_text z_told u.1 z_states z_isKept z_typed z_at z_isRight z_times z_letter z_items u.2 z_entries))) A) args s 0 0 A) (F0 m 2 ls [])) : ∀ (t1 : Int32), wj_X9_writesSign_63 z_s z_formula z_length p1 v2 t1 K2 Post → ∀ (H : Heap) (locs : List Loc), va_P D vwCl (cwModel kI kC a z_s z_text z_told z_formula z_states z_isKept z_typed z_at z_isRight z_times z_letter z_items z_length z_entries) H → va_D A (cwModel kI kC a z_s z_text z_told z_formula z_states z_isKept z_typed z_at z_isRight z_times z_letter z_items z_length z_entries) → va_S A s.heap H locs → ∀ (ls : Array Slot), lv_has ls 3 [(0, .ref (a 0)), (1, .int p1), (2, .int v2)] → W p l e ({ frames := 2, cells := 0, slots := 0, locals := 42 } : Room) s m args below meth c H locs 0 0 (MQ below (va_Qv (fun (u : (Nat → Int32) × Int32) => Post u.1 u.2) (BB D A (fun u : (Nat → Int32) × Int32 => (cwModel kI kC a z_s z_text z_told u.1 z_states z_isKept z_typed z_at z_isRight z_times z_letter z_items u.2 z_entries))) A) args s 0 0 A) (F0 m 63 ls [.int t1, .ref (a 0)]) := by
  obtain ⟨hx, hb, hr, hml, hown, hts, hlocks, hK⟩ := id C
  intro t1 hw H locs hP hD hS ls hl
  refine kMVv (q0 := 0) (As := [.int t1]) (rest := []) C (c_X9_writes l D kI kC kB a z_s z_text z_told z_formula z_states z_isKept z_typed z_at z_isRight z_times z_letter z_items z_length z_entries H.size t1 _ hw) ⟨rfl, rfl⟩ ce_X9_writes cv_X9_writes tw_947 ⟨Nat.le_of_ble_eq_true rfl, Nat.le_of_ble_eq_true rfl⟩ hP hD hS hA [0, 1, 2, 3, 4] rfl rfl (fun _ => rfl) rfl rfl rfl hl.1 rfl (Nat.le_of_ble_eq_true rfl) ⟨Nat.zero_le _, Nat.zero_le _⟩ dX9_writesSign_63 (fun u H locs hw hP hD hS => ?_)
  obtain ⟨u1, u2⟩ := u
  try dsimp only at hw
  replace hP : va_P D vwCl (cwModel kI kC a z_s z_text z_told u1 z_states z_isKept z_typed z_at z_isRight z_times z_letter z_items u2 z_entries) H := hP
  replace hD : va_D A (cwModel kI kC a z_s z_text z_told u1 z_states z_isKept z_typed z_at z_isRight z_times z_letter z_items u2 z_entries) := hD
  refine lv_iinc (v := (v2 + nI 1)) (lv' := [(2, .int (v2 + nI 1)), (0, .ref (a 0)), (1, .int p1)]) hx hb dX9_writesSign_66 hl (k := 2) rfl rfl (by decide) rfl (fun ls hl => ?_)
  refine lv_goto (tgt := 2) hx hb dX9_writesSign_69 (by decide) ?_
  exact hK2 u1 u2 (v2 + nI 1) hw H locs hP hD hS ls (lv_sub hl [1, 2, 0] rfl)
set_option maxHeartbeats 4000000 in
set_option maxRecDepth 100000 in
theorem cl_X9_writesSign_2 (l : Launch) (D : va_G) (kI kC kB : ClassId) (a : AdT) (z_s : Nat → Int32) (z_text : Nat → Int32) (z_told : Nat → Int32) (z_states : Int32) (z_isKept : Int32) (z_typed : Int32) (z_at : Int32) (z_isRight : Int32) (z_times : Int32) (z_letter : Int32) (z_items : Int32) (z_entries : Int32) (p1 : Int32) (Post : (Nat → Int32) → Int32 → Prop) {p : Program} {e : Env} {s : State} {m : MethodId} {args : Array Value} {below : List Frame} {meth : Method} {c : Code} {A : Nat → Prop} (hA : ∀ q : Nat, s.heap.size ≤ q → A q) (C : CtxT p s m args meth c cX9_writesSign 3 none yX9_writesSign.cls D kI kC kB) : ∀ (n : Nat), ∀ (z_formula : Nat → Int32) (z_length : Int32) (v2 : Int32), wl_X9_writesSign_2 z_s p1 Post n z_formula z_length v2 → ∀ (H : Heap) (locs : List Loc), va_P D vwCl (cwModel kI kC a z_s z_text z_told z_formula z_states z_isKept z_typed z_at z_isRight z_times z_letter z_items z_length z_entries) H → va_D A (cwModel kI kC a z_s z_text z_told z_formula z_states z_isKept z_typed z_at z_isRight z_times z_letter z_items z_length z_entries) → va_S A s.heap H locs → ∀ (ls : Array Slot), lv_has ls 3 [(0, .ref (a 0)), (1, .int p1), (2, .int v2)] → W p l e ({ frames := 2, cells := 0, slots := 0, locals := 42 } : Room) s m args below meth c H locs 0 0 (MQ below (va_Qv (fun (u : (Nat → Int32) × Int32) => Post u.1 u.2) (BB D A (fun u : (Nat → Int32) × Int32 => (cwModel kI kC a z_s z_text z_told u.1 z_states z_isKept z_typed z_at z_isRight z_times z_letter z_items u.2 z_entries))) A) args s 0 0 A) (F0 m 2 ls []) := by
  obtain ⟨hx, hb, hr, hml, hown, hts, hlocks, hK⟩ := id C
  intro n
  induction n with
  | zero => intro z_formula z_length v2 hw; exact hw.elim
  | succ n ih =>
    intro z_formula z_length v2 hw H locs hP hD hS ls hl
    refine lv_iload_n hx hb dX9_writesSign_2 rfl (lv_at hl 2 rfl) ?_
    refine lv_aload_n hx hb dX9_writesSign_3 rfl (lv_at hl 0 rfl) ?_
    refine va_get (D := D) (ci := 7) (v := .ref (a 1)) (C := RX9) (T := TX9) (N := 14) hx hb hts inX9 hown hK.1 hP 0 rfl rfl 0 (by decide) (hts _ tw_685) (fun _ h9 => h9) rfl dX9_writesSign_4 ?_
    refine lv_iload_n hx hb dX9_writesSign_7 rfl (lv_at hl 1 rfl) ?_
    refine lv_iconst (v := (nI 0)) hx hb dX9_writesSign_8 (by decide) ?_
    refine kRS (As := [.int p1, .int (nI 0)]) (rest := [.ref (a 1), .int v2]) C (c_X9_of l D kI kC kB  p1 (nI 0) _ hw) ⟨rfl, rfl⟩ ce_X9_of cv_X9_of tw_764 ⟨Nat.le_of_ble_eq_true rfl, Nat.le_of_ble_eq_true rfl⟩ hP [] rfl hl.1 rfl (Nat.le_of_ble_eq_true rfl) ⟨Nat.zero_le _, Nat.zero_le _⟩ dX9_writesSign_9 (fun r3 hw => ?_)
    have hin := hw.1
    replace hw := hw.2
    refine va_iald hx hb hK.1 hP 1 0 rfl rfl hin dX9_writesSign_12 ?_
    refine lv_icmp_ge (tgt := 72) hx hb dX9_writesSign_13 (by decide) (fun hc => ?_) (fun hc => ?_)
    · replace hw := hw.1 hc
      exact retMv C (z_formula, z_length) hw hP hD hS dX9_writesSign_72
    · replace hw := hw.2 hc
      refine lv_aload_n hx hb dX9_writesSign_16 rfl (lv_at hl 0 rfl) ?_
      refine lv_aload_n hx hb dX9_writesSign_17 rfl (lv_at hl 0 rfl) ?_
      refine lv_iload_n hx hb dX9_writesSign_18 rfl (lv_at hl 1 rfl) ?_
      refine kRV (As := [.int p1]) (rest := [.ref (a 0)]) (q0 := 0) C (c_X9_isStarred l D kI kC kB a z_s z_text z_told z_formula z_states z_isKept z_typed z_at z_isRight z_times z_letter z_items z_length z_entries p1 _ hw) ⟨rfl, rfl⟩ ce_X9_isStarred cv_X9_isStarred tw_799 ⟨Nat.le_of_ble_eq_true rfl, Nat.le_of_ble_eq_true rfl⟩ hP [0, 1, 2, 3, 4] rfl rfl rfl rfl hl.1 rfl (Nat.le_of_ble_eq_true rfl) ⟨Nat.zero_le _, Nat.zero_le _⟩ dX9_writesSign_19 (fun r4 hw => ?_)
      refine lv_if_eq (tgt := 30) hx hb dX9_writesSign_22 (by decide) (fun hc => ?_) (fun hc => ?_)
      · replace hw := hw.1 hc
        refine lv_iload_n hx hb dX9_writesSign_30 rfl (lv_at hl 2 rfl) ?_
        refine lv_if_ne (tgt := 50) hx hb dX9_writesSign_31 (by decide) (fun hc => ?_) (fun hc => ?_)
        · replace hw := hw.2 hc
          refine lv_bipush (v := (nI 97)) hx hb dX9_writesSign_50 (by decide) ?_
          refine lv_aload_n hx hb dX9_writesSign_52 rfl (lv_at hl 0 rfl) ?_
          refine va_get (D := D) (ci := 7) (v := .ref (a 1)) (C := RX9) (T := TX9) (N := 14) hx hb hts inX9 hown hK.1 hP 0 rfl rfl 0 (by decide) (hts _ tw_685) (fun _ h9 => h9) rfl dX9_writesSign_53 ?_
          refine lv_iload_n hx hb dX9_writesSign_56 rfl (lv_at hl 1 rfl) ?_
          refine lv_iconst (v := (nI 1)) hx hb dX9_writesSign_57 (by decide) ?_
          refine kRS (As := [.int p1, .int (nI 1)]) (rest := [.ref (a 1), .int (nI 97), .ref (a 0)]) C (c_X9_of l D kI kC kB  p1 (nI 1) _ hw) ⟨rfl, rfl⟩ ce_X9_of cv_X9_of tw_764 ⟨Nat.le_of_ble_eq_true rfl, Nat.le_of_ble_eq_true rfl⟩ hP [] rfl hl.1 rfl (Nat.le_of_ble_eq_true rfl) ⟨Nat.zero_le _, Nat.zero_le _⟩ dX9_writesSign_58 (fun r5 hw => ?_)
          have hin := hw.1
          replace hw := hw.2
          refine va_iald hx hb hK.1 hP 1 0 rfl rfl hin dX9_writesSign_61 ?_
          refine lv_iadd hx hb dX9_writesSign_62 ?_
          exact cj_X9_writesSign_63 l D kI kC kB a z_s z_text z_told z_formula z_states z_isKept z_typed z_at z_isRight z_times z_letter z_items z_length z_entries p1 v2 Post hA C _ ih ((nI 97) + (z_s r5.toNatClampNeg)) hw H locs hP hD hS ls (lv_sub hl [0, 1, 2] rfl)
        · replace hw := hw.1 hc
          refine lv_bipush (v := (nI 65)) hx hb dX9_writesSign_34 (by decide) ?_
          refine lv_aload_n hx hb dX9_writesSign_36 rfl (lv_at hl 0 rfl) ?_
          refine va_get (D := D) (ci := 7) (v := .ref (a 1)) (C := RX9) (T := TX9) (N := 14) hx hb hts inX9 hown hK.1 hP 0 rfl rfl 0 (by decide) (hts _ tw_685) (fun _ h9 => h9) rfl dX9_writesSign_37 ?_
          refine lv_iload_n hx hb dX9_writesSign_40 rfl (lv_at hl 1 rfl) ?_
          refine lv_iconst (v := (nI 1)) hx hb dX9_writesSign_41 (by decide) ?_
          refine kRS (As := [.int p1, .int (nI 1)]) (rest := [.ref (a 1), .int (nI 65), .ref (a 0)]) C (c_X9_of l D kI kC kB  p1 (nI 1) _ hw) ⟨rfl, rfl⟩ ce_X9_of cv_X9_of tw_764 ⟨Nat.le_of_ble_eq_true rfl, Nat.le_of_ble_eq_true rfl⟩ hP [] rfl hl.1 rfl (Nat.le_of_ble_eq_true rfl) ⟨Nat.zero_le _, Nat.zero_le _⟩ dX9_writesSign_42 (fun r6 hw => ?_)
          have hin := hw.1
          replace hw := hw.2
          refine va_iald hx hb hK.1 hP 1 0 rfl rfl hin dX9_writesSign_45 ?_
          refine lv_iadd hx hb dX9_writesSign_46 ?_
          refine lv_goto (tgt := 63) hx hb dX9_writesSign_47 (by decide) ?_
          exact cj_X9_writesSign_63 l D kI kC kB a z_s z_text z_told z_formula z_states z_isKept z_typed z_at z_isRight z_times z_letter z_items z_length z_entries p1 v2 Post hA C _ ih ((nI 65) + (z_s r6.toNatClampNeg)) hw H locs hP hD hS ls (lv_sub hl [0, 1, 2] rfl)
      · replace hw := hw.2 hc
        refine lv_bipush (v := (nI 42)) hx hb dX9_writesSign_25 (by decide) ?_
        refine lv_goto (tgt := 63) hx hb dX9_writesSign_27 (by decide) ?_
        exact cj_X9_writesSign_63 l D kI kC kB a z_s z_text z_told z_formula z_states z_isKept z_typed z_at z_isRight z_times z_letter z_items z_length z_entries p1 v2 Post hA C _ ih (nI 42) hw H locs hP hD hS ls (lv_sub hl [0, 1, 2] rfl)
set_option maxHeartbeats 4000000 in
set_option maxRecDepth 100000 in
theorem c_X9_writesSign (l : Launch) (D : va_G) (kI kC kB : ClassId) (a : AdT) (z_s : Nat → Int32) (z_text : Nat → Int32) (z_told : Nat → Int32) (z_formula : Nat → Int32) (z_states : Int32) (z_isKept : Int32) (z_typed : Int32) (z_at : Int32) (z_isRight : Int32) (z_times : Int32) (z_letter : Int32) (z_items : Int32) (z_length : Int32) (z_entries : Int32) (sz : Nat) (p1 : Int32) (Post : (Nat → Int32) → Int32 → Prop) (hw : wp_X9_writesSign z_s z_formula z_length p1 Post) : CMv l D kI kC kB yX9_writesSign cX9_writesSign 3 none ({ frames := 2, cells := 0, slots := 0, locals := 42 } : Room) [.ref (a 0), .int p1] (cwModel kI kC a z_s z_text z_told z_formula z_states z_isKept z_typed z_at z_isRight z_times z_letter z_items z_length z_entries) sz (fun (u : (Nat → Int32) × Int32) => Post u.1 u.2) (fun u : (Nat → Int32) × Int32 => (cwModel kI kC a z_s z_text z_told u.1 z_states z_isKept z_typed z_at z_isRight z_times z_letter z_items u.2 z_entries)) := by
  refine entMv (by decide) (Nat.le_of_ble_eq_true rfl) ?_
  intro p e s m args below meth c ls A C hA hP hD hS hl
  obtain ⟨H, hHe⟩ : ∃ H, H = s.heap := ⟨_, rfl⟩
  obtain ⟨locs, hlo⟩ : ∃ lo : List Loc, lo = [] := ⟨_, rfl⟩
  have hS : va_S A s.heap H locs := by rw [hHe, hlo]; exact hS
  rw [← hHe] at hP
  suffices hg : W p l e ({ frames := 2, cells := 0, slots := 0, locals := 42 } : Room) s m args below meth c H locs 0 0 (MQ below (va_Qv (fun (u : (Nat → Int32) × Int32) => Post u.1 u.2) (BB D A (fun u : (Nat → Int32) × Int32 => (cwModel kI kC a z_s z_text z_told u.1 z_states z_isKept z_typed z_at z_isRight z_times z_letter z_items u.2 z_entries))) A) args s 0 0 A) (F0 m 0 ls []) by rw [hHe, hlo] at hg; exact hg
  replace hl : lv_has ls 3 [(0, .ref (a 0)), (1, .int p1)] := hl
  obtain ⟨hx, hb, hr, hml, hown, hts, hlocks, hK⟩ := id C
  refine lv_iconst (v := (nI 0)) hx hb dX9_writesSign_0 (by decide) ?_
  refine lv_istore_n (lv' := [(2, .int (nI 0)), (0, .ref (a 0)), (1, .int p1)]) hx hb dX9_writesSign_1 rfl hl (by decide) rfl (fun ls hl => ?_)
  obtain ⟨n9, hw⟩ := hw
  exact cl_X9_writesSign_2 l D kI kC kB a z_s z_text z_told z_states z_isKept z_typed z_at z_isRight z_times z_letter z_items z_entries p1 Post hA C n9 z_formula z_length (nI 0) hw H locs hP hD hS ls (lv_sub hl [1, 2, 0] rfl)
set_option maxHeartbeats 4000000 in
set_option maxRecDepth 100000 in
theorem cj_X9_goesOn_73 (l : Launch) (D : va_G) (kI kC kB : ClassId) (a : AdT) (z_s : Nat → Int32) (z_text : Nat → Int32) (z_told : Nat → Int32) (z_formula : Nat → Int32) (z_states : Int32) (z_isKept : Int32) (z_typed : Int32) (z_at : Int32) (z_isRight : Int32) (z_times : Int32) (z_letter : Int32) (z_items : Int32) (z_length : Int32) (z_entries : Int32) (p1 : Int32) (Post : Int32 → Prop) {p : Program} {e : Env} {s : State} {m : MethodId} {args : Array Value} {below : List Frame} {meth : Method} {c : Code} (C : CtxT p s m args meth c cX9_goesOn 3 (some .boolean) yX9_goesOn.cls D kI kC kB) (hP : va_P D vwCl (cwModel kI kC a z_s z_text z_told z_formula z_states z_isKept z_typed z_at z_isRight z_times z_letter z_items z_length z_entries) s.heap) : ∀ (t0 : Int32), wj_X9_goesOn_73 z_s p1 t0 Post → ∀ (ls : Array Slot), lv_has ls 3 [(0, .ref (a 0)), (1, .int p1)] → W p l e ({ frames := 2, cells := 0, slots := 0, locals := 43 } : Room) s m args below meth c s.heap [] 0 0 (MQ below (vp_Si Post) args s 0 0 (fun _ => False)) (F0 m 73 ls [.int t0]) := by
  obtain ⟨hx, hb, hr, hml, hown, hts, hlocks, hK⟩ := id C
  intro t0 hw ls hl
  refine lv_istore_n (lv' := [(2, .int t0), (0, .ref (a 0)), (1, .int p1)]) hx hb dX9_goesOn_73 rfl hl (by decide) rfl (fun ls hl => ?_)
  refine lv_iload_n hx hb dX9_goesOn_74 rfl (lv_at hl 0 rfl) ?_
  refine lv_if_eq (tgt := 101) hx hb dX9_goesOn_75 (by decide) (fun hc => ?_) (fun hc => ?_)
  · replace hw := hw.1 hc
    refine lv_iconst (v := (nI 0)) hx hb dX9_goesOn_101 (by decide) ?_
    exact retRz C (by decide) hw dX9_goesOn_102
  · replace hw := hw.2 hc
    refine lv_aload_n hx hb dX9_goesOn_78 rfl (lv_at hl 1 rfl) ?_
    refine lv_iload_n hx hb dX9_goesOn_79 rfl (lv_at hl 2 rfl) ?_
    refine kRV (As := [.int p1]) (rest := []) (q0 := 0) C (c_X9_sign l D kI kC kB a z_s z_text z_told z_formula z_states z_isKept z_typed z_at z_isRight z_times z_letter z_items z_length z_entries p1 _ hw) ⟨rfl, rfl⟩ ce_X9_sign cv_X9_sign tw_803 ⟨Nat.le_of_ble_eq_true rfl, Nat.le_of_ble_eq_true rfl⟩ hP [0, 1, 2, 3, 4] rfl rfl rfl rfl hl.1 rfl (Nat.le_of_ble_eq_true rfl) ⟨Nat.zero_le _, Nat.zero_le _⟩ dX9_goesOn_80 (fun r1 hw => ?_)
    refine lv_aload_n hx hb dX9_goesOn_83 rfl (lv_at hl 1 rfl) ?_
    refine lv_aload_n hx hb dX9_goesOn_84 rfl (lv_at hl 1 rfl) ?_
    refine lv_iload_n hx hb dX9_goesOn_85 rfl (lv_at hl 2 rfl) ?_
    refine lv_iconst (v := (nI 1)) hx hb dX9_goesOn_86 (by decide) ?_
    refine lv_isub hx hb dX9_goesOn_87 ?_
    refine kRV (As := [.int (p1 - (nI 1))]) (rest := [.ref (a 0), .int r1]) (q0 := 0) C (c_X9_sign l D kI kC kB a z_s z_text z_told z_formula z_states z_isKept z_typed z_at z_isRight z_times z_letter z_items z_length z_entries (p1 - (nI 1)) _ hw) ⟨rfl, rfl⟩ ce_X9_sign cv_X9_sign tw_803 ⟨Nat.le_of_ble_eq_true rfl, Nat.le_of_ble_eq_true rfl⟩ hP [0, 1, 2, 3, 4] rfl rfl rfl rfl hl.1 rfl (Nat.le_of_ble_eq_true rfl) ⟨Nat.zero_le _, Nat.zero_le _⟩ dX9_goesOn_88 (fun r2 hw => ?_)
    refine kRV (As := [.int r2]) (rest := [.int r1]) (q0 := 0) C (c_X9_next l D kI kC kB a z_s z_text z_told z_formula z_states z_isKept z_typed z_at z_isRight z_times z_letter z_items z_length z_entries r2 _ hw) ⟨rfl, rfl⟩ ce_X9_next cv_X9_next tw_807 ⟨Nat.le_of_ble_eq_true rfl, Nat.le_of_ble_eq_true rfl⟩ hP [0, 1, 2, 3, 4] rfl rfl rfl rfl hl.1 rfl (Nat.le_of_ble_eq_true rfl) ⟨Nat.zero_le _, Nat.zero_le _⟩ dX9_goesOn_91 (fun r3 hw => ?_)
    refine lv_icmp_ne (tgt := 101) hx hb dX9_goesOn_94 (by decide) (fun hc => ?_) (fun hc => ?_)
    · replace hw := hw.2 hc
      refine lv_iconst (v := (nI 0)) hx hb dX9_goesOn_101 (by decide) ?_
      exact retRz C (by decide) hw dX9_goesOn_102
    · replace hw := hw.1 hc
      refine lv_iconst (v := (nI 1)) hx hb dX9_goesOn_97 (by decide) ?_
      refine lv_goto (tgt := 102) hx hb dX9_goesOn_98 (by decide) ?_
      exact retRz C (by decide) hw dX9_goesOn_102
set_option maxHeartbeats 4000000 in
set_option maxRecDepth 100000 in
theorem cj_X9_goesOn_72 (l : Launch) (D : va_G) (kI kC kB : ClassId) (a : AdT) (z_s : Nat → Int32) (z_text : Nat → Int32) (z_told : Nat → Int32) (z_formula : Nat → Int32) (z_states : Int32) (z_isKept : Int32) (z_typed : Int32) (z_at : Int32) (z_isRight : Int32) (z_times : Int32) (z_letter : Int32) (z_items : Int32) (z_length : Int32) (z_entries : Int32) (p1 : Int32) (Post : Int32 → Prop) {p : Program} {e : Env} {s : State} {m : MethodId} {args : Array Value} {below : List Frame} {meth : Method} {c : Code} (C : CtxT p s m args meth c cX9_goesOn 3 (some .boolean) yX9_goesOn.cls D kI kC kB) (hP : va_P D vwCl (cwModel kI kC a z_s z_text z_told z_formula z_states z_isKept z_typed z_at z_isRight z_times z_letter z_items z_length z_entries) s.heap) : wj_X9_goesOn_72 z_s p1 Post → ∀ (ls : Array Slot), lv_has ls 3 [(0, .ref (a 0)), (1, .int p1)] → W p l e ({ frames := 2, cells := 0, slots := 0, locals := 43 } : Room) s m args below meth c s.heap [] 0 0 (MQ below (vp_Si Post) args s 0 0 (fun _ => False)) (F0 m 72 ls []) := by
  obtain ⟨hx, hb, hr, hml, hown, hts, hlocks, hK⟩ := id C
  intro hw ls hl
  refine lv_iconst (v := (nI 0)) hx hb dX9_goesOn_72 (by decide) ?_
  exact cj_X9_goesOn_73 l D kI kC kB a z_s z_text z_told z_formula z_states z_isKept z_typed z_at z_isRight z_times z_letter z_items z_length z_entries p1 Post C hP (nI 0) hw ls (lv_sub hl [0, 1] rfl)
set_option maxHeartbeats 4000000 in
set_option maxRecDepth 100000 in
theorem c_X9_goesOn (l : Launch) (D : va_G) (kI kC kB : ClassId) (a : AdT) (z_s : Nat → Int32) (z_text : Nat → Int32) (z_told : Nat → Int32) (z_formula : Nat → Int32) (z_states : Int32) (z_isKept : Int32) (z_typed : Int32) (z_at : Int32) (z_isRight : Int32) (z_times : Int32) (z_letter : Int32) (z_items : Int32) (z_length : Int32) (z_entries : Int32) (p1 : Int32) (Post : Int32 → Prop) (hw : wp_X9_goesOn z_s p1 Post) : CR l D kI kC kB yX9_goesOn cX9_goesOn 3 (some .boolean) ({ frames := 2, cells := 0, slots := 0, locals := 43 } : Room) [.ref (a 0), .int p1] (cwModel kI kC a z_s z_text z_told z_formula z_states z_isKept z_typed z_at z_isRight z_times z_letter z_items z_length z_entries) Post := by
  refine entR (by decide) (Nat.le_of_ble_eq_true rfl) ?_
  intro p e s m args below meth c ls C hP hl
  replace hl : lv_has ls 3 [(0, .ref (a 0)), (1, .int p1)] := hl
  obtain ⟨hx, hb, hr, hml, hown, hts, hlocks, hK⟩ := id C
  refine lv_aload_n hx hb dX9_goesOn_0 rfl (lv_at hl 0 rfl) ?_
  refine lv_iload_n hx hb dX9_goesOn_1 rfl (lv_at hl 1 rfl) ?_
  refine kRV (As := [.int p1]) (rest := []) (q0 := 0) C (c_X9_isStarred l D kI kC kB a z_s z_text z_told z_formula z_states z_isKept z_typed z_at z_isRight z_times z_letter z_items z_length z_entries p1 _ hw) ⟨rfl, rfl⟩ ce_X9_isStarred cv_X9_isStarred tw_799 ⟨Nat.le_of_ble_eq_true rfl, Nat.le_of_ble_eq_true rfl⟩ hP [0, 1, 2, 3, 4] rfl rfl rfl rfl hl.1 rfl (Nat.le_of_ble_eq_true rfl) ⟨Nat.zero_le _, Nat.zero_le _⟩ dX9_goesOn_2 (fun r4 hw => ?_)
  refine lv_if_ne (tgt := 72) hx hb dX9_goesOn_5 (by decide) (fun hc => ?_) (fun hc => ?_)
  · replace hw := hw.2 hc
    exact cj_X9_goesOn_72 l D kI kC kB a z_s z_text z_told z_formula z_states z_isKept z_typed z_at z_isRight z_times z_letter z_items z_length z_entries p1 Post C hP hw ls (lv_sub hl [0, 1] rfl)
  · replace hw := hw.1 hc
    refine lv_aload_n hx hb dX9_goesOn_8 rfl (lv_at hl 0 rfl) ?_
    refine lv_iload_n hx hb dX9_goesOn_9 rfl (lv_at hl 1 rfl) ?_
    refine lv_iconst (v := (nI 1)) hx hb dX9_goesOn_10 (by decide) ?_
    refine lv_isub hx hb dX9_goesOn_11 ?_
    refine kRV (As := [.int (p1 - (nI 1))]) (rest := []) (q0 := 0) C (c_X9_isStarred l D kI kC kB a z_s z_text z_told z_formula z_states z_isKept z_typed z_at z_isRight z_times z_letter z_items z_length z_entries (p1 - (nI 1)) _ hw) ⟨rfl, rfl⟩ ce_X9_isStarred cv_X9_isStarred tw_799 ⟨Nat.le_of_ble_eq_true rfl, Nat.le_of_ble_eq_true rfl⟩ hP [0, 1, 2, 3, 4] rfl rfl rfl rfl hl.1 rfl (Nat.le_of_ble_eq_true rfl) ⟨Nat.zero_le _, Nat.zero_le _⟩ dX9_goesOn_12 (fun r5 hw => ?_)
    refine lv_if_ne (tgt := 72) hx hb dX9_goesOn_15 (by decide) (fun hc => ?_) (fun hc => ?_)
    · replace hw := hw.2 hc
      exact cj_X9_goesOn_72 l D kI kC kB a z_s z_text z_told z_formula z_states z_isKept z_typed z_at z_isRight z_times z_letter z_items z_length z_entries p1 Post C hP hw ls (lv_sub hl [0, 1] rfl)
    · replace hw := hw.1 hc
      refine lv_aload_n hx hb dX9_goesOn_18 rfl (lv_at hl 0 rfl) ?_
      refine va_get (D := D) (ci := 7) (v := .ref (a 1)) (C := RX9) (T := TX9) (N := 14) hx hb hts inX9 hown hK.1 hP 0 rfl rfl 0 (by decide) (hts _ tw_685) (fun _ h9 => h9) rfl dX9_goesOn_19 ?_
      refine lv_iload_n hx hb dX9_goesOn_22 rfl (lv_at hl 1 rfl) ?_
      refine lv_iconst (v := (nI 0)) hx hb dX9_goesOn_23 (by decide) ?_
      refine kRS (As := [.int p1, .int (nI 0)]) (rest := [.ref (a 1)]) C (c_X9_of l D kI kC kB  p1 (nI 0) _ hw) ⟨rfl, rfl⟩ ce_X9_of cv_X9_of tw_764 ⟨Nat.le_of_ble_eq_true rfl, Nat.le_of_ble_eq_true rfl⟩ hP [] rfl hl.1 rfl (Nat.le_of_ble_eq_true rfl) ⟨Nat.zero_le _, Nat.zero_le _⟩ dX9_goesOn_24 (fun r6 hw => ?_)
      have hin := hw.1
      replace hw := hw.2
      refine va_iald hx hb hK.1 hP 1 0 rfl rfl hin dX9_goesOn_27 ?_
      refine lv_aload_n hx hb dX9_goesOn_28 rfl (lv_at hl 0 rfl) ?_
      refine va_get (D := D) (ci := 7) (v := .ref (a 1)) (C := RX9) (T := TX9) (N := 14) hx hb hts inX9 hown hK.1 hP 0 rfl rfl 0 (by decide) (hts _ tw_685) (fun _ h9 => h9) rfl dX9_goesOn_29 ?_
      refine lv_iload_n hx hb dX9_goesOn_32 rfl (lv_at hl 1 rfl) ?_
      refine lv_iconst (v := (nI 1)) hx hb dX9_goesOn_33 (by decide) ?_
      refine lv_isub hx hb dX9_goesOn_34 ?_
      refine lv_iconst (v := (nI 0)) hx hb dX9_goesOn_35 (by decide) ?_
      refine kRS (As := [.int (p1 - (nI 1)), .int (nI 0)]) (rest := [.ref (a 1), .int (z_s r6.toNatClampNeg)]) C (c_X9_of l D kI kC kB  (p1 - (nI 1)) (nI 0) _ hw) ⟨rfl, rfl⟩ ce_X9_of cv_X9_of tw_764 ⟨Nat.le_of_ble_eq_true rfl, Nat.le_of_ble_eq_true rfl⟩ hP [] rfl hl.1 rfl (Nat.le_of_ble_eq_true rfl) ⟨Nat.zero_le _, Nat.zero_le _⟩ dX9_goesOn_36 (fun r7 hw => ?_)
      have hin := hw.1
      replace hw := hw.2
      refine va_iald hx hb hK.1 hP 1 0 rfl rfl hin dX9_goesOn_39 ?_
      refine lv_icmp_ne (tgt := 72) hx hb dX9_goesOn_40 (by decide) (fun hc => ?_) (fun hc => ?_)
      · replace hw := hw.2 hc
        exact cj_X9_goesOn_72 l D kI kC kB a z_s z_text z_told z_formula z_states z_isKept z_typed z_at z_isRight z_times z_letter z_items z_length z_entries p1 Post C hP hw ls (lv_sub hl [0, 1] rfl)
      · replace hw := hw.1 hc
        refine lv_aload_n hx hb dX9_goesOn_43 rfl (lv_at hl 0 rfl) ?_
        refine va_get (D := D) (ci := 7) (v := .ref (a 1)) (C := RX9) (T := TX9) (N := 14) hx hb hts inX9 hown hK.1 hP 0 rfl rfl 0 (by decide) (hts _ tw_685) (fun _ h9 => h9) rfl dX9_goesOn_44 ?_
        refine lv_iload_n hx hb dX9_goesOn_47 rfl (lv_at hl 1 rfl) ?_
        refine lv_iconst (v := (nI 2)) hx hb dX9_goesOn_48 (by decide) ?_
        refine kRS (As := [.int p1, .int (nI 2)]) (rest := [.ref (a 1)]) C (c_X9_of l D kI kC kB  p1 (nI 2) _ hw) ⟨rfl, rfl⟩ ce_X9_of cv_X9_of tw_764 ⟨Nat.le_of_ble_eq_true rfl, Nat.le_of_ble_eq_true rfl⟩ hP [] rfl hl.1 rfl (Nat.le_of_ble_eq_true rfl) ⟨Nat.zero_le _, Nat.zero_le _⟩ dX9_goesOn_49 (fun r8 hw => ?_)
        have hin := hw.1
        replace hw := hw.2
        refine va_iald hx hb hK.1 hP 1 0 rfl rfl hin dX9_goesOn_52 ?_
        refine lv_aload_n hx hb dX9_goesOn_53 rfl (lv_at hl 0 rfl) ?_
        refine va_get (D := D) (ci := 7) (v := .ref (a 1)) (C := RX9) (T := TX9) (N := 14) hx hb hts inX9 hown hK.1 hP 0 rfl rfl 0 (by decide) (hts _ tw_685) (fun _ h9 => h9) rfl dX9_goesOn_54 ?_
        refine lv_iload_n hx hb dX9_goesOn_57 rfl (lv_at hl 1 rfl) ?_
        refine lv_iconst (v := (nI 1)) hx hb dX9_goesOn_58 (by decide) ?_
        refine lv_isub hx hb dX9_goesOn_59 ?_
        refine lv_iconst (v := (nI 2)) hx hb dX9_goesOn_60 (by decide) ?_
        refine kRS (As := [.int (p1 - (nI 1)), .int (nI 2)]) (rest := [.ref (a 1), .int (z_s r8.toNatClampNeg)]) C (c_X9_of l D kI kC kB  (p1 - (nI 1)) (nI 2) _ hw) ⟨rfl, rfl⟩ ce_X9_of cv_X9_of tw_764 ⟨Nat.le_of_ble_eq_true rfl, Nat.le_of_ble_eq_true rfl⟩ hP [] rfl hl.1 rfl (Nat.le_of_ble_eq_true rfl) ⟨Nat.zero_le _, Nat.zero_le _⟩ dX9_goesOn_61 (fun r9 hw => ?_)
        have hin := hw.1
        replace hw := hw.2
        refine va_iald hx hb hK.1 hP 1 0 rfl rfl hin dX9_goesOn_64 ?_
        refine lv_icmp_ne (tgt := 72) hx hb dX9_goesOn_65 (by decide) (fun hc => ?_) (fun hc => ?_)
        · replace hw := hw.2 hc
          exact cj_X9_goesOn_72 l D kI kC kB a z_s z_text z_told z_formula z_states z_isKept z_typed z_at z_isRight z_times z_letter z_items z_length z_entries p1 Post C hP hw ls (lv_sub hl [0, 1] rfl)
        · replace hw := hw.1 hc
          refine lv_iconst (v := (nI 1)) hx hb dX9_goesOn_68 (by decide) ?_
          refine lv_goto (tgt := 73) hx hb dX9_goesOn_69 (by decide) ?_
          exact cj_X9_goesOn_73 l D kI kC kB a z_s z_text z_told z_formula z_states z_isKept z_typed z_at z_isRight z_times z_letter z_items z_length z_entries p1 Post C hP (nI 1) hw ls (lv_sub hl [0, 1] rfl)
set_option maxHeartbeats 4000000 in
set_option maxRecDepth 100000 in
theorem cj_X9_lays_111 (l : Launch) (D : va_G) (kI kC kB : ClassId) (a : AdT) (z_s : Nat → Int32) (z_text : Nat → Int32) (z_told : Nat → Int32) (z_formula : Nat → Int32) (z_states : Int32) (z_isKept : Int32) (z_typed : Int32) (z_at : Int32) (z_isRight : Int32) (z_times : Int32) (z_letter : Int32) (z_items : Int32) (z_length : Int32) (z_entries : Int32) (v2 : Int32) (v3 : Int32) (Post : (Nat → Int32) → Int32 → Int32 → Prop) {p : Program} {e : Env} {s : State} {m : MethodId} {args : Array Value} {below : List Frame} {meth : Method} {c : Code} {A : Nat → Prop} (hA : ∀ q : Nat, s.heap.size ≤ q → A q) (C : CtxT p s m args meth c cX9_lays 4 none yX9_lays.cls D kI kC kB) (K12 : (Nat → Int32) → Int32 → Int32 → Int32 → Prop) (hK12 : ∀ (z_formula : Nat → Int32) (z_length : Int32) (z_entries : Int32) (v1 : Int32), K12 z_formula z_length z_entries v1 → ∀ (H : Heap) (locs : List Loc), va_P D vwCl (cwModel kI kC a z_s z_text z_told z_formula z_states z_isKept z_typed z_at z_isRight z_times z_letter z_items z_length z_entries) H → va_D A (cwModel kI kC a z_s z_text z_told z_formula z_states z_isKept z_typed z_at z_isRight z_times z_letter z_items z_length z_entries) → va_S A s.heap H locs → ∀ (ls : Array Slot), lv_has ls 4 [(0, .ref (a 0)), (1, .int v1)] → W p l e ({ frames := 3, cells := 0, slots := 0, locals := 65 } : Room) s m args below meth c H locs 0 0 (MQ below (va_Qv (fun (u : (Nat → Int32) × Int32 × Int32) => Post u.1 u.2.1 u.2.2) (BB D A (fun u : (Nat → Int32) × Int32 × Int32 => (cwModel kI kC a z_s z_text z_told u.1 z_states z_isKept z_typed z_at z_isRight z_times z_letter z_items u.2.1 u.2.2))) A) args s 0 0 A) (F0 m 12 ls [])) : wj_X9_lays_111 z_s z_formula z_length z_entries v2 v3 K12 Post → ∀ (H : Heap) (locs : List Loc), va_P D vwCl (cwModel kI kC a z_s z_text z_told z_formula z_states z_isKept z_typed z_at z_isRight z_times z_letter z_items z_length z_entries) H → va_D A (cwModel kI kC a z_s z_text z_told z_formula z_states z_isKept z_typed z_at z_isRight z_times z_letter z_items z_length z_entries) → va_S A s.heap H locs → ∀ (ls : Array Slot), lv_has ls 4 [(0, .ref (a 0)), (2, .int v2), (3, .int v3)] → W p l e ({ frames := 3, cells := 0, slots := 0, locals := 65 } : Room) s m args below meth c H locs 0 0 (MQ below (va_Qv (fun (u : (Nat → Int32) × Int32 × Int32) => Post u.1 u.2.1 u.2.2) (BB D A (fun u : (Nat → Int32) × Int32 × Int32 => (cwModel kI kC a z_s z_text z_told u.1 z_states z_isKept z_typed z_at z_isRight z_times z_letter z_items u.2.1 u.2.2))) A) args s 0 0 A) (F0 m 111 ls []) := by
  obtain ⟨hx, hb, hr, hml, hown, hts, hlocks, hK⟩ := id C
  intro hw H locs hP hD hS ls hl
  refine lv_aload_n hx hb dX9_lays_111 rfl (lv_at hl 0 rfl) ?_
  refine lv_bipush (v := (nI 48)) hx hb dX9_lays_112 (by decide) ?_
  refine lv_iload_n hx hb dX9_lays_114 rfl (lv_at hl 2 rfl) ?_
  refine lv_bipush (v := (nI 10)) hx hb dX9_lays_115 (by decide) ?_
  refine lv_irem hx hb dX9_lays_117 (by decide) ?_
  refine lv_iadd hx hb dX9_lays_118 ?_
  refine kMVv (q0 := 0) (As := [.int ((nI 48) + (v3 - v3 / (nI 10) * (nI 10)))]) (rest := []) C (c_X9_writes l D kI kC kB a z_s z_text z_told z_formula z_states z_isKept z_typed z_at z_isRight z_times z_letter z_items z_length z_entries H.size ((nI 48) + (v3 - v3 / (nI 10) * (nI 10))) _ hw) ⟨rfl, rfl⟩ ce_X9_writes cv_X9_writes tw_947 ⟨Nat.le_of_ble_eq_true rfl, Nat.le_of_ble_eq_true rfl⟩ hP hD hS hA [0, 1, 2, 3, 4] rfl rfl (fun _ => rfl) rfl rfl rfl hl.1 rfl (Nat.le_of_ble_eq_true rfl) ⟨Nat.zero_le _, Nat.zero_le _⟩ dX9_lays_119 (fun u H locs hw hP hD hS => ?_)
  obtain ⟨u1, u2⟩ := u
  try dsimp only at hw
  replace hP : va_P D vwCl (cwModel kI kC a z_s z_text z_told u1 z_states z_isKept z_typed z_at z_isRight z_times z_letter z_items u2 z_entries) H := hP
  replace hD : va_D A (cwModel kI kC a z_s z_text z_told u1 z_states z_isKept z_typed z_at z_isRight z_times z_letter z_items u2 z_entries) := hD
  refine lv_aload_n hx hb dX9_lays_122 rfl (lv_at hl 0 rfl) ?_
  refine lv_dup hx hb dX9_lays_123 rfl ?_
  refine va_get (D := D) (ci := 7) (v := .int z_entries) (C := RX9) (T := TX9) (N := 14) hx hb hts inX9 hown hK.1 hP 0 rfl rfl 13 (by decide) (hts _ tw_698) (fun _ h9 => h9) rfl dX9_lays_124 ?_
  refine lv_iconst (v := (nI 1)) hx hb dX9_lays_127 (by decide) ?_
  refine lv_iadd hx hb dX9_lays_128 ?_
  refine va_put (D := D) (ci := 7) (v := .int (z_entries + (nI 1))) (ty := .int) (C := RX9) (T := TX9) (N := 14) hx hb hts inX9 tyX9 tyX9_ok nmX9 hown hK.1 hP hD hS 0 rfl rfl 13 (by decide) (hts _ tw_698) (fun _ h9 => h9) rfl (tyX9_ok 13 (by decide)) rfl rfl (Nat.le_of_ble_eq_true rfl) dX9_lays_129 (fun H locs hP hD hS => ?_)
  replace hP : va_P D vwCl (cwModel kI kC a z_s z_text z_told u1 z_states z_isKept z_typed z_at z_isRight z_times z_letter z_items u2 (z_entries + (nI 1))) H := hP
  replace hD : va_D A (cwModel kI kC a z_s z_text z_told u1 z_states z_isKept z_typed z_at z_isRight z_times z_letter z_items u2 (z_entries + (nI 1))) := hD
  refine lv_iload_n hx hb dX9_lays_132 rfl (lv_at hl 1 rfl) ?_
  refine lv_iconst (v := (nI 1)) hx hb dX9_lays_133 (by decide) ?_
  refine lv_iadd hx hb dX9_lays_134 ?_
  refine lv_topi (fun y3 ey3 => ?_)
  replace hw := hw y3 ey3
  refine lv_istore_n (lv' := [(1, .int y3), (0, .ref (a 0)), (2, .int v2), (3, .int v3)]) hx hb dX9_lays_135 rfl hl (by decide) rfl (fun ls hl => ?_)
  refine lv_goto (tgt := 12) hx hb dX9_lays_136 (by decide) ?_
  exact hK12 u1 u2 (z_entries + (nI 1)) y3 hw H locs hP hD hS ls (lv_sub hl [1, 0] rfl)
set_option maxHeartbeats 4000000 in
set_option maxRecDepth 100000 in
theorem cj_X9_lays_83 (l : Launch) (D : va_G) (kI kC kB : ClassId) (a : AdT) (z_s : Nat → Int32) (z_text : Nat → Int32) (z_told : Nat → Int32) (z_formula : Nat → Int32) (z_states : Int32) (z_isKept : Int32) (z_typed : Int32) (z_at : Int32) (z_isRight : Int32) (z_times : Int32) (z_letter : Int32) (z_items : Int32) (z_length : Int32) (z_entries : Int32) (v1 : Int32) (v2 : Int32) (Post : (Nat → Int32) → Int32 → Int32 → Prop) {p : Program} {e : Env} {s : State} {m : MethodId} {args : Array Value} {below : List Frame} {meth : Method} {c : Code} {A : Nat → Prop} (hA : ∀ q : Nat, s.heap.size ≤ q → A q) (C : CtxT p s m args meth c cX9_lays 4 none yX9_lays.cls D kI kC kB) (K12 : (Nat → Int32) → Int32 → Int32 → Int32 → Prop) (hK12 : ∀ (z_formula : Nat → Int32) (z_length : Int32) (z_entries : Int32) (v1 : Int32), K12 z_formula z_length z_entries v1 → ∀ (H : Heap) (locs : List Loc), va_P D vwCl (cwModel kI kC a z_s z_text z_told z_formula z_states z_isKept z_typed z_at z_isRight z_times z_letter z_items z_length z_entries) H → va_D A (cwModel kI kC a z_s z_text z_told z_formula z_states z_isKept z_typed z_at z_isRight z_times z_letter z_items z_length z_entries) → va_S A s.heap H locs → ∀ (ls : Array Slot), lv_has ls 4 [(0, .ref (a 0)), (1, .int v1)] → W p l e ({ frames := 3, cells := 0, slots := 0, locals := 65 } : Room) s m args below meth c H locs 0 0 (MQ below (va_Qv (fun (u : (Nat → Int32) × Int32 × Int32) => Post u.1 u.2.1 u.2.2) (BB D A (fun u : (Nat → Int32) × Int32 × Int32 => (cwModel kI kC a z_s z_text z_told u.1 z_states z_isKept z_typed z_at z_isRight z_times z_letter z_items u.2.1 u.2.2))) A) args s 0 0 A) (F0 m 12 ls [])) : wj_X9_lays_83 z_s z_formula z_length z_entries v1 v2 K12 Post → ∀ (H : Heap) (locs : List Loc), va_P D vwCl (cwModel kI kC a z_s z_text z_told z_formula z_states z_isKept z_typed z_at z_isRight z_times z_letter z_items z_length z_entries) H → va_D A (cwModel kI kC a z_s z_text z_told z_formula z_states z_isKept z_typed z_at z_isRight z_times z_letter z_items z_length z_entries) → va_S A s.heap H locs → ∀ (ls : Array Slot), lv_has ls 4 [(0, .ref (a 0)), (1, .int v1), (2, .int v2)] → W p l e ({ frames := 3, cells := 0, slots := 0, locals := 65 } : Room) s m args below meth c H locs 0 0 (MQ below (va_Qv (fun (u : (Nat → Int32) × Int32 × Int32) => Post u.1 u.2.1 u.2.2) (BB D A (fun u : (Nat → Int32) × Int32 × Int32 => (cwModel kI kC a z_s z_text z_told u.1 z_states z_isKept z_typed z_at z_isRight z_times z_letter z_items u.2.1 u.2.2))) A) args s 0 0 A) (F0 m 83 ls []) := by
  obtain ⟨hx, hb, hr, hml, hown, hts, hlocks, hK⟩ := id C
  intro hw H locs hP hD hS ls hl
  refine lv_aload_n hx hb dX9_lays_83 rfl (lv_at hl 0 rfl) ?_
  refine va_get (D := D) (ci := 7) (v := .ref (a 1)) (C := RX9) (T := TX9) (N := 14) hx hb hts inX9 hown hK.1 hP 0 rfl rfl 0 (by decide) (hts _ tw_685) (fun _ h9 => h9) rfl dX9_lays_84 ?_
  refine lv_iload_n hx hb dX9_lays_87 rfl (lv_at hl 1 rfl) ?_
  refine lv_iconst (v := (nI 2)) hx hb dX9_lays_88 (by decide) ?_
  refine kRS (As := [.int v1, .int (nI 2)]) (rest := [.ref (a 1)]) C (c_X9_of l D kI kC kB  v1 (nI 2) _ hw) ⟨rfl, rfl⟩ ce_X9_of cv_X9_of tw_764 ⟨Nat.le_of_ble_eq_true rfl, Nat.le_of_ble_eq_true rfl⟩ hP [] rfl hl.1 rfl (Nat.le_of_ble_eq_true rfl) ⟨Nat.zero_le _, Nat.zero_le _⟩ dX9_lays_89 (fun r4 hw => ?_)
  have hin := hw.1
  replace hw := hw.2
  refine va_iald hx hb hK.1 hP 1 0 rfl rfl hin dX9_lays_92 ?_
  refine lv_topi (fun y5 ey5 => ?_)
  replace hw := hw y5 ey5
  refine lv_istore_n (lv' := [(3, .int y5), (0, .ref (a 0)), (1, .int v1), (2, .int v2)]) hx hb dX9_lays_93 rfl hl (by decide) rfl (fun ls hl => ?_)
  refine lv_iload_n hx hb dX9_lays_94 rfl (lv_at hl 0 rfl) ?_
  refine lv_bipush (v := (nI 9)) hx hb dX9_lays_95 (by decide) ?_
  refine lv_icmp_le (tgt := 111) hx hb dX9_lays_97 (by decide) (fun hc => ?_) (fun hc => ?_)
  · replace hw := hw.1 hc
    exact cj_X9_lays_111 l D kI kC kB a z_s z_text z_told z_formula z_states z_isKept z_typed z_at z_isRight z_times z_letter z_items z_length z_entries v2 y5 Post hA C _ hK12 hw H locs hP hD hS ls (lv_sub hl [1, 3, 0] rfl)
  · replace hw := hw.2 hc
    refine lv_aload_n hx hb dX9_lays_100 rfl (lv_at hl 1 rfl) ?_
    refine lv_bipush (v := (nI 48)) hx hb dX9_lays_101 (by decide) ?_
    refine lv_iload_n hx hb dX9_lays_103 rfl (lv_at hl 0 rfl) ?_
    refine lv_bipush (v := (nI 10)) hx hb dX9_lays_104 (by decide) ?_
    refine lv_idiv hx hb dX9_lays_106 (by decide) ?_
    refine lv_iadd hx hb dX9_lays_107 ?_
    refine kMVv (q0 := 0) (As := [.int ((nI 48) + (y5 / (nI 10)))]) (rest := []) C (c_X9_writes l D kI kC kB a z_s z_text z_told z_formula z_states z_isKept z_typed z_at z_isRight z_times z_letter z_items z_length z_entries H.size ((nI 48) + (y5 / (nI 10))) _ hw) ⟨rfl, rfl⟩ ce_X9_writes cv_X9_writes tw_947 ⟨Nat.le_of_ble_eq_true rfl, Nat.le_of_ble_eq_true rfl⟩ hP hD hS hA [0, 1, 2, 3, 4] rfl rfl (fun _ => rfl) rfl rfl rfl hl.1 rfl (Nat.le_of_ble_eq_true rfl) ⟨Nat.zero_le _, Nat.zero_le _⟩ dX9_lays_108 (fun u H locs hw hP hD hS => ?_)
    obtain ⟨u6, u7⟩ := u
    try dsimp only at hw
    replace hP : va_P D vwCl (cwModel kI kC a z_s z_text z_told u6 z_states z_isKept z_typed z_at z_isRight z_times z_letter z_items u7 z_entries) H := hP
    replace hD : va_D A (cwModel kI kC a z_s z_text z_told u6 z_states z_isKept z_typed z_at z_isRight z_times z_letter z_items u7 z_entries) := hD
    exact cj_X9_lays_111 l D kI kC kB a z_s z_text z_told u6 z_states z_isKept z_typed z_at z_isRight z_times z_letter z_items u7 z_entries v2 y5 Post hA C _ hK12 hw H locs hP hD hS ls (lv_sub hl [1, 3, 0] rfl)
set_option maxHeartbeats 4000000 in
set_option maxRecDepth 100000 in
theorem cj_X9_lays_62 (l : Launch) (D : va_G) (kI kC kB : ClassId) (a : AdT) (z_s : Nat → Int32) (z_text : Nat → Int32) (z_told : Nat → Int32) (z_formula : Nat → Int32) (z_states : Int32) (z_isKept : Int32) (z_typed : Int32) (z_at : Int32) (z_isRight : Int32) (z_times : Int32) (z_letter : Int32) (z_items : Int32) (z_length : Int32) (z_entries : Int32) (v1 : Int32) (v2 : Int32) (Post : (Nat → Int32) → Int32 → Int32 → Prop) {p : Program} {e : Env} {s : State} {m : MethodId} {args : Array Value} {below : List Frame} {meth : Method} {c : Code} {A : Nat → Prop} (hA : ∀ q : Nat, s.heap.size ≤ q → A q) (C : CtxT p s m args meth c cX9_lays 4 none yX9_lays.cls D kI kC kB) (K12 : (Nat → Int32) → Int32 → Int32 → Int32 → Prop) (hK12 : ∀ (z_formula : Nat → Int32) (z_length : Int32) (z_entries : Int32) (v1 : Int32), K12 z_formula z_length z_entries v1 → ∀ (H : Heap) (locs : List Loc), va_P D vwCl (cwModel kI kC a z_s z_text z_told z_formula z_states z_isKept z_typed z_at z_isRight z_times z_letter z_items z_length z_entries) H → va_D A (cwModel kI kC a z_s z_text z_told z_formula z_states z_isKept z_typed z_at z_isRight z_times z_letter z_items z_length z_entries) → va_S A s.heap H locs → ∀ (ls : Array Slot), lv_has ls 4 [(0, .ref (a 0)), (1, .int v1)] → W p l e ({ frames := 3, cells := 0, slots := 0, locals := 65 } : Room) s m args below meth c H locs 0 0 (MQ below (va_Qv (fun (u : (Nat → Int32) × Int32 × Int32) => Post u.1 u.2.1 u.2.2) (BB D A (fun u : (Nat → Int32) × Int32 × Int32 => (cwModel kI kC a z_s z_text z_told u.1 z_states z_isKept z_typed z_at z_isRight z_times z_letter z_items u.2.1 u.2.2))) A) args s 0 0 A) (F0 m 12 ls [])) : wj_X9_lays_62 z_s z_formula z_length z_entries v1 v2 K12 Post → ∀ (H : Heap) (locs : List Loc), va_P D vwCl (cwModel kI kC a z_s z_text z_told z_formula z_states z_isKept z_typed z_at z_isRight z_times z_letter z_items z_length z_entries) H → va_D A (cwModel kI kC a z_s z_text z_told z_formula z_states z_isKept z_typed z_at z_isRight z_times z_letter z_items z_length z_entries) → va_S A s.heap H locs → ∀ (ls : Array Slot), lv_has ls 4 [(0, .ref (a 0)), (1, .int v1), (2, .int v2)] → W p l e ({ frames := 3, cells := 0, slots := 0, locals := 65 } : Room) s m args below meth c H locs 0 0 (MQ below (va_Qv (fun (u : (Nat → Int32) × Int32 × Int32) => Post u.1 u.2.1 u.2.2) (BB D A (fun u : (Nat → Int32) × Int32 × Int32 => (cwModel kI kC a z_s z_text z_told u.1 z_states z_isKept z_typed z_at z_isRight z_times z_letter z_items u.2.1 u.2.2))) A) args s 0 0 A) (F0 m 62 ls []) := by
  obtain ⟨hx, hb, hr, hml, hown, hts, hlocks, hK⟩ := id C
  intro hw H locs hP hD hS ls hl
  refine lv_aload_n hx hb dX9_lays_62 rfl (lv_at hl 0 rfl) ?_
  refine lv_iload_n hx hb dX9_lays_63 rfl (lv_at hl 1 rfl) ?_
  refine kMVv (q0 := 0) (As := [.int v1]) (rest := []) C (c_X9_writesSign l D kI kC kB a z_s z_text z_told z_formula z_states z_isKept z_typed z_at z_isRight z_times z_letter z_items z_length z_entries H.size v1 _ hw) ⟨rfl, rfl⟩ ce_X9_writesSign cv_X9_writesSign tw_951 ⟨Nat.le_of_ble_eq_true rfl, Nat.le_of_ble_eq_true rfl⟩ hP hD hS hA [0, 1, 2, 3, 4] rfl rfl (fun _ => rfl) rfl rfl rfl hl.1 rfl (Nat.le_of_ble_eq_true rfl) ⟨Nat.zero_le _, Nat.zero_le _⟩ dX9_lays_64 (fun u H locs hw hP hD hS => ?_)
  obtain ⟨u8, u9⟩ := u
  try dsimp only at hw
  replace hP : va_P D vwCl (cwModel kI kC a z_s z_text z_told u8 z_states z_isKept z_typed z_at z_isRight z_times z_letter z_items u9 z_entries) H := hP
  replace hD : va_D A (cwModel kI kC a z_s z_text z_told u8 z_states z_isKept z_typed z_at z_isRight z_times z_letter z_items u9 z_entries) := hD
  refine lv_iload_n hx hb dX9_lays_67 rfl (lv_at hl 2 rfl) ?_
  refine lv_iload_n hx hb dX9_lays_68 rfl (lv_at hl 1 rfl) ?_
  refine lv_icmp_le (tgt := 83) hx hb dX9_lays_69 (by decide) (fun hc => ?_) (fun hc => ?_)
  · replace hw := hw.1 hc
    exact cj_X9_lays_83 l D kI kC kB a z_s z_text z_told u8 z_states z_isKept z_typed z_at z_isRight z_times z_letter z_items u9 z_entries v1 v2 Post hA C _ hK12 hw H locs hP hD hS ls (lv_sub hl [0, 1, 2] rfl)
  · replace hw := hw.2 hc
    refine lv_aload_n hx hb dX9_lays_72 rfl (lv_at hl 0 rfl) ?_
    refine lv_bipush (v := (nI 45)) hx hb dX9_lays_73 (by decide) ?_
    refine kMVv (q0 := 0) (As := [.int (nI 45)]) (rest := []) C (c_X9_writes l D kI kC kB a z_s z_text z_told u8 z_states z_isKept z_typed z_at z_isRight z_times z_letter z_items u9 z_entries H.size (nI 45) _ hw) ⟨rfl, rfl⟩ ce_X9_writes cv_X9_writes tw_947 ⟨Nat.le_of_ble_eq_true rfl, Nat.le_of_ble_eq_true rfl⟩ hP hD hS hA [0, 1, 2, 3, 4] rfl rfl (fun _ => rfl) rfl rfl rfl hl.1 rfl (Nat.le_of_ble_eq_true rfl) ⟨Nat.zero_le _, Nat.zero_le _⟩ dX9_lays_75 (fun u H locs hw hP hD hS => ?_)
    obtain ⟨u10, u11⟩ := u
    try dsimp only at hw
    replace hP : va_P D vwCl (cwModel kI kC a z_s z_text z_told u10 z_states z_isKept z_typed z_at z_isRight z_times z_letter z_items u11 z_entries) H := hP
    replace hD : va_D A (cwModel kI kC a z_s z_text z_told u10 z_states z_isKept z_typed z_at z_isRight z_times z_letter z_items u11 z_entries) := hD
    refine lv_aload_n hx hb dX9_lays_78 rfl (lv_at hl 0 rfl) ?_
    refine lv_iload_n hx hb dX9_lays_79 rfl (lv_at hl 2 rfl) ?_
    refine kMVv (q0 := 0) (As := [.int v2]) (rest := []) C (c_X9_writesSign l D kI kC kB a z_s z_text z_told u10 z_states z_isKept z_typed z_at z_isRight z_times z_letter z_items u11 z_entries H.size v2 _ hw) ⟨rfl, rfl⟩ ce_X9_writesSign cv_X9_writesSign tw_951 ⟨Nat.le_of_ble_eq_true rfl, Nat.le_of_ble_eq_true rfl⟩ hP hD hS hA [0, 1, 2, 3, 4] rfl rfl (fun _ => rfl) rfl rfl rfl hl.1 rfl (Nat.le_of_ble_eq_true rfl) ⟨Nat.zero_le _, Nat.zero_le _⟩ dX9_lays_80 (fun u H locs hw hP hD hS => ?_)
    obtain ⟨u12, u13⟩ := u
    try dsimp only at hw
    replace hP : va_P D vwCl (cwModel kI kC a z_s z_text z_told u12 z_states z_isKept z_typed z_at z_isRight z_times z_letter z_items u13 z_entries) H := hP
    replace hD : va_D A (cwModel kI kC a z_s z_text z_told u12 z_states z_isKept z_typed z_at z_isRight z_times z_letter z_items u13 z_entries) := hD
    exact cj_X9_lays_83 l D kI kC kB a z_s z_text z_told u12 z_states z_isKept z_typed z_at z_isRight z_times z_letter z_items u13 z_entries v1 v2 Post hA C _ hK12 hw H locs hP hD hS ls (lv_sub hl [0, 1, 2] rfl)
set_option maxHeartbeats 4000000 in
set_option maxRecDepth 100000 in
theorem cj_X9_lays_52 (l : Launch) (D : va_G) (kI kC kB : ClassId) (a : AdT) (z_s : Nat → Int32) (z_text : Nat → Int32) (z_told : Nat → Int32) (z_formula : Nat → Int32) (z_states : Int32) (z_isKept : Int32) (z_typed : Int32) (z_at : Int32) (z_isRight : Int32) (z_times : Int32) (z_letter : Int32) (z_items : Int32) (z_length : Int32) (z_entries : Int32) (v1 : Int32) (v2 : Int32) (Post : (Nat → Int32) → Int32 → Int32 → Prop) {p : Program} {e : Env} {s : State} {m : MethodId} {args : Array Value} {below : List Frame} {meth : Method} {c : Code} {A : Nat → Prop} (hA : ∀ q : Nat, s.heap.size ≤ q → A q) (C : CtxT p s m args meth c cX9_lays 4 none yX9_lays.cls D kI kC kB) (K12 : (Nat → Int32) → Int32 → Int32 → Int32 → Prop) (hK12 : ∀ (z_formula : Nat → Int32) (z_length : Int32) (z_entries : Int32) (v1 : Int32), K12 z_formula z_length z_entries v1 → ∀ (H : Heap) (locs : List Loc), va_P D vwCl (cwModel kI kC a z_s z_text z_told z_formula z_states z_isKept z_typed z_at z_isRight z_times z_letter z_items z_length z_entries) H → va_D A (cwModel kI kC a z_s z_text z_told z_formula z_states z_isKept z_typed z_at z_isRight z_times z_letter z_items z_length z_entries) → va_S A s.heap H locs → ∀ (ls : Array Slot), lv_has ls 4 [(0, .ref (a 0)), (1, .int v1)] → W p l e ({ frames := 3, cells := 0, slots := 0, locals := 65 } : Room) s m args below meth c H locs 0 0 (MQ below (va_Qv (fun (u : (Nat → Int32) × Int32 × Int32) => Post u.1 u.2.1 u.2.2) (BB D A (fun u : (Nat → Int32) × Int32 × Int32 => (cwModel kI kC a z_s z_text z_told u.1 z_states z_isKept z_typed z_at z_isRight z_times z_letter z_items u.2.1 u.2.2))) A) args s 0 0 A) (F0 m 12 ls [])) : wj_X9_lays_52 z_s z_formula z_length z_entries v1 v2 K12 Post → ∀ (H : Heap) (locs : List Loc), va_P D vwCl (cwModel kI kC a z_s z_text z_told z_formula z_states z_isKept z_typed z_at z_isRight z_times z_letter z_items z_length z_entries) H → va_D A (cwModel kI kC a z_s z_text z_told z_formula z_states z_isKept z_typed z_at z_isRight z_times z_letter z_items z_length z_entries) → va_S A s.heap H locs → ∀ (ls : Array Slot), lv_has ls 4 [(0, .ref (a 0)), (1, .int v1), (2, .int v2)] → W p l e ({ frames := 3, cells := 0, slots := 0, locals := 65 } : Room) s m args below meth c H locs 0 0 (MQ below (va_Qv (fun (u : (Nat → Int32) × Int32 × Int32) => Post u.1 u.2.1 u.2.2) (BB D A (fun u : (Nat → Int32) × Int32 × Int32 => (cwModel kI kC a z_s z_text z_told u.1 z_states z_isKept z_typed z_at z_isRight z_times z_letter z_items u.2.1 u.2.2))) A) args s 0 0 A) (F0 m 52 ls []) := by
  obtain ⟨hx, hb, hr, hml, hown, hts, hlocks, hK⟩ := id C
  intro hw H locs hP hD hS ls hl
  refine lv_iload_n hx hb dX9_lays_52 rfl (lv_at hl 1 rfl) ?_
  refine lv_if_le (tgt := 62) hx hb dX9_lays_53 (by decide) (fun hc => ?_) (fun hc => ?_)
  · replace hw := hw.1 hc
    exact cj_X9_lays_62 l D kI kC kB a z_s z_text z_told z_formula z_states z_isKept z_typed z_at z_isRight z_times z_letter z_items z_length z_entries v1 v2 Post hA C _ hK12 hw H locs hP hD hS ls (lv_sub hl [0, 1, 2] rfl)
  · replace hw := hw.2 hc
    refine lv_aload_n hx hb dX9_lays_56 rfl (lv_at hl 0 rfl) ?_
    refine lv_bipush (v := (nI 44)) hx hb dX9_lays_57 (by decide) ?_
    refine kMVv (q0 := 0) (As := [.int (nI 44)]) (rest := []) C (c_X9_writes l D kI kC kB a z_s z_text z_told z_formula z_states z_isKept z_typed z_at z_isRight z_times z_letter z_items z_length z_entries H.size (nI 44) _ hw) ⟨rfl, rfl⟩ ce_X9_writes cv_X9_writes tw_947 ⟨Nat.le_of_ble_eq_true rfl, Nat.le_of_ble_eq_true rfl⟩ hP hD hS hA [0, 1, 2, 3, 4] rfl rfl (fun _ => rfl) rfl rfl rfl hl.1 rfl (Nat.le_of_ble_eq_true rfl) ⟨Nat.zero_le _, Nat.zero_le _⟩ dX9_lays_59 (fun u H locs hw hP hD hS => ?_)
    obtain ⟨u14, u15⟩ := u
    try dsimp only at hw
    replace hP : va_P D vwCl (cwModel kI kC a z_s z_text z_told u14 z_states z_isKept z_typed z_at z_isRight z_times z_letter z_items u15 z_entries) H := hP
    replace hD : va_D A (cwModel kI kC a z_s z_text z_told u14 z_states z_isKept z_typed z_at z_isRight z_times z_letter z_items u15 z_entries) := hD
    exact cj_X9_lays_62 l D kI kC kB a z_s z_text z_told u14 z_states z_isKept z_typed z_at z_isRight z_times z_letter z_items u15 z_entries v1 v2 Post hA C _ hK12 hw H locs hP hD hS ls (lv_sub hl [0, 1, 2] rfl)
set_option maxHeartbeats 4000000 in
set_option maxRecDepth 100000 in
theorem cl_X9_lays_24 (l : Launch) (D : va_G) (kI kC kB : ClassId) (a : AdT) (z_s : Nat → Int32) (z_text : Nat → Int32) (z_told : Nat → Int32) (z_formula : Nat → Int32) (z_states : Int32) (z_isKept : Int32) (z_typed : Int32) (z_at : Int32) (z_isRight : Int32) (z_times : Int32) (z_letter : Int32) (z_items : Int32) (z_length : Int32) (z_entries : Int32) (v1 : Int32) (Post : (Nat → Int32) → Int32 → Int32 → Prop) {p : Program} {e : Env} {s : State} {m : MethodId} {args : Array Value} {below : List Frame} {meth : Method} {c : Code} {A : Nat → Prop} (hA : ∀ q : Nat, s.heap.size ≤ q → A q) (C : CtxT p s m args meth c cX9_lays 4 none yX9_lays.cls D kI kC kB) (K12 : (Nat → Int32) → Int32 → Int32 → Int32 → Prop) (hK12 : ∀ (z_formula : Nat → Int32) (z_length : Int32) (z_entries : Int32) (v1 : Int32), K12 z_formula z_length z_entries v1 → ∀ (H : Heap) (locs : List Loc), va_P D vwCl (cwModel kI kC a z_s z_text z_told z_formula z_states z_isKept z_typed z_at z_isRight z_times z_letter z_items z_length z_entries) H → va_D A (cwModel kI kC a z_s z_text z_told z_formula z_states z_isKept z_typed z_at z_isRight z_times z_letter z_items z_length z_entries) → va_S A s.heap H locs → ∀ (ls : Array Slot), lv_has ls 4 [(0, .ref (a 0)), (1, .int v1)] → W p l e ({ frames := 3, cells := 0, slots := 0, locals := 65 } : Room) s m args below meth c H locs 0 0 (MQ below (va_Qv (fun (u : (Nat → Int32) × Int32 × Int32) => Post u.1 u.2.1 u.2.2) (BB D A (fun u : (Nat → Int32) × Int32 × Int32 => (cwModel kI kC a z_s z_text z_told u.1 z_states z_isKept z_typed z_at z_isRight z_times z_letter z_items u.2.1 u.2.2))) A) args s 0 0 A) (F0 m 12 ls [])) : ∀ (n : Nat), ∀ (v2 : Int32), wl_X9_lays_24 z_s z_formula z_length z_entries v1 K12 Post n v2 → ∀ (H : Heap) (locs : List Loc), va_P D vwCl (cwModel kI kC a z_s z_text z_told z_formula z_states z_isKept z_typed z_at z_isRight z_times z_letter z_items z_length z_entries) H → va_D A (cwModel kI kC a z_s z_text z_told z_formula z_states z_isKept z_typed z_at z_isRight z_times z_letter z_items z_length z_entries) → va_S A s.heap H locs → ∀ (ls : Array Slot), lv_has ls 4 [(0, .ref (a 0)), (1, .int v1), (2, .int v2)] → W p l e ({ frames := 3, cells := 0, slots := 0, locals := 65 } : Room) s m args below meth c H locs 0 0 (MQ below (va_Qv (fun (u : (Nat → Int32) × Int32 × Int32) => Post u.1 u.2.1 u.2.2) (BB D A (fun u : (Nat → Int32) × Int32 × Int32 => (cwModel kI kC a z_s z_text z_told u.1 z_states z_isKept z_typed z_at z_isRight z_times z_letter z_items u.2.1 u.2.2))) A) args s 0 0 A) (F0 m 24 ls []) := by
  obtain ⟨hx, hb, hr, hml, hown, hts, hlocks, hK⟩ := id C
  intro n
  induction n with
  | zero => intro v2 hw; exact hw.elim
  | succ n ih =>
    intro v2 hw H locs hP hD hS ls hl
    refine lv_iload_n hx hb dX9_lays_24 rfl (lv_at hl 2 rfl) ?_
    refine lv_iconst (v := (nI 1)) hx hb dX9_lays_25 (by decide) ?_
    refine lv_iadd hx hb dX9_lays_26 ?_
    refine lv_aload_n hx hb dX9_lays_27 rfl (lv_at hl 0 rfl) ?_
    refine va_get (D := D) (ci := 7) (v := .ref (a 1)) (C := RX9) (T := TX9) (N := 14) hx hb hts inX9 hown hK.1 hP 0 rfl rfl 0 (by decide) (hts _ tw_685) (fun _ h9 => h9) rfl dX9_lays_28 ?_
    refine lv_iconst (v := (nI 2)) hx hb dX9_lays_31 (by decide) ?_
    have hin := hw.1
    replace hw := hw.2
    refine va_iald hx hb hK.1 hP 1 0 rfl rfl hin dX9_lays_32 ?_
    refine lv_icmp_ge (tgt := 52) hx hb dX9_lays_33 (by decide) (fun hc => ?_) (fun hc => ?_)
    · replace hw := hw.1 hc
      exact cj_X9_lays_52 l D kI kC kB a z_s z_text z_told z_formula z_states z_isKept z_typed z_at z_isRight z_times z_letter z_items z_length z_entries v1 v2 Post hA C _ hK12 hw H locs hP hD hS ls (lv_sub hl [0, 1, 2] rfl)
    · replace hw := hw.2 hc
      refine lv_aload_n hx hb dX9_lays_36 rfl (lv_at hl 0 rfl) ?_
      refine lv_iload_n hx hb dX9_lays_37 rfl (lv_at hl 2 rfl) ?_
      refine lv_iconst (v := (nI 1)) hx hb dX9_lays_38 (by decide) ?_
      refine lv_iadd hx hb dX9_lays_39 ?_
      refine kRV (As := [.int (v2 + (nI 1))]) (rest := []) (q0 := 0) C (c_X9_goesOn l D kI kC kB a z_s z_text z_told z_formula z_states z_isKept z_typed z_at z_isRight z_times z_letter z_items z_length z_entries (v2 + (nI 1)) _ hw) ⟨rfl, rfl⟩ ce_X9_goesOn cv_X9_goesOn tw_943 ⟨Nat.le_of_ble_eq_true rfl, Nat.le_of_ble_eq_true rfl⟩ hP [0, 1, 2, 3, 4] rfl rfl rfl rfl hl.1 rfl (Nat.le_of_ble_eq_true rfl) ⟨Nat.zero_le _, Nat.zero_le _⟩ dX9_lays_40 (fun r16 hw => ?_)
      refine lv_if_eq (tgt := 52) hx hb dX9_lays_43 (by decide) (fun hc => ?_) (fun hc => ?_)
      · replace hw := hw.1 hc
        exact cj_X9_lays_52 l D kI kC kB a z_s z_text z_told z_formula z_states z_isKept z_typed z_at z_isRight z_times z_letter z_items z_length z_entries v1 v2 Post hA C _ hK12 hw H locs hP hD hS ls (lv_sub hl [0, 1, 2] rfl)
      · replace hw := hw.2 hc
        refine lv_iinc (v := (v2 + nI 1)) (lv' := [(2, .int (v2 + nI 1)), (0, .ref (a 0)), (1, .int v1)]) hx hb dX9_lays_46 hl (k := 2) rfl rfl (by decide) rfl (fun ls hl => ?_)
        refine lv_goto (tgt := 24) hx hb dX9_lays_49 (by decide) ?_
        exact ih (v2 + nI 1) hw H locs hP hD hS ls (lv_sub hl [1, 2, 0] rfl)
set_option maxHeartbeats 4000000 in
set_option maxRecDepth 100000 in
theorem cl_X9_lays_12 (l : Launch) (D : va_G) (kI kC kB : ClassId) (a : AdT) (z_s : Nat → Int32) (z_text : Nat → Int32) (z_told : Nat → Int32) (z_states : Int32) (z_isKept : Int32) (z_typed : Int32) (z_at : Int32) (z_isRight : Int32) (z_times : Int32) (z_letter : Int32) (z_items : Int32) (Post : (Nat → Int32) → Int32 → Int32 → Prop) {p : Program} {e : Env} {s : State} {m : MethodId} {args : Array Value} {below : List Frame} {meth : Method} {c : Code} {A : Nat → Prop} (hA : ∀ q : Nat, s.heap.size ≤ q → A q) (C : CtxT p s m args meth c cX9_lays 4 none yX9_lays.cls D kI kC kB) : ∀ (n : Nat), ∀ (z_formula : Nat → Int32) (z_length : Int32) (z_entries : Int32) (v1 : Int32), wl_X9_lays_12 z_s Post n z_formula z_length z_entries v1 → ∀ (H : Heap) (locs : List Loc), va_P D vwCl (cwModel kI kC a z_s z_text z_told z_formula z_states z_isKept z_typed z_at z_isRight z_times z_letter z_items z_length z_entries) H → va_D A (cwModel kI kC a z_s z_text z_told z_formula z_states z_isKept z_typed z_at z_isRight z_times z_letter z_items z_length z_entries) → va_S A s.heap H locs → ∀ (ls : Array Slot), lv_has ls 4 [(0, .ref (a 0)), (1, .int v1)] → W p l e ({ frames := 3, cells := 0, slots := 0, locals := 65 } : Room) s m args below meth c H locs 0 0 (MQ below (va_Qv (fun (u : (Nat → Int32) × Int32 × Int32) => Post u.1 u.2.1 u.2.2) (BB D A (fun u : (Nat → Int32) × Int32 × Int32 => (cwModel kI kC a z_s z_text z_told u.1 z_states z_isKept z_typed z_at z_isRight z_times z_letter z_items u.2.1 u.2.2))) A) args s 0 0 A) (F0 m 12 ls []) := by
  obtain ⟨hx, hb, hr, hml, hown, hts, hlocks, hK⟩ := id C
  intro n
  induction n with
  | zero => intro z_formula z_length z_entries v1 hw; exact hw.elim
  | succ n ih =>
    intro z_formula z_length z_entries v1 hw H locs hP hD hS ls hl
    refine lv_iload_n hx hb dX9_lays_12 rfl (lv_at hl 1 rfl) ?_
    refine lv_aload_n hx hb dX9_lays_13 rfl (lv_at hl 0 rfl) ?_
    refine va_get (D := D) (ci := 7) (v := .ref (a 1)) (C := RX9) (T := TX9) (N := 14) hx hb hts inX9 hown hK.1 hP 0 rfl rfl 0 (by decide) (hts _ tw_685) (fun _ h9 => h9) rfl dX9_lays_14 ?_
    refine lv_iconst (v := (nI 2)) hx hb dX9_lays_17 (by decide) ?_
    have hin := hw.1
    replace hw := hw.2
    refine va_iald hx hb hK.1 hP 1 0 rfl rfl hin dX9_lays_18 ?_
    refine lv_icmp_ge (tgt := 139) hx hb dX9_lays_19 (by decide) (fun hc => ?_) (fun hc => ?_)
    · replace hw := hw.1 hc
      exact retMv C (z_formula, z_length, z_entries) hw hP hD hS dX9_lays_139
    · replace hw := hw.2 hc
      refine lv_iload_n hx hb dX9_lays_22 rfl (lv_at hl 1 rfl) ?_
      refine lv_istore_n (lv' := [(2, .int v1), (0, .ref (a 0)), (1, .int v1)]) hx hb dX9_lays_23 rfl hl (by decide) rfl (fun ls hl => ?_)
      obtain ⟨n9, hw⟩ := hw
      exact cl_X9_lays_24 l D kI kC kB a z_s z_text z_told z_formula z_states z_isKept z_typed z_at z_isRight z_times z_letter z_items z_length z_entries v1 Post hA C _ ih n9 v1 hw H locs hP hD hS ls (lv_sub hl [1, 2, 0] rfl)
set_option maxHeartbeats 4000000 in
set_option maxRecDepth 100000 in
theorem c_X9_lays (l : Launch) (D : va_G) (kI kC kB : ClassId) (a : AdT) (z_s : Nat → Int32) (z_text : Nat → Int32) (z_told : Nat → Int32) (z_formula : Nat → Int32) (z_states : Int32) (z_isKept : Int32) (z_typed : Int32) (z_at : Int32) (z_isRight : Int32) (z_times : Int32) (z_letter : Int32) (z_items : Int32) (z_length : Int32) (z_entries : Int32) (sz : Nat) (Post : (Nat → Int32) → Int32 → Int32 → Prop) (hw : wp_X9_lays z_s z_formula z_length z_entries Post) : CMv l D kI kC kB yX9_lays cX9_lays 4 none ({ frames := 3, cells := 0, slots := 0, locals := 65 } : Room) [.ref (a 0)] (cwModel kI kC a z_s z_text z_told z_formula z_states z_isKept z_typed z_at z_isRight z_times z_letter z_items z_length z_entries) sz (fun (u : (Nat → Int32) × Int32 × Int32) => Post u.1 u.2.1 u.2.2) (fun u : (Nat → Int32) × Int32 × Int32 => (cwModel kI kC a z_s z_text z_told u.1 z_states z_isKept z_typed z_at z_isRight z_times z_letter z_items u.2.1 u.2.2)) := by
  refine entMv (by decide) (Nat.le_of_ble_eq_true rfl) ?_
  intro p e s m args below meth c ls A C hA hP hD hS hl
  obtain ⟨H, hHe⟩ : ∃ H, H = s.heap := ⟨_, rfl⟩
  obtain ⟨locs, hlo⟩ : ∃ lo : List Loc, lo = [] := ⟨_, rfl⟩
  have hS : va_S A s.heap H locs := by rw [hHe, hlo]; exact hS
  rw [← hHe] at hP
  suffices hg : W p l e ({ frames := 3, cells := 0, slots := 0, locals := 65 } : Room) s m args below meth c H locs 0 0 (MQ below (va_Qv (fun (u : (Nat → Int32) × Int32 × Int32) => Post u.1 u.2.1 u.2.2) (BB D A (fun u : (Nat → Int32) × Int32 × Int32 => (cwModel kI kC a z_s z_text z_told u.1 z_states z_isKept z_typed z_at z_isRight z_times z_letter z_items u.2.1 u.2.2))) A) args s 0 0 A) (F0 m 0 ls []) by rw [hHe, hlo] at hg; exact hg
  replace hl : lv_has ls 4 [(0, .ref (a 0))] := hl
  obtain ⟨hx, hb, hr, hml, hown, hts, hlocks, hK⟩ := id C
  refine lv_aload_n hx hb dX9_lays_0 rfl (lv_at hl 0 rfl) ?_
  refine lv_iconst (v := (nI 0)) hx hb dX9_lays_1 (by decide) ?_
  refine va_put (D := D) (ci := 7) (v := .int (nI 0)) (ty := .int) (C := RX9) (T := TX9) (N := 14) hx hb hts inX9 tyX9 tyX9_ok nmX9 hown hK.1 hP hD hS 0 rfl rfl 12 (by decide) (hts _ tw_697) (fun _ h9 => h9) rfl (tyX9_ok 12 (by decide)) rfl rfl (Nat.le_of_ble_eq_true rfl) dX9_lays_2 (fun H locs hP hD hS => ?_)
  replace hP : va_P D vwCl (cwModel kI kC a z_s z_text z_told z_formula z_states z_isKept z_typed z_at z_isRight z_times z_letter z_items (nI 0) z_entries) H := hP
  replace hD : va_D A (cwModel kI kC a z_s z_text z_told z_formula z_states z_isKept z_typed z_at z_isRight z_times z_letter z_items (nI 0) z_entries) := hD
  refine lv_aload_n hx hb dX9_lays_5 rfl (lv_at hl 0 rfl) ?_
  refine lv_iconst (v := (nI 0)) hx hb dX9_lays_6 (by decide) ?_
  refine va_put (D := D) (ci := 7) (v := .int (nI 0)) (ty := .int) (C := RX9) (T := TX9) (N := 14) hx hb hts inX9 tyX9 tyX9_ok nmX9 hown hK.1 hP hD hS 0 rfl rfl 13 (by decide) (hts _ tw_698) (fun _ h9 => h9) rfl (tyX9_ok 13 (by decide)) rfl rfl (Nat.le_of_ble_eq_true rfl) dX9_lays_7 (fun H locs hP hD hS => ?_)
  replace hP : va_P D vwCl (cwModel kI kC a z_s z_text z_told z_formula z_states z_isKept z_typed z_at z_isRight z_times z_letter z_items (nI 0) (nI 0)) H := hP
  replace hD : va_D A (cwModel kI kC a z_s z_text z_told z_formula z_states z_isKept z_typed z_at z_isRight z_times z_letter z_items (nI 0) (nI 0)) := hD
  refine lv_iconst (v := (nI 0)) hx hb dX9_lays_10 (by decide) ?_
  refine lv_istore_n (lv' := [(1, .int (nI 0)), (0, .ref (a 0))]) hx hb dX9_lays_11 rfl hl (by decide) rfl (fun ls hl => ?_)
  obtain ⟨n9, hw⟩ := hw
  exact cl_X9_lays_12 l D kI kC kB a z_s z_text z_told z_states z_isKept z_typed z_at z_isRight z_times z_letter z_items Post hA C n9 z_formula (nI 0) (nI 0) (nI 0) hw H locs hP hD hS ls (lv_sub hl [1, 0] rfl)
set_option maxHeartbeats 4000000 in
set_option maxRecDepth 100000 in
theorem c_X9_formula (l : Launch) (D : va_G) (kI kC kB : ClassId) (a : AdT) (z_s : Nat → Int32) (z_text : Nat → Int32) (z_told : Nat → Int32) (z_formula : Nat → Int32) (z_states : Int32) (z_isKept : Int32) (z_typed : Int32) (z_at : Int32) (z_isRight : Int32) (z_times : Int32) (z_letter : Int32) (z_items : Int32) (z_length : Int32) (z_entries : Int32) (sz : Nat) (p1 : Int32) (Post : Int32 → (Nat → Int32) → Int32 → Int32 → Prop) (hw : wp_X9_formula z_s z_formula z_length z_entries p1 Post) : CMi l D kI kC kB yX9_formula cX9_formula 2 (some .int) ({ frames := 4, cells := 0, slots := 0, locals := 88 } : Room) [.ref (a 0), .int p1] (cwModel kI kC a z_s z_text z_told z_formula z_states z_isKept z_typed z_at z_isRight z_times z_letter z_items z_length z_entries) sz (fun (r : Int32) (u : (Nat → Int32) × Int32 × Int32) => Post r u.1 u.2.1 u.2.2) (fun u : (Nat → Int32) × Int32 × Int32 => (cwModel kI kC a z_s z_text z_told u.1 z_states z_isKept z_typed z_at z_isRight z_times z_letter z_items u.2.1 u.2.2)) := by
  refine entMi (by decide) (Nat.le_of_ble_eq_true rfl) ?_
  intro p e s m args below meth c ls A C hA hP hD hS hl
  obtain ⟨H, hHe⟩ : ∃ H, H = s.heap := ⟨_, rfl⟩
  obtain ⟨locs, hlo⟩ : ∃ lo : List Loc, lo = [] := ⟨_, rfl⟩
  have hS : va_S A s.heap H locs := by rw [hHe, hlo]; exact hS
  rw [← hHe] at hP
  suffices hg : W p l e ({ frames := 4, cells := 0, slots := 0, locals := 88 } : Room) s m args below meth c H locs 0 0 (MQ below (va_Qi (fun (r : Int32) (u : (Nat → Int32) × Int32 × Int32) => Post r u.1 u.2.1 u.2.2) (BB D A (fun u : (Nat → Int32) × Int32 × Int32 => (cwModel kI kC a z_s z_text z_told u.1 z_states z_isKept z_typed z_at z_isRight z_times z_letter z_items u.2.1 u.2.2))) A) args s 0 0 A) (F0 m 0 ls []) by rw [hHe, hlo] at hg; exact hg
  replace hl : lv_has ls 2 [(0, .ref (a 0)), (1, .int p1)] := hl
  obtain ⟨hx, hb, hr, hml, hown, hts, hlocks, hK⟩ := id C
  refine lv_iload_n hx hb dX9_formula_0 rfl (lv_at hl 1 rfl) ?_
  refine lv_if_ge (tgt := 7) hx hb dX9_formula_1 (by decide) (fun hc => ?_) (fun hc => ?_)
  · replace hw := hw.1 hc
    refine lv_aload_n hx hb dX9_formula_7 rfl (lv_at hl 0 rfl) ?_
    refine kMVv (q0 := 0) (As := []) (rest := []) C (c_X9_lays l D kI kC kB a z_s z_text z_told z_formula z_states z_isKept z_typed z_at z_isRight z_times z_letter z_items z_length z_entries H.size _ hw) ⟨rfl, rfl⟩ ce_X9_lays cv_X9_lays tw_939 ⟨Nat.le_of_ble_eq_true rfl, Nat.le_of_ble_eq_true rfl⟩ hP hD hS hA [0, 1, 2, 3, 4] rfl rfl (fun _ => rfl) rfl rfl rfl hl.1 rfl (Nat.le_of_ble_eq_true rfl) ⟨Nat.zero_le _, Nat.zero_le _⟩ dX9_formula_8 (fun u H locs hw hP hD hS => ?_)
    obtain ⟨u1, u2, u3⟩ := u
    try dsimp only at hw
    replace hP : va_P D vwCl (cwModel kI kC a z_s z_text z_told u1 z_states z_isKept z_typed z_at z_isRight z_times z_letter z_items u2 u3) H := hP
    replace hD : va_D A (cwModel kI kC a z_s z_text z_told u1 z_states z_isKept z_typed z_at z_isRight z_times z_letter z_items u2 u3) := hD
    refine lv_iload_n hx hb dX9_formula_11 rfl (lv_at hl 1 rfl) ?_
    refine lv_aload_n hx hb dX9_formula_12 rfl (lv_at hl 0 rfl) ?_
    refine va_get (D := D) (ci := 7) (v := .int u2) (C := RX9) (T := TX9) (N := 14) hx hb hts inX9 hown hK.1 hP 0 rfl rfl 12 (by decide) (hts _ tw_697) (fun _ h9 => h9) rfl dX9_formula_13 ?_
    refine lv_icmp_ge (tgt := 28) hx hb dX9_formula_16 (by decide) (fun hc => ?_) (fun hc => ?_)
    · replace hw := hw.1 hc
      refine lv_bipush (v := (-5)) hx hb dX9_formula_28 (by decide) ?_
      exact retMi C (u1, u2, u3) hw hP hD hS dX9_formula_30
    · replace hw := hw.2 hc
      refine lv_aload_n hx hb dX9_formula_19 rfl (lv_at hl 0 rfl) ?_
      refine va_get (D := D) (ci := 7) (v := .ref (a 4)) (C := RX9) (T := TX9) (N := 14) hx hb hts inX9 hown hK.1 hP 0 rfl rfl 11 (by decide) (hts _ tw_696) (fun _ h9 => h9) rfl dX9_formula_20 ?_
      refine lv_iload_n hx hb dX9_formula_23 rfl (lv_at hl 1 rfl) ?_
      have hin := hw.1
      replace hw := hw.2
      refine va_cald hx hb hK.1 hP 4 1 rfl rfl hin dX9_formula_24 ?_
      refine lv_goto (tgt := 30) hx hb dX9_formula_25 (by decide) ?_
      exact retMi C (u1, u2, u3) hw hP hD hS dX9_formula_30
  · replace hw := hw.2 hc
    refine lv_bipush (v := (-2)) hx hb dX9_formula_4 (by decide) ?_
    exact retMi C (z_formula, z_length, z_entries) hw hP hD hS dX9_formula_6
set_option maxHeartbeats 4000000 in
set_option maxRecDepth 100000 in
theorem cl_X9_starred_4 (l : Launch) (D : va_G) (kI kC kB : ClassId) (a : AdT) (z_s : Nat → Int32) (z_text : Nat → Int32) (z_told : Nat → Int32) (z_formula : Nat → Int32) (z_states : Int32) (z_isKept : Int32) (z_typed : Int32) (z_at : Int32) (z_isRight : Int32) (z_times : Int32) (z_letter : Int32) (z_items : Int32) (z_length : Int32) (z_entries : Int32) (Post : Int32 → Prop) {p : Program} {e : Env} {s : State} {m : MethodId} {args : Array Value} {below : List Frame} {meth : Method} {c : Code} (C : CtxT p s m args meth c cX9_starred 3 (some .int) yX9_starred.cls D kI kC kB) (hP : va_P D vwCl (cwModel kI kC a z_s z_text z_told z_formula z_states z_isKept z_typed z_at z_isRight z_times z_letter z_items z_length z_entries) s.heap) : ∀ (n : Nat), ∀ (v1 : Int32) (v2 : Int32), wl_X9_starred_4 z_s Post n v1 v2 → ∀ (ls : Array Slot), lv_has ls 3 [(0, .ref (a 0)), (1, .int v1), (2, .int v2)] → W p l e ({ frames := 2, cells := 0, slots := 0, locals := 42 } : Room) s m args below meth c s.heap [] 0 0 (MQ below (vp_Si Post) args s 0 0 (fun _ => False)) (F0 m 4 ls []) := by
  obtain ⟨hx, hb, hr, hml, hown, hts, hlocks, hK⟩ := id C
  intro n
  induction n with
  | zero => intro v1 v2 hw; exact hw.elim
  | succ n ih =>
    intro v1 v2 hw ls hl
    refine lv_iload_n hx hb dX9_starred_4 rfl (lv_at hl 2 rfl) ?_
    refine lv_aload_n hx hb dX9_starred_5 rfl (lv_at hl 0 rfl) ?_
    refine va_get (D := D) (ci := 7) (v := .ref (a 1)) (C := RX9) (T := TX9) (N := 14) hx hb hts inX9 hown hK.1 hP 0 rfl rfl 0 (by decide) (hts _ tw_685) (fun _ h9 => h9) rfl dX9_starred_6 ?_
    refine lv_iconst (v := (nI 2)) hx hb dX9_starred_9 (by decide) ?_
    have hin := hw.1
    replace hw := hw.2
    refine va_iald hx hb hK.1 hP 1 0 rfl rfl hin dX9_starred_10 ?_
    refine lv_icmp_ge (tgt := 36) hx hb dX9_starred_11 (by decide) (fun hc => ?_) (fun hc => ?_)
    · replace hw := hw.1 hc
      refine lv_iload_n hx hb dX9_starred_36 rfl (lv_at hl 1 rfl) ?_
      exact retR C hw dX9_starred_37
    · replace hw := hw.2 hc
      refine lv_iload_n hx hb dX9_starred_14 rfl (lv_at hl 1 rfl) ?_
      refine lv_aload_n hx hb dX9_starred_15 rfl (lv_at hl 0 rfl) ?_
      refine lv_iload_n hx hb dX9_starred_16 rfl (lv_at hl 2 rfl) ?_
      refine kRV (As := [.int v2]) (rest := [.int v1]) (q0 := 0) C (c_X9_isStarred l D kI kC kB a z_s z_text z_told z_formula z_states z_isKept z_typed z_at z_isRight z_times z_letter z_items z_length z_entries v2 _ hw) ⟨rfl, rfl⟩ ce_X9_isStarred cv_X9_isStarred tw_799 ⟨Nat.le_of_ble_eq_true rfl, Nat.le_of_ble_eq_true rfl⟩ hP [0, 1, 2, 3, 4] rfl rfl rfl rfl hl.1 rfl (Nat.le_of_ble_eq_true rfl) ⟨Nat.zero_le _, Nat.zero_le _⟩ dX9_starred_17 (fun r1 hw => ?_)
      refine lv_if_eq (tgt := 27) hx hb dX9_starred_20 (by decide) (fun hc => ?_) (fun hc => ?_)
      · replace hw := hw.1 hc
        refine lv_iconst (v := (nI 0)) hx hb dX9_starred_27 (by decide) ?_
        refine lv_iadd hx hb dX9_starred_28 ?_
        refine lv_topi (fun y2 ey2 => ?_)
        replace hw := hw y2 ey2
        refine lv_istore_n (lv' := [(1, .int y2), (0, .ref (a 0)), (2, .int v2)]) hx hb dX9_starred_29 rfl hl (by decide) rfl (fun ls hl => ?_)
        refine lv_iinc (v := (v2 + nI 1)) (lv' := [(2, .int (v2 + nI 1)), (1, .int y2), (0, .ref (a 0))]) hx hb dX9_starred_30 hl (k := 2) rfl rfl (by decide) rfl (fun ls hl => ?_)
        refine lv_goto (tgt := 4) hx hb dX9_starred_33 (by decide) ?_
        exact ih y2 (v2 + nI 1) hw ls (lv_sub hl [2, 1, 0] rfl)
      · replace hw := hw.2 hc
        refine lv_iconst (v := (nI 1)) hx hb dX9_starred_23 (by decide) ?_
        refine lv_goto (tgt := 28) hx hb dX9_starred_24 (by decide) ?_
        refine lv_iadd hx hb dX9_starred_28 ?_
        refine lv_topi (fun y3 ey3 => ?_)
        replace hw := hw y3 ey3
        refine lv_istore_n (lv' := [(1, .int y3), (0, .ref (a 0)), (2, .int v2)]) hx hb dX9_starred_29 rfl hl (by decide) rfl (fun ls hl => ?_)
        refine lv_iinc (v := (v2 + nI 1)) (lv' := [(2, .int (v2 + nI 1)), (1, .int y3), (0, .ref (a 0))]) hx hb dX9_starred_30 hl (k := 2) rfl rfl (by decide) rfl (fun ls hl => ?_)
        refine lv_goto (tgt := 4) hx hb dX9_starred_33 (by decide) ?_
        exact ih y3 (v2 + nI 1) hw ls (lv_sub hl [2, 1, 0] rfl)
set_option maxHeartbeats 4000000 in
set_option maxRecDepth 100000 in
theorem c_X9_starred (l : Launch) (D : va_G) (kI kC kB : ClassId) (a : AdT) (z_s : Nat → Int32) (z_text : Nat → Int32) (z_told : Nat → Int32) (z_formula : Nat → Int32) (z_states : Int32) (z_isKept : Int32) (z_typed : Int32) (z_at : Int32) (z_isRight : Int32) (z_times : Int32) (z_letter : Int32) (z_items : Int32) (z_length : Int32) (z_entries : Int32) (Post : Int32 → Prop) (hw : wp_X9_starred z_s Post) : CR l D kI kC kB yX9_starred cX9_starred 3 (some .int) ({ frames := 2, cells := 0, slots := 0, locals := 42 } : Room) [.ref (a 0)] (cwModel kI kC a z_s z_text z_told z_formula z_states z_isKept z_typed z_at z_isRight z_times z_letter z_items z_length z_entries) Post := by
  refine entR (by decide) (Nat.le_of_ble_eq_true rfl) ?_
  intro p e s m args below meth c ls C hP hl
  replace hl : lv_has ls 3 [(0, .ref (a 0))] := hl
  obtain ⟨hx, hb, hr, hml, hown, hts, hlocks, hK⟩ := id C
  refine lv_iconst (v := (nI 0)) hx hb dX9_starred_0 (by decide) ?_
  refine lv_istore_n (lv' := [(1, .int (nI 0)), (0, .ref (a 0))]) hx hb dX9_starred_1 rfl hl (by decide) rfl (fun ls hl => ?_)
  refine lv_iconst (v := (nI 0)) hx hb dX9_starred_2 (by decide) ?_
  refine lv_istore_n (lv' := [(2, .int (nI 0)), (1, .int (nI 0)), (0, .ref (a 0))]) hx hb dX9_starred_3 rfl hl (by decide) rfl (fun ls hl => ?_)
  obtain ⟨n9, hw⟩ := hw
  exact cl_X9_starred_4 l D kI kC kB a z_s z_text z_told z_formula z_states z_isKept z_typed z_at z_isRight z_times z_letter z_items z_length z_entries Post C hP n9 (nI 0) (nI 0) hw ls (lv_sub hl [2, 1, 0] rfl)
set_option maxHeartbeats 4000000 in
set_option maxRecDepth 100000 in
theorem cl_X9_lapses_4 (l : Launch) (D : va_G) (kI kC kB : ClassId) (a : AdT) (z_s : Nat → Int32) (z_text : Nat → Int32) (z_told : Nat → Int32) (z_formula : Nat → Int32) (z_states : Int32) (z_isKept : Int32) (z_typed : Int32) (z_at : Int32) (z_isRight : Int32) (z_times : Int32) (z_letter : Int32) (z_items : Int32) (z_length : Int32) (z_entries : Int32) (Post : Int32 → Prop) {p : Program} {e : Env} {s : State} {m : MethodId} {args : Array Value} {below : List Frame} {meth : Method} {c : Code} (C : CtxT p s m args meth c cX9_lapses 3 (some .int) yX9_lapses.cls D kI kC kB) (hP : va_P D vwCl (cwModel kI kC a z_s z_text z_told z_formula z_states z_isKept z_typed z_at z_isRight z_times z_letter z_items z_length z_entries) s.heap) : ∀ (n : Nat), ∀ (v1 : Int32) (v2 : Int32), wl_X9_lapses_4 z_s Post n v1 v2 → ∀ (ls : Array Slot), lv_has ls 3 [(0, .ref (a 0)), (1, .int v1), (2, .int v2)] → W p l e ({ frames := 4, cells := 0, slots := 0, locals := 87 } : Room) s m args below meth c s.heap [] 0 0 (MQ below (vp_Si Post) args s 0 0 (fun _ => False)) (F0 m 4 ls []) := by
  obtain ⟨hx, hb, hr, hml, hown, hts, hlocks, hK⟩ := id C
  intro n
  induction n with
  | zero => intro v1 v2 hw; exact hw.elim
  | succ n ih =>
    intro v1 v2 hw ls hl
    refine lv_iload_n hx hb dX9_lapses_4 rfl (lv_at hl 2 rfl) ?_
    refine lv_aload_n hx hb dX9_lapses_5 rfl (lv_at hl 0 rfl) ?_
    refine va_get (D := D) (ci := 7) (v := .ref (a 1)) (C := RX9) (T := TX9) (N := 14) hx hb hts inX9 hown hK.1 hP 0 rfl rfl 0 (by decide) (hts _ tw_685) (fun _ h9 => h9) rfl dX9_lapses_6 ?_
    refine lv_iconst (v := (nI 2)) hx hb dX9_lapses_9 (by decide) ?_
    have hin := hw.1
    replace hw := hw.2
    refine va_iald hx hb hK.1 hP 1 0 rfl rfl hin dX9_lapses_10 ?_
    refine lv_icmp_ge (tgt := 36) hx hb dX9_lapses_11 (by decide) (fun hc => ?_) (fun hc => ?_)
    · replace hw := hw.1 hc
      refine lv_iload_n hx hb dX9_lapses_36 rfl (lv_at hl 1 rfl) ?_
      exact retR C hw dX9_lapses_37
    · replace hw := hw.2 hc
      refine lv_iload_n hx hb dX9_lapses_14 rfl (lv_at hl 1 rfl) ?_
      refine lv_aload_n hx hb dX9_lapses_15 rfl (lv_at hl 0 rfl) ?_
      refine lv_iload_n hx hb dX9_lapses_16 rfl (lv_at hl 2 rfl) ?_
      refine kRV (As := [.int v2]) (rest := [.int v1]) (q0 := 0) C (c_X9_isLapse l D kI kC kB a z_s z_text z_told z_formula z_states z_isKept z_typed z_at z_isRight z_times z_letter z_items z_length z_entries v2 _ hw) ⟨rfl, rfl⟩ ce_X9_isLapse cv_X9_isLapse tw_911 ⟨Nat.le_of_ble_eq_true rfl, Nat.le_of_ble_eq_true rfl⟩ hP [0, 1, 2, 3, 4] rfl rfl rfl rfl hl.1 rfl (Nat.le_of_ble_eq_true rfl) ⟨Nat.zero_le _, Nat.zero_le _⟩ dX9_lapses_17 (fun r1 hw => ?_)
      refine lv_if_eq (tgt := 27) hx hb dX9_lapses_20 (by decide) (fun hc => ?_) (fun hc => ?_)
      · replace hw := hw.1 hc
        refine lv_iconst (v := (nI 0)) hx hb dX9_lapses_27 (by decide) ?_
        refine lv_iadd hx hb dX9_lapses_28 ?_
        refine lv_topi (fun y2 ey2 => ?_)
        replace hw := hw y2 ey2
        refine lv_istore_n (lv' := [(1, .int y2), (0, .ref (a 0)), (2, .int v2)]) hx hb dX9_lapses_29 rfl hl (by decide) rfl (fun ls hl => ?_)
        refine lv_iinc (v := (v2 + nI 1)) (lv' := [(2, .int (v2 + nI 1)), (1, .int y2), (0, .ref (a 0))]) hx hb dX9_lapses_30 hl (k := 2) rfl rfl (by decide) rfl (fun ls hl => ?_)
        refine lv_goto (tgt := 4) hx hb dX9_lapses_33 (by decide) ?_
        exact ih y2 (v2 + nI 1) hw ls (lv_sub hl [2, 1, 0] rfl)
      · replace hw := hw.2 hc
        refine lv_iconst (v := (nI 1)) hx hb dX9_lapses_23 (by decide) ?_
        refine lv_goto (tgt := 28) hx hb dX9_lapses_24 (by decide) ?_
        refine lv_iadd hx hb dX9_lapses_28 ?_
        refine lv_topi (fun y3 ey3 => ?_)
        replace hw := hw y3 ey3
        refine lv_istore_n (lv' := [(1, .int y3), (0, .ref (a 0)), (2, .int v2)]) hx hb dX9_lapses_29 rfl hl (by decide) rfl (fun ls hl => ?_)
        refine lv_iinc (v := (v2 + nI 1)) (lv' := [(2, .int (v2 + nI 1)), (1, .int y3), (0, .ref (a 0))]) hx hb dX9_lapses_30 hl (k := 2) rfl rfl (by decide) rfl (fun ls hl => ?_)
        refine lv_goto (tgt := 4) hx hb dX9_lapses_33 (by decide) ?_
        exact ih y3 (v2 + nI 1) hw ls (lv_sub hl [2, 1, 0] rfl)
set_option maxHeartbeats 4000000 in
set_option maxRecDepth 100000 in
theorem c_X9_lapses (l : Launch) (D : va_G) (kI kC kB : ClassId) (a : AdT) (z_s : Nat → Int32) (z_text : Nat → Int32) (z_told : Nat → Int32) (z_formula : Nat → Int32) (z_states : Int32) (z_isKept : Int32) (z_typed : Int32) (z_at : Int32) (z_isRight : Int32) (z_times : Int32) (z_letter : Int32) (z_items : Int32) (z_length : Int32) (z_entries : Int32) (Post : Int32 → Prop) (hw : wp_X9_lapses z_s Post) : CR l D kI kC kB yX9_lapses cX9_lapses 3 (some .int) ({ frames := 4, cells := 0, slots := 0, locals := 87 } : Room) [.ref (a 0)] (cwModel kI kC a z_s z_text z_told z_formula z_states z_isKept z_typed z_at z_isRight z_times z_letter z_items z_length z_entries) Post := by
  refine entR (by decide) (Nat.le_of_ble_eq_true rfl) ?_
  intro p e s m args below meth c ls C hP hl
  replace hl : lv_has ls 3 [(0, .ref (a 0))] := hl
  obtain ⟨hx, hb, hr, hml, hown, hts, hlocks, hK⟩ := id C
  refine lv_iconst (v := (nI 0)) hx hb dX9_lapses_0 (by decide) ?_
  refine lv_istore_n (lv' := [(1, .int (nI 0)), (0, .ref (a 0))]) hx hb dX9_lapses_1 rfl hl (by decide) rfl (fun ls hl => ?_)
  refine lv_iconst (v := (nI 0)) hx hb dX9_lapses_2 (by decide) ?_
  refine lv_istore_n (lv' := [(2, .int (nI 0)), (1, .int (nI 0)), (0, .ref (a 0))]) hx hb dX9_lapses_3 rfl hl (by decide) rfl (fun ls hl => ?_)
  obtain ⟨n9, hw⟩ := hw
  exact cl_X9_lapses_4 l D kI kC kB a z_s z_text z_told z_formula z_states z_isKept z_typed z_at z_isRight z_times z_letter z_items z_length z_entries Post C hP n9 (nI 0) (nI 0) hw ls (lv_sub hl [2, 1, 0] rfl)
set_option maxHeartbeats 4000000 in
set_option maxRecDepth 100000 in
theorem c_X9_count (l : Launch) (D : va_G) (kI kC kB : ClassId) (a : AdT) (z_s : Nat → Int32) (z_text : Nat → Int32) (z_told : Nat → Int32) (z_formula : Nat → Int32) (z_states : Int32) (z_isKept : Int32) (z_typed : Int32) (z_at : Int32) (z_isRight : Int32) (z_times : Int32) (z_letter : Int32) (z_items : Int32) (z_length : Int32) (z_entries : Int32) (sz : Nat) (p1 : Int32) (Post : Int32 → (Nat → Int32) → Int32 → Int32 → Prop) (hw : wp_X9_count z_s z_formula z_states z_typed z_length z_entries p1 Post) : CMi l D kI kC kB yX9_count cX9_count 2 (some .int) ({ frames := 5, cells := 0, slots := 0, locals := 109 } : Room) [.ref (a 0), .int p1] (cwModel kI kC a z_s z_text z_told z_formula z_states z_isKept z_typed z_at z_isRight z_times z_letter z_items z_length z_entries) sz (fun (r : Int32) (u : (Nat → Int32) × Int32 × Int32) => Post r u.1 u.2.1 u.2.2) (fun u : (Nat → Int32) × Int32 × Int32 => (cwModel kI kC a z_s z_text z_told u.1 z_states z_isKept z_typed z_at z_isRight z_times z_letter z_items u.2.1 u.2.2)) := by
  refine entMi (by decide) (Nat.le_of_ble_eq_true rfl) ?_
  intro p e s m args below meth c ls A C hA hP hD hS hl
  obtain ⟨H, hHe⟩ : ∃ H, H = s.heap := ⟨_, rfl⟩
  obtain ⟨locs, hlo⟩ : ∃ lo : List Loc, lo = [] := ⟨_, rfl⟩
  have hS : va_S A s.heap H locs := by rw [hHe, hlo]; exact hS
  rw [← hHe] at hP
  suffices hg : W p l e ({ frames := 5, cells := 0, slots := 0, locals := 109 } : Room) s m args below meth c H locs 0 0 (MQ below (va_Qi (fun (r : Int32) (u : (Nat → Int32) × Int32 × Int32) => Post r u.1 u.2.1 u.2.2) (BB D A (fun u : (Nat → Int32) × Int32 × Int32 => (cwModel kI kC a z_s z_text z_told u.1 z_states z_isKept z_typed z_at z_isRight z_times z_letter z_items u.2.1 u.2.2))) A) args s 0 0 A) (F0 m 0 ls []) by rw [hHe, hlo] at hg; exact hg
  replace hl : lv_has ls 2 [(0, .ref (a 0)), (1, .int p1)] := hl
  obtain ⟨hx, hb, hr, hml, hown, hts, hlocks, hK⟩ := id C
  refine lv_aload_n hx hb dX9_count_0 rfl (lv_at hl 0 rfl) ?_
  refine kMVv (q0 := 0) (As := []) (rest := []) C (c_X9_lays l D kI kC kB a z_s z_text z_told z_formula z_states z_isKept z_typed z_at z_isRight z_times z_letter z_items z_length z_entries H.size _ hw) ⟨rfl, rfl⟩ ce_X9_lays cv_X9_lays tw_939 ⟨Nat.le_of_ble_eq_true rfl, Nat.le_of_ble_eq_true rfl⟩ hP hD hS hA [0, 1, 2, 3, 4] rfl rfl (fun _ => rfl) rfl rfl rfl hl.1 rfl (Nat.le_of_ble_eq_true rfl) ⟨Nat.zero_le _, Nat.zero_le _⟩ dX9_count_1 (fun u H locs hw hP hD hS => ?_)
  obtain ⟨u1, u2, u3⟩ := u
  try dsimp only at hw
  replace hP : va_P D vwCl (cwModel kI kC a z_s z_text z_told u1 z_states z_isKept z_typed z_at z_isRight z_times z_letter z_items u2 u3) H := hP
  replace hD : va_D A (cwModel kI kC a z_s z_text z_told u1 z_states z_isKept z_typed z_at z_isRight z_times z_letter z_items u2 u3) := hD
  refine lv_iload_n hx hb dX9_count_4 rfl (lv_at hl 1 rfl) ?_
  by_cases hc0 : p1 = 0
  · replace hw := hw.1 hc0
    refine lv_tableIn (tgt := 72) (off := 67) hx hb dX9_count_5 (by rw [hc0]; decide) (by rw [hc0]; decide) (by rw [hc0]; rfl) (by decide) ?_
    refine lv_aload_n hx hb dX9_count_72 rfl (lv_at hl 0 rfl) ?_
    refine va_get (D := D) (ci := 7) (v := .ref (a 1)) (C := RX9) (T := TX9) (N := 14) hx hb hts inX9 hown hK.1 hP 0 rfl rfl 0 (by decide) (hts _ tw_685) (fun _ h9 => h9) rfl dX9_count_73 ?_
    refine lv_iconst (v := (nI 2)) hx hb dX9_count_76 (by decide) ?_
    have hin := hw.1
    replace hw := hw.2
    refine va_iald hx hb hK.1 hP 1 0 rfl rfl hin dX9_count_77 ?_
    exact retMi C (u1, u2, u3) hw hP hD hS dX9_count_78
  · replace hw := hw.2 hc0
    by_cases hc1 : p1 = 1
    · replace hw := hw.1 hc1
      refine lv_tableIn (tgt := 79) (off := 74) hx hb dX9_count_5 (by rw [hc1]; decide) (by rw [hc1]; decide) (by rw [hc1]; rfl) (by decide) ?_
      refine lv_aload_n hx hb dX9_count_79 rfl (lv_at hl 0 rfl) ?_
      refine kRV (As := []) (rest := []) (q0 := 0) C (c_X9_leaves l D kI kC kB a z_s z_text z_told u1 z_states z_isKept z_typed z_at z_isRight z_times z_letter z_items u2 u3 _ hw) ⟨rfl, rfl⟩ ce_X9_leaves cv_X9_leaves tw_815 ⟨Nat.le_of_ble_eq_true rfl, Nat.le_of_ble_eq_true rfl⟩ hP [0, 1, 2, 3, 4] rfl rfl rfl rfl hl.1 rfl (Nat.le_of_ble_eq_true rfl) ⟨Nat.zero_le _, Nat.zero_le _⟩ dX9_count_80 (fun r4 hw => ?_)
      exact retMi C (u1, u2, u3) hw hP hD hS dX9_count_83
    · replace hw := hw.2 hc1
      by_cases hc2 : p1 = 2
      · replace hw := hw.1 hc2
        refine lv_tableIn (tgt := 84) (off := 79) hx hb dX9_count_5 (by rw [hc2]; decide) (by rw [hc2]; decide) (by rw [hc2]; rfl) (by decide) ?_
        refine lv_aload_n hx hb dX9_count_84 rfl (lv_at hl 0 rfl) ?_
        refine kRV (As := []) (rest := []) (q0 := 0) C (c_X9_leaves l D kI kC kB a z_s z_text z_told u1 z_states z_isKept z_typed z_at z_isRight z_times z_letter z_items u2 u3 _ hw) ⟨rfl, rfl⟩ ce_X9_leaves cv_X9_leaves tw_815 ⟨Nat.le_of_ble_eq_true rfl, Nat.le_of_ble_eq_true rfl⟩ hP [0, 1, 2, 3, 4] rfl rfl rfl rfl hl.1 rfl (Nat.le_of_ble_eq_true rfl) ⟨Nat.zero_le _, Nat.zero_le _⟩ dX9_count_85 (fun r5 hw => ?_)
        refine lv_aload_n hx hb dX9_count_88 rfl (lv_at hl 0 rfl) ?_
        refine kRV (As := []) (rest := [.int r5]) (q0 := 0) C (c_X9_thereOfAll l D kI kC kB a z_s z_text z_told u1 z_states z_isKept z_typed z_at z_isRight z_times z_letter z_items u2 u3 _ hw) ⟨rfl, rfl⟩ ce_X9_thereOfAll cv_X9_thereOfAll tw_847 ⟨Nat.le_of_ble_eq_true rfl, Nat.le_of_ble_eq_true rfl⟩ hP [0, 1, 2, 3, 4] rfl rfl rfl rfl hl.1 rfl (Nat.le_of_ble_eq_true rfl) ⟨Nat.zero_le _, Nat.zero_le _⟩ dX9_count_89 (fun r6 hw => ?_)
        refine lv_isub hx hb dX9_count_92 ?_
        exact retMi C (u1, u2, u3) hw hP hD hS dX9_count_93
      · replace hw := hw.2 hc2
        by_cases hc3 : p1 = 3
        · replace hw := hw.1 hc3
          refine lv_tableIn (tgt := 94) (off := 89) hx hb dX9_count_5 (by rw [hc3]; decide) (by rw [hc3]; decide) (by rw [hc3]; rfl) (by decide) ?_
          refine lv_aload_n hx hb dX9_count_94 rfl (lv_at hl 0 rfl) ?_
          refine kRV (As := []) (rest := []) (q0 := 0) C (c_X9_signedOfAll l D kI kC kB a z_s z_text z_told u1 z_states z_isKept z_typed z_at z_isRight z_times z_letter z_items u2 u3 _ hw) ⟨rfl, rfl⟩ ce_X9_signedOfAll cv_X9_signedOfAll tw_756 ⟨Nat.le_of_ble_eq_true rfl, Nat.le_of_ble_eq_true rfl⟩ hP [0, 1, 2, 3, 4] rfl rfl rfl rfl hl.1 rfl (Nat.le_of_ble_eq_true rfl) ⟨Nat.zero_le _, Nat.zero_le _⟩ dX9_count_95 (fun r7 hw => ?_)
          exact retMi C (u1, u2, u3) hw hP hD hS dX9_count_98
        · replace hw := hw.2 hc3
          by_cases hc4 : p1 = 4
          · replace hw := hw.1 hc4
            refine lv_tableIn (tgt := 99) (off := 94) hx hb dX9_count_5 (by rw [hc4]; decide) (by rw [hc4]; decide) (by rw [hc4]; rfl) (by decide) ?_
            refine lv_aload_n hx hb dX9_count_99 rfl (lv_at hl 0 rfl) ?_
            refine kRV (As := []) (rest := []) (q0 := 0) C (c_X9_letters l D kI kC kB a z_s z_text z_told u1 z_states z_isKept z_typed z_at z_isRight z_times z_letter z_items u2 u3 _ hw) ⟨rfl, rfl⟩ ce_X9_letters cv_X9_letters tw_740 ⟨Nat.le_of_ble_eq_true rfl, Nat.le_of_ble_eq_true rfl⟩ hP [0, 1, 2, 3, 4] rfl rfl rfl rfl hl.1 rfl (Nat.le_of_ble_eq_true rfl) ⟨Nat.zero_le _, Nat.zero_le _⟩ dX9_count_100 (fun r8 hw => ?_)
            exact retMi C (u1, u2, u3) hw hP hD hS dX9_count_103
          · replace hw := hw.2 hc4
            by_cases hc5 : p1 = 5
            · replace hw := hw.1 hc5
              refine lv_tableIn (tgt := 104) (off := 99) hx hb dX9_count_5 (by rw [hc5]; decide) (by rw [hc5]; decide) (by rw [hc5]; rfl) (by decide) ?_
              refine lv_aload_n hx hb dX9_count_104 rfl (lv_at hl 0 rfl) ?_
              refine kRV (As := []) (rest := []) (q0 := 0) C (c_X9_starred l D kI kC kB a z_s z_text z_told u1 z_states z_isKept z_typed z_at z_isRight z_times z_letter z_items u2 u3 _ hw) ⟨rfl, rfl⟩ ce_X9_starred cv_X9_starred tw_959 ⟨Nat.le_of_ble_eq_true rfl, Nat.le_of_ble_eq_true rfl⟩ hP [0, 1, 2, 3, 4] rfl rfl rfl rfl hl.1 rfl (Nat.le_of_ble_eq_true rfl) ⟨Nat.zero_le _, Nat.zero_le _⟩ dX9_count_105 (fun r9 hw => ?_)
              exact retMi C (u1, u2, u3) hw hP hD hS dX9_count_108
            · replace hw := hw.2 hc5
              by_cases hc6 : p1 = 6
              · replace hw := hw.1 hc6
                refine lv_tableIn (tgt := 109) (off := 104) hx hb dX9_count_5 (by rw [hc6]; decide) (by rw [hc6]; decide) (by rw [hc6]; rfl) (by decide) ?_
                refine lv_aload_n hx hb dX9_count_109 rfl (lv_at hl 0 rfl) ?_
                refine kRV (As := []) (rest := []) (q0 := 0) C (c_X9_lapses l D kI kC kB a z_s z_text z_told u1 z_states z_isKept z_typed z_at z_isRight z_times z_letter z_items u2 u3 _ hw) ⟨rfl, rfl⟩ ce_X9_lapses cv_X9_lapses tw_963 ⟨Nat.le_of_ble_eq_true rfl, Nat.le_of_ble_eq_true rfl⟩ hP [0, 1, 2, 3, 4] rfl rfl rfl rfl hl.1 rfl (Nat.le_of_ble_eq_true rfl) ⟨Nat.zero_le _, Nat.zero_le _⟩ dX9_count_110 (fun r10 hw => ?_)
                exact retMi C (u1, u2, u3) hw hP hD hS dX9_count_113
              · replace hw := hw.2 hc6
                by_cases hc7 : p1 = 7
                · replace hw := hw.1 hc7
                  refine lv_tableIn (tgt := 114) (off := 109) hx hb dX9_count_5 (by rw [hc7]; decide) (by rw [hc7]; decide) (by rw [hc7]; rfl) (by decide) ?_
                  refine lv_aload_n hx hb dX9_count_114 rfl (lv_at hl 0 rfl) ?_
                  refine va_get (D := D) (ci := 7) (v := .int u2) (C := RX9) (T := TX9) (N := 14) hx hb hts inX9 hown hK.1 hP 0 rfl rfl 12 (by decide) (hts _ tw_697) (fun _ h9 => h9) rfl dX9_count_115 ?_
                  exact retMi C (u1, u2, u3) hw hP hD hS dX9_count_118
                · replace hw := hw.2 hc7
                  by_cases hc8 : p1 = 8
                  · replace hw := hw.1 hc8
                    refine lv_tableIn (tgt := 119) (off := 114) hx hb dX9_count_5 (by rw [hc8]; decide) (by rw [hc8]; decide) (by rw [hc8]; rfl) (by decide) ?_
                    refine lv_aload_n hx hb dX9_count_119 rfl (lv_at hl 0 rfl) ?_
                    refine va_get (D := D) (ci := 7) (v := .int u3) (C := RX9) (T := TX9) (N := 14) hx hb hts inX9 hown hK.1 hP 0 rfl rfl 13 (by decide) (hts _ tw_698) (fun _ h9 => h9) rfl dX9_count_120 ?_
                    exact retMi C (u1, u2, u3) hw hP hD hS dX9_count_123
                  · replace hw := hw.2 hc8
                    by_cases hc9 : p1 = 9
                    · replace hw := hw.1 hc9
                      refine lv_tableIn (tgt := 124) (off := 119) hx hb dX9_count_5 (by rw [hc9]; decide) (by rw [hc9]; decide) (by rw [hc9]; rfl) (by decide) ?_
                      refine lv_aload_n hx hb dX9_count_124 rfl (lv_at hl 0 rfl) ?_
                      refine va_get (D := D) (ci := 7) (v := .ref (a 1)) (C := RX9) (T := TX9) (N := 14) hx hb hts inX9 hown hK.1 hP 0 rfl rfl 0 (by decide) (hts _ tw_685) (fun _ h9 => h9) rfl dX9_count_125 ?_
                      refine lv_sipush (v := (nI 163)) hx hb dX9_count_128 (by decide) ?_
                      have hin := hw.1
                      replace hw := hw.2
                      refine va_iald hx hb hK.1 hP 1 0 rfl rfl hin dX9_count_131 ?_
                      exact retMi C (u1, u2, u3) hw hP hD hS dX9_count_132
                    · replace hw := hw.2 hc9
                      by_cases hc10 : p1 = 10
                      · replace hw := hw.1 hc10
                        refine lv_tableIn (tgt := 133) (off := 128) hx hb dX9_count_5 (by rw [hc10]; decide) (by rw [hc10]; decide) (by rw [hc10]; rfl) (by decide) ?_
                        refine lv_aload_n hx hb dX9_count_133 rfl (lv_at hl 0 rfl) ?_
                        refine va_get (D := D) (ci := 7) (v := .ref (a 1)) (C := RX9) (T := TX9) (N := 14) hx hb hts inX9 hown hK.1 hP 0 rfl rfl 0 (by decide) (hts _ tw_685) (fun _ h9 => h9) rfl dX9_count_134 ?_
                        refine lv_iconst (v := (nI 1)) hx hb dX9_count_137 (by decide) ?_
                        have hin := hw.1
                        replace hw := hw.2
                        refine va_iald hx hb hK.1 hP 1 0 rfl rfl hin dX9_count_138 ?_
                        exact retMi C (u1, u2, u3) hw hP hD hS dX9_count_139
                      · replace hw := hw.2 hc10
                        by_cases hc11 : p1 = 11
                        · replace hw := hw.1 hc11
                          refine lv_tableIn (tgt := 140) (off := 135) hx hb dX9_count_5 (by rw [hc11]; decide) (by rw [hc11]; decide) (by rw [hc11]; rfl) (by decide) ?_
                          refine lv_aload_n hx hb dX9_count_140 rfl (lv_at hl 0 rfl) ?_
                          refine va_get (D := D) (ci := 7) (v := .int z_states) (C := RX9) (T := TX9) (N := 14) hx hb hts inX9 hown hK.1 hP 0 rfl rfl 1 (by decide) (hts _ tw_686) (fun _ h9 => h9) rfl dX9_count_141 ?_
                          exact retMi C (u1, u2, u3) hw hP hD hS dX9_count_144
                        · replace hw := hw.2 hc11
                          by_cases hc12 : p1 = 12
                          · replace hw := hw.1 hc12
                            refine lv_tableIn (tgt := 145) (off := 140) hx hb dX9_count_5 (by rw [hc12]; decide) (by rw [hc12]; decide) (by rw [hc12]; rfl) (by decide) ?_
                            refine lv_aload_n hx hb dX9_count_145 rfl (lv_at hl 0 rfl) ?_
                            refine va_get (D := D) (ci := 7) (v := .int z_typed) (C := RX9) (T := TX9) (N := 14) hx hb hts inX9 hown hK.1 hP 0 rfl rfl 4 (by decide) (hts _ tw_689) (fun _ h9 => h9) rfl dX9_count_146 ?_
                            exact retMi C (u1, u2, u3) hw hP hD hS dX9_count_149
                          · replace hw := hw.2 hc12
                            refine lv_tableOut (tgt := 150) hx hb dX9_count_5 (by have := lv_neT hc0 (a := 0) (by decide); have := lv_neT hc1 (a := 1) (by decide); have := lv_neT hc2 (a := 2) (by decide); have := lv_neT hc3 (a := 3) (by decide); have := lv_neT hc4 (a := 4) (by decide); have := lv_neT hc5 (a := 5) (by decide); have := lv_neT hc6 (a := 6) (by decide); have := lv_neT hc7 (a := 7) (by decide); have := lv_neT hc8 (a := 8) (by decide); have := lv_neT hc9 (a := 9) (by decide); have := lv_neT hc10 (a := 10) (by decide); have := lv_neT hc11 (a := 11) (by decide); have := lv_neT hc12 (a := 12) (by decide); omega) (by decide) ?_
                            refine lv_bipush (v := (-2)) hx hb dX9_count_150 (by decide) ?_
                            exact retMi C (u1, u2, u3) hw hP hD hS dX9_count_152
