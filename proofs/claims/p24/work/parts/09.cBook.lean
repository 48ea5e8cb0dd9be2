/-! contracts, printed (gen.py) -/
theorem ce_X1_become : CE yX1_become cX1_become 2 none 1 := ⟨tw_216, tw_18, ⟨by decide, by decide⟩, ce_par (by decide +kernel)⟩
theorem cv_X1_become : CV yX1_become := ⟨tw_214, tw_215⟩
theorem ce_X1_quires : CE yX1_quires cX1_quires 1 (some .int) 0 := ⟨tw_251, tw_18, ⟨by decide, by decide⟩, ce_par (by decide +kernel)⟩
theorem cv_X1_quires : CV yX1_quires := ⟨tw_249, tw_250⟩
theorem ce_X1_hasQuire : CE yX1_hasQuire cX1_hasQuire 2 (some .boolean) 1 := ⟨tw_406, tw_18, ⟨by decide, by decide⟩, ce_par (by decide +kernel)⟩
theorem cv_X1_hasQuire : CV yX1_hasQuire := ⟨tw_404, tw_405⟩
theorem ce_X1_addQuire : CE yX1_addQuire cX1_addQuire 4 none 3 := ⟨tw_366, tw_18, ⟨by decide, by decide⟩, ce_par (by decide +kernel)⟩
theorem cv_X1_addQuire : CV yX1_addQuire := ⟨tw_364, tw_365⟩
theorem ce_X1_dropQuire : CE yX1_dropQuire cX1_dropQuire 2 none 1 := ⟨tw_410, tw_18, ⟨by decide, by decide⟩, ce_par (by decide +kernel)⟩
theorem cv_X1_dropQuire : CV yX1_dropQuire := ⟨tw_408, tw_409⟩
theorem ce_X1_starredQuires : CE yX1_starredQuires cX1_starredQuires 3 (some .int) 0 := ⟨tw_604, tw_18, ⟨by decide, by decide⟩, ce_par (by decide +kernel)⟩
theorem cv_X1_starredQuires : CV yX1_starredQuires := ⟨tw_602, tw_603⟩
theorem ce_X1_sameAhead : CE yX1_sameAhead cX1_sameAhead 4 (some .int) 1 := ⟨tw_504, tw_18, ⟨by decide, by decide⟩, ce_par (by decide +kernel)⟩
theorem cv_X1_sameAhead : CV yX1_sameAhead := ⟨tw_502, tw_503⟩
theorem ce_X1_lastLettersAhead : CE yX1_lastLettersAhead cX1_lastLettersAhead 3 (some .int) 1 := ⟨tw_380, tw_18, ⟨by decide, by decide⟩, ce_par (by decide +kernel)⟩
theorem cv_X1_lastLettersAhead : CV yX1_lastLettersAhead := ⟨tw_378, tw_379⟩
theorem ce_X1_firstLeaf : CE yX1_firstLeaf cX1_firstLeaf 4 (some .int) 1 := ⟨tw_398, tw_18, ⟨by decide, by decide⟩, ce_par (by decide +kernel)⟩
theorem cv_X1_firstLeaf : CV yX1_firstLeaf := ⟨tw_396, tw_397⟩
theorem ce_X1_leaves : CE yX1_leaves cX1_leaves 1 (some .int) 0 := ⟨tw_394, tw_18, ⟨by decide, by decide⟩, ce_par (by decide +kernel)⟩
theorem cv_X1_leaves : CV yX1_leaves := ⟨tw_392, tw_393⟩
theorem ce_X1_hasLeaf : CE yX1_hasLeaf cX1_hasLeaf 2 (some .boolean) 1 := ⟨tw_422, tw_18, ⟨by decide, by decide⟩, ce_par (by decide +kernel)⟩
theorem cv_X1_hasLeaf : CV yX1_hasLeaf := ⟨tw_420, tw_421⟩
theorem ce_X1_quireOf : CE yX1_quireOf cX1_quireOf 4 (some .int) 1 := ⟨tw_431, tw_18, ⟨by decide, by decide⟩, ce_par (by decide +kernel)⟩
theorem cv_X1_quireOf : CV yX1_quireOf := ⟨tw_429, tw_430⟩
theorem ce_X1_numberOf : CE yX1_numberOf cX1_numberOf 2 (some .int) 1 := ⟨tw_435, tw_18, ⟨by decide, by decide⟩, ce_par (by decide +kernel)⟩
theorem cv_X1_numberOf : CV yX1_numberOf := ⟨tw_433, tw_434⟩
theorem ce_X1_signedIn : CE yX1_signedIn cX1_signedIn 4 (some .int) 1 := ⟨tw_259, tw_18, ⟨by decide, by decide⟩, ce_par (by decide +kernel)⟩
theorem cv_X1_signedIn : CV yX1_signedIn := ⟨tw_257, tw_258⟩
theorem ce_X1_signedLeaves : CE yX1_signedLeaves cX1_signedLeaves 3 (some .int) 0 := ⟨tw_247, tw_18, ⟨by decide, by decide⟩, ce_par (by decide +kernel)⟩
theorem cv_X1_signedLeaves : CV yX1_signedLeaves := ⟨tw_245, tw_246⟩
theorem ce_X1_isLost : CE yX1_isLost cX1_isLost 2 (some .boolean) 1 := ⟨tw_427, tw_18, ⟨by decide, by decide⟩, ce_par (by decide +kernel)⟩
theorem cv_X1_isLost : CV yX1_isLost := ⟨tw_425, tw_426⟩
theorem ce_X1_turnLost : CE yX1_turnLost cX1_turnLost 3 none 1 := ⟨tw_439, tw_18, ⟨by decide, by decide⟩, ce_par (by decide +kernel)⟩
theorem cv_X1_turnLost : CV yX1_turnLost := ⟨tw_437, tw_438⟩
theorem ce_X1_thereIn : CE yX1_thereIn cX1_thereIn 2 (some .int) 1 := ⟨tw_500, tw_18, ⟨by decide, by decide⟩, ce_par (by decide +kernel)⟩
theorem cv_X1_thereIn : CV yX1_thereIn := ⟨tw_498, tw_499⟩
theorem ce_X1_thereAhead : CE yX1_thereAhead cX1_thereAhead 7 (some .int) 1 := ⟨tw_448, tw_18, ⟨by decide, by decide⟩, ce_par (by decide +kernel)⟩
theorem cv_X1_thereAhead : CV yX1_thereAhead := ⟨tw_446, tw_447⟩
theorem ce_X1_leavesThere : CE yX1_leavesThere cX1_leavesThere 1 (some .int) 0 := ⟨tw_444, tw_18, ⟨by decide, by decide⟩, ce_par (by decide +kernel)⟩
theorem cv_X1_leavesThere : CV yX1_leavesThere := ⟨tw_442, tw_443⟩
theorem ce_X1_leafSigned : CE yX1_leafSigned cX1_leafSigned 4 (some .int) 2 := ⟨tw_527, tw_18, ⟨by decide, by decide⟩, ce_par (by decide +kernel)⟩
theorem cv_X1_leafSigned : CV yX1_leafSigned := ⟨tw_525, tw_526⟩
set_option maxHeartbeats 4000000 in
set_option maxRecDepth 100000 in
theorem c_X1_quires (l : Launch) (D : va_G) (kI kC kB : ClassId) (a : AdT) (z_alphabet_out : Int32) (z_signing : Int32) (z_signs : RowT) (z_sizes : RowT) (z_lost : RowT) (z_pile : RowT) (Post : Int32 → Prop) (hw : wp_X1_quires z_signs Post) : CR l D kI kC kB yX1_quires cX1_quires 1 (some .int) ({ frames := 1, cells := 0, slots := 0, locals := 20 } : Room) [.ref (a 0)] (cwBook kI a z_alphabet_out z_signing z_signs z_sizes z_lost z_pile) Post := by
  refine entR (by decide) (Nat.le_of_ble_eq_true rfl) ?_
  intro p e s m args below meth c ls C hP hl
  replace hl : lv_has ls 1 [(0, .ref (a 0))] := hl
  obtain ⟨hx, hb, hr, hml, hown, hts, hlocks, hK⟩ := id C
  refine lv_aload_n hx hb dX1_quires_0 rfl (lv_at hl 0 rfl) ?_
  refine va_get (D := D) (ci := 1) (v := .ref (a 2)) (C := RX1) (T := TX1) (N := 6) hx hb hts inX1 hown hK.1 hP 0 rfl rfl 2 (by decide) (hts _ tw_76) (fun _ h9 => h9) rfl dX1_quires_1 ?_
  refine kRV (As := []) (rest := []) (q0 := 2) C (c_X4_length l D kI kC kB (fun i => a (i + 2)) z_signs _ hw) ⟨rfl, rfl⟩ ce_X4_length cv_X4_length tw_252 ⟨Nat.le_of_ble_eq_true rfl, Nat.le_of_ble_eq_true rfl⟩ hP [2, 3] rfl rfl rfl rfl hl.1 rfl (Nat.le_of_ble_eq_true rfl) ⟨Nat.zero_le _, Nat.zero_le _⟩ dX1_quires_4 (fun r1 hw => ?_)
  exact retR C hw dX1_quires_7
set_option maxHeartbeats 4000000 in
set_option maxRecDepth 100000 in
theorem c_X1_signedIn (l : Launch) (D : va_G) (kI kC kB : ClassId) (a : AdT) (z_alphabet_out : Int32) (z_signing : Int32) (z_signs : RowT) (z_sizes : RowT) (z_lost : RowT) (z_pile : RowT) (p1 : Int32) (Post : Int32 → Prop) (hw : wp_X1_signedIn z_signing z_sizes p1 Post) : CR l D kI kC kB yX1_signedIn cX1_signedIn 4 (some .int) ({ frames := 1, cells := 0, slots := 0, locals := 21 } : Room) [.ref (a 0), .int p1] (cwBook kI a z_alphabet_out z_signing z_signs z_sizes z_lost z_pile) Post := by
  refine entR (by decide) (Nat.le_of_ble_eq_true rfl) ?_
  intro p e s m args below meth c ls C hP hl
  replace hl : lv_has ls 4 [(0, .ref (a 0)), (1, .int p1)] := hl
  obtain ⟨hx, hb, hr, hml, hown, hts, hlocks, hK⟩ := id C
  refine lv_aload_n hx hb dX1_signedIn_0 rfl (lv_at hl 0 rfl) ?_
  refine va_get (D := D) (ci := 1) (v := .ref (a 4)) (C := RX1) (T := TX1) (N := 6) hx hb hts inX1 hown hK.1 hP 0 rfl rfl 3 (by decide) (hts _ tw_80) (fun _ h9 => h9) rfl dX1_signedIn_1 ?_
  refine lv_iload_n hx hb dX1_signedIn_4 rfl (lv_at hl 1 rfl) ?_
  refine kRV (As := [.int p1]) (rest := []) (q0 := 4) C (c_X4_at l D kI kC kB (fun i => a (i + 4)) z_sizes p1 _ hw) ⟨rfl, rfl⟩ ce_X4_at cv_X4_at tw_260 ⟨Nat.le_of_ble_eq_true rfl, Nat.le_of_ble_eq_true rfl⟩ hP [4, 5] rfl rfl rfl rfl hl.1 rfl (Nat.le_of_ble_eq_true rfl) ⟨Nat.zero_le _, Nat.zero_le _⟩ dX1_signedIn_5 (fun r1 hw => ?_)
  refine lv_istore_n (lv' := [(2, .int r1), (0, .ref (a 0)), (1, .int p1)]) hx hb dX1_signedIn_8 rfl hl (by decide) rfl (fun ls hl => ?_)
  refine lv_iload_n hx hb dX1_signedIn_9 rfl (lv_at hl 0 rfl) ?_
  refine lv_iconst (v := (nI 1)) hx hb dX1_signedIn_10 (by decide) ?_
  refine lv_iadd hx hb dX1_signedIn_11 ?_
  refine lv_iconst (v := (nI 2)) hx hb dX1_signedIn_12 (by decide) ?_
  refine lv_idiv hx hb dX1_signedIn_13 (by decide) ?_
  refine lv_topi (fun y2 ey2 => ?_)
  replace hw := hw y2 ey2
  refine lv_istore_n (lv' := [(3, .int y2), (2, .int r1), (0, .ref (a 0)), (1, .int p1)]) hx hb dX1_signedIn_14 rfl hl (by decide) rfl (fun ls hl => ?_)
  refine lv_aload_n hx hb dX1_signedIn_15 rfl (lv_at hl 2 rfl) ?_
  refine va_get (D := D) (ci := 1) (v := .int z_signing) (C := RX1) (T := TX1) (N := 6) hx hb hts inX1 hown hK.1 hP 0 rfl rfl 1 (by decide) (hts _ tw_74) (fun _ h9 => h9) rfl dX1_signedIn_16 ?_
  by_cases hc0 : z_signing = 0
  · replace hw := hw.1 hc0
    refine lv_lookup (tgt := 44) (off := 25) hx hb dX1_signedIn_19 rfl (by rw [hc0]; rfl) (by decide) ?_
    refine lv_iload_n hx hb dX1_signedIn_44 rfl (lv_at hl 0 rfl) ?_
    exact retR C hw dX1_signedIn_45
  · replace hw := hw.2 hc0
    by_cases hc1 : z_signing = 1
    · replace hw := hw.1 hc1
      refine lv_lookup (tgt := 46) (off := 27) hx hb dX1_signedIn_19 rfl (by rw [hc1]; rfl) (by decide) ?_
      refine lv_iload_n hx hb dX1_signedIn_46 rfl (lv_at hl 0 rfl) ?_
      refine lv_iconst (v := (nI 1)) hx hb dX1_signedIn_47 (by decide) ?_
      refine lv_iadd hx hb dX1_signedIn_48 ?_
      refine lv_iload_n hx hb dX1_signedIn_49 rfl (lv_at hl 1 rfl) ?_
      refine va_mmin hx hb (by rw [C.2.2.2.1]; exact hl.1.symm) hown (hts _ tw_261) (hts _ tw_226) (hts _ tw_21) (hts _ tw_227) (Nat.le_of_ble_eq_true rfl) (Nat.le_of_ble_eq_true rfl) (Nat.zero_le _) (Nat.zero_le _) dX1_signedIn_50 ?_
      exact retR C hw dX1_signedIn_53
    · replace hw := hw.2 hc1
      refine lv_lookup (tgt := 54) (off := 35) hx hb dX1_signedIn_19 rfl (by show Op.lookupswitch.offset [(0, 25), (1, 27)] 35 _ = _; rw [lv_osw hc0 (a := 0) (by decide)]; rw [lv_osw hc1 (a := 1) (by decide)]; rfl) (by decide) ?_
      refine lv_iload_n hx hb dX1_signedIn_54 rfl (lv_at hl 1 rfl) ?_
      exact retR C hw dX1_signedIn_55
set_option maxHeartbeats 4000000 in
set_option maxRecDepth 100000 in
theorem cl_X1_signedLeaves_4 (l : Launch) (D : va_G) (kI kC kB : ClassId) (a : AdT) (z_alphabet_out : Int32) (z_signing : Int32) (z_signs : RowT) (z_sizes : RowT) (z_lost : RowT) (z_pile : RowT) (Post : Int32 → Prop) {p : Program} {e : Env} {s : State} {m : MethodId} {args : Array Value} {below : List Frame} {meth : Method} {c : Code} (C : CtxT p s m args meth c cX1_signedLeaves 3 (some .int) yX1_signedLeaves.cls D kI kC kB) (hP : va_P D vwCl (cwBook kI a z_alphabet_out z_signing z_signs z_sizes z_lost z_pile) s.heap) : ∀ (n : Nat), ∀ (v1 : Int32) (v2 : Int32), wl_X1_signedLeaves_4 z_signing z_signs z_sizes Post n v1 v2 → ∀ (ls : Array Slot), lv_has ls 3 [(0, .ref (a 0)), (1, .int v1), (2, .int v2)] → W p l e ({ frames := 2, cells := 0, slots := 0, locals := 44 } : Room) s m args below meth c s.heap [] 0 0 (MQ below (vp_Si Post) args s 0 0 (fun _ => False)) (F0 m 4 ls []) := by
  obtain ⟨hx, hb, hr, hml, hown, hts, hlocks, hK⟩ := id C
  intro n
  induction n with
  | zero => intro v1 v2 hw; exact hw.elim
  | succ n ih =>
    intro v1 v2 hw ls hl
    refine lv_iload_n hx hb dX1_signedLeaves_4 rfl (lv_at hl 2 rfl) ?_
    refine lv_aload_n hx hb dX1_signedLeaves_5 rfl (lv_at hl 0 rfl) ?_
    refine kRV (As := []) (rest := [.int v2]) (q0 := 0) C (c_X1_quires l D kI kC kB a z_alphabet_out z_signing z_signs z_sizes z_lost z_pile _ hw) ⟨rfl, rfl⟩ ce_X1_quires cv_X1_quires tw_248 ⟨Nat.le_of_ble_eq_true rfl, Nat.le_of_ble_eq_true rfl⟩ hP [0, 1, 2, 3, 4, 5, 6, 7, 8, 9] rfl rfl rfl rfl hl.1 rfl (Nat.le_of_ble_eq_true rfl) ⟨Nat.zero_le _, Nat.zero_le _⟩ dX1_signedLeaves_6 (fun r1 hw => ?_)
    refine lv_icmp_ge (tgt := 26) hx hb dX1_signedLeaves_9 (by decide) (fun hc => ?_) (fun hc => ?_)
    · replace hw := hw.1 hc
      refine lv_iload_n hx hb dX1_signedLeaves_26 rfl (lv_at hl 1 rfl) ?_
      exact retR C hw dX1_signedLeaves_27
    · replace hw := hw.2 hc
      refine lv_iload_n hx hb dX1_signedLeaves_12 rfl (lv_at hl 1 rfl) ?_
      refine lv_aload_n hx hb dX1_signedLeaves_13 rfl (lv_at hl 0 rfl) ?_
      refine lv_iload_n hx hb dX1_signedLeaves_14 rfl (lv_at hl 2 rfl) ?_
      refine kRV (As := [.int v2]) (rest := [.int v1]) (q0 := 0) C (c_X1_signedIn l D kI kC kB a z_alphabet_out z_signing z_signs z_sizes z_lost z_pile v2 _ hw) ⟨rfl, rfl⟩ ce_X1_signedIn cv_X1_signedIn tw_256 ⟨Nat.le_of_ble_eq_true rfl, Nat.le_of_ble_eq_true rfl⟩ hP [0, 1, 2, 3, 4, 5, 6, 7, 8, 9] rfl rfl rfl rfl hl.1 rfl (Nat.le_of_ble_eq_true rfl) ⟨Nat.zero_le _, Nat.zero_le _⟩ dX1_signedLeaves_15 (fun r2 hw => ?_)
      refine lv_iadd hx hb dX1_signedLeaves_18 ?_
      refine lv_topi (fun y3 ey3 => ?_)
      replace hw := hw y3 ey3
      refine lv_istore_n (lv' := [(1, .int y3), (0, .ref (a 0)), (2, .int v2)]) hx hb dX1_signedLeaves_19 rfl hl (by decide) rfl (fun ls hl => ?_)
      refine lv_iinc (v := (v2 + nI 1)) (lv' := [(2, .int (v2 + nI 1)), (1, .int y3), (0, .ref (a 0))]) hx hb dX1_signedLeaves_20 hl (k := 2) rfl rfl (by decide) rfl (fun ls hl => ?_)
      refine lv_goto (tgt := 4) hx hb dX1_signedLeaves_23 (by decide) ?_
      exact ih y3 (v2 + nI 1) hw ls (lv_sub hl [2, 1, 0] rfl)
set_option maxHeartbeats 4000000 in
set_option maxRecDepth 100000 in
theorem c_X1_signedLeaves (l : Launch) (D : va_G) (kI kC kB : ClassId) (a : AdT) (z_alphabet_out : Int32) (z_signing : Int32) (z_signs : RowT) (z_sizes : RowT) (z_lost : RowT) (z_pile : RowT) (Post : Int32 → Prop) (hw : wp_X1_signedLeaves z_signing z_signs z_sizes Post) : CR l D kI kC kB yX1_signedLeaves cX1_signedLeaves 3 (some .int) ({ frames := 2, cells := 0, slots := 0, locals := 44 } : Room) [.ref (a 0)] (cwBook kI a z_alphabet_out z_signing z_signs z_sizes z_lost z_pile) Post := by
  refine entR (by decide) (Nat.le_of_ble_eq_true rfl) ?_
  intro p e s m args below meth c ls C hP hl
  replace hl : lv_has ls 3 [(0, .ref (a 0))] := hl
  obtain ⟨hx, hb, hr, hml, hown, hts, hlocks, hK⟩ := id C
  refine lv_iconst (v := (nI 0)) hx hb dX1_signedLeaves_0 (by decide) ?_
  refine lv_istore_n (lv' := [(1, .int (nI 0)), (0, .ref (a 0))]) hx hb dX1_signedLeaves_1 rfl hl (by decide) rfl (fun ls hl => ?_)
  refine lv_iconst (v := (nI 0)) hx hb dX1_signedLeaves_2 (by decide) ?_
  refine lv_istore_n (lv' := [(2, .int (nI 0)), (1, .int (nI 0)), (0, .ref (a 0))]) hx hb dX1_signedLeaves_3 rfl hl (by decide) rfl (fun ls hl => ?_)
  obtain ⟨n9, hw⟩ := hw
  exact cl_X1_signedLeaves_4 l D kI kC kB a z_alphabet_out z_signing z_signs z_sizes z_lost z_pile Post C hP n9 (nI 0) (nI 0) hw ls (lv_sub hl [2, 1, 0] rfl)
set_option maxHeartbeats 4000000 in
set_option maxRecDepth 100000 in
theorem c_X1_addQuire (l : Launch) (D : va_G) (kI kC kB : ClassId) (a : AdT) (z_alphabet_out : Int32) (z_signing : Int32) (z_signs : RowT) (z_sizes : RowT) (z_lost : RowT) (z_pile : RowT) (sz : Nat) (p1 : Int32) (p2 : Int32) (p3 : Int32) (Post : RowT → RowT → RowT → RowT → Prop) (hw : wp_X1_addQuire z_signs z_sizes z_lost z_pile p1 p2 p3 Post) : CMv l D kI kC kB yX1_addQuire cX1_addQuire 4 none ({ frames := 2, cells := 0, slots := 0, locals := 45 } : Room) [.ref (a 0), .int p1, .int p2, .int p3] (cwBook kI a z_alphabet_out z_signing z_signs z_sizes z_lost z_pile) sz (fun (u : RowT × RowT × RowT × RowT) => Post u.1 u.2.1 u.2.2.1 u.2.2.2) (fun u : RowT × RowT × RowT × RowT => (cwBook kI a z_alphabet_out z_signing u.1 u.2.1 u.2.2.1 u.2.2.2)) := by
  refine entMv (by decide) (Nat.le_of_ble_eq_true rfl) ?_
  intro p e s m args below meth c ls A C hA hP hD hS hl
  obtain ⟨H, hHe⟩ : ∃ H, H = s.heap := ⟨_, rfl⟩
  obtain ⟨locs, hlo⟩ : ∃ lo : List Loc, lo = [] := ⟨_, rfl⟩
  have hS : va_S A s.heap H locs := by rw [hHe, hlo]; exact hS
  rw [← hHe] at hP
  suffices hg : W p l e ({ frames := 2, cells := 0, slots := 0, locals := 45 } : Room) s m args below meth c H locs 0 0 (MQ below (va_Qv (fun (u : RowT × RowT × RowT × RowT) => Post u.1 u.2.1 u.2.2.1 u.2.2.2) (BB D A (fun u : RowT × RowT × RowT × RowT => (cwBook kI a z_alphabet_out z_signing u.1 u.2.1 u.2.2.1 u.2.2.2))) A) args s 0 0 A) (F0 m 0 ls []) by rw [hHe, hlo] at hg; exact hg
  replace hl : lv_has ls 4 [(0, .ref (a 0)), (1, .int p1), (2, .int p2), (3, .int p3)] := hl
  obtain ⟨hx, hb, hr, hml, hown, hts, hlocks, hK⟩ := id C
  refine lv_aload_n hx hb dX1_addQuire_0 rfl (lv_at hl 0 rfl) ?_
  refine va_get (D := D) (ci := 1) (v := .ref (a 2)) (C := RX1) (T := TX1) (N := 6) hx hb hts inX1 hown hK.1 hP 0 rfl rfl 2 (by decide) (hts _ tw_76) (fun _ h9 => h9) rfl dX1_addQuire_1 ?_
  refine lv_iload_n hx hb dX1_addQuire_4 rfl (lv_at hl 1 rfl) ?_
  refine lv_iload_n hx hb dX1_addQuire_5 rfl (lv_at hl 2 rfl) ?_
  refine kMVv (q0 := 2) (As := [.int p1, .int p2]) (rest := []) C (c_X4_addAt l D kI kC kB (fun i => a (i + 2)) z_signs H.size p1 p2 _ hw) ⟨rfl, rfl⟩ ce_X4_addAt cv_X4_addAt tw_367 ⟨Nat.le_of_ble_eq_true rfl, Nat.le_of_ble_eq_true rfl⟩ hP hD hS hA [2, 3] rfl rfl (fun _ => rfl) rfl rfl rfl hl.1 rfl (Nat.le_of_ble_eq_true rfl) ⟨Nat.zero_le _, Nat.zero_le _⟩ dX1_addQuire_6 (fun u H locs hw hP hD hS => ?_)
  obtain ⟨u1, rfl⟩ : ∃ z, z = u := ⟨_, rfl⟩
  try dsimp only at hw
  replace hP : va_P D vwCl (cwBook kI a z_alphabet_out z_signing u1 z_sizes z_lost z_pile) H := hP
  replace hD : va_D A (cwBook kI a z_alphabet_out z_signing u1 z_sizes z_lost z_pile) := hD
  refine lv_aload_n hx hb dX1_addQuire_9 rfl (lv_at hl 0 rfl) ?_
  refine va_get (D := D) (ci := 1) (v := .ref (a 4)) (C := RX1) (T := TX1) (N := 6) hx hb hts inX1 hown hK.1 hP 0 rfl rfl 3 (by decide) (hts _ tw_80) (fun _ h9 => h9) rfl dX1_addQuire_10 ?_
  refine lv_iload_n hx hb dX1_addQuire_13 rfl (lv_at hl 1 rfl) ?_
  refine lv_iload_n hx hb dX1_addQuire_14 rfl (lv_at hl 3 rfl) ?_
  refine kMVv (q0 := 4) (As := [.int p1, .int p3]) (rest := []) C (c_X4_addAt l D kI kC kB (fun i => a (i + 4)) z_sizes H.size p1 p3 _ hw) ⟨rfl, rfl⟩ ce_X4_addAt cv_X4_addAt tw_367 ⟨Nat.le_of_ble_eq_true rfl, Nat.le_of_ble_eq_true rfl⟩ hP hD hS hA [4, 5] rfl rfl (fun _ => rfl) rfl rfl rfl hl.1 rfl (Nat.le_of_ble_eq_true rfl) ⟨Nat.zero_le _, Nat.zero_le _⟩ dX1_addQuire_15 (fun u H locs hw hP hD hS => ?_)
  obtain ⟨u2, rfl⟩ : ∃ z, z = u := ⟨_, rfl⟩
  try dsimp only at hw
  replace hP : va_P D vwCl (cwBook kI a z_alphabet_out z_signing u1 u2 z_lost z_pile) H := hP
  replace hD : va_D A (cwBook kI a z_alphabet_out z_signing u1 u2 z_lost z_pile) := hD
  refine lv_aload_n hx hb dX1_addQuire_18 rfl (lv_at hl 0 rfl) ?_
  refine va_get (D := D) (ci := 1) (v := .ref (a 6)) (C := RX1) (T := TX1) (N := 6) hx hb hts inX1 hown hK.1 hP 0 rfl rfl 4 (by decide) (hts _ tw_83) (fun _ h9 => h9) rfl dX1_addQuire_19 ?_
  refine lv_iload_n hx hb dX1_addQuire_22 rfl (lv_at hl 1 rfl) ?_
  refine lv_iconst (v := (nI 0)) hx hb dX1_addQuire_23 (by decide) ?_
  refine kMVv (q0 := 6) (As := [.int p1, .int (nI 0)]) (rest := []) C (c_X4_addAt l D kI kC kB (fun i => a (i + 6)) z_lost H.size p1 (nI 0) _ hw) ⟨rfl, rfl⟩ ce_X4_addAt cv_X4_addAt tw_367 ⟨Nat.le_of_ble_eq_true rfl, Nat.le_of_ble_eq_true rfl⟩ hP hD hS hA [6, 7] rfl rfl (fun _ => rfl) rfl rfl rfl hl.1 rfl (Nat.le_of_ble_eq_true rfl) ⟨Nat.zero_le _, Nat.zero_le _⟩ dX1_addQuire_24 (fun u H locs hw hP hD hS => ?_)
  obtain ⟨u3, rfl⟩ : ∃ z, z = u := ⟨_, rfl⟩
  try dsimp only at hw
  replace hP : va_P D vwCl (cwBook kI a z_alphabet_out z_signing u1 u2 u3 z_pile) H := hP
  replace hD : va_D A (cwBook kI a z_alphabet_out z_signing u1 u2 u3 z_pile) := hD
  refine lv_aload_n hx hb dX1_addQuire_27 rfl (lv_at hl 0 rfl) ?_
  refine va_get (D := D) (ci := 1) (v := .ref (a 8)) (C := RX1) (T := TX1) (N := 6) hx hb hts inX1 hown hK.1 hP 0 rfl rfl 5 (by decide) (hts _ tw_84) (fun _ h9 => h9) rfl dX1_addQuire_28 ?_
  refine kMVv (q0 := 8) (As := []) (rest := []) C (c_X4_empty l D kI kC kB (fun i => a (i + 8)) z_pile H.size _ hw) ⟨rfl, rfl⟩ ce_X4_empty cv_X4_empty tw_368 ⟨Nat.le_of_ble_eq_true rfl, Nat.le_of_ble_eq_true rfl⟩ hP hD hS hA [8, 9] rfl rfl (fun _ => rfl) rfl rfl rfl hl.1 rfl (Nat.le_of_ble_eq_true rfl) ⟨Nat.zero_le _, Nat.zero_le _⟩ dX1_addQuire_31 (fun u H locs hw hP hD hS => ?_)
  obtain ⟨u4, rfl⟩ : ∃ z, z = u := ⟨_, rfl⟩
  try dsimp only at hw
  replace hP : va_P D vwCl (cwBook kI a z_alphabet_out z_signing u1 u2 u3 u4) H := hP
  replace hD : va_D A (cwBook kI a z_alphabet_out z_signing u1 u2 u3 u4) := hD
  exact retMv C (u1, u2, u3, u4) hw hP hD hS dX1_addQuire_34
set_option maxHeartbeats 4000000 in
set_option maxRecDepth 100000 in
theorem cl_X1_lastLettersAhead_4 (l : Launch) (D : va_G) (kI kC kB : ClassId) (a : AdT) (z_alphabet_out : Int32) (z_signing : Int32) (z_signs : RowT) (z_sizes : RowT) (z_lost : RowT) (z_pile : RowT) (Post : Int32 → Prop) {p : Program} {e : Env} {s : State} {m : MethodId} {args : Array Value} {below : List Frame} {meth : Method} {c : Code} (C : CtxT p s m args meth c cX1_lastLettersAhead 3 (some .int) yX1_lastLettersAhead.cls D kI kC kB) (hP : va_P D vwCl (cwBook kI a z_alphabet_out z_signing z_signs z_sizes z_lost z_pile) s.heap) : ∀ (n : Nat), ∀ (v2 : Int32), wl_X1_lastLettersAhead_4 z_signs Post n v2 → ∀ (ls : Array Slot), lv_has ls 3 [(0, .ref (a 0)), (2, .int v2)] → W p l e ({ frames := 1, cells := 0, slots := 0, locals := 21 } : Room) s m args below meth c s.heap [] 0 0 (MQ below (vp_Si Post) args s 0 0 (fun _ => False)) (F0 m 4 ls []) := by
  obtain ⟨hx, hb, hr, hml, hown, hts, hlocks, hK⟩ := id C
  intro n
  induction n with
  | zero => intro v2 hw; exact hw.elim
  | succ n ih =>
    intro v2 hw ls hl
    refine lv_iload_n hx hb dX1_lastLettersAhead_4 rfl (lv_at hl 1 rfl) ?_
    refine lv_if_lt (tgt := 37) hx hb dX1_lastLettersAhead_5 (by decide) (fun hc => ?_) (fun hc => ?_)
    · replace hw := hw.1 hc
      refine lv_iconst (v := (-1)) hx hb dX1_lastLettersAhead_37 (by decide) ?_
      exact retR C hw dX1_lastLettersAhead_38
    · replace hw := hw.2 hc
      refine lv_aload_n hx hb dX1_lastLettersAhead_8 rfl (lv_at hl 0 rfl) ?_
      refine va_get (D := D) (ci := 1) (v := .ref (a 2)) (C := RX1) (T := TX1) (N := 6) hx hb hts inX1 hown hK.1 hP 0 rfl rfl 2 (by decide) (hts _ tw_76) (fun _ h9 => h9) rfl dX1_lastLettersAhead_9 ?_
      refine lv_iload_n hx hb dX1_lastLettersAhead_12 rfl (lv_at hl 1 rfl) ?_
      refine kRV (As := [.int v2]) (rest := []) (q0 := 2) C (c_X4_at l D kI kC kB (fun i => a (i + 2)) z_signs v2 _ hw) ⟨rfl, rfl⟩ ce_X4_at cv_X4_at tw_260 ⟨Nat.le_of_ble_eq_true rfl, Nat.le_of_ble_eq_true rfl⟩ hP [2, 3] rfl rfl rfl rfl hl.1 rfl (Nat.le_of_ble_eq_true rfl) ⟨Nat.zero_le _, Nat.zero_le _⟩ dX1_lastLettersAhead_13 (fun r1 hw => ?_)
      refine kRS (As := [.int r1]) (rest := []) C (c_X5_isStarred l D kI kC kB  r1 _ hw) ⟨rfl, rfl⟩ ce_X5_isStarred cv_X5_isStarred tw_381 ⟨Nat.le_of_ble_eq_true rfl, Nat.le_of_ble_eq_true rfl⟩ hP [] rfl hl.1 rfl (Nat.le_of_ble_eq_true rfl) ⟨Nat.zero_le _, Nat.zero_le _⟩ dX1_lastLettersAhead_16 (fun r2 hw => ?_)
      refine lv_if_ne (tgt := 31) hx hb dX1_lastLettersAhead_19 (by decide) (fun hc => ?_) (fun hc => ?_)
      · replace hw := hw.2 hc
        refine lv_iinc (v := (v2 + (-1))) (lv' := [(2, .int (v2 + (-1))), (0, .ref (a 0))]) hx hb dX1_lastLettersAhead_31 hl (k := 1) rfl rfl (by decide) rfl (fun ls hl => ?_)
        refine lv_goto (tgt := 4) hx hb dX1_lastLettersAhead_34 (by decide) ?_
        exact ih (v2 + (-1)) hw ls (lv_sub hl [1, 0] rfl)
      · replace hw := hw.1 hc
        refine lv_aload_n hx hb dX1_lastLettersAhead_22 rfl (lv_at hl 0 rfl) ?_
        refine va_get (D := D) (ci := 1) (v := .ref (a 2)) (C := RX1) (T := TX1) (N := 6) hx hb hts inX1 hown hK.1 hP 0 rfl rfl 2 (by decide) (hts _ tw_76) (fun _ h9 => h9) rfl dX1_lastLettersAhead_23 ?_
        refine lv_iload_n hx hb dX1_lastLettersAhead_26 rfl (lv_at hl 1 rfl) ?_
        refine kRV (As := [.int v2]) (rest := []) (q0 := 2) C (c_X4_at l D kI kC kB (fun i => a (i + 2)) z_signs v2 _ hw) ⟨rfl, rfl⟩ ce_X4_at cv_X4_at tw_260 ⟨Nat.le_of_ble_eq_true rfl, Nat.le_of_ble_eq_true rfl⟩ hP [2, 3] rfl rfl rfl rfl hl.1 rfl (Nat.le_of_ble_eq_true rfl) ⟨Nat.zero_le _, Nat.zero_le _⟩ dX1_lastLettersAhead_27 (fun r3 hw => ?_)
        exact retR C hw dX1_lastLettersAhead_30
set_option maxHeartbeats 4000000 in
set_option maxRecDepth 100000 in
theorem c_X1_lastLettersAhead (l : Launch) (D : va_G) (kI kC kB : ClassId) (a : AdT) (z_alphabet_out : Int32) (z_signing : Int32) (z_signs : RowT) (z_sizes : RowT) (z_lost : RowT) (z_pile : RowT) (p1 : Int32) (Post : Int32 → Prop) (hw : wp_X1_lastLettersAhead z_signs p1 Post) : CR l D kI kC kB yX1_lastLettersAhead cX1_lastLettersAhead 3 (some .int) ({ frames := 1, cells := 0, slots := 0, locals := 21 } : Room) [.ref (a 0), .int p1] (cwBook kI a z_alphabet_out z_signing z_signs z_sizes z_lost z_pile) Post := by
  refine entR (by decide) (Nat.le_of_ble_eq_true rfl) ?_
  intro p e s m args below meth c ls C hP hl
  replace hl : lv_has ls 3 [(0, .ref (a 0)), (1, .int p1)] := hl
  obtain ⟨hx, hb, hr, hml, hown, hts, hlocks, hK⟩ := id C
  refine lv_iload_n hx hb dX1_lastLettersAhead_0 rfl (lv_at hl 1 rfl) ?_
  refine lv_iconst (v := (nI 1)) hx hb dX1_lastLettersAhead_1 (by decide) ?_
  refine lv_isub hx hb dX1_lastLettersAhead_2 ?_
  refine lv_topi (fun y4 ey4 => ?_)
  replace hw := hw y4 ey4
  refine lv_istore_n (lv' := [(2, .int y4), (0, .ref (a 0)), (1, .int p1)]) hx hb dX1_lastLettersAhead_3 rfl hl (by decide) rfl (fun ls hl => ?_)
  obtain ⟨n9, hw⟩ := hw
  exact cl_X1_lastLettersAhead_4 l D kI kC kB a z_alphabet_out z_signing z_signs z_sizes z_lost z_pile Post C hP n9 y4 hw ls (lv_sub hl [1, 0] rfl)
set_option maxHeartbeats 4000000 in
set_option maxRecDepth 100000 in
theorem cl_X1_firstLeaf_4 (l : Launch) (D : va_G) (kI kC kB : ClassId) (a : AdT) (z_alphabet_out : Int32) (z_signing : Int32) (z_signs : RowT) (z_sizes : RowT) (z_lost : RowT) (z_pile : RowT) (p1 : Int32) (Post : Int32 → Prop) {p : Program} {e : Env} {s : State} {m : MethodId} {args : Array Value} {below : List Frame} {meth : Method} {c : Code} (C : CtxT p s m args meth c cX1_firstLeaf 4 (some .int) yX1_firstLeaf.cls D kI kC kB) (hP : va_P D vwCl (cwBook kI a z_alphabet_out z_signing z_signs z_sizes z_lost z_pile) s.heap) : ∀ (n : Nat), ∀ (v2 : Int32) (v3 : Int32), wl_X1_firstLeaf_4 z_sizes p1 Post n v2 v3 → ∀ (ls : Array Slot), lv_has ls 4 [(0, .ref (a 0)), (1, .int p1), (2, .int v2), (3, .int v3)] → W p l e ({ frames := 1, cells := 0, slots := 0, locals := 21 } : Room) s m args below meth c s.heap [] 0 0 (MQ below (vp_Si Post) args s 0 0 (fun _ => False)) (F0 m 4 ls []) := by
  obtain ⟨hx, hb, hr, hml, hown, hts, hlocks, hK⟩ := id C
  intro n
  induction n with
  | zero => intro v2 v3 hw; exact hw.elim
  | succ n ih =>
    intro v2 v3 hw ls hl
    refine lv_iload_n hx hb dX1_firstLeaf_4 rfl (lv_at hl 3 rfl) ?_
    refine lv_iload_n hx hb dX1_firstLeaf_5 rfl (lv_at hl 1 rfl) ?_
    refine lv_icmp_ge (tgt := 26) hx hb dX1_firstLeaf_6 (by decide) (fun hc => ?_) (fun hc => ?_)
    · replace hw := hw.1 hc
      refine lv_iload_n hx hb dX1_firstLeaf_26 rfl (lv_at hl 2 rfl) ?_
      exact retR C hw dX1_firstLeaf_27
    · replace hw := hw.2 hc
      refine lv_iload_n hx hb dX1_firstLeaf_9 rfl (lv_at hl 2 rfl) ?_
      refine lv_aload_n hx hb dX1_firstLeaf_10 rfl (lv_at hl 0 rfl) ?_
      refine va_get (D := D) (ci := 1) (v := .ref (a 4)) (C := RX1) (T := TX1) (N := 6) hx hb hts inX1 hown hK.1 hP 0 rfl rfl 3 (by decide) (hts _ tw_80) (fun _ h9 => h9) rfl dX1_firstLeaf_11 ?_
      refine lv_iload_n hx hb dX1_firstLeaf_14 rfl (lv_at hl 3 rfl) ?_
      refine kRV (As := [.int v3]) (rest := [.int v2]) (q0 := 4) C (c_X4_at l D kI kC kB (fun i => a (i + 4)) z_sizes v3 _ hw) ⟨rfl, rfl⟩ ce_X4_at cv_X4_at tw_260 ⟨Nat.le_of_ble_eq_true rfl, Nat.le_of_ble_eq_true rfl⟩ hP [4, 5] rfl rfl rfl rfl hl.1 rfl (Nat.le_of_ble_eq_true rfl) ⟨Nat.zero_le _, Nat.zero_le _⟩ dX1_firstLeaf_15 (fun r1 hw => ?_)
      refine lv_iadd hx hb dX1_firstLeaf_18 ?_
      refine lv_topi (fun y2 ey2 => ?_)
      replace hw := hw y2 ey2
      refine lv_istore_n (lv' := [(2, .int y2), (0, .ref (a 0)), (1, .int p1), (3, .int v3)]) hx hb dX1_firstLeaf_19 rfl hl (by decide) rfl (fun ls hl => ?_)
      refine lv_iinc (v := (v3 + nI 1)) (lv' := [(3, .int (v3 + nI 1)), (2, .int y2), (0, .ref (a 0)), (1, .int p1)]) hx hb dX1_firstLeaf_20 hl (k := 3) rfl rfl (by decide) rfl (fun ls hl => ?_)
      refine lv_goto (tgt := 4) hx hb dX1_firstLeaf_23 (by decide) ?_
      exact ih y2 (v3 + nI 1) hw ls (lv_sub hl [2, 3, 1, 0] rfl)
set_option maxHeartbeats 4000000 in
set_option maxRecDepth 100000 in
theorem c_X1_firstLeaf (l : Launch) (D : va_G) (kI kC kB : ClassId) (a : AdT) (z_alphabet_out : Int32) (z_signing : Int32) (z_signs : RowT) (z_sizes : RowT) (z_lost : RowT) (z_pile : RowT) (p1 : Int32) (Post : Int32 → Prop) (hw : wp_X1_firstLeaf z_sizes p1 Post) : CR l D kI kC kB yX1_firstLeaf cX1_firstLeaf 4 (some .int) ({ frames := 1, cells := 0, slots := 0, locals := 21 } : Room) [.ref (a 0), .int p1] (cwBook kI a z_alphabet_out z_signing z_signs z_sizes z_lost z_pile) Post := by
  refine entR (by decide) (Nat.le_of_ble_eq_true rfl) ?_
  intro p e s m args below meth c ls C hP hl
  replace hl : lv_has ls 4 [(0, .ref (a 0)), (1, .int p1)] := hl
  obtain ⟨hx, hb, hr, hml, hown, hts, hlocks, hK⟩ := id C
  refine lv_iconst (v := (nI 0)) hx hb dX1_firstLeaf_0 (by decide) ?_
  refine lv_istore_n (lv' := [(2, .int (nI 0)), (0, .ref (a 0)), (1, .int p1)]) hx hb dX1_firstLeaf_1 rfl hl (by decide) rfl (fun ls hl => ?_)
  refine lv_iconst (v := (nI 0)) hx hb dX1_firstLeaf_2 (by decide) ?_
  refine lv_istore_n (lv' := [(3, .int (nI 0)), (2, .int (nI 0)), (0, .ref (a 0)), (1, .int p1)]) hx hb dX1_firstLeaf_3 rfl hl (by decide) rfl (fun ls hl => ?_)
  obtain ⟨n9, hw⟩ := hw
  exact cl_X1_firstLeaf_4 l D kI kC kB a z_alphabet_out z_signing z_signs z_sizes z_lost z_pile p1 Post C hP n9 (nI 0) (nI 0) hw ls (lv_sub hl [2, 3, 1, 0] rfl)
set_option maxHeartbeats 4000000 in
set_option maxRecDepth 100000 in
theorem c_X1_leaves (l : Launch) (D : va_G) (kI kC kB : ClassId) (a : AdT) (z_alphabet_out : Int32) (z_signing : Int32) (z_signs : RowT) (z_sizes : RowT) (z_lost : RowT) (z_pile : RowT) (Post : Int32 → Prop) (hw : wp_X1_leaves z_signs z_sizes Post) : CR l D kI kC kB yX1_leaves cX1_leaves 1 (some .int) ({ frames := 2, cells := 0, slots := 0, locals := 44 } : Room) [.ref (a 0)] (cwBook kI a z_alphabet_out z_signing z_signs z_sizes z_lost z_pile) Post := by
  refine entR (by decide) (Nat.le_of_ble_eq_true rfl) ?_
  intro p e s m args below meth c ls C hP hl
  replace hl : lv_has ls 1 [(0, .ref (a 0))] := hl
  obtain ⟨hx, hb, hr, hml, hown, hts, hlocks, hK⟩ := id C
  refine lv_aload_n hx hb dX1_leaves_0 rfl (lv_at hl 0 rfl) ?_
  refine lv_aload_n hx hb dX1_leaves_1 rfl (lv_at hl 0 rfl) ?_
  refine kRV (As := []) (rest := [.ref (a 0)]) (q0 := 0) C (c_X1_quires l D kI kC kB a z_alphabet_out z_signing z_signs z_sizes z_lost z_pile _ hw) ⟨rfl, rfl⟩ ce_X1_quires cv_X1_quires tw_248 ⟨Nat.le_of_ble_eq_true rfl, Nat.le_of_ble_eq_true rfl⟩ hP [0, 1, 2, 3, 4, 5, 6, 7, 8, 9] rfl rfl rfl rfl hl.1 rfl (Nat.le_of_ble_eq_true rfl) ⟨Nat.zero_le _, Nat.zero_le _⟩ dX1_leaves_2 (fun r1 hw => ?_)
  refine kRV (As := [.int r1]) (rest := []) (q0 := 0) C (c_X1_firstLeaf l D kI kC kB a z_alphabet_out z_signing z_signs z_sizes z_lost z_pile r1 _ hw) ⟨rfl, rfl⟩ ce_X1_firstLeaf cv_X1_firstLeaf tw_395 ⟨Nat.le_of_ble_eq_true rfl, Nat.le_of_ble_eq_true rfl⟩ hP [0, 1, 2, 3, 4, 5, 6, 7, 8, 9] rfl rfl rfl rfl hl.1 rfl (Nat.le_of_ble_eq_true rfl) ⟨Nat.zero_le _, Nat.zero_le _⟩ dX1_leaves_5 (fun r2 hw => ?_)
  exact retR C hw dX1_leaves_8
set_option maxHeartbeats 4000000 in
set_option maxRecDepth 100000 in
theorem c_X1_hasQuire (l : Launch) (D : va_G) (kI kC kB : ClassId) (a : AdT) (z_alphabet_out : Int32) (z_signing : Int32) (z_signs : RowT) (z_sizes : RowT) (z_lost : RowT) (z_pile : RowT) (p1 : Int32) (Post : Int32 → Prop) (hw : wp_X1_hasQuire z_signs p1 Post) : CR l D kI kC kB yX1_hasQuire cX1_hasQuire 2 (some .boolean) ({ frames := 2, cells := 0, slots := 0, locals := 40 } : Room) [.ref (a 0), .int p1] (cwBook kI a z_alphabet_out z_signing z_signs z_sizes z_lost z_pile) Post := by
  refine entR (by decide) (Nat.le_of_ble_eq_true rfl) ?_
  intro p e s m args below meth c ls C hP hl
  replace hl : lv_has ls 2 [(0, .ref (a 0)), (1, .int p1)] := hl
  obtain ⟨hx, hb, hr, hml, hown, hts, hlocks, hK⟩ := id C
  refine lv_iload_n hx hb dX1_hasQuire_0 rfl (lv_at hl 1 rfl) ?_
  refine lv_if_lt (tgt := 16) hx hb dX1_hasQuire_1 (by decide) (fun hc => ?_) (fun hc => ?_)
  · replace hw := hw.1 hc
    refine lv_iconst (v := (nI 0)) hx hb dX1_hasQuire_16 (by decide) ?_
    exact retRz C (by decide) hw dX1_hasQuire_17
  · replace hw := hw.2 hc
    refine lv_iload_n hx hb dX1_hasQuire_4 rfl (lv_at hl 1 rfl) ?_
    refine lv_aload_n hx hb dX1_hasQuire_5 rfl (lv_at hl 0 rfl) ?_
    refine kRV (As := []) (rest := [.int p1]) (q0 := 0) C (c_X1_quires l D kI kC kB a z_alphabet_out z_signing z_signs z_sizes z_lost z_pile _ hw) ⟨rfl, rfl⟩ ce_X1_quires cv_X1_quires tw_248 ⟨Nat.le_of_ble_eq_true rfl, Nat.le_of_ble_eq_true rfl⟩ hP [0, 1, 2, 3, 4, 5, 6, 7, 8, 9] rfl rfl rfl rfl hl.1 rfl (Nat.le_of_ble_eq_true rfl) ⟨Nat.zero_le _, Nat.zero_le _⟩ dX1_hasQuire_6 (fun r1 hw => ?_)
    refine lv_icmp_ge (tgt := 16) hx hb dX1_hasQuire_9 (by decide) (fun hc => ?_) (fun hc => ?_)
    · replace hw := hw.1 hc
      refine lv_iconst (v := (nI 0)) hx hb dX1_hasQuire_16 (by decide) ?_
      exact retRz C (by decide) hw dX1_hasQuire_17
    · replace hw := hw.2 hc
      refine lv_iconst (v := (nI 1)) hx hb dX1_hasQuire_12 (by decide) ?_
      refine lv_goto (tgt := 17) hx hb dX1_hasQuire_13 (by decide) ?_
      exact retRz C (by decide) hw dX1_hasQuire_17
set_option maxHeartbeats 4000000 in
set_option maxRecDepth 100000 in
theorem c_X1_dropQuire (l : Launch) (D : va_G) (kI kC kB : ClassId) (a : AdT) (z_alphabet_out : Int32) (z_signing : Int32) (z_signs : RowT) (z_sizes : RowT) (z_lost : RowT) (z_pile : RowT) (sz : Nat) (p1 : Int32) (Post : RowT → RowT → RowT → RowT → Prop) (hw : wp_X1_dropQuire z_signs z_sizes z_lost z_pile p1 Post) : CMv l D kI kC kB yX1_dropQuire cX1_dropQuire 2 none ({ frames := 2, cells := 0, slots := 0, locals := 44 } : Room) [.ref (a 0), .int p1] (cwBook kI a z_alphabet_out z_signing z_signs z_sizes z_lost z_pile) sz (fun (u : RowT × RowT × RowT × RowT) => Post u.1 u.2.1 u.2.2.1 u.2.2.2) (fun u : RowT × RowT × RowT × RowT => (cwBook kI a z_alphabet_out z_signing u.1 u.2.1 u.2.2.1 u.2.2.2)) := by
  refine entMv (by decide) (Nat.le_of_ble_eq_true rfl) ?_
  intro p e s m args below meth c ls A C hA hP hD hS hl
  obtain ⟨H, hHe⟩ : ∃ H, H = s.heap := ⟨_, rfl⟩
  obtain ⟨locs, hlo⟩ : ∃ lo : List Loc, lo = [] := ⟨_, rfl⟩
  have hS : va_S A s.heap H locs := by rw [hHe, hlo]; exact hS
  rw [← hHe] at hP
  suffices hg : W p l e ({ frames := 2, cells := 0, slots := 0, locals := 44 } : Room) s m args below meth c H locs 0 0 (MQ below (va_Qv (fun (u : RowT × RowT × RowT × RowT) => Post u.1 u.2.1 u.2.2.1 u.2.2.2) (BB D A (fun u : RowT × RowT × RowT × RowT => (cwBook kI a z_alphabet_out z_signing u.1 u.2.1 u.2.2.1 u.2.2.2))) A) args s 0 0 A) (F0 m 0 ls []) by rw [hHe, hlo] at hg; exact hg
  replace hl : lv_has ls 2 [(0, .ref (a 0)), (1, .int p1)] := hl
  obtain ⟨hx, hb, hr, hml, hown, hts, hlocks, hK⟩ := id C
  refine lv_aload_n hx hb dX1_dropQuire_0 rfl (lv_at hl 0 rfl) ?_
  refine va_get (D := D) (ci := 1) (v := .ref (a 2)) (C := RX1) (T := TX1) (N := 6) hx hb hts inX1 hown hK.1 hP 0 rfl rfl 2 (by decide) (hts _ tw_76) (fun _ h9 => h9) rfl dX1_dropQuire_1 ?_
  refine lv_iload_n hx hb dX1_dropQuire_4 rfl (lv_at hl 1 rfl) ?_
  refine kMVv (q0 := 2) (As := [.int p1]) (rest := []) C (c_X4_drop l D kI kC kB (fun i => a (i + 2)) z_signs H.size p1 _ hw) ⟨rfl, rfl⟩ ce_X4_drop cv_X4_drop tw_411 ⟨Nat.le_of_ble_eq_true rfl, Nat.le_of_ble_eq_true rfl⟩ hP hD hS hA [2, 3] rfl rfl (fun _ => rfl) rfl rfl rfl hl.1 rfl (Nat.le_of_ble_eq_true rfl) ⟨Nat.zero_le _, Nat.zero_le _⟩ dX1_dropQuire_5 (fun u H locs hw hP hD hS => ?_)
  obtain ⟨u1, rfl⟩ : ∃ z, z = u := ⟨_, rfl⟩
  try dsimp only at hw
  replace hP : va_P D vwCl (cwBook kI a z_alphabet_out z_signing u1 z_sizes z_lost z_pile) H := hP
  replace hD : va_D A (cwBook kI a z_alphabet_out z_signing u1 z_sizes z_lost z_pile) := hD
  refine lv_aload_n hx hb dX1_dropQuire_8 rfl (lv_at hl 0 rfl) ?_
  refine va_get (D := D) (ci := 1) (v := .ref (a 4)) (C := RX1) (T := TX1) (N := 6) hx hb hts inX1 hown hK.1 hP 0 rfl rfl 3 (by decide) (hts _ tw_80) (fun _ h9 => h9) rfl dX1_dropQuire_9 ?_
  refine lv_iload_n hx hb dX1_dropQuire_12 rfl (lv_at hl 1 rfl) ?_
  refine kMVv (q0 := 4) (As := [.int p1]) (rest := []) C (c_X4_drop l D kI kC kB (fun i => a (i + 4)) z_sizes H.size p1 _ hw) ⟨rfl, rfl⟩ ce_X4_drop cv_X4_drop tw_411 ⟨Nat.le_of_ble_eq_true rfl, Nat.le_of_ble_eq_true rfl⟩ hP hD hS hA [4, 5] rfl rfl (fun _ => rfl) rfl rfl rfl hl.1 rfl (Nat.le_of_ble_eq_true rfl) ⟨Nat.zero_le _, Nat.zero_le _⟩ dX1_dropQuire_13 (fun u H locs hw hP hD hS => ?_)
  obtain ⟨u2, rfl⟩ : ∃ z, z = u := ⟨_, rfl⟩
  try dsimp only at hw
  replace hP : va_P D vwCl (cwBook kI a z_alphabet_out z_signing u1 u2 z_lost z_pile) H := hP
  replace hD : va_D A (cwBook kI a z_alphabet_out z_signing u1 u2 z_lost z_pile) := hD
  refine lv_aload_n hx hb dX1_dropQuire_16 rfl (lv_at hl 0 rfl) ?_
  refine va_get (D := D) (ci := 1) (v := .ref (a 6)) (C := RX1) (T := TX1) (N := 6) hx hb hts inX1 hown hK.1 hP 0 rfl rfl 4 (by decide) (hts _ tw_83) (fun _ h9 => h9) rfl dX1_dropQuire_17 ?_
  refine lv_iload_n hx hb dX1_dropQuire_20 rfl (lv_at hl 1 rfl) ?_
  refine kMVv (q0 := 6) (As := [.int p1]) (rest := []) C (c_X4_drop l D kI kC kB (fun i => a (i + 6)) z_lost H.size p1 _ hw) ⟨rfl, rfl⟩ ce_X4_drop cv_X4_drop tw_411 ⟨Nat.le_of_ble_eq_true rfl, Nat.le_of_ble_eq_true rfl⟩ hP hD hS hA [6, 7] rfl rfl (fun _ => rfl) rfl rfl rfl hl.1 rfl (Nat.le_of_ble_eq_true rfl) ⟨Nat.zero_le _, Nat.zero_le _⟩ dX1_dropQuire_21 (fun u H locs hw hP hD hS => ?_)
  obtain ⟨u3, rfl⟩ : ∃ z, z = u := ⟨_, rfl⟩
  try dsimp only at hw
  replace hP : va_P D vwCl (cwBook kI a z_alphabet_out z_signing u1 u2 u3 z_pile) H := hP
  replace hD : va_D A (cwBook kI a z_alphabet_out z_signing u1 u2 u3 z_pile) := hD
  refine lv_aload_n hx hb dX1_dropQuire_24 rfl (lv_at hl 0 rfl) ?_
  refine va_get (D := D) (ci := 1) (v := .ref (a 8)) (C := RX1) (T := TX1) (N := 6) hx hb hts inX1 hown hK.1 hP 0 rfl rfl 5 (by decide) (hts _ tw_84) (fun _ h9 => h9) rfl dX1_dropQuire_25 ?_
  refine kMVv (q0 := 8) (As := []) (rest := []) C (c_X4_empty l D kI kC kB (fun i => a (i + 8)) z_pile H.size _ hw) ⟨rfl, rfl⟩ ce_X4_empty cv_X4_empty tw_368 ⟨Nat.le_of_ble_eq_true rfl, Nat.le_of_ble_eq_true rfl⟩ hP hD hS hA [8, 9] rfl rfl (fun _ => rfl) rfl rfl rfl hl.1 rfl (Nat.le_of_ble_eq_true rfl) ⟨Nat.zero_le _, Nat.zero_le _⟩ dX1_dropQuire_28 (fun u H locs hw hP hD hS => ?_)
  obtain ⟨u4, rfl⟩ : ∃ z, z = u := ⟨_, rfl⟩
  try dsimp only at hw
  replace hP : va_P D vwCl (cwBook kI a z_alphabet_out z_signing u1 u2 u3 u4) H := hP
  replace hD : va_D A (cwBook kI a z_alphabet_out z_signing u1 u2 u3 u4) := hD
  exact retMv C (u1, u2, u3, u4) hw hP hD hS dX1_dropQuire_31
set_option maxHeartbeats 4000000 in
set_option maxRecDepth 100000 in
theorem c_X1_hasLeaf (l : Launch) (D : va_G) (kI kC kB : ClassId) (a : AdT) (z_alphabet_out : Int32) (z_signing : Int32) (z_signs : RowT) (z_sizes : RowT) (z_lost : RowT) (z_pile : RowT) (p1 : Int32) (Post : Int32 → Prop) (hw : wp_X1_hasLeaf z_signs z_sizes p1 Post) : CR l D kI kC kB yX1_hasLeaf cX1_hasLeaf 2 (some .boolean) ({ frames := 3, cells := 0, slots := 0, locals := 64 } : Room) [.ref (a 0), .int p1] (cwBook kI a z_alphabet_out z_signing z_signs z_sizes z_lost z_pile) Post := by
  refine entR (by decide) (Nat.le_of_ble_eq_true rfl) ?_
  intro p e s m args below meth c ls C hP hl
  replace hl : lv_has ls 2 [(0, .ref (a 0)), (1, .int p1)] := hl
  obtain ⟨hx, hb, hr, hml, hown, hts, hlocks, hK⟩ := id C
  refine lv_iload_n hx hb dX1_hasLeaf_0 rfl (lv_at hl 1 rfl) ?_
  refine lv_if_lt (tgt := 16) hx hb dX1_hasLeaf_1 (by decide) (fun hc => ?_) (fun hc => ?_)
  · replace hw := hw.1 hc
    refine lv_iconst (v := (nI 0)) hx hb dX1_hasLeaf_16 (by decide) ?_
    exact retRz C (by decide) hw dX1_hasLeaf_17
  · replace hw := hw.2 hc
    refine lv_iload_n hx hb dX1_hasLeaf_4 rfl (lv_at hl 1 rfl) ?_
    refine lv_aload_n hx hb dX1_hasLeaf_5 rfl (lv_at hl 0 rfl) ?_
    refine kRV (As := []) (rest := [.int p1]) (q0 := 0) C (c_X1_leaves l D kI kC kB a z_alphabet_out z_signing z_signs z_sizes z_lost z_pile _ hw) ⟨rfl, rfl⟩ ce_X1_leaves cv_X1_leaves tw_423 ⟨Nat.le_of_ble_eq_true rfl, Nat.le_of_ble_eq_true rfl⟩ hP [0, 1, 2, 3, 4, 5, 6, 7, 8, 9] rfl rfl rfl rfl hl.1 rfl (Nat.le_of_ble_eq_true rfl) ⟨Nat.zero_le _, Nat.zero_le _⟩ dX1_hasLeaf_6 (fun r1 hw => ?_)
    refine lv_icmp_ge (tgt := 16) hx hb dX1_hasLeaf_9 (by decide) (fun hc => ?_) (fun hc => ?_)
    · replace hw := hw.1 hc
      refine lv_iconst (v := (nI 0)) hx hb dX1_hasLeaf_16 (by decide) ?_
      exact retRz C (by decide) hw dX1_hasLeaf_17
    · replace hw := hw.2 hc
      refine lv_iconst (v := (nI 1)) hx hb dX1_hasLeaf_12 (by decide) ?_
      refine lv_goto (tgt := 17) hx hb dX1_hasLeaf_13 (by decide) ?_
      exact retRz C (by decide) hw dX1_hasLeaf_17
set_option maxHeartbeats 4000000 in
set_option maxRecDepth 100000 in
theorem cl_X1_quireOf_11 (l : Launch) (D : va_G) (kI kC kB : ClassId) (a : AdT) (z_alphabet_out : Int32) (z_signing : Int32) (z_signs : RowT) (z_sizes : RowT) (z_lost : RowT) (z_pile : RowT) (p1 : Int32) (Post : Int32 → Prop) {p : Program} {e : Env} {s : State} {m : MethodId} {args : Array Value} {below : List Frame} {meth : Method} {c : Code} (C : CtxT p s m args meth c cX1_quireOf 4 (some .int) yX1_quireOf.cls D kI kC kB) (hP : va_P D vwCl (cwBook kI a z_alphabet_out z_signing z_signs z_sizes z_lost z_pile) s.heap) : ∀ (n : Nat), ∀ (v2 : Int32) (v3 : Int32), wl_X1_quireOf_11 z_signs z_sizes p1 Post n v2 v3 → ∀ (ls : Array Slot), lv_has ls 4 [(0, .ref (a 0)), (1, .int p1), (2, .int v2), (3, .int v3)] → W p l e ({ frames := 2, cells := 0, slots := 0, locals := 40 } : Room) s m args below meth c s.heap [] 0 0 (MQ below (vp_Si Post) args s 0 0 (fun _ => False)) (F0 m 11 ls []) := by
  obtain ⟨hx, hb, hr, hml, hown, hts, hlocks, hK⟩ := id C
  intro n
  induction n with
  | zero => intro v2 v3 hw; exact hw.elim
  | succ n ih =>
    intro v2 v3 hw ls hl
    refine lv_iload_n hx hb dX1_quireOf_11 rfl (lv_at hl 2 rfl) ?_
    refine lv_aload_n hx hb dX1_quireOf_12 rfl (lv_at hl 0 rfl) ?_
    refine kRV (As := []) (rest := [.int v2]) (q0 := 0) C (c_X1_quires l D kI kC kB a z_alphabet_out z_signing z_signs z_sizes z_lost z_pile _ hw) ⟨rfl, rfl⟩ ce_X1_quires cv_X1_quires tw_248 ⟨Nat.le_of_ble_eq_true rfl, Nat.le_of_ble_eq_true rfl⟩ hP [0, 1, 2, 3, 4, 5, 6, 7, 8, 9] rfl rfl rfl rfl hl.1 rfl (Nat.le_of_ble_eq_true rfl) ⟨Nat.zero_le _, Nat.zero_le _⟩ dX1_quireOf_13 (fun r1 hw => ?_)
    refine lv_iconst (v := (nI 1)) hx hb dX1_quireOf_16 (by decide) ?_
    refine lv_isub hx hb dX1_quireOf_17 ?_
    refine lv_icmp_ge (tgt := 43) hx hb dX1_quireOf_18 (by decide) (fun hc => ?_) (fun hc => ?_)
    · replace hw := hw.1 hc
      refine lv_iload_n hx hb dX1_quireOf_43 rfl (lv_at hl 2 rfl) ?_
      exact retR C hw dX1_quireOf_44
    · replace hw := hw.2 hc
      refine lv_iload_n hx hb dX1_quireOf_21 rfl (lv_at hl 1 rfl) ?_
      refine lv_iload_n hx hb dX1_quireOf_22 rfl (lv_at hl 3 rfl) ?_
      refine lv_icmp_lt (tgt := 43) hx hb dX1_quireOf_23 (by decide) (fun hc => ?_) (fun hc => ?_)
      · replace hw := hw.1 hc
        refine lv_iload_n hx hb dX1_quireOf_43 rfl (lv_at hl 2 rfl) ?_
        exact retR C hw dX1_quireOf_44
      · replace hw := hw.2 hc
        refine lv_iinc (v := (v2 + nI 1)) (lv' := [(2, .int (v2 + nI 1)), (0, .ref (a 0)), (1, .int p1), (3, .int v3)]) hx hb dX1_quireOf_26 hl (k := 2) rfl rfl (by decide) rfl (fun ls hl => ?_)
        refine lv_iload_n hx hb dX1_quireOf_29 rfl (lv_at hl 3 rfl) ?_
        refine lv_aload_n hx hb dX1_quireOf_30 rfl (lv_at hl 1 rfl) ?_
        refine va_get (D := D) (ci := 1) (v := .ref (a 4)) (C := RX1) (T := TX1) (N := 6) hx hb hts inX1 hown hK.1 hP 0 rfl rfl 3 (by decide) (hts _ tw_80) (fun _ h9 => h9) rfl dX1_quireOf_31 ?_
        refine lv_iload_n hx hb dX1_quireOf_34 rfl (lv_at hl 0 rfl) ?_
        refine kRV (As := [.int (v2 + nI 1)]) (rest := [.int v3]) (q0 := 4) C (c_X4_at l D kI kC kB (fun i => a (i + 4)) z_sizes (v2 + nI 1) _ hw) ⟨rfl, rfl⟩ ce_X4_at cv_X4_at tw_260 ⟨Nat.le_of_ble_eq_true rfl, Nat.le_of_ble_eq_true rfl⟩ hP [4, 5] rfl rfl rfl rfl hl.1 rfl (Nat.le_of_ble_eq_true rfl) ⟨Nat.zero_le _, Nat.zero_le _⟩ dX1_quireOf_35 (fun r2 hw => ?_)
        refine lv_iadd hx hb dX1_quireOf_38 ?_
        refine lv_topi (fun y3 ey3 => ?_)
        replace hw := hw y3 ey3
        refine lv_istore_n (lv' := [(3, .int y3), (2, .int (v2 + nI 1)), (0, .ref (a 0)), (1, .int p1)]) hx hb dX1_quireOf_39 rfl hl (by decide) rfl (fun ls hl => ?_)
        refine lv_goto (tgt := 11) hx hb dX1_quireOf_40 (by decide) ?_
        exact ih (v2 + nI 1) y3 hw ls (lv_sub hl [2, 3, 1, 0] rfl)
set_option maxHeartbeats 4000000 in
set_option maxRecDepth 100000 in
theorem c_X1_quireOf (l : Launch) (D : va_G) (kI kC kB : ClassId) (a : AdT) (z_alphabet_out : Int32) (z_signing : Int32) (z_signs : RowT) (z_sizes : RowT) (z_lost : RowT) (z_pile : RowT) (p1 : Int32) (Post : Int32 → Prop) (hw : wp_X1_quireOf z_signs z_sizes p1 Post) : CR l D kI kC kB yX1_quireOf cX1_quireOf 4 (some .int) ({ frames := 2, cells := 0, slots := 0, locals := 40 } : Room) [.ref (a 0), .int p1] (cwBook kI a z_alphabet_out z_signing z_signs z_sizes z_lost z_pile) Post := by
  refine entR (by decide) (Nat.le_of_ble_eq_true rfl) ?_
  intro p e s m args below meth c ls C hP hl
  replace hl : lv_has ls 4 [(0, .ref (a 0)), (1, .int p1)] := hl
  obtain ⟨hx, hb, hr, hml, hown, hts, hlocks, hK⟩ := id C
  refine lv_iconst (v := (nI 0)) hx hb dX1_quireOf_0 (by decide) ?_
  refine lv_istore_n (lv' := [(2, .int (nI 0)), (0, .ref (a 0)), (1, .int p1)]) hx hb dX1_quireOf_1 rfl hl (by decide) rfl (fun ls hl => ?_)
  refine lv_aload_n hx hb dX1_quireOf_2 rfl (lv_at hl 1 rfl) ?_
  refine va_get (D := D) (ci := 1) (v := .ref (a 4)) (C := RX1) (T := TX1) (N := 6) hx hb hts inX1 hown hK.1 hP 0 rfl rfl 3 (by decide) (hts _ tw_80) (fun _ h9 => h9) rfl dX1_quireOf_3 ?_
  refine lv_iconst (v := (nI 0)) hx hb dX1_quireOf_6 (by decide) ?_
  refine kRV (As := [.int (nI 0)]) (rest := []) (q0 := 4) C (c_X4_at l D kI kC kB (fun i => a (i + 4)) z_sizes (nI 0) _ hw) ⟨rfl, rfl⟩ ce_X4_at cv_X4_at tw_260 ⟨Nat.le_of_ble_eq_true rfl, Nat.le_of_ble_eq_true rfl⟩ hP [4, 5] rfl rfl rfl rfl hl.1 rfl (Nat.le_of_ble_eq_true rfl) ⟨Nat.zero_le _, Nat.zero_le _⟩ dX1_quireOf_7 (fun r4 hw => ?_)
  refine lv_istore_n (lv' := [(3, .int r4), (2, .int (nI 0)), (0, .ref (a 0)), (1, .int p1)]) hx hb dX1_quireOf_10 rfl hl (by decide) rfl (fun ls hl => ?_)
  obtain ⟨n9, hw⟩ := hw
  exact cl_X1_quireOf_11 l D kI kC kB a z_alphabet_out z_signing z_signs z_sizes z_lost z_pile p1 Post C hP n9 (nI 0) r4 hw ls (lv_sub hl [2, 3, 1, 0] rfl)
set_option maxHeartbeats 4000000 in
set_option maxRecDepth 100000 in
theorem c_X1_numberOf (l : Launch) (D : va_G) (kI kC kB : ClassId) (a : AdT) (z_alphabet_out : Int32) (z_signing : Int32) (z_signs : RowT) (z_sizes : RowT) (z_lost : RowT) (z_pile : RowT) (p1 : Int32) (Post : Int32 → Prop) (hw : wp_X1_numberOf z_signs z_sizes p1 Post) : CR l D kI kC kB yX1_numberOf cX1_numberOf 2 (some .int) ({ frames := 3, cells := 0, slots := 0, locals := 63 } : Room) [.ref (a 0), .int p1] (cwBook kI a z_alphabet_out z_signing z_signs z_sizes z_lost z_pile) Post := by
  refine entR (by decide) (Nat.le_of_ble_eq_true rfl) ?_
  intro p e s m args below meth c ls C hP hl
  replace hl : lv_has ls 2 [(0, .ref (a 0)), (1, .int p1)] := hl
  obtain ⟨hx, hb, hr, hml, hown, hts, hlocks, hK⟩ := id C
  refine lv_iload_n hx hb dX1_numberOf_0 rfl (lv_at hl 1 rfl) ?_
  refine lv_aload_n hx hb dX1_numberOf_1 rfl (lv_at hl 0 rfl) ?_
  refine lv_aload_n hx hb dX1_numberOf_2 rfl (lv_at hl 0 rfl) ?_
  refine lv_iload_n hx hb dX1_numberOf_3 rfl (lv_at hl 1 rfl) ?_
  refine kRV (As := [.int p1]) (rest := [.ref (a 0), .int p1]) (q0 := 0) C (c_X1_quireOf l D kI kC kB a z_alphabet_out z_signing z_signs z_sizes z_lost z_pile p1 _ hw) ⟨rfl, rfl⟩ ce_X1_quireOf cv_X1_quireOf tw_428 ⟨Nat.le_of_ble_eq_true rfl, Nat.le_of_ble_eq_true rfl⟩ hP [0, 1, 2, 3, 4, 5, 6, 7, 8, 9] rfl rfl rfl rfl hl.1 rfl (Nat.le_of_ble_eq_true rfl) ⟨Nat.zero_le _, Nat.zero_le _⟩ dX1_numberOf_4 (fun r1 hw => ?_)
  refine kRV (As := [.int r1]) (rest := [.int p1]) (q0 := 0) C (c_X1_firstLeaf l D kI kC kB a z_alphabet_out z_signing z_signs z_sizes z_lost z_pile r1 _ hw) ⟨rfl, rfl⟩ ce_X1_firstLeaf cv_X1_firstLeaf tw_395 ⟨Nat.le_of_ble_eq_true rfl, Nat.le_of_ble_eq_true rfl⟩ hP [0, 1, 2, 3, 4, 5, 6, 7, 8, 9] rfl rfl rfl rfl hl.1 rfl (Nat.le_of_ble_eq_true rfl) ⟨Nat.zero_le _, Nat.zero_le _⟩ dX1_numberOf_7 (fun r2 hw => ?_)
  refine lv_isub hx hb dX1_numberOf_10 ?_
  refine lv_iconst (v := (nI 1)) hx hb dX1_numberOf_11 (by decide) ?_
  refine lv_iadd hx hb dX1_numberOf_12 ?_
  exact retR C hw dX1_numberOf_13
set_option maxHeartbeats 4000000 in
set_option maxRecDepth 100000 in
theorem c_X1_isLost (l : Launch) (D : va_G) (kI kC kB : ClassId) (a : AdT) (z_alphabet_out : Int32) (z_signing : Int32) (z_signs : RowT) (z_sizes : RowT) (z_lost : RowT) (z_pile : RowT) (p1 : Int32) (Post : Int32 → Prop) (hw : wp_X1_isLost z_signs z_sizes z_lost p1 Post) : CR l D kI kC kB yX1_isLost cX1_isLost 2 (some .boolean) ({ frames := 4, cells := 0, slots := 0, locals := 84 } : Room) [.ref (a 0), .int p1] (cwBook kI a z_alphabet_out z_signing z_signs z_sizes z_lost z_pile) Post := by
  refine entR (by decide) (Nat.le_of_ble_eq_true rfl) ?_
  intro p e s m args below meth c ls C hP hl
  replace hl : lv_has ls 2 [(0, .ref (a 0)), (1, .int p1)] := hl
  obtain ⟨hx, hb, hr, hml, hown, hts, hlocks, hK⟩ := id C
  refine lv_aload_n hx hb dX1_isLost_0 rfl (lv_at hl 0 rfl) ?_
  refine va_get (D := D) (ci := 1) (v := .ref (a 6)) (C := RX1) (T := TX1) (N := 6) hx hb hts inX1 hown hK.1 hP 0 rfl rfl 4 (by decide) (hts _ tw_83) (fun _ h9 => h9) rfl dX1_isLost_1 ?_
  refine lv_aload_n hx hb dX1_isLost_4 rfl (lv_at hl 0 rfl) ?_
  refine lv_iload_n hx hb dX1_isLost_5 rfl (lv_at hl 1 rfl) ?_
  refine kRV (As := [.int p1]) (rest := [.ref (a 6)]) (q0 := 0) C (c_X1_quireOf l D kI kC kB a z_alphabet_out z_signing z_signs z_sizes z_lost z_pile p1 _ hw) ⟨rfl, rfl⟩ ce_X1_quireOf cv_X1_quireOf tw_428 ⟨Nat.le_of_ble_eq_true rfl, Nat.le_of_ble_eq_true rfl⟩ hP [0, 1, 2, 3, 4, 5, 6, 7, 8, 9] rfl rfl rfl rfl hl.1 rfl (Nat.le_of_ble_eq_true rfl) ⟨Nat.zero_le _, Nat.zero_le _⟩ dX1_isLost_6 (fun r1 hw => ?_)
  refine kRV (As := [.int r1]) (rest := []) (q0 := 6) C (c_X4_at l D kI kC kB (fun i => a (i + 6)) z_lost r1 _ hw) ⟨rfl, rfl⟩ ce_X4_at cv_X4_at tw_260 ⟨Nat.le_of_ble_eq_true rfl, Nat.le_of_ble_eq_true rfl⟩ hP [6, 7] rfl rfl rfl rfl hl.1 rfl (Nat.le_of_ble_eq_true rfl) ⟨Nat.zero_le _, Nat.zero_le _⟩ dX1_isLost_9 (fun r2 hw => ?_)
  refine lv_aload_n hx hb dX1_isLost_12 rfl (lv_at hl 0 rfl) ?_
  refine lv_iload_n hx hb dX1_isLost_13 rfl (lv_at hl 1 rfl) ?_
  refine kRV (As := [.int p1]) (rest := [.int r2]) (q0 := 0) C (c_X1_numberOf l D kI kC kB a z_alphabet_out z_signing z_signs z_sizes z_lost z_pile p1 _ hw) ⟨rfl, rfl⟩ ce_X1_numberOf cv_X1_numberOf tw_432 ⟨Nat.le_of_ble_eq_true rfl, Nat.le_of_ble_eq_true rfl⟩ hP [0, 1, 2, 3, 4, 5, 6, 7, 8, 9] rfl rfl rfl rfl hl.1 rfl (Nat.le_of_ble_eq_true rfl) ⟨Nat.zero_le _, Nat.zero_le _⟩ dX1_isLost_14 (fun r3 hw => ?_)
  refine lv_iconst (v := (nI 1)) hx hb dX1_isLost_17 (by decide) ?_
  refine lv_isub hx hb dX1_isLost_18 ?_
  refine lv_ishr hx hb dX1_isLost_19 ?_
  refine lv_iconst (v := (nI 1)) hx hb dX1_isLost_20 (by decide) ?_
  refine lv_iand hx hb dX1_isLost_21 ?_
  refine lv_iconst (v := (nI 1)) hx hb dX1_isLost_22 (by decide) ?_
  refine lv_icmp_ne (tgt := 30) hx hb dX1_isLost_23 (by decide) (fun hc => ?_) (fun hc => ?_)
  · replace hw := hw.2 hc
    refine lv_iconst (v := (nI 0)) hx hb dX1_isLost_30 (by decide) ?_
    exact retRz C (by decide) hw dX1_isLost_31
  · replace hw := hw.1 hc
    refine lv_iconst (v := (nI 1)) hx hb dX1_isLost_26 (by decide) ?_
    refine lv_goto (tgt := 31) hx hb dX1_isLost_27 (by decide) ?_
    exact retRz C (by decide) hw dX1_isLost_31
set_option maxHeartbeats 4000000 in
set_option maxRecDepth 100000 in
theorem c_X1_turnLost (l : Launch) (D : va_G) (kI kC kB : ClassId) (a : AdT) (z_alphabet_out : Int32) (z_signing : Int32) (z_signs : RowT) (z_sizes : RowT) (z_lost : RowT) (z_pile : RowT) (sz : Nat) (p1 : Int32) (Post : RowT → RowT → Prop) (hw : wp_X1_turnLost z_signs z_sizes z_lost z_pile p1 Post) : CMv l D kI kC kB yX1_turnLost cX1_turnLost 3 none ({ frames := 4, cells := 0, slots := 0, locals := 84 } : Room) [.ref (a 0), .int p1] (cwBook kI a z_alphabet_out z_signing z_signs z_sizes z_lost z_pile) sz (fun (u : RowT × RowT) => Post u.1 u.2) (fun u : RowT × RowT => (cwBook kI a z_alphabet_out z_signing z_signs z_sizes u.1 u.2)) := by
  refine entMv (by decide) (Nat.le_of_ble_eq_true rfl) ?_
  intro p e s m args below meth c ls A C hA hP hD hS hl
  obtain ⟨H, hHe⟩ : ∃ H, H = s.heap := ⟨_, rfl⟩
  obtain ⟨locs, hlo⟩ : ∃ lo : List Loc, lo = [] := ⟨_, rfl⟩
  have hS : va_S A s.heap H locs := by rw [hHe, hlo]; exact hS
  rw [← hHe] at hP
  suffices hg : W p l e ({ frames := 4, cells := 0, slots := 0, locals := 84 } : Room) s m args below meth c H locs 0 0 (MQ below (va_Qv (fun (u : RowT × RowT) => Post u.1 u.2) (BB D A (fun u : RowT × RowT => (cwBook kI a z_alphabet_out z_signing z_signs z_sizes u.1 u.2))) A) args s 0 0 A) (F0 m 0 ls []) by rw [hHe, hlo] at hg; exact hg
  replace hl : lv_has ls 3 [(0, .ref (a 0)), (1, .int p1)] := hl
  obtain ⟨hx, hb, hr, hml, hown, hts, hlocks, hK⟩ := id C
  refine lv_aload_n hx hb dX1_turnLost_0 rfl (lv_at hl 0 rfl) ?_
  refine lv_iload_n hx hb dX1_turnLost_1 rfl (lv_at hl 1 rfl) ?_
  refine kRV (As := [.int p1]) (rest := []) (q0 := 0) C (c_X1_quireOf l D kI kC kB a z_alphabet_out z_signing z_signs z_sizes z_lost z_pile p1 _ hw) ⟨rfl, rfl⟩ ce_X1_quireOf cv_X1_quireOf tw_428 ⟨Nat.le_of_ble_eq_true rfl, Nat.le_of_ble_eq_true rfl⟩ hP [0, 1, 2, 3, 4, 5, 6, 7, 8, 9] rfl rfl rfl rfl hl.1 rfl (Nat.le_of_ble_eq_true rfl) ⟨Nat.zero_le _, Nat.zero_le _⟩ dX1_turnLost_2 (fun r1 hw => ?_)
  refine lv_istore_n (lv' := [(2, .int r1), (0, .ref (a 0)), (1, .int p1)]) hx hb dX1_turnLost_5 rfl hl (by decide) rfl (fun ls hl => ?_)
  refine lv_aload_n hx hb dX1_turnLost_6 rfl (lv_at hl 1 rfl) ?_
  refine va_get (D := D) (ci := 1) (v := .ref (a 6)) (C := RX1) (T := TX1) (N := 6) hx hb hts inX1 hown hK.1 hP 0 rfl rfl 4 (by decide) (hts _ tw_83) (fun _ h9 => h9) rfl dX1_turnLost_7 ?_
  refine lv_iload_n hx hb dX1_turnLost_10 rfl (lv_at hl 0 rfl) ?_
  refine lv_aload_n hx hb dX1_turnLost_11 rfl (lv_at hl 1 rfl) ?_
  refine va_get (D := D) (ci := 1) (v := .ref (a 6)) (C := RX1) (T := TX1) (N := 6) hx hb hts inX1 hown hK.1 hP 0 rfl rfl 4 (by decide) (hts _ tw_83) (fun _ h9 => h9) rfl dX1_turnLost_12 ?_
  refine lv_iload_n hx hb dX1_turnLost_15 rfl (lv_at hl 0 rfl) ?_
  refine kRV (As := [.int r1]) (rest := [.int r1, .ref (a 6)]) (q0 := 6) C (c_X4_at l D kI kC kB (fun i => a (i + 6)) z_lost r1 _ hw) ⟨rfl, rfl⟩ ce_X4_at cv_X4_at tw_260 ⟨Nat.le_of_ble_eq_true rfl, Nat.le_of_ble_eq_true rfl⟩ hP [6, 7] rfl rfl rfl rfl hl.1 rfl (Nat.le_of_ble_eq_true rfl) ⟨Nat.zero_le _, Nat.zero_le _⟩ dX1_turnLost_16 (fun r2 hw => ?_)
  refine lv_iconst (v := (nI 1)) hx hb dX1_turnLost_19 (by decide) ?_
  refine lv_aload_n hx hb dX1_turnLost_20 rfl (lv_at hl 1 rfl) ?_
  refine lv_iload_n hx hb dX1_turnLost_21 rfl (lv_at hl 2 rfl) ?_
  refine kRV (As := [.int p1]) (rest := [.int (nI 1), .int r2, .int r1, .ref (a 6)]) (q0 := 0) C (c_X1_numberOf l D kI kC kB a z_alphabet_out z_signing z_signs z_sizes z_lost z_pile p1 _ hw) ⟨rfl, rfl⟩ ce_X1_numberOf cv_X1_numberOf tw_432 ⟨Nat.le_of_ble_eq_true rfl, Nat.le_of_ble_eq_true rfl⟩ hP [0, 1, 2, 3, 4, 5, 6, 7, 8, 9] rfl rfl rfl rfl hl.1 rfl (Nat.le_of_ble_eq_true rfl) ⟨Nat.zero_le _, Nat.zero_le _⟩ dX1_turnLost_22 (fun r3 hw => ?_)
  refine lv_iconst (v := (nI 1)) hx hb dX1_turnLost_25 (by decide) ?_
  refine lv_isub hx hb dX1_turnLost_26 ?_
  refine lv_ishl hx hb dX1_turnLost_27 ?_
  refine lv_ixor hx hb dX1_turnLost_28 ?_
  refine kMVv (q0 := 6) (As := [.int r1, .int (r2 ^^^ ((nI 1) <<< ((r3 - (nI 1)) &&& 31)))]) (rest := []) C (c_X4_set l D kI kC kB (fun i => a (i + 6)) z_lost H.size r1 (r2 ^^^ ((nI 1) <<< ((r3 - (nI 1)) &&& 31))) _ hw) ⟨rfl, rfl⟩ ce_X4_set cv_X4_set tw_440 ⟨Nat.le_of_ble_eq_true rfl, Nat.le_of_ble_eq_true rfl⟩ hP hD hS hA [6, 7] rfl rfl (fun _ => rfl) rfl rfl rfl hl.1 rfl (Nat.le_of_ble_eq_true rfl) ⟨Nat.zero_le _, Nat.zero_le _⟩ dX1_turnLost_29 (fun u H locs hw hP hD hS => ?_)
  obtain ⟨u4, rfl⟩ : ∃ z, z = u := ⟨_, rfl⟩
  try dsimp only at hw
  replace hP : va_P D vwCl (cwBook kI a z_alphabet_out z_signing z_signs z_sizes u4 z_pile) H := hP
  replace hD : va_D A (cwBook kI a z_alphabet_out z_signing z_signs z_sizes u4 z_pile) := hD
  refine lv_aload_n hx hb dX1_turnLost_32 rfl (lv_at hl 1 rfl) ?_
  refine va_get (D := D) (ci := 1) (v := .ref (a 8)) (C := RX1) (T := TX1) (N := 6) hx hb hts inX1 hown hK.1 hP 0 rfl rfl 5 (by decide) (hts _ tw_84) (fun _ h9 => h9) rfl dX1_turnLost_33 ?_
  refine kMVv (q0 := 8) (As := []) (rest := []) C (c_X4_empty l D kI kC kB (fun i => a (i + 8)) z_pile H.size _ hw) ⟨rfl, rfl⟩ ce_X4_empty cv_X4_empty tw_368 ⟨Nat.le_of_ble_eq_true rfl, Nat.le_of_ble_eq_true rfl⟩ hP hD hS hA [8, 9] rfl rfl (fun _ => rfl) rfl rfl rfl hl.1 rfl (Nat.le_of_ble_eq_true rfl) ⟨Nat.zero_le _, Nat.zero_le _⟩ dX1_turnLost_36 (fun u H locs hw hP hD hS => ?_)
  obtain ⟨u5, rfl⟩ : ∃ z, z = u := ⟨_, rfl⟩
  try dsimp only at hw
  replace hP : va_P D vwCl (cwBook kI a z_alphabet_out z_signing z_signs z_sizes u4 u5) H := hP
  replace hD : va_D A (cwBook kI a z_alphabet_out z_signing z_signs z_sizes u4 u5) := hD
  exact retMv C (u4, u5) hw hP hD hS dX1_turnLost_39
set_option maxHeartbeats 4000000 in
set_option maxRecDepth 100000 in
theorem cl_X1_thereAhead_7 (l : Launch) (D : va_G) (kI kC kB : ClassId) (a : AdT) (z_alphabet_out : Int32) (z_signing : Int32) (z_signs : RowT) (z_sizes : RowT) (z_lost : RowT) (z_pile : RowT) (p1 : Int32) (Post : Int32 → Prop) {p : Program} {e : Env} {s : State} {m : MethodId} {args : Array Value} {below : List Frame} {meth : Method} {c : Code} (C : CtxT p s m args meth c cX1_thereAhead 7 (some .int) yX1_thereAhead.cls D kI kC kB) (hP : va_P D vwCl (cwBook kI a z_alphabet_out z_signing z_signs z_sizes z_lost z_pile) s.heap) : ∀ (n : Nat), ∀ (v2 : Int32) (v3 : Int32) (v4 : Int32), wl_X1_thereAhead_7 z_signs z_sizes z_lost p1 Post n v2 v3 v4 → ∀ (ls : Array Slot), lv_has ls 7 [(0, .ref (a 0)), (1, .int p1), (2, .int v2), (3, .int v3), (4, .int v4)] → W p l e ({ frames := 2, cells := 0, slots := 0, locals := 40 } : Room) s m args below meth c s.heap [] 0 0 (MQ below (vp_Si Post) args s 0 0 (fun _ => False)) (F0 m 7 ls []) := by
  obtain ⟨hx, hb, hr, hml, hown, hts, hlocks, hK⟩ := id C
  intro n
  induction n with
  | zero => intro v2 v3 v4 hw; exact hw.elim
  | succ n ih =>
    intro v2 v3 v4 hw ls hl
    refine lv_iload hx hb dX1_thereAhead_7 (lv_at hl 4 rfl) ?_
    refine lv_aload_n hx hb dX1_thereAhead_9 rfl (lv_at hl 0 rfl) ?_
    refine kRV (As := []) (rest := [.int v4]) (q0 := 0) C (c_X1_quires l D kI kC kB a z_alphabet_out z_signing z_signs z_sizes z_lost z_pile _ hw) ⟨rfl, rfl⟩ ce_X1_quires cv_X1_quires tw_248 ⟨Nat.le_of_ble_eq_true rfl, Nat.le_of_ble_eq_true rfl⟩ hP [0, 1, 2, 3, 4, 5, 6, 7, 8, 9] rfl rfl rfl rfl hl.1 rfl (Nat.le_of_ble_eq_true rfl) ⟨Nat.zero_le _, Nat.zero_le _⟩ dX1_thereAhead_10 (fun r1 hw => ?_)
    refine lv_icmp_ge (tgt := 77) hx hb dX1_thereAhead_13 (by decide) (fun hc => ?_) (fun hc => ?_)
    · replace hw := hw.1 hc
      refine lv_iload_n hx hb dX1_thereAhead_77 rfl (lv_at hl 2 rfl) ?_
      exact retR C hw dX1_thereAhead_78
    · replace hw := hw.2 hc
      refine lv_aload_n hx hb dX1_thereAhead_16 rfl (lv_at hl 0 rfl) ?_
      refine va_get (D := D) (ci := 1) (v := .ref (a 4)) (C := RX1) (T := TX1) (N := 6) hx hb hts inX1 hown hK.1 hP 0 rfl rfl 3 (by decide) (hts _ tw_80) (fun _ h9 => h9) rfl dX1_thereAhead_17 ?_
      refine lv_iload hx hb dX1_thereAhead_20 (lv_at hl 4 rfl) ?_
      refine kRV (As := [.int v4]) (rest := []) (q0 := 4) C (c_X4_at l D kI kC kB (fun i => a (i + 4)) z_sizes v4 _ hw) ⟨rfl, rfl⟩ ce_X4_at cv_X4_at tw_260 ⟨Nat.le_of_ble_eq_true rfl, Nat.le_of_ble_eq_true rfl⟩ hP [4, 5] rfl rfl rfl rfl hl.1 rfl (Nat.le_of_ble_eq_true rfl) ⟨Nat.zero_le _, Nat.zero_le _⟩ dX1_thereAhead_22 (fun r2 hw => ?_)
      refine lv_istore (lv' := [(5, .int r2), (0, .ref (a 0)), (1, .int p1), (2, .int v2), (3, .int v3), (4, .int v4)]) hx hb dX1_thereAhead_25 hl (by decide) rfl (fun ls hl => ?_)
      refine lv_iload hx hb dX1_thereAhead_27 (lv_at hl 0 rfl) ?_
      refine lv_iload_n hx hb dX1_thereAhead_29 rfl (lv_at hl 2 rfl) ?_
      refine lv_iload_n hx hb dX1_thereAhead_30 rfl (lv_at hl 4 rfl) ?_
      refine lv_isub hx hb dX1_thereAhead_31 ?_
      refine lv_iconst (v := (nI 0)) hx hb dX1_thereAhead_32 (by decide) ?_
      refine va_mmax hx hb (by rw [C.2.2.2.1]; exact hl.1.symm) hown (hts _ tw_449) (hts _ tw_60) (hts _ tw_21) (hts _ tw_61) (Nat.le_of_ble_eq_true rfl) (Nat.le_of_ble_eq_true rfl) (Nat.zero_le _) (Nat.zero_le _) dX1_thereAhead_33 ?_
      refine va_mmin hx hb (by rw [C.2.2.2.1]; exact hl.1.symm) hown (hts _ tw_261) (hts _ tw_226) (hts _ tw_21) (hts _ tw_227) (Nat.le_of_ble_eq_true rfl) (Nat.le_of_ble_eq_true rfl) (Nat.zero_le _) (Nat.zero_le _) dX1_thereAhead_36 ?_
      refine lv_topi (fun y3 ey3 => ?_)
      replace hw := hw y3 ey3
      refine lv_istore (lv' := [(6, .int y3), (5, .int r2), (0, .ref (a 0)), (1, .int p1), (2, .int v2), (3, .int v3), (4, .int v4)]) hx hb dX1_thereAhead_39 hl (by decide) rfl (fun ls hl => ?_)
      refine lv_iload_n hx hb dX1_thereAhead_41 rfl (lv_at hl 4 rfl) ?_
      refine lv_iload hx hb dX1_thereAhead_42 (lv_at hl 0 rfl) ?_
      refine lv_aload_n hx hb dX1_thereAhead_44 rfl (lv_at hl 2 rfl) ?_
      refine va_get (D := D) (ci := 1) (v := .ref (a 6)) (C := RX1) (T := TX1) (N := 6) hx hb hts inX1 hown hK.1 hP 0 rfl rfl 4 (by decide) (hts _ tw_83) (fun _ h9 => h9) rfl dX1_thereAhead_45 ?_
      refine lv_iload hx hb dX1_thereAhead_48 (lv_at hl 6 rfl) ?_
      refine kRV (As := [.int v4]) (rest := [.int y3, .int v2]) (q0 := 6) C (c_X4_at l D kI kC kB (fun i => a (i + 6)) z_lost v4 _ hw) ⟨rfl, rfl⟩ ce_X4_at cv_X4_at tw_260 ⟨Nat.le_of_ble_eq_true rfl, Nat.le_of_ble_eq_true rfl⟩ hP [6, 7] rfl rfl rfl rfl hl.1 rfl (Nat.le_of_ble_eq_true rfl) ⟨Nat.zero_le _, Nat.zero_le _⟩ dX1_thereAhead_50 (fun r4 hw => ?_)
      refine lv_iconst (v := (nI 1)) hx hb dX1_thereAhead_53 (by decide) ?_
      refine lv_iload hx hb dX1_thereAhead_54 (lv_at hl 0 rfl) ?_
      refine lv_ishl hx hb dX1_thereAhead_56 ?_
      refine lv_iconst (v := (nI 1)) hx hb dX1_thereAhead_57 (by decide) ?_
      refine lv_isub hx hb dX1_thereAhead_58 ?_
      refine lv_iand hx hb dX1_thereAhead_59 ?_
      refine kRS (As := [.int (r4 &&& (((nI 1) <<< (y3 &&& 31)) - (nI 1)))]) (rest := [.int y3, .int v2]) C (c_J6_bitCount_0f7a4 l D kI kC kB  (r4 &&& (((nI 1) <<< (y3 &&& 31)) - (nI 1))) _ hw) ⟨rfl, rfl⟩ ce_J6_bitCount_0f7a4 cv_J6_bitCount_0f7a4 tw_450 ⟨Nat.le_of_ble_eq_true rfl, Nat.le_of_ble_eq_true rfl⟩ hP [] rfl hl.1 rfl (Nat.le_of_ble_eq_true rfl) ⟨Nat.zero_le _, Nat.zero_le _⟩ dX1_thereAhead_60 (fun r5 hw => ?_)
      refine lv_isub hx hb dX1_thereAhead_63 ?_
      refine lv_iadd hx hb dX1_thereAhead_64 ?_
      refine lv_topi (fun y6 ey6 => ?_)
      replace hw := hw y6 ey6
      refine lv_istore_n (lv' := [(2, .int y6), (6, .int y3), (5, .int r2), (0, .ref (a 0)), (1, .int p1), (3, .int v3), (4, .int v4)]) hx hb dX1_thereAhead_65 rfl hl (by decide) rfl (fun ls hl => ?_)
      refine lv_iload_n hx hb dX1_thereAhead_66 rfl (lv_at hl 5 rfl) ?_
      refine lv_iload hx hb dX1_thereAhead_67 (lv_at hl 2 rfl) ?_
      refine lv_iadd hx hb dX1_thereAhead_69 ?_
      refine lv_topi (fun y7 ey7 => ?_)
      replace hw := hw y7 ey7
      refine lv_istore_n (lv' := [(3, .int y7), (2, .int y6), (6, .int y3), (5, .int r2), (0, .ref (a 0)), (1, .int p1), (4, .int v4)]) hx hb dX1_thereAhead_70 rfl hl (by decide) rfl (fun ls hl => ?_)
      refine lv_iinc (v := (v4 + nI 1)) (lv' := [(4, .int (v4 + nI 1)), (3, .int y7), (2, .int y6), (6, .int y3), (5, .int r2), (0, .ref (a 0)), (1, .int p1)]) hx hb dX1_thereAhead_71 hl (k := 6) rfl rfl (by decide) rfl (fun ls hl => ?_)
      refine lv_goto (tgt := 7) hx hb dX1_thereAhead_74 (by decide) ?_
      exact ih y6 y7 (v4 + nI 1) hw ls (lv_sub hl [5, 6, 2, 1, 0] rfl)
set_option maxHeartbeats 4000000 in
set_option maxRecDepth 100000 in
theorem c_X1_thereAhead (l : Launch) (D : va_G) (kI kC kB : ClassId) (a : AdT) (z_alphabet_out : Int32) (z_signing : Int32) (z_signs : RowT) (z_sizes : RowT) (z_lost : RowT) (z_pile : RowT) (p1 : Int32) (Post : Int32 → Prop) (hw : wp_X1_thereAhead z_signs z_sizes z_lost p1 Post) : CR l D kI kC kB yX1_thereAhead cX1_thereAhead 7 (some .int) ({ frames := 2, cells := 0, slots := 0, locals := 40 } : Room) [.ref (a 0), .int p1] (cwBook kI a z_alphabet_out z_signing z_signs z_sizes z_lost z_pile) Post := by
  refine entR (by decide) (Nat.le_of_ble_eq_true rfl) ?_
  intro p e s m args below meth c ls C hP hl
  replace hl : lv_has ls 7 [(0, .ref (a 0)), (1, .int p1)] := hl
  obtain ⟨hx, hb, hr, hml, hown, hts, hlocks, hK⟩ := id C
  refine lv_iconst (v := (nI 0)) hx hb dX1_thereAhead_0 (by decide) ?_
  refine lv_istore_n (lv' := [(2, .int (nI 0)), (0, .ref (a 0)), (1, .int p1)]) hx hb dX1_thereAhead_1 rfl hl (by decide) rfl (fun ls hl => ?_)
  refine lv_iconst (v := (nI 0)) hx hb dX1_thereAhead_2 (by decide) ?_
  refine lv_istore_n (lv' := [(3, .int (nI 0)), (2, .int (nI 0)), (0, .ref (a 0)), (1, .int p1)]) hx hb dX1_thereAhead_3 rfl hl (by decide) rfl (fun ls hl => ?_)
  refine lv_iconst (v := (nI 0)) hx hb dX1_thereAhead_4 (by decide) ?_
  refine lv_istore (lv' := [(4, .int (nI 0)), (3, .int (nI 0)), (2, .int (nI 0)), (0, .ref (a 0)), (1, .int p1)]) hx hb dX1_thereAhead_5 hl (by decide) rfl (fun ls hl => ?_)
  obtain ⟨n9, hw⟩ := hw
  exact cl_X1_thereAhead_7 l D kI kC kB a z_alphabet_out z_signing z_signs z_sizes z_lost z_pile p1 Post C hP n9 (nI 0) (nI 0) (nI 0) hw ls (lv_sub hl [3, 4, 2, 1, 0] rfl)
set_option maxHeartbeats 4000000 in
set_option maxRecDepth 100000 in
theorem c_X1_leavesThere (l : Launch) (D : va_G) (kI kC kB : ClassId) (a : AdT) (z_alphabet_out : Int32) (z_signing : Int32) (z_signs : RowT) (z_sizes : RowT) (z_lost : RowT) (z_pile : RowT) (Post : Int32 → Prop) (hw : wp_X1_leavesThere z_signs z_sizes z_lost Post) : CR l D kI kC kB yX1_leavesThere cX1_leavesThere 1 (some .int) ({ frames := 3, cells := 0, slots := 0, locals := 66 } : Room) [.ref (a 0)] (cwBook kI a z_alphabet_out z_signing z_signs z_sizes z_lost z_pile) Post := by
  refine entR (by decide) (Nat.le_of_ble_eq_true rfl) ?_
  intro p e s m args below meth c ls C hP hl
  replace hl : lv_has ls 1 [(0, .ref (a 0))] := hl
  obtain ⟨hx, hb, hr, hml, hown, hts, hlocks, hK⟩ := id C
  refine lv_aload_n hx hb dX1_leavesThere_0 rfl (lv_at hl 0 rfl) ?_
  refine lv_aload_n hx hb dX1_leavesThere_1 rfl (lv_at hl 0 rfl) ?_
  refine kRV (As := []) (rest := [.ref (a 0)]) (q0 := 0) C (c_X1_leaves l D kI kC kB a z_alphabet_out z_signing z_signs z_sizes z_lost z_pile _ hw) ⟨rfl, rfl⟩ ce_X1_leaves cv_X1_leaves tw_423 ⟨Nat.le_of_ble_eq_true rfl, Nat.le_of_ble_eq_true rfl⟩ hP [0, 1, 2, 3, 4, 5, 6, 7, 8, 9] rfl rfl rfl rfl hl.1 rfl (Nat.le_of_ble_eq_true rfl) ⟨Nat.zero_le _, Nat.zero_le _⟩ dX1_leavesThere_2 (fun r1 hw => ?_)
  refine kRV (As := [.int r1]) (rest := []) (q0 := 0) C (c_X1_thereAhead l D kI kC kB a z_alphabet_out z_signing z_signs z_sizes z_lost z_pile r1 _ hw) ⟨rfl, rfl⟩ ce_X1_thereAhead cv_X1_thereAhead tw_445 ⟨Nat.le_of_ble_eq_true rfl, Nat.le_of_ble_eq_true rfl⟩ hP [0, 1, 2, 3, 4, 5, 6, 7, 8, 9] rfl rfl rfl rfl hl.1 rfl (Nat.le_of_ble_eq_true rfl) ⟨Nat.zero_le _, Nat.zero_le _⟩ dX1_leavesThere_5 (fun r2 hw => ?_)
  exact retR C hw dX1_leavesThere_8
set_option maxHeartbeats 4000000 in
set_option maxRecDepth 100000 in
theorem c_X1_become (l : Launch) (D : va_G) (kI kC kB : ClassId) (a : AdT) (b : AdT) (z_alphabet_out : Int32) (z_signing : Int32) (z_signs : RowT) (z_sizes : RowT) (z_lost : RowT) (z_pile : RowT) (o1_alphabet_out : Int32) (o1_signing : Int32) (o1_signs : RowT) (o1_sizes : RowT) (o1_lost : RowT) (o1_pile : RowT) (sz : Nat) (Post : Int32 → Int32 → RowT → RowT → RowT → RowT → Prop) (hw : wp_X1_become z_alphabet_out z_signing z_signs z_sizes z_lost z_pile o1_alphabet_out o1_signing o1_signs o1_sizes o1_lost o1_pile Post) : CMv l D kI kC kB yX1_become cX1_become 2 none ({ frames := 2, cells := 0, slots := 0, locals := 44 } : Room) [.ref (a 0), .ref (b 0)] (cwBook kI a z_alphabet_out z_signing z_signs z_sizes z_lost z_pile ++ cwBook kI b o1_alphabet_out o1_signing o1_signs o1_sizes o1_lost o1_pile) sz (fun (u : Int32 × Int32 × RowT × RowT × RowT × RowT) => Post u.1 u.2.1 u.2.2.1 u.2.2.2.1 u.2.2.2.2.1 u.2.2.2.2.2) (fun u : Int32 × Int32 × RowT × RowT × RowT × RowT => (cwBook kI a u.1 u.2.1 u.2.2.1 u.2.2.2.1 u.2.2.2.2.1 u.2.2.2.2.2 ++ cwBook kI b o1_alphabet_out o1_signing o1_signs o1_sizes o1_lost o1_pile)) := by
  refine entMv (by decide) (Nat.le_of_ble_eq_true rfl) ?_
  intro p e s m args below meth c ls A C hA hP hD hS hl
  obtain ⟨H, hHe⟩ : ∃ H, H = s.heap := ⟨_, rfl⟩
  obtain ⟨locs, hlo⟩ : ∃ lo : List Loc, lo = [] := ⟨_, rfl⟩
  have hS : va_S A s.heap H locs := by rw [hHe, hlo]; exact hS
  rw [← hHe] at hP
  suffices hg : W p l e ({ frames := 2, cells := 0, slots := 0, locals := 44 } : Room) s m args below meth c H locs 0 0 (MQ below (va_Qv (fun (u : Int32 × Int32 × RowT × RowT × RowT × RowT) => Post u.1 u.2.1 u.2.2.1 u.2.2.2.1 u.2.2.2.2.1 u.2.2.2.2.2) (BB D A (fun u : Int32 × Int32 × RowT × RowT × RowT × RowT => (cwBook kI a u.1 u.2.1 u.2.2.1 u.2.2.2.1 u.2.2.2.2.1 u.2.2.2.2.2 ++ cwBook kI b o1_alphabet_out o1_signing o1_signs o1_sizes o1_lost o1_pile))) A) args s 0 0 A) (F0 m 0 ls []) by rw [hHe, hlo] at hg; exact hg
  replace hl : lv_has ls 2 [(0, .ref (a 0)), (1, .ref (b 0))] := hl
  obtain ⟨hx, hb, hr, hml, hown, hts, hlocks, hK⟩ := id C
  refine lv_aload_n hx hb dX1_become_0 rfl (lv_at hl 0 rfl) ?_
  refine va_get (D := D) (ci := 1) (v := .ref (a 1)) (C := RX1) (T := TX1) (N := 6) hx hb hts inX1 hown hK.1 hP 0 rfl rfl 0 (by decide) (hts _ tw_70) (fun _ h9 => h9) rfl dX1_become_1 ?_
  refine lv_aload_n hx hb dX1_become_4 rfl (lv_at hl 1 rfl) ?_
  refine va_get (D := D) (ci := 1) (v := .ref (b 1)) (C := RX1) (T := TX1) (N := 6) hx hb hts inX1 hown hK.1 hP 10 rfl rfl 0 (by decide) (hts _ tw_70) (fun _ h9 => h9) rfl dX1_become_5 ?_
  refine kMVv (q0 := 1) (As := [.ref (b 1)]) (rest := []) C (c_X0_become l D kI kC kB (fun i => a (i + 1)) (fun i => b (i + 1)) z_alphabet_out o1_alphabet_out H.size _ hw) ⟨rfl, rfl⟩ ce_X0_become cv_X0_become tw_217 ⟨Nat.le_of_ble_eq_true rfl, Nat.le_of_ble_eq_true rfl⟩ hP hD hS hA [1, 11] rfl rfl (fun _ => rfl) rfl rfl rfl hl.1 rfl (Nat.le_of_ble_eq_true rfl) ⟨Nat.zero_le _, Nat.zero_le _⟩ dX1_become_8 (fun u H locs hw hP hD hS => ?_)
  obtain ⟨u1, rfl⟩ : ∃ z, z = u := ⟨_, rfl⟩
  try dsimp only at hw
  replace hP : va_P D vwCl (cwBook kI a u1 z_signing z_signs z_sizes z_lost z_pile ++ cwBook kI b o1_alphabet_out o1_signing o1_signs o1_sizes o1_lost o1_pile) H := hP
  replace hD : va_D A (cwBook kI a u1 z_signing z_signs z_sizes z_lost z_pile ++ cwBook kI b o1_alphabet_out o1_signing o1_signs o1_sizes o1_lost o1_pile) := hD
  refine lv_aload_n hx hb dX1_become_11 rfl (lv_at hl 0 rfl) ?_
  refine lv_aload_n hx hb dX1_become_12 rfl (lv_at hl 1 rfl) ?_
  refine va_get (D := D) (ci := 1) (v := .int o1_signing) (C := RX1) (T := TX1) (N := 6) hx hb hts inX1 hown hK.1 hP 10 rfl rfl 1 (by decide) (hts _ tw_74) (fun _ h9 => h9) rfl dX1_become_13 ?_
  refine va_put (D := D) (ci := 1) (v := .int o1_signing) (ty := .int) (C := RX1) (T := TX1) (N := 6) hx hb hts inX1 tyX1 tyX1_ok nmX1 hown hK.1 hP hD hS 0 rfl rfl 1 (by decide) (hts _ tw_74) (fun _ h9 => h9) rfl (tyX1_ok 1 (by decide)) rfl rfl (Nat.le_of_ble_eq_true rfl) dX1_become_16 (fun H locs hP hD hS => ?_)
  replace hP : va_P D vwCl (cwBook kI a u1 o1_signing z_signs z_sizes z_lost z_pile ++ cwBook kI b o1_alphabet_out o1_signing o1_signs o1_sizes o1_lost o1_pile) H := hP
  replace hD : va_D A (cwBook kI a u1 o1_signing z_signs z_sizes z_lost z_pile ++ cwBook kI b o1_alphabet_out o1_signing o1_signs o1_sizes o1_lost o1_pile) := hD
  refine lv_aload_n hx hb dX1_become_19 rfl (lv_at hl 0 rfl) ?_
  refine va_get (D := D) (ci := 1) (v := .ref (a 2)) (C := RX1) (T := TX1) (N := 6) hx hb hts inX1 hown hK.1 hP 0 rfl rfl 2 (by decide) (hts _ tw_76) (fun _ h9 => h9) rfl dX1_become_20 ?_
  refine lv_aload_n hx hb dX1_become_23 rfl (lv_at hl 1 rfl) ?_
  refine va_get (D := D) (ci := 1) (v := .ref (b 2)) (C := RX1) (T := TX1) (N := 6) hx hb hts inX1 hown hK.1 hP 10 rfl rfl 2 (by decide) (hts _ tw_76) (fun _ h9 => h9) rfl dX1_become_24 ?_
  refine kMVv (q0 := 2) (As := [.ref (b 2)]) (rest := []) C (c_X4_become l D kI kC kB (fun i => a (i + 2)) (fun i => b (i + 2)) z_signs o1_signs H.size _ hw) ⟨rfl, rfl⟩ ce_X4_become cv_X4_become tw_221 ⟨Nat.le_of_ble_eq_true rfl, Nat.le_of_ble_eq_true rfl⟩ hP hD hS hA [2, 3, 12, 13] rfl rfl (fun _ => rfl) rfl rfl rfl hl.1 rfl (Nat.le_of_ble_eq_true rfl) ⟨Nat.zero_le _, Nat.zero_le _⟩ dX1_become_27 (fun u H locs hw hP hD hS => ?_)
  obtain ⟨u2, rfl⟩ : ∃ z, z = u := ⟨_, rfl⟩
  try dsimp only at hw
  replace hP : va_P D vwCl (cwBook kI a u1 o1_signing u2 z_sizes z_lost z_pile ++ cwBook kI b o1_alphabet_out o1_signing o1_signs o1_sizes o1_lost o1_pile) H := hP
  replace hD : va_D A (cwBook kI a u1 o1_signing u2 z_sizes z_lost z_pile ++ cwBook kI b o1_alphabet_out o1_signing o1_signs o1_sizes o1_lost o1_pile) := hD
  refine lv_aload_n hx hb dX1_become_30 rfl (lv_at hl 0 rfl) ?_
  refine va_get (D := D) (ci := 1) (v := .ref (a 4)) (C := RX1) (T := TX1) (N := 6) hx hb hts inX1 hown hK.1 hP 0 rfl rfl 3 (by decide) (hts _ tw_80) (fun _ h9 => h9) rfl dX1_become_31 ?_
  refine lv_aload_n hx hb dX1_become_34 rfl (lv_at hl 1 rfl) ?_
  refine va_get (D := D) (ci := 1) (v := .ref (b 4)) (C := RX1) (T := TX1) (N := 6) hx hb hts inX1 hown hK.1 hP 10 rfl rfl 3 (by decide) (hts _ tw_80) (fun _ h9 => h9) rfl dX1_become_35 ?_
  refine kMVv (q0 := 4) (As := [.ref (b 4)]) (rest := []) C (c_X4_become l D kI kC kB (fun i => a (i + 4)) (fun i => b (i + 4)) z_sizes o1_sizes H.size _ hw) ⟨rfl, rfl⟩ ce_X4_become cv_X4_become tw_221 ⟨Nat.le_of_ble_eq_true rfl, Nat.le_of_ble_eq_true rfl⟩ hP hD hS hA [4, 5, 14, 15] rfl rfl (fun _ => rfl) rfl rfl rfl hl.1 rfl (Nat.le_of_ble_eq_true rfl) ⟨Nat.zero_le _, Nat.zero_le _⟩ dX1_become_38 (fun u H locs hw hP hD hS => ?_)
  obtain ⟨u3, rfl⟩ : ∃ z, z = u := ⟨_, rfl⟩
  try dsimp only at hw
  replace hP : va_P D vwCl (cwBook kI a u1 o1_signing u2 u3 z_lost z_pile ++ cwBook kI b o1_alphabet_out o1_signing o1_signs o1_sizes o1_lost o1_pile) H := hP
  replace hD : va_D A (cwBook kI a u1 o1_signing u2 u3 z_lost z_pile ++ cwBook kI b o1_alphabet_out o1_signing o1_signs o1_sizes o1_lost o1_pile) := hD
  refine lv_aload_n hx hb dX1_become_41 rfl (lv_at hl 0 rfl) ?_
  refine va_get (D := D) (ci := 1) (v := .ref (a 6)) (C := RX1) (T := TX1) (N := 6) hx hb hts inX1 hown hK.1 hP 0 rfl rfl 4 (by decide) (hts _ tw_83) (fun _ h9 => h9) rfl dX1_become_42 ?_
  refine lv_aload_n hx hb dX1_become_45 rfl (lv_at hl 1 rfl) ?_
  refine va_get (D := D) (ci := 1) (v := .ref (b 6)) (C := RX1) (T := TX1) (N := 6) hx hb hts inX1 hown hK.1 hP 10 rfl rfl 4 (by decide) (hts _ tw_83) (fun _ h9 => h9) rfl dX1_become_46 ?_
  refine kMVv (q0 := 6) (As := [.ref (b 6)]) (rest := []) C (c_X4_become l D kI kC kB (fun i => a (i + 6)) (fun i => b (i + 6)) z_lost o1_lost H.size _ hw) ⟨rfl, rfl⟩ ce_X4_become cv_X4_become tw_221 ⟨Nat.le_of_ble_eq_true rfl, Nat.le_of_ble_eq_true rfl⟩ hP hD hS hA [6, 7, 16, 17] rfl rfl (fun _ => rfl) rfl rfl rfl hl.1 rfl (Nat.le_of_ble_eq_true rfl) ⟨Nat.zero_le _, Nat.zero_le _⟩ dX1_become_49 (fun u H locs hw hP hD hS => ?_)
  obtain ⟨u4, rfl⟩ : ∃ z, z = u := ⟨_, rfl⟩
  try dsimp only at hw
  replace hP : va_P D vwCl (cwBook kI a u1 o1_signing u2 u3 u4 z_pile ++ cwBook kI b o1_alphabet_out o1_signing o1_signs o1_sizes o1_lost o1_pile) H := hP
  replace hD : va_D A (cwBook kI a u1 o1_signing u2 u3 u4 z_pile ++ cwBook kI b o1_alphabet_out o1_signing o1_signs o1_sizes o1_lost o1_pile) := hD
  refine lv_aload_n hx hb dX1_become_52 rfl (lv_at hl 0 rfl) ?_
  refine va_get (D := D) (ci := 1) (v := .ref (a 8)) (C := RX1) (T := TX1) (N := 6) hx hb hts inX1 hown hK.1 hP 0 rfl rfl 5 (by decide) (hts _ tw_84) (fun _ h9 => h9) rfl dX1_become_53 ?_
  refine lv_aload_n hx hb dX1_become_56 rfl (lv_at hl 1 rfl) ?_
  refine va_get (D := D) (ci := 1) (v := .ref (b 8)) (C := RX1) (T := TX1) (N := 6) hx hb hts inX1 hown hK.1 hP 10 rfl rfl 5 (by decide) (hts _ tw_84) (fun _ h9 => h9) rfl dX1_become_57 ?_
  refine kMVv (q0 := 8) (As := [.ref (b 8)]) (rest := []) C (c_X4_become l D kI kC kB (fun i => a (i + 8)) (fun i => b (i + 8)) z_pile o1_pile H.size _ hw) ⟨rfl, rfl⟩ ce_X4_become cv_X4_become tw_221 ⟨Nat.le_of_ble_eq_true rfl, Nat.le_of_ble_eq_true rfl⟩ hP hD hS hA [8, 9, 18, 19] rfl rfl (fun _ => rfl) rfl rfl rfl hl.1 rfl (Nat.le_of_ble_eq_true rfl) ⟨Nat.zero_le _, Nat.zero_le _⟩ dX1_become_60 (fun u H locs hw hP hD hS => ?_)
  obtain ⟨u5, rfl⟩ : ∃ z, z = u := ⟨_, rfl⟩
  try dsimp only at hw
  replace hP : va_P D vwCl (cwBook kI a u1 o1_signing u2 u3 u4 u5 ++ cwBook kI b o1_alphabet_out o1_signing o1_signs o1_sizes o1_lost o1_pile) H := hP
  replace hD : va_D A (cwBook kI a u1 o1_signing u2 u3 u4 u5 ++ cwBook kI b o1_alphabet_out o1_signing o1_signs o1_sizes o1_lost o1_pile) := hD
  exact retMv C (u1, o1_signing, u2, u3, u4, u5) hw hP hD hS dX1_become_63
set_option maxHeartbeats 4000000 in
set_option maxRecDepth 100000 in
theorem cl_X1_sameAhead_4 (l : Launch) (D : va_G) (kI kC kB : ClassId) (a : AdT) (z_alphabet_out : Int32) (z_signing : Int32) (z_signs : RowT) (z_sizes : RowT) (z_lost : RowT) (z_pile : RowT) (p1 : Int32) (Post : Int32 → Prop) {p : Program} {e : Env} {s : State} {m : MethodId} {args : Array Value} {below : List Frame} {meth : Method} {c : Code} (C : CtxT p s m args meth c cX1_sameAhead 4 (some .int) yX1_sameAhead.cls D kI kC kB) (hP : va_P D vwCl (cwBook kI a z_alphabet_out z_signing z_signs z_sizes z_lost z_pile) s.heap) : ∀ (n : Nat), ∀ (v2 : Int32) (v3 : Int32), wl_X1_sameAhead_4 z_signs p1 Post n v2 v3 → ∀ (ls : Array Slot), lv_has ls 4 [(0, .ref (a 0)), (1, .int p1), (2, .int v2), (3, .int v3)] → W p l e ({ frames := 1, cells := 0, slots := 0, locals := 21 } : Room) s m args below meth c s.heap [] 0 0 (MQ below (vp_Si Post) args s 0 0 (fun _ => False)) (F0 m 4 ls []) := by
  obtain ⟨hx, hb, hr, hml, hown, hts, hlocks, hK⟩ := id C
  intro n
  induction n with
  | zero => intro v2 v3 hw; exact hw.elim
  | succ n ih =>
    intro v2 v3 hw ls hl
    refine lv_iload_n hx hb dX1_sameAhead_4 rfl (lv_at hl 3 rfl) ?_
    refine lv_iload_n hx hb dX1_sameAhead_5 rfl (lv_at hl 1 rfl) ?_
    refine lv_icmp_ge (tgt := 37) hx hb dX1_sameAhead_6 (by decide) (fun hc => ?_) (fun hc => ?_)
    · replace hw := hw.1 hc
      refine lv_iload_n hx hb dX1_sameAhead_37 rfl (lv_at hl 2 rfl) ?_
      exact retR C hw dX1_sameAhead_38
    · replace hw := hw.2 hc
      refine lv_aload_n hx hb dX1_sameAhead_9 rfl (lv_at hl 0 rfl) ?_
      refine va_get (D := D) (ci := 1) (v := .ref (a 2)) (C := RX1) (T := TX1) (N := 6) hx hb hts inX1 hown hK.1 hP 0 rfl rfl 2 (by decide) (hts _ tw_76) (fun _ h9 => h9) rfl dX1_sameAhead_10 ?_
      refine lv_iload_n hx hb dX1_sameAhead_13 rfl (lv_at hl 3 rfl) ?_
      refine kRV (As := [.int v3]) (rest := []) (q0 := 2) C (c_X4_at l D kI kC kB (fun i => a (i + 2)) z_signs v3 _ hw) ⟨rfl, rfl⟩ ce_X4_at cv_X4_at tw_260 ⟨Nat.le_of_ble_eq_true rfl, Nat.le_of_ble_eq_true rfl⟩ hP [2, 3] rfl rfl rfl rfl hl.1 rfl (Nat.le_of_ble_eq_true rfl) ⟨Nat.zero_le _, Nat.zero_le _⟩ dX1_sameAhead_14 (fun r1 hw => ?_)
      refine lv_aload_n hx hb dX1_sameAhead_17 rfl (lv_at hl 0 rfl) ?_
      refine va_get (D := D) (ci := 1) (v := .ref (a 2)) (C := RX1) (T := TX1) (N := 6) hx hb hts inX1 hown hK.1 hP 0 rfl rfl 2 (by decide) (hts _ tw_76) (fun _ h9 => h9) rfl dX1_sameAhead_18 ?_
      refine lv_iload_n hx hb dX1_sameAhead_21 rfl (lv_at hl 1 rfl) ?_
      refine kRV (As := [.int p1]) (rest := [.int r1]) (q0 := 2) C (c_X4_at l D kI kC kB (fun i => a (i + 2)) z_signs p1 _ hw) ⟨rfl, rfl⟩ ce_X4_at cv_X4_at tw_260 ⟨Nat.le_of_ble_eq_true rfl, Nat.le_of_ble_eq_true rfl⟩ hP [2, 3] rfl rfl rfl rfl hl.1 rfl (Nat.le_of_ble_eq_true rfl) ⟨Nat.zero_le _, Nat.zero_le _⟩ dX1_sameAhead_22 (fun r2 hw => ?_)
      refine lv_icmp_ne (tgt := 31) hx hb dX1_sameAhead_25 (by decide) (fun hc => ?_) (fun hc => ?_)
      · replace hw := hw.2 hc
        refine lv_iinc (v := (v3 + nI 1)) (lv' := [(3, .int (v3 + nI 1)), (0, .ref (a 0)), (1, .int p1), (2, .int v2)]) hx hb dX1_sameAhead_31 hl (k := 3) rfl rfl (by decide) rfl (fun ls hl => ?_)
        refine lv_goto (tgt := 4) hx hb dX1_sameAhead_34 (by decide) ?_
        exact ih v2 (v3 + nI 1) hw ls (lv_sub hl [1, 2, 3, 0] rfl)
      · replace hw := hw.1 hc
        refine lv_iinc (v := (v2 + nI 1)) (lv' := [(2, .int (v2 + nI 1)), (0, .ref (a 0)), (1, .int p1), (3, .int v3)]) hx hb dX1_sameAhead_28 hl (k := 2) rfl rfl (by decide) rfl (fun ls hl => ?_)
        refine lv_iinc (v := (v3 + nI 1)) (lv' := [(3, .int (v3 + nI 1)), (2, .int (v2 + nI 1)), (0, .ref (a 0)), (1, .int p1)]) hx hb dX1_sameAhead_31 hl (k := 3) rfl rfl (by decide) rfl (fun ls hl => ?_)
        refine lv_goto (tgt := 4) hx hb dX1_sameAhead_34 (by decide) ?_
        exact ih (v2 + nI 1) (v3 + nI 1) hw ls (lv_sub hl [2, 3, 1, 0] rfl)
set_option maxHeartbeats 4000000 in
set_option maxRecDepth 100000 in
theorem c_X1_sameAhead (l : Launch) (D : va_G) (kI kC kB : ClassId) (a : AdT) (z_alphabet_out : Int32) (z_signing : Int32) (z_signs : RowT) (z_sizes : RowT) (z_lost : RowT) (z_pile : RowT) (p1 : Int32) (Post : Int32 → Prop) (hw : wp_X1_sameAhead z_signs p1 Post) : CR l D kI kC kB yX1_sameAhead cX1_sameAhead 4 (some .int) ({ frames := 1, cells := 0, slots := 0, locals := 21 } : Room) [.ref (a 0), .int p1] (cwBook kI a z_alphabet_out z_signing z_signs z_sizes z_lost z_pile) Post := by
  refine entR (by decide) (Nat.le_of_ble_eq_true rfl) ?_
  intro p e s m args below meth c ls C hP hl
  replace hl : lv_has ls 4 [(0, .ref (a 0)), (1, .int p1)] := hl
  obtain ⟨hx, hb, hr, hml, hown, hts, hlocks, hK⟩ := id C
  refine lv_iconst (v := (nI 0)) hx hb dX1_sameAhead_0 (by decide) ?_
  refine lv_istore_n (lv' := [(2, .int (nI 0)), (0, .ref (a 0)), (1, .int p1)]) hx hb dX1_sameAhead_1 rfl hl (by decide) rfl (fun ls hl => ?_)
  refine lv_iconst (v := (nI 0)) hx hb dX1_sameAhead_2 (by decide) ?_
  refine lv_istore_n (lv' := [(3, .int (nI 0)), (2, .int (nI 0)), (0, .ref (a 0)), (1, .int p1)]) hx hb dX1_sameAhead_3 rfl hl (by decide) rfl (fun ls hl => ?_)
  obtain ⟨n9, hw⟩ := hw
  exact cl_X1_sameAhead_4 l D kI kC kB a z_alphabet_out z_signing z_signs z_sizes z_lost z_pile p1 Post C hP n9 (nI 0) (nI 0) hw ls (lv_sub hl [2, 3, 1, 0] rfl)
set_option maxHeartbeats 4000000 in
set_option maxRecDepth 100000 in
theorem c_X1_thereIn (l : Launch) (D : va_G) (kI kC kB : ClassId) (a : AdT) (z_alphabet_out : Int32) (z_signing : Int32) (z_signs : RowT) (z_sizes : RowT) (z_lost : RowT) (z_pile : RowT) (p1 : Int32) (Post : Int32 → Prop) (hw : wp_X1_thereIn z_sizes z_lost p1 Post) : CR l D kI kC kB yX1_thereIn cX1_thereIn 2 (some .int) ({ frames := 1, cells := 0, slots := 0, locals := 21 } : Room) [.ref (a 0), .int p1] (cwBook kI a z_alphabet_out z_signing z_signs z_sizes z_lost z_pile) Post := by
  refine entR (by decide) (Nat.le_of_ble_eq_true rfl) ?_
  intro p e s m args below meth c ls C hP hl
  replace hl : lv_has ls 2 [(0, .ref (a 0)), (1, .int p1)] := hl
  obtain ⟨hx, hb, hr, hml, hown, hts, hlocks, hK⟩ := id C
  refine lv_aload_n hx hb dX1_thereIn_0 rfl (lv_at hl 0 rfl) ?_
  refine va_get (D := D) (ci := 1) (v := .ref (a 4)) (C := RX1) (T := TX1) (N := 6) hx hb hts inX1 hown hK.1 hP 0 rfl rfl 3 (by decide) (hts _ tw_80) (fun _ h9 => h9) rfl dX1_thereIn_1 ?_
  refine lv_iload_n hx hb dX1_thereIn_4 rfl (lv_at hl 1 rfl) ?_
  refine kRV (As := [.int p1]) (rest := []) (q0 := 4) C (c_X4_at l D kI kC kB (fun i => a (i + 4)) z_sizes p1 _ hw) ⟨rfl, rfl⟩ ce_X4_at cv_X4_at tw_260 ⟨Nat.le_of_ble_eq_true rfl, Nat.le_of_ble_eq_true rfl⟩ hP [4, 5] rfl rfl rfl rfl hl.1 rfl (Nat.le_of_ble_eq_true rfl) ⟨Nat.zero_le _, Nat.zero_le _⟩ dX1_thereIn_5 (fun r1 hw => ?_)
  refine lv_aload_n hx hb dX1_thereIn_8 rfl (lv_at hl 0 rfl) ?_
  refine va_get (D := D) (ci := 1) (v := .ref (a 6)) (C := RX1) (T := TX1) (N := 6) hx hb hts inX1 hown hK.1 hP 0 rfl rfl 4 (by decide) (hts _ tw_83) (fun _ h9 => h9) rfl dX1_thereIn_9 ?_
  refine lv_iload_n hx hb dX1_thereIn_12 rfl (lv_at hl 1 rfl) ?_
  refine kRV (As := [.int p1]) (rest := [.int r1]) (q0 := 6) C (c_X4_at l D kI kC kB (fun i => a (i + 6)) z_lost p1 _ hw) ⟨rfl, rfl⟩ ce_X4_at cv_X4_at tw_260 ⟨Nat.le_of_ble_eq_true rfl, Nat.le_of_ble_eq_true rfl⟩ hP [6, 7] rfl rfl rfl rfl hl.1 rfl (Nat.le_of_ble_eq_true rfl) ⟨Nat.zero_le _, Nat.zero_le _⟩ dX1_thereIn_13 (fun r2 hw => ?_)
  refine kRS (As := [.int r2]) (rest := [.int r1]) C (c_J6_bitCount_0f7a4 l D kI kC kB  r2 _ hw) ⟨rfl, rfl⟩ ce_J6_bitCount_0f7a4 cv_J6_bitCount_0f7a4 tw_450 ⟨Nat.le_of_ble_eq_true rfl, Nat.le_of_ble_eq_true rfl⟩ hP [] rfl hl.1 rfl (Nat.le_of_ble_eq_true rfl) ⟨Nat.zero_le _, Nat.zero_le _⟩ dX1_thereIn_16 (fun r3 hw => ?_)
  refine lv_isub hx hb dX1_thereIn_19 ?_
  exact retR C hw dX1_thereIn_20
set_option maxHeartbeats 4000000 in
set_option maxRecDepth 100000 in
theorem cl_X1_leafSigned_2 (l : Launch) (D : va_G) (kI kC kB : ClassId) (a : AdT) (z_alphabet_out : Int32) (z_signing : Int32) (z_signs : RowT) (z_sizes : RowT) (z_lost : RowT) (z_pile : RowT) (p1 : Int32) (p2 : Int32) (Post : Int32 → Prop) {p : Program} {e : Env} {s : State} {m : MethodId} {args : Array Value} {below : List Frame} {meth : Method} {c : Code} (C : CtxT p s m args meth c cX1_leafSigned 4 (some .int) yX1_leafSigned.cls D kI kC kB) (hP : va_P D vwCl (cwBook kI a z_alphabet_out z_signing z_signs z_sizes z_lost z_pile) s.heap) : ∀ (n : Nat), ∀ (v3 : Int32), wl_X1_leafSigned_2 z_signs z_sizes p1 p2 Post n v3 → ∀ (ls : Array Slot), lv_has ls 4 [(0, .ref (a 0)), (1, .int p1), (2, .int p2), (3, .int v3)] → W p l e ({ frames := 2, cells := 0, slots := 0, locals := 44 } : Room) s m args below meth c s.heap [] 0 0 (MQ below (vp_Si Post) args s 0 0 (fun _ => False)) (F0 m 2 ls []) := by
  obtain ⟨hx, hb, hr, hml, hown, hts, hlocks, hK⟩ := id C
  intro n
  induction n with
  | zero => intro v3 hw; exact hw.elim
  | succ n ih =>
    intro v3 hw ls hl
    refine lv_iload_n hx hb dX1_leafSigned_2 rfl (lv_at hl 3 rfl) ?_
    refine lv_aload_n hx hb dX1_leafSigned_3 rfl (lv_at hl 0 rfl) ?_
    refine kRV (As := []) (rest := [.int v3]) (q0 := 0) C (c_X1_quires l D kI kC kB a z_alphabet_out z_signing z_signs z_sizes z_lost z_pile _ hw) ⟨rfl, rfl⟩ ce_X1_quires cv_X1_quires tw_248 ⟨Nat.le_of_ble_eq_true rfl, Nat.le_of_ble_eq_true rfl⟩ hP [0, 1, 2, 3, 4, 5, 6, 7, 8, 9] rfl rfl rfl rfl hl.1 rfl (Nat.le_of_ble_eq_true rfl) ⟨Nat.zero_le _, Nat.zero_le _⟩ dX1_leafSigned_4 (fun r1 hw => ?_)
    refine lv_icmp_ge (tgt := 50) hx hb dX1_leafSigned_7 (by decide) (fun hc => ?_) (fun hc => ?_)
    · replace hw := hw.1 hc
      refine lv_iconst (v := (-1)) hx hb dX1_leafSigned_50 (by decide) ?_
      exact retR C hw dX1_leafSigned_51
    · replace hw := hw.2 hc
      refine lv_aload_n hx hb dX1_leafSigned_10 rfl (lv_at hl 0 rfl) ?_
      refine va_get (D := D) (ci := 1) (v := .ref (a 2)) (C := RX1) (T := TX1) (N := 6) hx hb hts inX1 hown hK.1 hP 0 rfl rfl 2 (by decide) (hts _ tw_76) (fun _ h9 => h9) rfl dX1_leafSigned_11 ?_
      refine lv_iload_n hx hb dX1_leafSigned_14 rfl (lv_at hl 3 rfl) ?_
      refine kRV (As := [.int v3]) (rest := []) (q0 := 2) C (c_X4_at l D kI kC kB (fun i => a (i + 2)) z_signs v3 _ hw) ⟨rfl, rfl⟩ ce_X4_at cv_X4_at tw_260 ⟨Nat.le_of_ble_eq_true rfl, Nat.le_of_ble_eq_true rfl⟩ hP [2, 3] rfl rfl rfl rfl hl.1 rfl (Nat.le_of_ble_eq_true rfl) ⟨Nat.zero_le _, Nat.zero_le _⟩ dX1_leafSigned_15 (fun r2 hw => ?_)
      refine lv_iload_n hx hb dX1_leafSigned_18 rfl (lv_at hl 1 rfl) ?_
      refine lv_icmp_ne (tgt := 44) hx hb dX1_leafSigned_19 (by decide) (fun hc => ?_) (fun hc => ?_)
      · replace hw := hw.2 hc
        refine lv_iinc (v := (v3 + nI 1)) (lv' := [(3, .int (v3 + nI 1)), (0, .ref (a 0)), (1, .int p1), (2, .int p2)]) hx hb dX1_leafSigned_44 hl (k := 3) rfl rfl (by decide) rfl (fun ls hl => ?_)
        refine lv_goto (tgt := 2) hx hb dX1_leafSigned_47 (by decide) ?_
        exact ih (v3 + nI 1) hw ls (lv_sub hl [1, 2, 3, 0] rfl)
      · replace hw := hw.1 hc
        refine lv_iload_n hx hb dX1_leafSigned_22 rfl (lv_at hl 2 rfl) ?_
        refine lv_aload_n hx hb dX1_leafSigned_23 rfl (lv_at hl 0 rfl) ?_
        refine va_get (D := D) (ci := 1) (v := .ref (a 4)) (C := RX1) (T := TX1) (N := 6) hx hb hts inX1 hown hK.1 hP 0 rfl rfl 3 (by decide) (hts _ tw_80) (fun _ h9 => h9) rfl dX1_leafSigned_24 ?_
        refine lv_iload_n hx hb dX1_leafSigned_27 rfl (lv_at hl 3 rfl) ?_
        refine kRV (As := [.int v3]) (rest := [.int p2]) (q0 := 4) C (c_X4_at l D kI kC kB (fun i => a (i + 4)) z_sizes v3 _ hw) ⟨rfl, rfl⟩ ce_X4_at cv_X4_at tw_260 ⟨Nat.le_of_ble_eq_true rfl, Nat.le_of_ble_eq_true rfl⟩ hP [4, 5] rfl rfl rfl rfl hl.1 rfl (Nat.le_of_ble_eq_true rfl) ⟨Nat.zero_le _, Nat.zero_le _⟩ dX1_leafSigned_28 (fun r3 hw => ?_)
        refine lv_icmp_gt (tgt := 44) hx hb dX1_leafSigned_31 (by decide) (fun hc => ?_) (fun hc => ?_)
        · replace hw := hw.1 hc
          refine lv_iinc (v := (v3 + nI 1)) (lv' := [(3, .int (v3 + nI 1)), (0, .ref (a 0)), (1, .int p1), (2, .int p2)]) hx hb dX1_leafSigned_44 hl (k := 3) rfl rfl (by decide) rfl (fun ls hl => ?_)
          refine lv_goto (tgt := 2) hx hb dX1_leafSigned_47 (by decide) ?_
          exact ih (v3 + nI 1) hw ls (lv_sub hl [1, 2, 3, 0] rfl)
        · replace hw := hw.2 hc
          refine lv_aload_n hx hb dX1_leafSigned_34 rfl (lv_at hl 0 rfl) ?_
          refine lv_iload_n hx hb dX1_leafSigned_35 rfl (lv_at hl 3 rfl) ?_
          refine kRV (As := [.int v3]) (rest := []) (q0 := 0) C (c_X1_firstLeaf l D kI kC kB a z_alphabet_out z_signing z_signs z_sizes z_lost z_pile v3 _ hw) ⟨rfl, rfl⟩ ce_X1_firstLeaf cv_X1_firstLeaf tw_395 ⟨Nat.le_of_ble_eq_true rfl, Nat.le_of_ble_eq_true rfl⟩ hP [0, 1, 2, 3, 4, 5, 6, 7, 8, 9] rfl rfl rfl rfl hl.1 rfl (Nat.le_of_ble_eq_true rfl) ⟨Nat.zero_le _, Nat.zero_le _⟩ dX1_leafSigned_36 (fun r4 hw => ?_)
          refine lv_iload_n hx hb dX1_leafSigned_39 rfl (lv_at hl 2 rfl) ?_
          refine lv_iadd hx hb dX1_leafSigned_40 ?_
          refine lv_iconst (v := (nI 1)) hx hb dX1_leafSigned_41 (by decide) ?_
          refine lv_isub hx hb dX1_leafSigned_42 ?_
          exact retR C hw dX1_leafSigned_43
set_option maxHeartbeats 4000000 in
set_option maxRecDepth 100000 in
theorem c_X1_leafSigned (l : Launch) (D : va_G) (kI kC kB : ClassId) (a : AdT) (z_alphabet_out : Int32) (z_signing : Int32) (z_signs : RowT) (z_sizes : RowT) (z_lost : RowT) (z_pile : RowT) (p1 : Int32) (p2 : Int32) (Post : Int32 → Prop) (hw : wp_X1_leafSigned z_signs z_sizes p1 p2 Post) : CR l D kI kC kB yX1_leafSigned cX1_leafSigned 4 (some .int) ({ frames := 2, cells := 0, slots := 0, locals := 44 } : Room) [.ref (a 0), .int p1, .int p2] (cwBook kI a z_alphabet_out z_signing z_signs z_sizes z_lost z_pile) Post := by
  refine entR (by decide) (Nat.le_of_ble_eq_true rfl) ?_
  intro p e s m args below meth c ls C hP hl
  replace hl : lv_has ls 4 [(0, .ref (a 0)), (1, .int p1), (2, .int p2)] := hl
  obtain ⟨hx, hb, hr, hml, hown, hts, hlocks, hK⟩ := id C
  refine lv_iconst (v := (nI 0)) hx hb dX1_leafSigned_0 (by decide) ?_
  refine lv_istore_n (lv' := [(3, .int (nI 0)), (0, .ref (a 0)), (1, .int p1), (2, .int p2)]) hx hb dX1_leafSigned_1 rfl hl (by decide) rfl (fun ls hl => ?_)
  obtain ⟨n9, hw⟩ := hw
  exact cl_X1_leafSigned_2 l D kI kC kB a z_alphabet_out z_signing z_signs z_sizes z_lost z_pile p1 p2 Post C hP n9 (nI 0) hw ls (lv_sub hl [1, 2, 3, 0] rfl)
set_option maxHeartbeats 4000000 in
set_option maxRecDepth 100000 in
theorem cl_X1_starredQuires_4 (l : Launch) (D : va_G) (kI kC kB : ClassId) (a : AdT) (z_alphabet_out : Int32) (z_signing : Int32) (z_signs : RowT) (z_sizes : RowT) (z_lost : RowT) (z_pile : RowT) (Post : Int32 → Prop) {p : Program} {e : Env} {s : State} {m : MethodId} {args : Array Value} {below : List Frame} {meth : Method} {c : Code} (C : CtxT p s m args meth c cX1_starredQuires 3 (some .int) yX1_starredQuires.cls D kI kC kB) (hP : va_P D vwCl (cwBook kI a z_alphabet_out z_signing z_signs z_sizes z_lost z_pile) s.heap) : ∀ (n : Nat), ∀ (v1 : Int32) (v2 : Int32), wl_X1_starredQuires_4 z_signs Post n v1 v2 → ∀ (ls : Array Slot), lv_has ls 3 [(0, .ref (a 0)), (1, .int v1), (2, .int v2)] → W p l e ({ frames := 2, cells := 0, slots := 0, locals := 40 } : Room) s m args below meth c s.heap [] 0 0 (MQ below (vp_Si Post) args s 0 0 (fun _ => False)) (F0 m 4 ls []) := by
  obtain ⟨hx, hb, hr, hml, hown, hts, hlocks, hK⟩ := id C
  intro n
  induction n with
  | zero => intro v1 v2 hw; exact hw.elim
  | succ n ih =>
    intro v1 v2 hw ls hl
    refine lv_iload_n hx hb dX1_starredQuires_4 rfl (lv_at hl 2 rfl) ?_
    refine lv_aload_n hx hb dX1_starredQuires_5 rfl (lv_at hl 0 rfl) ?_
    refine kRV (As := []) (rest := [.int v2]) (q0 := 0) C (c_X1_quires l D kI kC kB a z_alphabet_out z_signing z_signs z_sizes z_lost z_pile _ hw) ⟨rfl, rfl⟩ ce_X1_quires cv_X1_quires tw_248 ⟨Nat.le_of_ble_eq_true rfl, Nat.le_of_ble_eq_true rfl⟩ hP [0, 1, 2, 3, 4, 5, 6, 7, 8, 9] rfl rfl rfl rfl hl.1 rfl (Nat.le_of_ble_eq_true rfl) ⟨Nat.zero_le _, Nat.zero_le _⟩ dX1_starredQuires_6 (fun r1 hw => ?_)
    refine lv_icmp_ge (tgt := 35) hx hb dX1_starredQuires_9 (by decide) (fun hc => ?_) (fun hc => ?_)
    · replace hw := hw.1 hc
      refine lv_iload_n hx hb dX1_starredQuires_35 rfl (lv_at hl 1 rfl) ?_
      exact retR C hw dX1_starredQuires_36
    · replace hw := hw.2 hc
      refine lv_aload_n hx hb dX1_starredQuires_12 rfl (lv_at hl 0 rfl) ?_
      refine va_get (D := D) (ci := 1) (v := .ref (a 2)) (C := RX1) (T := TX1) (N := 6) hx hb hts inX1 hown hK.1 hP 0 rfl rfl 2 (by decide) (hts _ tw_76) (fun _ h9 => h9) rfl dX1_starredQuires_13 ?_
      refine lv_iload_n hx hb dX1_starredQuires_16 rfl (lv_at hl 2 rfl) ?_
      refine kRV (As := [.int v2]) (rest := []) (q0 := 2) C (c_X4_at l D kI kC kB (fun i => a (i + 2)) z_signs v2 _ hw) ⟨rfl, rfl⟩ ce_X4_at cv_X4_at tw_260 ⟨Nat.le_of_ble_eq_true rfl, Nat.le_of_ble_eq_true rfl⟩ hP [2, 3] rfl rfl rfl rfl hl.1 rfl (Nat.le_of_ble_eq_true rfl) ⟨Nat.zero_le _, Nat.zero_le _⟩ dX1_starredQuires_17 (fun r2 hw => ?_)
      refine kRS (As := [.int r2]) (rest := []) C (c_X5_isStarred l D kI kC kB  r2 _ hw) ⟨rfl, rfl⟩ ce_X5_isStarred cv_X5_isStarred tw_381 ⟨Nat.le_of_ble_eq_true rfl, Nat.le_of_ble_eq_true rfl⟩ hP [] rfl hl.1 rfl (Nat.le_of_ble_eq_true rfl) ⟨Nat.zero_le _, Nat.zero_le _⟩ dX1_starredQuires_20 (fun r3 hw => ?_)
      refine lv_if_eq (tgt := 29) hx hb dX1_starredQuires_23 (by decide) (fun hc => ?_) (fun hc => ?_)
      · replace hw := hw.1 hc
        refine lv_iinc (v := (v2 + nI 1)) (lv' := [(2, .int (v2 + nI 1)), (0, .ref (a 0)), (1, .int v1)]) hx hb dX1_starredQuires_29 hl (k := 2) rfl rfl (by decide) rfl (fun ls hl => ?_)
        refine lv_goto (tgt := 4) hx hb dX1_starredQuires_32 (by decide) ?_
        exact ih v1 (v2 + nI 1) hw ls (lv_sub hl [1, 2, 0] rfl)
      · replace hw := hw.2 hc
        refine lv_iinc (v := (v1 + nI 1)) (lv' := [(1, .int (v1 + nI 1)), (0, .ref (a 0)), (2, .int v2)]) hx hb dX1_starredQuires_26 hl (k := 1) rfl rfl (by decide) rfl (fun ls hl => ?_)
        refine lv_iinc (v := (v2 + nI 1)) (lv' := [(2, .int (v2 + nI 1)), (1, .int (v1 + nI 1)), (0, .ref (a 0))]) hx hb dX1_starredQuires_29 hl (k := 2) rfl rfl (by decide) rfl (fun ls hl => ?_)
        refine lv_goto (tgt := 4) hx hb dX1_starredQuires_32 (by decide) ?_
        exact ih (v1 + nI 1) (v2 + nI 1) hw ls (lv_sub hl [2, 1, 0] rfl)
set_option maxHeartbeats 4000000 in
set_option maxRecDepth 100000 in
theorem c_X1_starredQuires (l : Launch) (D : va_G) (kI kC kB : ClassId) (a : AdT) (z_alphabet_out : Int32) (z_signing : Int32) (z_signs : RowT) (z_sizes : RowT) (z_lost : RowT) (z_pile : RowT) (Post : Int32 → Prop) (hw : wp_X1_starredQuires z_signs Post) : CR l D kI kC kB yX1_starredQuires cX1_starredQuires 3 (some .int) ({ frames := 2, cells := 0, slots := 0, locals := 40 } : Room) [.ref (a 0)] (cwBook kI a z_alphabet_out z_signing z_signs z_sizes z_lost z_pile) Post := by
  refine entR (by decide) (Nat.le_of_ble_eq_true rfl) ?_
  intro p e s m args below meth c ls C hP hl
  replace hl : lv_has ls 3 [(0, .ref (a 0))] := hl
  obtain ⟨hx, hb, hr, hml, hown, hts, hlocks, hK⟩ := id C
  refine lv_iconst (v := (nI 0)) hx hb dX1_starredQuires_0 (by decide) ?_
  refine lv_istore_n (lv' := [(1, .int (nI 0)), (0, .ref (a 0))]) hx hb dX1_starredQuires_1 rfl hl (by decide) rfl (fun ls hl => ?_)
  refine lv_iconst (v := (nI 0)) hx hb dX1_starredQuires_2 (by decide) ?_
  refine lv_istore_n (lv' := [(2, .int (nI 0)), (1, .int (nI 0)), (0, .ref (a 0))]) hx hb dX1_starredQuires_3 rfl hl (by decide) rfl (fun ls hl => ?_)
  obtain ⟨n9, hw⟩ := hw
  exact cl_X1_starredQuires_4 l D kI kC kB a z_alphabet_out z_signing z_signs z_sizes z_lost z_pile Post C hP n9 (nI 0) (nI 0) hw ls (lv_sub hl [2, 1, 0] rfl)
