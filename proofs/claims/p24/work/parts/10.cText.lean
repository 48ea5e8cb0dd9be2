/-! contracts, printed (gen.py) -/
theorem ce_X6_length : CE yX6_length cX6_length 1 (some .int) 0 := ⟨tw_458, tw_23, ⟨by decide, by decide⟩, ce_par (by decide +kernel)⟩
theorem cv_X6_length : CV yX6_length := ⟨tw_456, tw_457⟩
theorem ce_X6_add : CE yX6_add cX6_add 2 none 1 := ⟨tw_462, tw_23, ⟨by decide, by decide⟩, ce_par (by decide +kernel)⟩
theorem cv_X6_add : CV yX6_add := ⟨tw_460, tw_461⟩
theorem ce_X6_empty : CE yX6_empty cX6_empty 1 none 0 := ⟨tw_470, tw_23, ⟨by decide, by decide⟩, ce_par (by decide +kernel)⟩
theorem cv_X6_empty : CV yX6_empty := ⟨tw_468, tw_469⟩
theorem ce_X6_entries : CE yX6_entries cX6_entries 1 (some .int) 0 := ⟨tw_338, tw_23, ⟨by decide, by decide⟩, ce_par (by decide +kernel)⟩
theorem cv_X6_entries : CV yX6_entries := ⟨tw_336, tw_337⟩
theorem ce_X6_firstSign : CE yX6_firstSign cX6_firstSign 2 (some .int) 1 := ⟨tw_342, tw_23, ⟨by decide, by decide⟩, ce_par (by decide +kernel)⟩
theorem cv_X6_firstSign : CV yX6_firstSign := ⟨tw_340, tw_341⟩
theorem ce_X6_lastSign : CE yX6_lastSign cX6_lastSign 2 (some .int) 1 := ⟨tw_346, tw_23, ⟨by decide, by decide⟩, ce_par (by decide +kernel)⟩
theorem cv_X6_lastSign : CV yX6_lastSign := ⟨tw_344, tw_345⟩
theorem ce_X6_number : CE yX6_number cX6_number 2 (some .int) 1 := ⟨tw_362, tw_23, ⟨by decide, by decide⟩, ce_par (by decide +kernel)⟩
theorem cv_X6_number : CV yX6_number := ⟨tw_360, tw_361⟩
theorem ce_X6_readAsFormula : CE yX6_readAsFormula cX6_readAsFormula 2 (some .int) 1 := ⟨tw_269, tw_23, ⟨by decide, by decide⟩, ce_par (by decide +kernel)⟩
theorem cv_X6_readAsFormula : CV yX6_readAsFormula := ⟨tw_267, tw_268⟩
theorem ce_X6_readAsPile : CE yX6_readAsPile cX6_readAsPile 1 (some .int) 0 := ⟨tw_523, tw_23, ⟨by decide, by decide⟩, ce_par (by decide +kernel)⟩
theorem cv_X6_readAsPile : CV yX6_readAsPile := ⟨tw_521, tw_522⟩
theorem ce_X6_readEntries : CE yX6_readEntries cX6_readEntries 4 (some .int) 2 := ⟨tw_273, tw_23, ⟨by decide, by decide⟩, ce_par (by decide +kernel)⟩
theorem cv_X6_readEntries : CV yX6_readEntries := ⟨tw_272, tw_2⟩
theorem ce_X6_readEntry : CE yX6_readEntry cX6_readEntry 6 (some .boolean) 2 := ⟨tw_282, tw_23, ⟨by decide, by decide⟩, ce_par (by decide +kernel)⟩
theorem cv_X6_readEntry : CV yX6_readEntry := ⟨tw_281, tw_3⟩
theorem ce_X6_readSign : CE yX6_readSign cX6_readSign 2 (some .int) 1 := ⟨tw_286, tw_23, ⟨by decide, by decide⟩, ce_par (by decide +kernel)⟩
theorem cv_X6_readSign : CV yX6_readSign := ⟨tw_285, tw_4⟩
theorem ce_X6_readStars : CE yX6_readStars cX6_readStars 2 (some .int) 0 := ⟨tw_291, tw_23, ⟨by decide, by decide⟩, ce_par (by decide +kernel)⟩
theorem cv_X6_readStars : CV yX6_readStars := ⟨tw_290, tw_5⟩
theorem ce_X6_readLetters : CE yX6_readLetters cX6_readLetters 4 (some .int) 1 := ⟨tw_298, tw_23, ⟨by decide, by decide⟩, ce_par (by decide +kernel)⟩
theorem cv_X6_readLetters : CV yX6_readLetters := ⟨tw_297, tw_6⟩
theorem ce_X6_readLastSign : CE yX6_readLastSign cX6_readLastSign 4 (some .int) 2 := ⟨tw_309, tw_23, ⟨by decide, by decide⟩, ce_par (by decide +kernel)⟩
theorem cv_X6_readLastSign : CV yX6_readLastSign := ⟨tw_308, tw_7⟩
theorem ce_X6_readNumber : CE yX6_readNumber cX6_readNumber 3 (some .int) 0 := ⟨tw_317, tw_23, ⟨by decide, by decide⟩, ce_par (by decide +kernel)⟩
theorem cv_X6_readNumber : CV yX6_readNumber := ⟨tw_316, tw_8⟩
theorem ce_X6_digitAt : CE yX6_digitAt cX6_digitAt 3 (some .int) 1 := ⟨tw_321, tw_23, ⟨by decide, by decide⟩, ce_par (by decide +kernel)⟩
theorem cv_X6_digitAt : CV yX6_digitAt := ⟨tw_320, tw_9⟩
set_option maxHeartbeats 4000000 in
set_option maxRecDepth 100000 in
theorem cj_X6_readStars_39 (l : Launch) (D : va_G) (kI kC kB : ClassId) (a : AdT) (z_characters : RowT) (z_firstSigns : RowT) (z_lastSigns : RowT) (z_numbers : RowT) (z_at : Int32) (v1 : Int32) (Post : Int32 → Int32 → Prop) {p : Program} {e : Env} {s : State} {m : MethodId} {args : Array Value} {below : List Frame} {meth : Method} {c : Code} {A : Nat → Prop} (hA : ∀ q : Nat, s.heap.size ≤ q → A q) (C : CtxT p s m args meth c cX6_readStars 2 (some .int) yX6_readStars.cls D kI kC kB) : wj_X6_readStars_39 z_characters z_at v1 Post → ∀ (H : Heap) (locs : List Loc), va_P D vwCl (cwText kI a z_characters z_firstSigns z_lastSigns z_numbers z_at) H → va_D A (cwText kI a z_characters z_firstSigns z_lastSigns z_numbers z_at) → va_S A s.heap H locs → ∀ (ls : Array Slot), lv_has ls 2 [(1, .int v1)] → W p l e ({ frames := 1, cells := 0, slots := 0, locals := 21 } : Room) s m args below meth c H locs 0 0 (MQ below (va_Qi (fun (r : Int32) (u : Int32) => Post r u) (BB D A (fun u : Int32 => (cwText kI a z_characters z_firstSigns z_lastSigns z_numbers u))) A) args s 0 0 A) (F0 m 39 ls []) := by
  obtain ⟨hx, hb, hr, hml, hown, hts, hlocks, hK⟩ := id C
  intro hw H locs hP hD hS ls hl
  refine lv_iload_n hx hb dX6_readStars_39 rfl (lv_at hl 0 rfl) ?_
  refine kRS (As := [.int v1]) (rest := []) C (c_X5_ofStars l D kI kC kB  v1 _ hw) ⟨rfl, rfl⟩ ce_X5_ofStars cv_X5_ofStars tw_292 ⟨Nat.le_of_ble_eq_true rfl, Nat.le_of_ble_eq_true rfl⟩ hP [] rfl hl.1 rfl (Nat.le_of_ble_eq_true rfl) ⟨Nat.zero_le _, Nat.zero_le _⟩ dX6_readStars_40 (fun r1 hw => ?_)
  exact retMi C (z_at) hw hP hD hS dX6_readStars_43
set_option maxHeartbeats 4000000 in
set_option maxRecDepth 100000 in
theorem cl_X6_readStars_2 (l : Launch) (D : va_G) (kI kC kB : ClassId) (a : AdT) (z_characters : RowT) (z_firstSigns : RowT) (z_lastSigns : RowT) (z_numbers : RowT) (Post : Int32 → Int32 → Prop) {p : Program} {e : Env} {s : State} {m : MethodId} {args : Array Value} {below : List Frame} {meth : Method} {c : Code} {A : Nat → Prop} (hA : ∀ q : Nat, s.heap.size ≤ q → A q) (C : CtxT p s m args meth c cX6_readStars 2 (some .int) yX6_readStars.cls D kI kC kB) : ∀ (n : Nat), ∀ (z_at : Int32) (v1 : Int32), wl_X6_readStars_2 z_characters Post n z_at v1 → ∀ (H : Heap) (locs : List Loc), va_P D vwCl (cwText kI a z_characters z_firstSigns z_lastSigns z_numbers z_at) H → va_D A (cwText kI a z_characters z_firstSigns z_lastSigns z_numbers z_at) → va_S A s.heap H locs → ∀ (ls : Array Slot), lv_has ls 2 [(0, .ref (a 0)), (1, .int v1)] → W p l e ({ frames := 1, cells := 0, slots := 0, locals := 21 } : Room) s m args below meth c H locs 0 0 (MQ below (va_Qi (fun (r : Int32) (u : Int32) => Post r u) (BB D A (fun u : Int32 => (cwText kI a z_characters z_firstSigns z_lastSigns z_numbers u))) A) args s 0 0 A) (F0 m 2 ls []) := by
  obtain ⟨hx, hb, hr, hml, hown, hts, hlocks, hK⟩ := id C
  intro n
  induction n with
  | zero => intro z_at v1 hw; exact hw.elim
  | succ n ih =>
    intro z_at v1 hw H locs hP hD hS ls hl
    refine lv_iload_n hx hb dX6_readStars_2 rfl (lv_at hl 1 rfl) ?_
    refine lv_iconst (v := (nI 5)) hx hb dX6_readStars_3 (by decide) ?_
    refine lv_icmp_ge (tgt := 39) hx hb dX6_readStars_4 (by decide) (fun hc => ?_) (fun hc => ?_)
    · replace hw := hw.1 hc
      exact cj_X6_readStars_39 l D kI kC kB a z_characters z_firstSigns z_lastSigns z_numbers z_at v1 Post hA C hw H locs hP hD hS ls (lv_sub hl [1] rfl)
    · replace hw := hw.2 hc
      refine lv_aload_n hx hb dX6_readStars_7 rfl (lv_at hl 0 rfl) ?_
      refine va_get (D := D) (ci := 4) (v := .ref (a 1)) (C := RX6) (T := TX6) (N := 6) hx hb hts inX6 hown hK.1 hP 0 rfl rfl 0 (by decide) (hts _ tw_125) (fun _ h9 => h9) rfl dX6_readStars_8 ?_
      refine lv_aload_n hx hb dX6_readStars_11 rfl (lv_at hl 0 rfl) ?_
      refine va_get (D := D) (ci := 4) (v := .int z_at) (C := RX6) (T := TX6) (N := 6) hx hb hts inX6 hown hK.1 hP 0 rfl rfl 5 (by decide) (hts _ tw_130) (fun _ h9 => h9) rfl dX6_readStars_12 ?_
      refine kRV (As := [.int z_at]) (rest := []) (q0 := 1) C (c_X4_at l D kI kC kB (fun i => a (i + 1)) z_characters z_at _ hw) ⟨rfl, rfl⟩ ce_X4_at cv_X4_at tw_287 ⟨Nat.le_of_ble_eq_true rfl, Nat.le_of_ble_eq_true rfl⟩ hP [1, 2] rfl rfl rfl rfl hl.1 rfl (Nat.le_of_ble_eq_true rfl) ⟨Nat.zero_le _, Nat.zero_le _⟩ dX6_readStars_15 (fun r2 hw => ?_)
      refine lv_bipush (v := (nI 42)) hx hb dX6_readStars_18 (by decide) ?_
      refine lv_icmp_ne (tgt := 39) hx hb dX6_readStars_20 (by decide) (fun hc => ?_) (fun hc => ?_)
      · replace hw := hw.2 hc
        exact cj_X6_readStars_39 l D kI kC kB a z_characters z_firstSigns z_lastSigns z_numbers z_at v1 Post hA C hw H locs hP hD hS ls (lv_sub hl [1] rfl)
      · replace hw := hw.1 hc
        refine lv_iinc (v := (v1 + nI 1)) (lv' := [(1, .int (v1 + nI 1)), (0, .ref (a 0))]) hx hb dX6_readStars_23 hl (k := 1) rfl rfl (by decide) rfl (fun ls hl => ?_)
        refine lv_aload_n hx hb dX6_readStars_26 rfl (lv_at hl 1 rfl) ?_
        refine lv_dup hx hb dX6_readStars_27 rfl ?_
        refine va_get (D := D) (ci := 4) (v := .int z_at) (C := RX6) (T := TX6) (N := 6) hx hb hts inX6 hown hK.1 hP 0 rfl rfl 5 (by decide) (hts _ tw_130) (fun _ h9 => h9) rfl dX6_readStars_28 ?_
        refine lv_iconst (v := (nI 1)) hx hb dX6_readStars_31 (by decide) ?_
        refine lv_iadd hx hb dX6_readStars_32 ?_
        refine va_put (D := D) (ci := 4) (v := .int (z_at + (nI 1))) (ty := .int) (C := RX6) (T := TX6) (N := 6) hx hb hts inX6 tyX6 tyX6_ok nmX6 hown hK.1 hP hD hS 0 rfl rfl 5 (by decide) (hts _ tw_130) (fun _ h9 => h9) rfl (tyX6_ok 5 (by decide)) rfl rfl (Nat.le_of_ble_eq_true rfl) dX6_readStars_33 (fun H locs hP hD hS => ?_)
        replace hP : va_P D vwCl (cwText kI a z_characters z_firstSigns z_lastSigns z_numbers (z_at + (nI 1))) H := hP
        replace hD : va_D A (cwText kI a z_characters z_firstSigns z_lastSigns z_numbers (z_at + (nI 1))) := hD
        refine lv_goto (tgt := 2) hx hb dX6_readStars_36 (by decide) ?_
        exact ih (z_at + (nI 1)) (v1 + nI 1) hw H locs hP hD hS ls (lv_sub hl [1, 0] rfl)
set_option maxHeartbeats 4000000 in
set_option maxRecDepth 100000 in
theorem c_X6_readStars (l : Launch) (D : va_G) (kI kC kB : ClassId) (a : AdT) (z_characters : RowT) (z_firstSigns : RowT) (z_lastSigns : RowT) (z_numbers : RowT) (z_at : Int32) (sz : Nat) (Post : Int32 → Int32 → Prop) (hw : wp_X6_readStars z_characters z_at Post) : CMi l D kI kC kB yX6_readStars cX6_readStars 2 (some .int) ({ frames := 1, cells := 0, slots := 0, locals := 21 } : Room) [.ref (a 0)] (cwText kI a z_characters z_firstSigns z_lastSigns z_numbers z_at) sz (fun (r : Int32) (u : Int32) => Post r u) (fun u : Int32 => (cwText kI a z_characters z_firstSigns z_lastSigns z_numbers u)) := by
  refine entMi (by decide) (Nat.le_of_ble_eq_true rfl) ?_
  intro p e s m args below meth c ls A C hA hP hD hS hl
  obtain ⟨H, hHe⟩ : ∃ H, H = s.heap := ⟨_, rfl⟩
  obtain ⟨locs, hlo⟩ : ∃ lo : List Loc, lo = [] := ⟨_, rfl⟩
  have hS : va_S A s.heap H locs := by rw [hHe, hlo]; exact hS
  rw [← hHe] at hP
  suffices hg : W p l e ({ frames := 1, cells := 0, slots := 0, locals := 21 } : Room) s m args below meth c H locs 0 0 (MQ below (va_Qi (fun (r : Int32) (u : Int32) => Post r u) (BB D A (fun u : Int32 => (cwText kI a z_characters z_firstSigns z_lastSigns z_numbers u))) A) args s 0 0 A) (F0 m 0 ls []) by rw [hHe, hlo] at hg; exact hg
  replace hl : lv_has ls 2 [(0, .ref (a 0))] := hl
  obtain ⟨hx, hb, hr, hml, hown, hts, hlocks, hK⟩ := id C
  refine lv_iconst (v := (nI 0)) hx hb dX6_readStars_0 (by decide) ?_
  refine lv_istore_n (lv' := [(1, .int (nI 0)), (0, .ref (a 0))]) hx hb dX6_readStars_1 rfl hl (by decide) rfl (fun ls hl => ?_)
  obtain ⟨n9, hw⟩ := hw
  exact cl_X6_readStars_2 l D kI kC kB a z_characters z_firstSigns z_lastSigns z_numbers Post hA C n9 z_at (nI 0) hw H locs hP hD hS ls (lv_sub hl [1, 0] rfl)
set_option maxHeartbeats 4000000 in
set_option maxRecDepth 100000 in
theorem cj_X6_readLetters_76 (l : Launch) (D : va_G) (kI kC kB : ClassId) (a : AdT) (b : AdT) (z_characters : RowT) (z_firstSigns : RowT) (z_lastSigns : RowT) (z_numbers : RowT) (z_at : Int32) (o1_out : Int32) (v2 : Int32) (v3 : Int32) (Post : Int32 → Int32 → Prop) {p : Program} {e : Env} {s : State} {m : MethodId} {args : Array Value} {below : List Frame} {meth : Method} {c : Code} {A : Nat → Prop} (hA : ∀ q : Nat, s.heap.size ≤ q → A q) (C : CtxT p s m args meth c cX6_readLetters 4 (some .int) yX6_readLetters.cls D kI kC kB) : wj_X6_readLetters_76 z_characters z_at o1_out v2 v3 Post → ∀ (H : Heap) (locs : List Loc), va_P D vwCl (cwText kI a z_characters z_firstSigns z_lastSigns z_numbers z_at ++ cwAlph b o1_out) H → va_D A (cwText kI a z_characters z_firstSigns z_lastSigns z_numbers z_at ++ cwAlph b o1_out) → va_S A s.heap H locs → ∀ (ls : Array Slot), lv_has ls 4 [(2, .int v2), (3, .int v3)] → W p l e ({ frames := 1, cells := 0, slots := 0, locals := 21 } : Room) s m args below meth c H locs 0 0 (MQ below (va_Qi (fun (r : Int32) (u : Int32) => Post r u) (BB D A (fun u : Int32 => (cwText kI a z_characters z_firstSigns z_lastSigns z_numbers u ++ cwAlph b o1_out))) A) args s 0 0 A) (F0 m 76 ls []) := by
  obtain ⟨hx, hb, hr, hml, hown, hts, hlocks, hK⟩ := id C
  intro hw H locs hP hD hS ls hl
  refine lv_iload_n hx hb dX6_readLetters_76 rfl (lv_at hl 0 rfl) ?_
  refine lv_iload_n hx hb dX6_readLetters_77 rfl (lv_at hl 1 rfl) ?_
  refine kRS (As := [.int v2, .int v3]) (rest := []) C (c_X5_ofLetters l D kI kC kB  v2 v3 _ hw) ⟨rfl, rfl⟩ ce_X5_ofLetters cv_X5_ofLetters tw_300 ⟨Nat.le_of_ble_eq_true rfl, Nat.le_of_ble_eq_true rfl⟩ hP [] rfl hl.1 rfl (Nat.le_of_ble_eq_true rfl) ⟨Nat.zero_le _, Nat.zero_le _⟩ dX6_readLetters_78 (fun r1 hw => ?_)
  exact retMi C (z_at) hw hP hD hS dX6_readLetters_81
set_option maxHeartbeats 4000000 in
set_option maxRecDepth 100000 in
theorem cl_X6_readLetters_37 (l : Launch) (D : va_G) (kI kC kB : ClassId) (a : AdT) (b : AdT) (z_characters : RowT) (z_firstSigns : RowT) (z_lastSigns : RowT) (z_numbers : RowT) (o1_out : Int32) (v2 : Int32) (Post : Int32 → Int32 → Prop) {p : Program} {e : Env} {s : State} {m : MethodId} {args : Array Value} {below : List Frame} {meth : Method} {c : Code} {A : Nat → Prop} (hA : ∀ q : Nat, s.heap.size ≤ q → A q) (C : CtxT p s m args meth c cX6_readLetters 4 (some .int) yX6_readLetters.cls D kI kC kB) : ∀ (n : Nat), ∀ (z_at : Int32) (v3 : Int32), wl_X6_readLetters_37 z_characters o1_out v2 Post n z_at v3 → ∀ (H : Heap) (locs : List Loc), va_P D vwCl (cwText kI a z_characters z_firstSigns z_lastSigns z_numbers z_at ++ cwAlph b o1_out) H → va_D A (cwText kI a z_characters z_firstSigns z_lastSigns z_numbers z_at ++ cwAlph b o1_out) → va_S A s.heap H locs → ∀ (ls : Array Slot), lv_has ls 4 [(0, .ref (a 0)), (2, .int v2), (3, .int v3)] → W p l e ({ frames := 1, cells := 0, slots := 0, locals := 21 } : Room) s m args below meth c H locs 0 0 (MQ below (va_Qi (fun (r : Int32) (u : Int32) => Post r u) (BB D A (fun u : Int32 => (cwText kI a z_characters z_firstSigns z_lastSigns z_numbers u ++ cwAlph b o1_out))) A) args s 0 0 A) (F0 m 37 ls []) := by
  obtain ⟨hx, hb, hr, hml, hown, hts, hlocks, hK⟩ := id C
  intro n
  induction n with
  | zero => intro z_at v3 hw; exact hw.elim
  | succ n ih =>
    intro z_at v3 hw H locs hP hD hS ls hl
    refine lv_iload_n hx hb dX6_readLetters_37 rfl (lv_at hl 2 rfl) ?_
    refine lv_iconst (v := (nI 3)) hx hb dX6_readLetters_38 (by decide) ?_
    refine lv_icmp_ge (tgt := 76) hx hb dX6_readLetters_39 (by decide) (fun hc => ?_) (fun hc => ?_)
    · replace hw := hw.1 hc
      exact cj_X6_readLetters_76 l D kI kC kB a b z_characters z_firstSigns z_lastSigns z_numbers z_at o1_out v2 v3 Post hA C hw H locs hP hD hS ls (lv_sub hl [1, 2] rfl)
    · replace hw := hw.2 hc
      refine lv_aload_n hx hb dX6_readLetters_42 rfl (lv_at hl 0 rfl) ?_
      refine va_get (D := D) (ci := 4) (v := .ref (a 1)) (C := RX6) (T := TX6) (N := 6) hx hb hts inX6 hown hK.1 hP 0 rfl rfl 0 (by decide) (hts _ tw_125) (fun _ h9 => h9) rfl dX6_readLetters_43 ?_
      refine lv_aload_n hx hb dX6_readLetters_46 rfl (lv_at hl 0 rfl) ?_
      refine va_get (D := D) (ci := 4) (v := .int z_at) (C := RX6) (T := TX6) (N := 6) hx hb hts inX6 hown hK.1 hP 0 rfl rfl 5 (by decide) (hts _ tw_130) (fun _ h9 => h9) rfl dX6_readLetters_47 ?_
      refine kRV (As := [.int z_at]) (rest := []) (q0 := 1) C (c_X4_at l D kI kC kB (fun i => a (i + 1)) z_characters z_at _ hw) ⟨rfl, rfl⟩ ce_X4_at cv_X4_at tw_287 ⟨Nat.le_of_ble_eq_true rfl, Nat.le_of_ble_eq_true rfl⟩ hP [1, 2] rfl rfl rfl rfl hl.1 rfl (Nat.le_of_ble_eq_true rfl) ⟨Nat.zero_le _, Nat.zero_le _⟩ dX6_readLetters_50 (fun r2 hw => ?_)
      refine lv_bipush (v := (nI 97)) hx hb dX6_readLetters_53 (by decide) ?_
      refine lv_iload_n hx hb dX6_readLetters_55 rfl (lv_at hl 1 rfl) ?_
      refine lv_iadd hx hb dX6_readLetters_56 ?_
      refine lv_icmp_ne (tgt := 76) hx hb dX6_readLetters_57 (by decide) (fun hc => ?_) (fun hc => ?_)
      · replace hw := hw.2 hc
        exact cj_X6_readLetters_76 l D kI kC kB a b z_characters z_firstSigns z_lastSigns z_numbers z_at o1_out v2 v3 Post hA C hw H locs hP hD hS ls (lv_sub hl [1, 2] rfl)
      · replace hw := hw.1 hc
        refine lv_iinc (v := (v3 + nI 1)) (lv' := [(3, .int (v3 + nI 1)), (0, .ref (a 0)), (2, .int v2)]) hx hb dX6_readLetters_60 hl (k := 2) rfl rfl (by decide) rfl (fun ls hl => ?_)
        refine lv_aload_n hx hb dX6_readLetters_63 rfl (lv_at hl 1 rfl) ?_
        refine lv_dup hx hb dX6_readLetters_64 rfl ?_
        refine va_get (D := D) (ci := 4) (v := .int z_at) (C := RX6) (T := TX6) (N := 6) hx hb hts inX6 hown hK.1 hP 0 rfl rfl 5 (by decide) (hts _ tw_130) (fun _ h9 => h9) rfl dX6_readLetters_65 ?_
        refine lv_iconst (v := (nI 1)) hx hb dX6_readLetters_68 (by decide) ?_
        refine lv_iadd hx hb dX6_readLetters_69 ?_
        refine va_put (D := D) (ci := 4) (v := .int (z_at + (nI 1))) (ty := .int) (C := RX6) (T := TX6) (N := 6) hx hb hts inX6 tyX6 tyX6_ok nmX6 hown hK.1 hP hD hS 0 rfl rfl 5 (by decide) (hts _ tw_130) (fun _ h9 => h9) rfl (tyX6_ok 5 (by decide)) rfl rfl (Nat.le_of_ble_eq_true rfl) dX6_readLetters_70 (fun H locs hP hD hS => ?_)
        replace hP : va_P D vwCl (cwText kI a z_characters z_firstSigns z_lastSigns z_numbers (z_at + (nI 1)) ++ cwAlph b o1_out) H := hP
        replace hD : va_D A (cwText kI a z_characters z_firstSigns z_lastSigns z_numbers (z_at + (nI 1)) ++ cwAlph b o1_out) := hD
        refine lv_goto (tgt := 37) hx hb dX6_readLetters_73 (by decide) ?_
        exact ih (z_at + (nI 1)) (v3 + nI 1) hw H locs hP hD hS ls (lv_sub hl [1, 2, 0] rfl)
set_option maxHeartbeats 4000000 in
set_option maxRecDepth 100000 in
theorem c_X6_readLetters (l : Launch) (D : va_G) (kI kC kB : ClassId) (a : AdT) (b : AdT) (z_characters : RowT) (z_firstSigns : RowT) (z_lastSigns : RowT) (z_numbers : RowT) (z_at : Int32) (o1_out : Int32) (sz : Nat) (Post : Int32 → Int32 → Prop) (hw : wp_X6_readLetters z_characters z_at o1_out Post) : CMi l D kI kC kB yX6_readLetters cX6_readLetters 4 (some .int) ({ frames := 1, cells := 0, slots := 0, locals := 21 } : Room) [.ref (a 0), .ref (b 0)] (cwText kI a z_characters z_firstSigns z_lastSigns z_numbers z_at ++ cwAlph b o1_out) sz (fun (r : Int32) (u : Int32) => Post r u) (fun u : Int32 => (cwText kI a z_characters z_firstSigns z_lastSigns z_numbers u ++ cwAlph b o1_out)) := by
  refine entMi (by decide) (Nat.le_of_ble_eq_true rfl) ?_
  intro p e s m args below meth c ls A C hA hP hD hS hl
  obtain ⟨H, hHe⟩ : ∃ H, H = s.heap := ⟨_, rfl⟩
  obtain ⟨locs, hlo⟩ : ∃ lo : List Loc, lo = [] := ⟨_, rfl⟩
  have hS : va_S A s.heap H locs := by rw [hHe, hlo]; exact hS
  rw [← hHe] at hP
  suffices hg : W p l e ({ frames := 1, cells := 0, slots := 0, locals := 21 } : Room) s m args below meth c H locs 0 0 (MQ below (va_Qi (fun (r : Int32) (u : Int32) => Post r u) (BB D A (fun u : Int32 => (cwText kI a z_characters z_firstSigns z_lastSigns z_numbers u ++ cwAlph b o1_out))) A) args s 0 0 A) (F0 m 0 ls []) by rw [hHe, hlo] at hg; exact hg
  replace hl : lv_has ls 4 [(0, .ref (a 0)), (1, .ref (b 0))] := hl
  obtain ⟨hx, hb, hr, hml, hown, hts, hlocks, hK⟩ := id C
  refine lv_aload_n hx hb dX6_readLetters_0 rfl (lv_at hl 0 rfl) ?_
  refine va_get (D := D) (ci := 4) (v := .ref (a 1)) (C := RX6) (T := TX6) (N := 6) hx hb hts inX6 hown hK.1 hP 0 rfl rfl 0 (by decide) (hts _ tw_125) (fun _ h9 => h9) rfl dX6_readLetters_1 ?_
  refine lv_aload_n hx hb dX6_readLetters_4 rfl (lv_at hl 0 rfl) ?_
  refine va_get (D := D) (ci := 4) (v := .int z_at) (C := RX6) (T := TX6) (N := 6) hx hb hts inX6 hown hK.1 hP 0 rfl rfl 5 (by decide) (hts _ tw_130) (fun _ h9 => h9) rfl dX6_readLetters_5 ?_
  refine kRV (As := [.int z_at]) (rest := []) (q0 := 1) C (c_X4_at l D kI kC kB (fun i => a (i + 1)) z_characters z_at _ hw) ⟨rfl, rfl⟩ ce_X4_at cv_X4_at tw_287 ⟨Nat.le_of_ble_eq_true rfl, Nat.le_of_ble_eq_true rfl⟩ hP [1, 2] rfl rfl rfl rfl hl.1 rfl (Nat.le_of_ble_eq_true rfl) ⟨Nat.zero_le _, Nat.zero_le _⟩ dX6_readLetters_8 (fun r3 hw => ?_)
  refine lv_bipush (v := (nI 65)) hx hb dX6_readLetters_11 (by decide) ?_
  refine lv_isub hx hb dX6_readLetters_13 ?_
  refine lv_topi (fun y4 ey4 => ?_)
  replace hw := hw y4 ey4
  refine lv_istore_n (lv' := [(2, .int y4), (0, .ref (a 0)), (1, .ref (b 0))]) hx hb dX6_readLetters_14 rfl hl (by decide) rfl (fun ls hl => ?_)
  refine lv_aload_n hx hb dX6_readLetters_15 rfl (lv_at hl 2 rfl) ?_
  refine lv_iload_n hx hb dX6_readLetters_16 rfl (lv_at hl 0 rfl) ?_
  refine kRV (As := [.int y4]) (rest := []) (q0 := 9) C (c_X0_has l D kI kC kB b o1_out y4 _ hw) ⟨rfl, rfl⟩ ce_X0_has cv_X0_has tw_299 ⟨Nat.le_of_ble_eq_true rfl, Nat.le_of_ble_eq_true rfl⟩ hP [9] rfl rfl rfl rfl hl.1 rfl (Nat.le_of_ble_eq_true rfl) ⟨Nat.zero_le _, Nat.zero_le _⟩ dX6_readLetters_17 (fun r5 hw => ?_)
  refine lv_if_ne (tgt := 25) hx hb dX6_readLetters_20 (by decide) (fun hc => ?_) (fun hc => ?_)
  · replace hw := hw.2 hc
    refine lv_aload_n hx hb dX6_readLetters_25 rfl (lv_at hl 1 rfl) ?_
    refine lv_dup hx hb dX6_readLetters_26 rfl ?_
    refine va_get (D := D) (ci := 4) (v := .int z_at) (C := RX6) (T := TX6) (N := 6) hx hb hts inX6 hown hK.1 hP 0 rfl rfl 5 (by decide) (hts _ tw_130) (fun _ h9 => h9) rfl dX6_readLetters_27 ?_
    refine lv_iconst (v := (nI 1)) hx hb dX6_readLetters_30 (by decide) ?_
    refine lv_iadd hx hb dX6_readLetters_31 ?_
    refine va_put (D := D) (ci := 4) (v := .int (z_at + (nI 1))) (ty := .int) (C := RX6) (T := TX6) (N := 6) hx hb hts inX6 tyX6 tyX6_ok nmX6 hown hK.1 hP hD hS 0 rfl rfl 5 (by decide) (hts _ tw_130) (fun _ h9 => h9) rfl (tyX6_ok 5 (by decide)) rfl rfl (Nat.le_of_ble_eq_true rfl) dX6_readLetters_32 (fun H locs hP hD hS => ?_)
    replace hP : va_P D vwCl (cwText kI a z_characters z_firstSigns z_lastSigns z_numbers (z_at + (nI 1)) ++ cwAlph b o1_out) H := hP
    replace hD : va_D A (cwText kI a z_characters z_firstSigns z_lastSigns z_numbers (z_at + (nI 1)) ++ cwAlph b o1_out) := hD
    refine lv_iconst (v := (nI 1)) hx hb dX6_readLetters_35 (by decide) ?_
    refine lv_istore_n (lv' := [(3, .int (nI 1)), (2, .int y4), (0, .ref (a 0)), (1, .ref (b 0))]) hx hb dX6_readLetters_36 rfl hl (by decide) rfl (fun ls hl => ?_)
    obtain ⟨n9, hw⟩ := hw
    exact cl_X6_readLetters_37 l D kI kC kB a b z_characters z_firstSigns z_lastSigns z_numbers o1_out y4 Post hA C n9 (z_at + (nI 1)) (nI 1) hw H locs hP hD hS ls (lv_sub hl [2, 1, 0] rfl)
  · replace hw := hw.1 hc
    refine lv_iconst (v := (-1)) hx hb dX6_readLetters_23 (by decide) ?_
    exact retMi C (z_at) hw hP hD hS dX6_readLetters_24
set_option maxHeartbeats 4000000 in
set_option maxRecDepth 100000 in
theorem c_X6_readSign (l : Launch) (D : va_G) (kI kC kB : ClassId) (a : AdT) (b : AdT) (z_characters : RowT) (z_firstSigns : RowT) (z_lastSigns : RowT) (z_numbers : RowT) (z_at : Int32) (o1_out : Int32) (sz : Nat) (Post : Int32 → Int32 → Prop) (hw : wp_X6_readSign z_characters z_at o1_out Post) : CMi l D kI kC kB yX6_readSign cX6_readSign 2 (some .int) ({ frames := 2, cells := 0, slots := 0, locals := 44 } : Room) [.ref (a 0), .ref (b 0)] (cwText kI a z_characters z_firstSigns z_lastSigns z_numbers z_at ++ cwAlph b o1_out) sz (fun (r : Int32) (u : Int32) => Post r u) (fun u : Int32 => (cwText kI a z_characters z_firstSigns z_lastSigns z_numbers u ++ cwAlph b o1_out)) := by
  refine entMi (by decide) (Nat.le_of_ble_eq_true rfl) ?_
  intro p e s m args below meth c ls A C hA hP hD hS hl
  obtain ⟨H, hHe⟩ : ∃ H, H = s.heap := ⟨_, rfl⟩
  obtain ⟨locs, hlo⟩ : ∃ lo : List Loc, lo = [] := ⟨_, rfl⟩
  have hS : va_S A s.heap H locs := by rw [hHe, hlo]; exact hS
  rw [← hHe] at hP
  suffices hg : W p l e ({ frames := 2, cells := 0, slots := 0, locals := 44 } : Room) s m args below meth c H locs 0 0 (MQ below (va_Qi (fun (r : Int32) (u : Int32) => Post r u) (BB D A (fun u : Int32 => (cwText kI a z_characters z_firstSigns z_lastSigns z_numbers u ++ cwAlph b o1_out))) A) args s 0 0 A) (F0 m 0 ls []) by rw [hHe, hlo] at hg; exact hg
  replace hl : lv_has ls 2 [(0, .ref (a 0)), (1, .ref (b 0))] := hl
  obtain ⟨hx, hb, hr, hml, hown, hts, hlocks, hK⟩ := id C
  refine lv_aload_n hx hb dX6_readSign_0 rfl (lv_at hl 0 rfl) ?_
  refine va_get (D := D) (ci := 4) (v := .ref (a 1)) (C := RX6) (T := TX6) (N := 6) hx hb hts inX6 hown hK.1 hP 0 rfl rfl 0 (by decide) (hts _ tw_125) (fun _ h9 => h9) rfl dX6_readSign_1 ?_
  refine lv_aload_n hx hb dX6_readSign_4 rfl (lv_at hl 0 rfl) ?_
  refine va_get (D := D) (ci := 4) (v := .int z_at) (C := RX6) (T := TX6) (N := 6) hx hb hts inX6 hown hK.1 hP 0 rfl rfl 5 (by decide) (hts _ tw_130) (fun _ h9 => h9) rfl dX6_readSign_5 ?_
  refine kRV (As := [.int z_at]) (rest := []) (q0 := 1) C (c_X4_at l D kI kC kB (fun i => a (i + 1)) z_characters z_at _ hw) ⟨rfl, rfl⟩ ce_X4_at cv_X4_at tw_287 ⟨Nat.le_of_ble_eq_true rfl, Nat.le_of_ble_eq_true rfl⟩ hP [1, 2] rfl rfl rfl rfl hl.1 rfl (Nat.le_of_ble_eq_true rfl) ⟨Nat.zero_le _, Nat.zero_le _⟩ dX6_readSign_8 (fun r1 hw => ?_)
  refine lv_bipush (v := (nI 42)) hx hb dX6_readSign_11 (by decide) ?_
  refine lv_icmp_ne (tgt := 23) hx hb dX6_readSign_13 (by decide) (fun hc => ?_) (fun hc => ?_)
  · replace hw := hw.2 hc
    refine lv_aload_n hx hb dX6_readSign_23 rfl (lv_at hl 0 rfl) ?_
    refine lv_aload_n hx hb dX6_readSign_24 rfl (lv_at hl 1 rfl) ?_
    refine kMVi (q0 := 0) (As := [.ref (b 0)]) (rest := []) C (c_X6_readLetters l D kI kC kB a b z_characters z_firstSigns z_lastSigns z_numbers z_at o1_out H.size _ hw) ⟨rfl, rfl⟩ ce_X6_readLetters cv_X6_readLetters tw_295 ⟨Nat.le_of_ble_eq_true rfl, Nat.le_of_ble_eq_true rfl⟩ hP hD hS hA [0, 1, 2, 3, 4, 5, 6, 7, 8, 9] rfl rfl (fun _ => rfl) rfl rfl rfl hl.1 rfl (Nat.le_of_ble_eq_true rfl) ⟨Nat.zero_le _, Nat.zero_le _⟩ dX6_readSign_25 (fun r2 u H locs hw hP hD hS => ?_)
    obtain ⟨u3, rfl⟩ : ∃ z, z = u := ⟨_, rfl⟩
    try dsimp only at hw
    replace hP : va_P D vwCl (cwText kI a z_characters z_firstSigns z_lastSigns z_numbers u3 ++ cwAlph b o1_out) H := hP
    replace hD : va_D A (cwText kI a z_characters z_firstSigns z_lastSigns z_numbers u3 ++ cwAlph b o1_out) := hD
    exact retMi C (u3) hw hP hD hS dX6_readSign_28
  · replace hw := hw.1 hc
    refine lv_aload_n hx hb dX6_readSign_16 rfl (lv_at hl 0 rfl) ?_
    refine kMVi (q0 := 0) (As := []) (rest := []) C (c_X6_readStars l D kI kC kB a z_characters z_firstSigns z_lastSigns z_numbers z_at H.size _ hw) ⟨rfl, rfl⟩ ce_X6_readStars cv_X6_readStars tw_288 ⟨Nat.le_of_ble_eq_true rfl, Nat.le_of_ble_eq_true rfl⟩ hP hD hS hA [0, 1, 2, 3, 4, 5, 6, 7, 8] rfl rfl (fun _ => rfl) rfl rfl rfl hl.1 rfl (Nat.le_of_ble_eq_true rfl) ⟨Nat.zero_le _, Nat.zero_le _⟩ dX6_readSign_17 (fun r4 u H locs hw hP hD hS => ?_)
    obtain ⟨u5, rfl⟩ : ∃ z, z = u := ⟨_, rfl⟩
    try dsimp only at hw
    replace hP : va_P D vwCl (cwText kI a z_characters z_firstSigns z_lastSigns z_numbers u5 ++ cwAlph b o1_out) H := hP
    replace hD : va_D A (cwText kI a z_characters z_firstSigns z_lastSigns z_numbers u5 ++ cwAlph b o1_out) := hD
    refine lv_goto (tgt := 28) hx hb dX6_readSign_20 (by decide) ?_
    exact retMi C (u5) hw hP hD hS dX6_readSign_28
set_option maxHeartbeats 4000000 in
set_option maxRecDepth 100000 in
theorem cj_X6_readLastSign_29 (l : Launch) (D : va_G) (kI kC kB : ClassId) (a : AdT) (b : AdT) (z_characters : RowT) (z_firstSigns : RowT) (z_lastSigns : RowT) (z_numbers : RowT) (z_at : Int32) (o1_out : Int32) (Post : Int32 → Int32 → Prop) {p : Program} {e : Env} {s : State} {m : MethodId} {args : Array Value} {below : List Frame} {meth : Method} {c : Code} {A : Nat → Prop} (hA : ∀ q : Nat, s.heap.size ≤ q → A q) (C : CtxT p s m args meth c cX6_readLastSign 4 (some .int) yX6_readLastSign.cls D kI kC kB) : wj_X6_readLastSign_29 z_characters z_at o1_out Post → ∀ (H : Heap) (locs : List Loc), va_P D vwCl (cwText kI a z_characters z_firstSigns z_lastSigns z_numbers z_at ++ cwAlph b o1_out) H → va_D A (cwText kI a z_characters z_firstSigns z_lastSigns z_numbers z_at ++ cwAlph b o1_out) → va_S A s.heap H locs → ∀ (ls : Array Slot), lv_has ls 4 [(0, .ref (a 0))] → W p l e ({ frames := 2, cells := 0, slots := 0, locals := 44 } : Room) s m args below meth c H locs 0 0 (MQ below (va_Qi (fun (r : Int32) (u : Int32) => Post r u) (BB D A (fun u : Int32 => (cwText kI a z_characters z_firstSigns z_lastSigns z_numbers u ++ cwAlph b o1_out))) A) args s 0 0 A) (F0 m 29 ls []) := by
  obtain ⟨hx, hb, hr, hml, hown, hts, hlocks, hK⟩ := id C
  intro hw H locs hP hD hS ls hl
  refine lv_aload_n hx hb dX6_readLastSign_29 rfl (lv_at hl 0 rfl) ?_
  refine lv_dup hx hb dX6_readLastSign_30 rfl ?_
  refine va_get (D := D) (ci := 4) (v := .int z_at) (C := RX6) (T := TX6) (N := 6) hx hb hts inX6 hown hK.1 hP 0 rfl rfl 5 (by decide) (hts _ tw_130) (fun _ h9 => h9) rfl dX6_readLastSign_31 ?_
  refine lv_iconst (v := (nI 1)) hx hb dX6_readLastSign_34 (by decide) ?_
  refine lv_isub hx hb dX6_readLastSign_35 ?_
  refine va_put (D := D) (ci := 4) (v := .int (z_at - (nI 1))) (ty := .int) (C := RX6) (T := TX6) (N := 6) hx hb hts inX6 tyX6 tyX6_ok nmX6 hown hK.1 hP hD hS 0 rfl rfl 5 (by decide) (hts _ tw_130) (fun _ h9 => h9) rfl (tyX6_ok 5 (by decide)) rfl rfl (Nat.le_of_ble_eq_true rfl) dX6_readLastSign_36 (fun H locs hP hD hS => ?_)
  replace hP : va_P D vwCl (cwText kI a z_characters z_firstSigns z_lastSigns z_numbers (z_at - (nI 1)) ++ cwAlph b o1_out) H := hP
  replace hD : va_D A (cwText kI a z_characters z_firstSigns z_lastSigns z_numbers (z_at - (nI 1)) ++ cwAlph b o1_out) := hD
  refine lv_iconst (v := (-1)) hx hb dX6_readLastSign_39 (by decide) ?_
  exact retMi C ((z_at - (nI 1))) hw hP hD hS dX6_readLastSign_40
set_option maxHeartbeats 4000000 in
set_option maxRecDepth 100000 in
theorem c_X6_readLastSign (l : Launch) (D : va_G) (kI kC kB : ClassId) (a : AdT) (b : AdT) (z_characters : RowT) (z_firstSigns : RowT) (z_lastSigns : RowT) (z_numbers : RowT) (z_at : Int32) (o1_out : Int32) (sz : Nat) (p2 : Int32) (Post : Int32 → Int32 → Prop) (hw : wp_X6_readLastSign z_characters z_at o1_out p2 Post) : CMi l D kI kC kB yX6_readLastSign cX6_readLastSign 4 (some .int) ({ frames := 2, cells := 0, slots := 0, locals := 44 } : Room) [.ref (a 0), .ref (b 0), .int p2] (cwText kI a z_characters z_firstSigns z_lastSigns z_numbers z_at ++ cwAlph b o1_out) sz (fun (r : Int32) (u : Int32) => Post r u) (fun u : Int32 => (cwText kI a z_characters z_firstSigns z_lastSigns z_numbers u ++ cwAlph b o1_out)) := by
  refine entMi (by decide) (Nat.le_of_ble_eq_true rfl) ?_
  intro p e s m args below meth c ls A C hA hP hD hS hl
  obtain ⟨H, hHe⟩ : ∃ H, H = s.heap := ⟨_, rfl⟩
  obtain ⟨locs, hlo⟩ : ∃ lo : List Loc, lo = [] := ⟨_, rfl⟩
  have hS : va_S A s.heap H locs := by rw [hHe, hlo]; exact hS
  rw [← hHe] at hP
  suffices hg : W p l e ({ frames := 2, cells := 0, slots := 0, locals := 44 } : Room) s m args below meth c H locs 0 0 (MQ below (va_Qi (fun (r : Int32) (u : Int32) => Post r u) (BB D A (fun u : Int32 => (cwText kI a z_characters z_firstSigns z_lastSigns z_numbers u ++ cwAlph b o1_out))) A) args s 0 0 A) (F0 m 0 ls []) by rw [hHe, hlo] at hg; exact hg
  replace hl : lv_has ls 4 [(0, .ref (a 0)), (1, .ref (b 0)), (2, .int p2)] := hl
  obtain ⟨hx, hb, hr, hml, hown, hts, hlocks, hK⟩ := id C
  refine lv_aload_n hx hb dX6_readLastSign_0 rfl (lv_at hl 0 rfl) ?_
  refine lv_aload_n hx hb dX6_readLastSign_1 rfl (lv_at hl 1 rfl) ?_
  refine kMVi (q0 := 0) (As := [.ref (b 0)]) (rest := []) C (c_X6_readLetters l D kI kC kB a b z_characters z_firstSigns z_lastSigns z_numbers z_at o1_out H.size _ hw) ⟨rfl, rfl⟩ ce_X6_readLetters cv_X6_readLetters tw_295 ⟨Nat.le_of_ble_eq_true rfl, Nat.le_of_ble_eq_true rfl⟩ hP hD hS hA [0, 1, 2, 3, 4, 5, 6, 7, 8, 9] rfl rfl (fun _ => rfl) rfl rfl rfl hl.1 rfl (Nat.le_of_ble_eq_true rfl) ⟨Nat.zero_le _, Nat.zero_le _⟩ dX6_readLastSign_2 (fun r1 u H locs hw hP hD hS => ?_)
  obtain ⟨u2, rfl⟩ : ∃ z, z = u := ⟨_, rfl⟩
  try dsimp only at hw
  replace hP : va_P D vwCl (cwText kI a z_characters z_firstSigns z_lastSigns z_numbers u2 ++ cwAlph b o1_out) H := hP
  replace hD : va_D A (cwText kI a z_characters z_firstSigns z_lastSigns z_numbers u2 ++ cwAlph b o1_out) := hD
  refine lv_istore_n (lv' := [(3, .int r1), (0, .ref (a 0)), (1, .ref (b 0)), (2, .int p2)]) hx hb dX6_readLastSign_5 rfl hl (by decide) rfl (fun ls hl => ?_)
  refine lv_iload_n hx hb dX6_readLastSign_6 rfl (lv_at hl 0 rfl) ?_
  refine lv_iconst (v := (-1)) hx hb dX6_readLastSign_7 (by decide) ?_
  refine lv_icmp_ne (tgt := 13) hx hb dX6_readLastSign_8 (by decide) (fun hc => ?_) (fun hc => ?_)
  · replace hw := hw.2 hc
    refine lv_iload_n hx hb dX6_readLastSign_13 rfl (lv_at hl 0 rfl) ?_
    refine kRS (As := [.int r1]) (rest := []) C (c_X5_times l D kI kC kB  r1 _ hw) ⟨rfl, rfl⟩ ce_X5_times cv_X5_times tw_310 ⟨Nat.le_of_ble_eq_true rfl, Nat.le_of_ble_eq_true rfl⟩ hP [] rfl hl.1 rfl (Nat.le_of_ble_eq_true rfl) ⟨Nat.zero_le _, Nat.zero_le _⟩ dX6_readLastSign_14 (fun r3 hw => ?_)
    refine lv_iload_n hx hb dX6_readLastSign_17 rfl (lv_at hl 3 rfl) ?_
    refine kRS (As := [.int p2]) (rest := [.int r3]) C (c_X5_times l D kI kC kB  p2 _ hw) ⟨rfl, rfl⟩ ce_X5_times cv_X5_times tw_310 ⟨Nat.le_of_ble_eq_true rfl, Nat.le_of_ble_eq_true rfl⟩ hP [] rfl hl.1 rfl (Nat.le_of_ble_eq_true rfl) ⟨Nat.zero_le _, Nat.zero_le _⟩ dX6_readLastSign_18 (fun r4 hw => ?_)
    refine lv_icmp_ne (tgt := 29) hx hb dX6_readLastSign_21 (by decide) (fun hc => ?_) (fun hc => ?_)
    · replace hw := hw.2 hc
      exact cj_X6_readLastSign_29 l D kI kC kB a b z_characters z_firstSigns z_lastSigns z_numbers u2 o1_out Post hA C hw H locs hP hD hS ls (lv_sub hl [1] rfl)
    · replace hw := hw.1 hc
      refine lv_iload_n hx hb dX6_readLastSign_24 rfl (lv_at hl 0 rfl) ?_
      refine lv_iload_n hx hb dX6_readLastSign_25 rfl (lv_at hl 3 rfl) ?_
      refine lv_icmp_ge (tgt := 41) hx hb dX6_readLastSign_26 (by decide) (fun hc => ?_) (fun hc => ?_)
      · replace hw := hw.1 hc
        refine lv_iload_n hx hb dX6_readLastSign_41 rfl (lv_at hl 0 rfl) ?_
        exact retMi C (u2) hw hP hD hS dX6_readLastSign_42
      · replace hw := hw.2 hc
        exact cj_X6_readLastSign_29 l D kI kC kB a b z_characters z_firstSigns z_lastSigns z_numbers u2 o1_out Post hA C hw H locs hP hD hS ls (lv_sub hl [1] rfl)
  · replace hw := hw.1 hc
    refine lv_iconst (v := (-1)) hx hb dX6_readLastSign_11 (by decide) ?_
    exact retMi C (u2) hw hP hD hS dX6_readLastSign_12
set_option maxHeartbeats 4000000 in
set_option maxRecDepth 100000 in
theorem c_X6_digitAt (l : Launch) (D : va_G) (kI kC kB : ClassId) (a : AdT) (z_characters : RowT) (z_firstSigns : RowT) (z_lastSigns : RowT) (z_numbers : RowT) (z_at : Int32) (p1 : Int32) (Post : Int32 → Prop) (hw : wp_X6_digitAt z_characters p1 Post) : CR l D kI kC kB yX6_digitAt cX6_digitAt 3 (some .int) ({ frames := 1, cells := 0, slots := 0, locals := 21 } : Room) [.ref (a 0), .int p1] (cwText kI a z_characters z_firstSigns z_lastSigns z_numbers z_at) Post := by
  refine entR (by decide) (Nat.le_of_ble_eq_true rfl) ?_
  intro p e s m args below meth c ls C hP hl
  replace hl : lv_has ls 3 [(0, .ref (a 0)), (1, .int p1)] := hl
  obtain ⟨hx, hb, hr, hml, hown, hts, hlocks, hK⟩ := id C
  refine lv_aload_n hx hb dX6_digitAt_0 rfl (lv_at hl 0 rfl) ?_
  refine va_get (D := D) (ci := 4) (v := .ref (a 1)) (C := RX6) (T := TX6) (N := 6) hx hb hts inX6 hown hK.1 hP 0 rfl rfl 0 (by decide) (hts _ tw_125) (fun _ h9 => h9) rfl dX6_digitAt_1 ?_
  refine lv_iload_n hx hb dX6_digitAt_4 rfl (lv_at hl 1 rfl) ?_
  refine kRV (As := [.int p1]) (rest := []) (q0 := 1) C (c_X4_at l D kI kC kB (fun i => a (i + 1)) z_characters p1 _ hw) ⟨rfl, rfl⟩ ce_X4_at cv_X4_at tw_287 ⟨Nat.le_of_ble_eq_true rfl, Nat.le_of_ble_eq_true rfl⟩ hP [1, 2] rfl rfl rfl rfl hl.1 rfl (Nat.le_of_ble_eq_true rfl) ⟨Nat.zero_le _, Nat.zero_le _⟩ dX6_digitAt_5 (fun r1 hw => ?_)
  refine lv_bipush (v := (nI 48)) hx hb dX6_digitAt_8 (by decide) ?_
  refine lv_isub hx hb dX6_digitAt_10 ?_
  refine lv_topi (fun y2 ey2 => ?_)
  replace hw := hw y2 ey2
  refine lv_istore_n (lv' := [(2, .int y2), (0, .ref (a 0)), (1, .int p1)]) hx hb dX6_digitAt_11 rfl hl (by decide) rfl (fun ls hl => ?_)
  refine lv_iload_n hx hb dX6_digitAt_12 rfl (lv_at hl 0 rfl) ?_
  refine lv_if_lt (tgt := 26) hx hb dX6_digitAt_13 (by decide) (fun hc => ?_) (fun hc => ?_)
  · replace hw := hw.1 hc
    refine lv_iconst (v := (-1)) hx hb dX6_digitAt_26 (by decide) ?_
    exact retR C hw dX6_digitAt_27
  · replace hw := hw.2 hc
    refine lv_iload_n hx hb dX6_digitAt_16 rfl (lv_at hl 0 rfl) ?_
    refine lv_bipush (v := (nI 9)) hx hb dX6_digitAt_17 (by decide) ?_
    refine lv_icmp_gt (tgt := 26) hx hb dX6_digitAt_19 (by decide) (fun hc => ?_) (fun hc => ?_)
    · replace hw := hw.1 hc
      refine lv_iconst (v := (-1)) hx hb dX6_digitAt_26 (by decide) ?_
      exact retR C hw dX6_digitAt_27
    · replace hw := hw.2 hc
      refine lv_iload_n hx hb dX6_digitAt_22 rfl (lv_at hl 0 rfl) ?_
      refine lv_goto (tgt := 27) hx hb dX6_digitAt_23 (by decide) ?_
      exact retR C hw dX6_digitAt_27
set_option maxHeartbeats 4000000 in
set_option maxRecDepth 100000 in
theorem c_X6_readNumber (l : Launch) (D : va_G) (kI kC kB : ClassId) (a : AdT) (z_characters : RowT) (z_firstSigns : RowT) (z_lastSigns : RowT) (z_numbers : RowT) (z_at : Int32) (sz : Nat) (Post : Int32 → Int32 → Prop) (hw : wp_X6_readNumber z_characters z_at Post) : CMi l D kI kC kB yX6_readNumber cX6_readNumber 3 (some .int) ({ frames := 2, cells := 0, slots := 0, locals := 43 } : Room) [.ref (a 0)] (cwText kI a z_characters z_firstSigns z_lastSigns z_numbers z_at) sz (fun (r : Int32) (u : Int32) => Post r u) (fun u : Int32 => (cwText kI a z_characters z_firstSigns z_lastSigns z_numbers u)) := by
  refine entMi (by decide) (Nat.le_of_ble_eq_true rfl) ?_
  intro p e s m args below meth c ls A C hA hP hD hS hl
  obtain ⟨H, hHe⟩ : ∃ H, H = s.heap := ⟨_, rfl⟩
  obtain ⟨locs, hlo⟩ : ∃ lo : List Loc, lo = [] := ⟨_, rfl⟩
  have hS : va_S A s.heap H locs := by rw [hHe, hlo]; exact hS
  rw [← hHe] at hP
  suffices hg : W p l e ({ frames := 2, cells := 0, slots := 0, locals := 43 } : Room) s m args below meth c H locs 0 0 (MQ below (va_Qi (fun (r : Int32) (u : Int32) => Post r u) (BB D A (fun u : Int32 => (cwText kI a z_characters z_firstSigns z_lastSigns z_numbers u))) A) args s 0 0 A) (F0 m 0 ls []) by rw [hHe, hlo] at hg; exact hg
  replace hl : lv_has ls 3 [(0, .ref (a 0))] := hl
  obtain ⟨hx, hb, hr, hml, hown, hts, hlocks, hK⟩ := id C
  refine lv_aload_n hx hb dX6_readNumber_0 rfl (lv_at hl 0 rfl) ?_
  refine lv_aload_n hx hb dX6_readNumber_1 rfl (lv_at hl 0 rfl) ?_
  refine va_get (D := D) (ci := 4) (v := .int z_at) (C := RX6) (T := TX6) (N := 6) hx hb hts inX6 hown hK.1 hP 0 rfl rfl 5 (by decide) (hts _ tw_130) (fun _ h9 => h9) rfl dX6_readNumber_2 ?_
  refine kRV (As := [.int z_at]) (rest := []) (q0 := 0) C (c_X6_digitAt l D kI kC kB a z_characters z_firstSigns z_lastSigns z_numbers z_at z_at _ hw) ⟨rfl, rfl⟩ ce_X6_digitAt cv_X6_digitAt tw_318 ⟨Nat.le_of_ble_eq_true rfl, Nat.le_of_ble_eq_true rfl⟩ hP [0, 1, 2, 3, 4, 5, 6, 7, 8] rfl rfl rfl rfl hl.1 rfl (Nat.le_of_ble_eq_true rfl) ⟨Nat.zero_le _, Nat.zero_le _⟩ dX6_readNumber_5 (fun r1 hw => ?_)
  refine lv_istore_n (lv' := [(1, .int r1), (0, .ref (a 0))]) hx hb dX6_readNumber_8 rfl hl (by decide) rfl (fun ls hl => ?_)
  refine lv_iload_n hx hb dX6_readNumber_9 rfl (lv_at hl 0 rfl) ?_
  refine lv_iconst (v := (nI 1)) hx hb dX6_readNumber_10 (by decide) ?_
  refine lv_icmp_ge (tgt := 16) hx hb dX6_readNumber_11 (by decide) (fun hc => ?_) (fun hc => ?_)
  · replace hw := hw.1 hc
    refine lv_aload_n hx hb dX6_readNumber_16 rfl (lv_at hl 1 rfl) ?_
    refine lv_dup hx hb dX6_readNumber_17 rfl ?_
    refine va_get (D := D) (ci := 4) (v := .int z_at) (C := RX6) (T := TX6) (N := 6) hx hb hts inX6 hown hK.1 hP 0 rfl rfl 5 (by decide) (hts _ tw_130) (fun _ h9 => h9) rfl dX6_readNumber_18 ?_
    refine lv_iconst (v := (nI 1)) hx hb dX6_readNumber_21 (by decide) ?_
    refine lv_iadd hx hb dX6_readNumber_22 ?_
    refine va_put (D := D) (ci := 4) (v := .int (z_at + (nI 1))) (ty := .int) (C := RX6) (T := TX6) (N := 6) hx hb hts inX6 tyX6 tyX6_ok nmX6 hown hK.1 hP hD hS 0 rfl rfl 5 (by decide) (hts _ tw_130) (fun _ h9 => h9) rfl (tyX6_ok 5 (by decide)) rfl rfl (Nat.le_of_ble_eq_true rfl) dX6_readNumber_23 (fun H locs hP hD hS => ?_)
    replace hP : va_P D vwCl (cwText kI a z_characters z_firstSigns z_lastSigns z_numbers (z_at + (nI 1))) H := hP
    replace hD : va_D A (cwText kI a z_characters z_firstSigns z_lastSigns z_numbers (z_at + (nI 1))) := hD
    refine lv_aload_n hx hb dX6_readNumber_26 rfl (lv_at hl 1 rfl) ?_
    refine lv_aload_n hx hb dX6_readNumber_27 rfl (lv_at hl 1 rfl) ?_
    refine va_get (D := D) (ci := 4) (v := .int (z_at + (nI 1))) (C := RX6) (T := TX6) (N := 6) hx hb hts inX6 hown hK.1 hP 0 rfl rfl 5 (by decide) (hts _ tw_130) (fun _ h9 => h9) rfl dX6_readNumber_28 ?_
    refine kRV (As := [.int (z_at + (nI 1))]) (rest := []) (q0 := 0) C (c_X6_digitAt l D kI kC kB a z_characters z_firstSigns z_lastSigns z_numbers (z_at + (nI 1)) (z_at + (nI 1)) _ hw) ⟨rfl, rfl⟩ ce_X6_digitAt cv_X6_digitAt tw_318 ⟨Nat.le_of_ble_eq_true rfl, Nat.le_of_ble_eq_true rfl⟩ hP [0, 1, 2, 3, 4, 5, 6, 7, 8] rfl rfl rfl rfl hl.1 rfl (Nat.le_of_ble_eq_true rfl) ⟨Nat.zero_le _, Nat.zero_le _⟩ dX6_readNumber_31 (fun r2 hw => ?_)
    refine lv_istore_n (lv' := [(2, .int r2), (1, .int r1), (0, .ref (a 0))]) hx hb dX6_readNumber_34 rfl hl (by decide) rfl (fun ls hl => ?_)
    refine lv_iload_n hx hb dX6_readNumber_35 rfl (lv_at hl 0 rfl) ?_
    refine lv_if_lt (tgt := 50) hx hb dX6_readNumber_36 (by decide) (fun hc => ?_) (fun hc => ?_)
    · replace hw := hw.1 hc
      refine lv_iload_n hx hb dX6_readNumber_50 rfl (lv_at hl 1 rfl) ?_
      exact retMi C ((z_at + (nI 1))) hw hP hD hS dX6_readNumber_51
    · replace hw := hw.2 hc
      refine lv_iload_n hx hb dX6_readNumber_39 rfl (lv_at hl 1 rfl) ?_
      refine lv_bipush (v := (nI 10)) hx hb dX6_readNumber_40 (by decide) ?_
      refine lv_imul hx hb dX6_readNumber_42 ?_
      refine lv_iload_n hx hb dX6_readNumber_43 rfl (lv_at hl 0 rfl) ?_
      refine lv_iadd hx hb dX6_readNumber_44 ?_
      refine lv_bipush (v := (nI 24)) hx hb dX6_readNumber_45 (by decide) ?_
      refine lv_icmp_le (tgt := 52) hx hb dX6_readNumber_47 (by decide) (fun hc => ?_) (fun hc => ?_)
      · replace hw := hw.1 hc
        refine lv_aload_n hx hb dX6_readNumber_52 rfl (lv_at hl 2 rfl) ?_
        refine lv_dup hx hb dX6_readNumber_53 rfl ?_
        refine va_get (D := D) (ci := 4) (v := .int (z_at + (nI 1))) (C := RX6) (T := TX6) (N := 6) hx hb hts inX6 hown hK.1 hP 0 rfl rfl 5 (by decide) (hts _ tw_130) (fun _ h9 => h9) rfl dX6_readNumber_54 ?_
        refine lv_iconst (v := (nI 1)) hx hb dX6_readNumber_57 (by decide) ?_
        refine lv_iadd hx hb dX6_readNumber_58 ?_
        refine va_put (D := D) (ci := 4) (v := .int ((z_at + (nI 1)) + (nI 1))) (ty := .int) (C := RX6) (T := TX6) (N := 6) hx hb hts inX6 tyX6 tyX6_ok nmX6 hown hK.1 hP hD hS 0 rfl rfl 5 (by decide) (hts _ tw_130) (fun _ h9 => h9) rfl (tyX6_ok 5 (by decide)) rfl rfl (Nat.le_of_ble_eq_true rfl) dX6_readNumber_59 (fun H locs hP hD hS => ?_)
        replace hP : va_P D vwCl (cwText kI a z_characters z_firstSigns z_lastSigns z_numbers ((z_at + (nI 1)) + (nI 1))) H := hP
        replace hD : va_D A (cwText kI a z_characters z_firstSigns z_lastSigns z_numbers ((z_at + (nI 1)) + (nI 1))) := hD
        refine lv_iload_n hx hb dX6_readNumber_62 rfl (lv_at hl 1 rfl) ?_
        refine lv_bipush (v := (nI 10)) hx hb dX6_readNumber_63 (by decide) ?_
        refine lv_imul hx hb dX6_readNumber_65 ?_
        refine lv_iload_n hx hb dX6_readNumber_66 rfl (lv_at hl 0 rfl) ?_
        refine lv_iadd hx hb dX6_readNumber_67 ?_
        exact retMi C (((z_at + (nI 1)) + (nI 1))) hw hP hD hS dX6_readNumber_68
      · replace hw := hw.2 hc
        refine lv_iload_n hx hb dX6_readNumber_50 rfl (lv_at hl 1 rfl) ?_
        exact retMi C ((z_at + (nI 1))) hw hP hD hS dX6_readNumber_51
  · replace hw := hw.2 hc
    refine lv_iconst (v := (nI 0)) hx hb dX6_readNumber_14 (by decide) ?_
    exact retMi C (z_at) hw hP hD hS dX6_readNumber_15
set_option maxHeartbeats 4000000 in
set_option maxRecDepth 100000 in
theorem cj_X6_readEntry_69 (l : Launch) (D : va_G) (kI kC kB : ClassId) (a : AdT) (b : AdT) (z_characters : RowT) (z_firstSigns : RowT) (z_lastSigns : RowT) (z_numbers : RowT) (z_at : Int32) (o1_out : Int32) (v3 : Int32) (v4 : Int32) (Post : Int32 → RowT → RowT → RowT → Int32 → Prop) {p : Program} {e : Env} {s : State} {m : MethodId} {args : Array Value} {below : List Frame} {meth : Method} {c : Code} {A : Nat → Prop} (hA : ∀ q : Nat, s.heap.size ≤ q → A q) (C : CtxT p s m args meth c cX6_readEntry 6 (some .boolean) yX6_readEntry.cls D kI kC kB) : wj_X6_readEntry_69 z_characters z_firstSigns z_lastSigns z_numbers z_at o1_out v3 v4 Post → ∀ (H : Heap) (locs : List Loc), va_P D vwCl (cwText kI a z_characters z_firstSigns z_lastSigns z_numbers z_at ++ cwAlph b o1_out) H → va_D A (cwText kI a z_characters z_firstSigns z_lastSigns z_numbers z_at ++ cwAlph b o1_out) → va_S A s.heap H locs → ∀ (ls : Array Slot), lv_has ls 6 [(0, .ref (a 0)), (3, .int v3), (4, .int v4)] → W p l e ({ frames := 3, cells := 0, slots := 0, locals := 67 } : Room) s m args below meth c H locs 0 0 (MQ below (va_Qi (fun (r : Int32) (u : RowT × RowT × RowT × Int32) => Post r u.1 u.2.1 u.2.2.1 u.2.2.2) (BB D A (fun u : RowT × RowT × RowT × Int32 => (cwText kI a z_characters u.1 u.2.1 u.2.2.1 u.2.2.2 ++ cwAlph b o1_out))) A) args s 0 0 A) (F0 m 69 ls []) := by
  obtain ⟨hx, hb, hr, hml, hown, hts, hlocks, hK⟩ := id C
  intro hw H locs hP hD hS ls hl
  refine lv_aload_n hx hb dX6_readEntry_69 rfl (lv_at hl 0 rfl) ?_
  refine kMVi (q0 := 0) (As := []) (rest := []) C (c_X6_readNumber l D kI kC kB a z_characters z_firstSigns z_lastSigns z_numbers z_at H.size _ hw) ⟨rfl, rfl⟩ ce_X6_readNumber cv_X6_readNumber tw_314 ⟨Nat.le_of_ble_eq_true rfl, Nat.le_of_ble_eq_true rfl⟩ hP hD hS hA [0, 1, 2, 3, 4, 5, 6, 7, 8] rfl rfl (fun _ => rfl) rfl rfl rfl hl.1 rfl (Nat.le_of_ble_eq_true rfl) ⟨Nat.zero_le _, Nat.zero_le _⟩ dX6_readEntry_70 (fun r1 u H locs hw hP hD hS => ?_)
  obtain ⟨u2, rfl⟩ : ∃ z, z = u := ⟨_, rfl⟩
  try dsimp only at hw
  replace hP : va_P D vwCl (cwText kI a z_characters z_firstSigns z_lastSigns z_numbers u2 ++ cwAlph b o1_out) H := hP
  replace hD : va_D A (cwText kI a z_characters z_firstSigns z_lastSigns z_numbers u2 ++ cwAlph b o1_out) := hD
  refine lv_istore (lv' := [(5, .int r1), (0, .ref (a 0)), (3, .int v3), (4, .int v4)]) hx hb dX6_readEntry_73 hl (by decide) rfl (fun ls hl => ?_)
  refine lv_iload hx hb dX6_readEntry_75 (lv_at hl 0 rfl) ?_
  refine lv_if_ne (tgt := 82) hx hb dX6_readEntry_77 (by decide) (fun hc => ?_) (fun hc => ?_)
  · replace hw := hw.2 hc
    refine lv_aload_n hx hb dX6_readEntry_82 rfl (lv_at hl 1 rfl) ?_
    refine va_get (D := D) (ci := 4) (v := .ref (a 3)) (C := RX6) (T := TX6) (N := 6) hx hb hts inX6 hown hK.1 hP 0 rfl rfl 1 (by decide) (hts _ tw_126) (fun _ h9 => h9) rfl dX6_readEntry_83 ?_
    refine lv_iload_n hx hb dX6_readEntry_86 rfl (lv_at hl 2 rfl) ?_
    refine kMVv (q0 := 3) (As := [.int v3]) (rest := []) C (c_X4_add l D kI kC kB (fun i => a (i + 3)) z_firstSigns H.size v3 _ hw) ⟨rfl, rfl⟩ ce_X4_add cv_X4_add tw_322 ⟨Nat.le_of_ble_eq_true rfl, Nat.le_of_ble_eq_true rfl⟩ hP hD hS hA [3, 4] rfl rfl (fun _ => rfl) rfl rfl rfl hl.1 rfl (Nat.le_of_ble_eq_true rfl) ⟨Nat.zero_le _, Nat.zero_le _⟩ dX6_readEntry_87 (fun u H locs hw hP hD hS => ?_)
    obtain ⟨u3, rfl⟩ : ∃ z, z = u := ⟨_, rfl⟩
    try dsimp only at hw
    replace hP : va_P D vwCl (cwText kI a z_characters u3 z_lastSigns z_numbers u2 ++ cwAlph b o1_out) H := hP
    replace hD : va_D A (cwText kI a z_characters u3 z_lastSigns z_numbers u2 ++ cwAlph b o1_out) := hD
    refine lv_aload_n hx hb dX6_readEntry_90 rfl (lv_at hl 1 rfl) ?_
    refine va_get (D := D) (ci := 4) (v := .ref (a 5)) (C := RX6) (T := TX6) (N := 6) hx hb hts inX6 hown hK.1 hP 0 rfl rfl 2 (by decide) (hts _ tw_127) (fun _ h9 => h9) rfl dX6_readEntry_91 ?_
    refine lv_iload hx hb dX6_readEntry_94 (lv_at hl 3 rfl) ?_
    refine kMVv (q0 := 5) (As := [.int v4]) (rest := []) C (c_X4_add l D kI kC kB (fun i => a (i + 5)) z_lastSigns H.size v4 _ hw) ⟨rfl, rfl⟩ ce_X4_add cv_X4_add tw_322 ⟨Nat.le_of_ble_eq_true rfl, Nat.le_of_ble_eq_true rfl⟩ hP hD hS hA [5, 6] rfl rfl (fun _ => rfl) rfl rfl rfl hl.1 rfl (Nat.le_of_ble_eq_true rfl) ⟨Nat.zero_le _, Nat.zero_le _⟩ dX6_readEntry_96 (fun u H locs hw hP hD hS => ?_)
    obtain ⟨u4, rfl⟩ : ∃ z, z = u := ⟨_, rfl⟩
    try dsimp only at hw
    replace hP : va_P D vwCl (cwText kI a z_characters u3 u4 z_numbers u2 ++ cwAlph b o1_out) H := hP
    replace hD : va_D A (cwText kI a z_characters u3 u4 z_numbers u2 ++ cwAlph b o1_out) := hD
    refine lv_aload_n hx hb dX6_readEntry_99 rfl (lv_at hl 1 rfl) ?_
    refine va_get (D := D) (ci := 4) (v := .ref (a 7)) (C := RX6) (T := TX6) (N := 6) hx hb hts inX6 hown hK.1 hP 0 rfl rfl 3 (by decide) (hts _ tw_128) (fun _ h9 => h9) rfl dX6_readEntry_100 ?_
    refine lv_iload hx hb dX6_readEntry_103 (lv_at hl 0 rfl) ?_
    refine kMVv (q0 := 7) (As := [.int r1]) (rest := []) C (c_X4_add l D kI kC kB (fun i => a (i + 7)) z_numbers H.size r1 _ hw) ⟨rfl, rfl⟩ ce_X4_add cv_X4_add tw_322 ⟨Nat.le_of_ble_eq_true rfl, Nat.le_of_ble_eq_true rfl⟩ hP hD hS hA [7, 8] rfl rfl (fun _ => rfl) rfl rfl rfl hl.1 rfl (Nat.le_of_ble_eq_true rfl) ⟨Nat.zero_le _, Nat.zero_le _⟩ dX6_readEntry_105 (fun u H locs hw hP hD hS => ?_)
    obtain ⟨u5, rfl⟩ : ∃ z, z = u := ⟨_, rfl⟩
    try dsimp only at hw
    replace hP : va_P D vwCl (cwText kI a z_characters u3 u4 u5 u2 ++ cwAlph b o1_out) H := hP
    replace hD : va_D A (cwText kI a z_characters u3 u4 u5 u2 ++ cwAlph b o1_out) := hD
    refine lv_iconst (v := (nI 1)) hx hb dX6_readEntry_108 (by decide) ?_
    exact retMz C (u3, u4, u5, u2) (by decide) hw hP hD hS dX6_readEntry_109
  · replace hw := hw.1 hc
    refine lv_iconst (v := (nI 0)) hx hb dX6_readEntry_80 (by decide) ?_
    exact retMz C (z_firstSigns, z_lastSigns, z_numbers, u2) (by decide) hw hP hD hS dX6_readEntry_81
set_option maxHeartbeats 4000000 in
set_option maxRecDepth 100000 in
theorem c_X6_readEntry (l : Launch) (D : va_G) (kI kC kB : ClassId) (a : AdT) (b : AdT) (z_characters : RowT) (z_firstSigns : RowT) (z_lastSigns : RowT) (z_numbers : RowT) (z_at : Int32) (o1_out : Int32) (sz : Nat) (p2 : Int32) (Post : Int32 → RowT → RowT → RowT → Int32 → Prop) (hw : wp_X6_readEntry z_characters z_firstSigns z_lastSigns z_numbers z_at o1_out p2 Post) : CMi l D kI kC kB yX6_readEntry cX6_readEntry 6 (some .boolean) ({ frames := 3, cells := 0, slots := 0, locals := 67 } : Room) [.ref (a 0), .ref (b 0), .int p2] (cwText kI a z_characters z_firstSigns z_lastSigns z_numbers z_at ++ cwAlph b o1_out) sz (fun (r : Int32) (u : RowT × RowT × RowT × Int32) => Post r u.1 u.2.1 u.2.2.1 u.2.2.2) (fun u : RowT × RowT × RowT × Int32 => (cwText kI a z_characters u.1 u.2.1 u.2.2.1 u.2.2.2 ++ cwAlph b o1_out)) := by
  refine entMi (by decide) (Nat.le_of_ble_eq_true rfl) ?_
  intro p e s m args below meth c ls A C hA hP hD hS hl
  obtain ⟨H, hHe⟩ : ∃ H, H = s.heap := ⟨_, rfl⟩
  obtain ⟨locs, hlo⟩ : ∃ lo : List Loc, lo = [] := ⟨_, rfl⟩
  have hS : va_S A s.heap H locs := by rw [hHe, hlo]; exact hS
  rw [← hHe] at hP
  suffices hg : W p l e ({ frames := 3, cells := 0, slots := 0, locals := 67 } : Room) s m args below meth c H locs 0 0 (MQ below (va_Qi (fun (r : Int32) (u : RowT × RowT × RowT × Int32) => Post r u.1 u.2.1 u.2.2.1 u.2.2.2) (BB D A (fun u : RowT × RowT × RowT × Int32 => (cwText kI a z_characters u.1 u.2.1 u.2.2.1 u.2.2.2 ++ cwAlph b o1_out))) A) args s 0 0 A) (F0 m 0 ls []) by rw [hHe, hlo] at hg; exact hg
  replace hl : lv_has ls 6 [(0, .ref (a 0)), (1, .ref (b 0)), (2, .int p2)] := hl
  obtain ⟨hx, hb, hr, hml, hown, hts, hlocks, hK⟩ := id C
  refine lv_aload_n hx hb dX6_readEntry_0 rfl (lv_at hl 0 rfl) ?_
  refine lv_aload_n hx hb dX6_readEntry_1 rfl (lv_at hl 1 rfl) ?_
  refine kMVi (q0 := 0) (As := [.ref (b 0)]) (rest := []) C (c_X6_readSign l D kI kC kB a b z_characters z_firstSigns z_lastSigns z_numbers z_at o1_out H.size _ hw) ⟨rfl, rfl⟩ ce_X6_readSign cv_X6_readSign tw_283 ⟨Nat.le_of_ble_eq_true rfl, Nat.le_of_ble_eq_true rfl⟩ hP hD hS hA [0, 1, 2, 3, 4, 5, 6, 7, 8, 9] rfl rfl (fun _ => rfl) rfl rfl rfl hl.1 rfl (Nat.le_of_ble_eq_true rfl) ⟨Nat.zero_le _, Nat.zero_le _⟩ dX6_readEntry_2 (fun r6 u H locs hw hP hD hS => ?_)
  obtain ⟨u7, rfl⟩ : ∃ z, z = u := ⟨_, rfl⟩
  try dsimp only at hw
  replace hP : va_P D vwCl (cwText kI a z_characters z_firstSigns z_lastSigns z_numbers u7 ++ cwAlph b o1_out) H := hP
  replace hD : va_D A (cwText kI a z_characters z_firstSigns z_lastSigns z_numbers u7 ++ cwAlph b o1_out) := hD
  refine lv_istore_n (lv' := [(3, .int r6), (0, .ref (a 0)), (1, .ref (b 0)), (2, .int p2)]) hx hb dX6_readEntry_5 rfl hl (by decide) rfl (fun ls hl => ?_)
  refine lv_iload_n hx hb dX6_readEntry_6 rfl (lv_at hl 0 rfl) ?_
  refine lv_iconst (v := (-1)) hx hb dX6_readEntry_7 (by decide) ?_
  refine lv_icmp_ne (tgt := 13) hx hb dX6_readEntry_8 (by decide) (fun hc => ?_) (fun hc => ?_)
  · replace hw := hw.2 hc
    refine lv_iload_n hx hb dX6_readEntry_13 rfl (lv_at hl 0 rfl) ?_
    refine lv_istore (lv' := [(4, .int r6), (3, .int r6), (0, .ref (a 0)), (1, .ref (b 0)), (2, .int p2)]) hx hb dX6_readEntry_14 hl (by decide) rfl (fun ls hl => ?_)
    refine lv_iload_n hx hb dX6_readEntry_16 rfl (lv_at hl 4 rfl) ?_
    refine lv_if_eq (tgt := 69) hx hb dX6_readEntry_17 (by decide) (fun hc => ?_) (fun hc => ?_)
    · replace hw := hw.1 hc
      exact cj_X6_readEntry_69 l D kI kC kB a b z_characters z_firstSigns z_lastSigns z_numbers u7 o1_out r6 r6 Post hA C hw H locs hP hD hS ls (lv_sub hl [2, 1, 0] rfl)
    · replace hw := hw.2 hc
      refine lv_iload_n hx hb dX6_readEntry_20 rfl (lv_at hl 1 rfl) ?_
      refine kRS (As := [.int r6]) (rest := []) C (c_X5_isStarred l D kI kC kB  r6 _ hw) ⟨rfl, rfl⟩ ce_X5_isStarred cv_X5_isStarred tw_303 ⟨Nat.le_of_ble_eq_true rfl, Nat.le_of_ble_eq_true rfl⟩ hP [] rfl hl.1 rfl (Nat.le_of_ble_eq_true rfl) ⟨Nat.zero_le _, Nat.zero_le _⟩ dX6_readEntry_21 (fun r8 hw => ?_)
      refine lv_if_ne (tgt := 69) hx hb dX6_readEntry_24 (by decide) (fun hc => ?_) (fun hc => ?_)
      · replace hw := hw.2 hc
        exact cj_X6_readEntry_69 l D kI kC kB a b z_characters z_firstSigns z_lastSigns z_numbers u7 o1_out r6 r6 Post hA C hw H locs hP hD hS ls (lv_sub hl [2, 1, 0] rfl)
      · replace hw := hw.1 hc
        refine lv_aload_n hx hb dX6_readEntry_27 rfl (lv_at hl 2 rfl) ?_
        refine va_get (D := D) (ci := 4) (v := .ref (a 1)) (C := RX6) (T := TX6) (N := 6) hx hb hts inX6 hown hK.1 hP 0 rfl rfl 0 (by decide) (hts _ tw_125) (fun _ h9 => h9) rfl dX6_readEntry_28 ?_
        refine lv_aload_n hx hb dX6_readEntry_31 rfl (lv_at hl 2 rfl) ?_
        refine va_get (D := D) (ci := 4) (v := .int u7) (C := RX6) (T := TX6) (N := 6) hx hb hts inX6 hown hK.1 hP 0 rfl rfl 5 (by decide) (hts _ tw_130) (fun _ h9 => h9) rfl dX6_readEntry_32 ?_
        refine kRV (As := [.int u7]) (rest := []) (q0 := 1) C (c_X4_at l D kI kC kB (fun i => a (i + 1)) z_characters u7 _ hw) ⟨rfl, rfl⟩ ce_X4_at cv_X4_at tw_287 ⟨Nat.le_of_ble_eq_true rfl, Nat.le_of_ble_eq_true rfl⟩ hP [1, 2] rfl rfl rfl rfl hl.1 rfl (Nat.le_of_ble_eq_true rfl) ⟨Nat.zero_le _, Nat.zero_le _⟩ dX6_readEntry_35 (fun r9 hw => ?_)
        refine lv_bipush (v := (nI 45)) hx hb dX6_readEntry_38 (by decide) ?_
        refine lv_icmp_ne (tgt := 69) hx hb dX6_readEntry_40 (by decide) (fun hc => ?_) (fun hc => ?_)
        · replace hw := hw.2 hc
          exact cj_X6_readEntry_69 l D kI kC kB a b z_characters z_firstSigns z_lastSigns z_numbers u7 o1_out r6 r6 Post hA C hw H locs hP hD hS ls (lv_sub hl [2, 1, 0] rfl)
        · replace hw := hw.1 hc
          refine lv_aload_n hx hb dX6_readEntry_43 rfl (lv_at hl 2 rfl) ?_
          refine lv_dup hx hb dX6_readEntry_44 rfl ?_
          refine va_get (D := D) (ci := 4) (v := .int u7) (C := RX6) (T := TX6) (N := 6) hx hb hts inX6 hown hK.1 hP 0 rfl rfl 5 (by decide) (hts _ tw_130) (fun _ h9 => h9) rfl dX6_readEntry_45 ?_
          refine lv_iconst (v := (nI 1)) hx hb dX6_readEntry_48 (by decide) ?_
          refine lv_iadd hx hb dX6_readEntry_49 ?_
          refine va_put (D := D) (ci := 4) (v := .int (u7 + (nI 1))) (ty := .int) (C := RX6) (T := TX6) (N := 6) hx hb hts inX6 tyX6 tyX6_ok nmX6 hown hK.1 hP hD hS 0 rfl rfl 5 (by decide) (hts _ tw_130) (fun _ h9 => h9) rfl (tyX6_ok 5 (by decide)) rfl rfl (Nat.le_of_ble_eq_true rfl) dX6_readEntry_50 (fun H locs hP hD hS => ?_)
          replace hP : va_P D vwCl (cwText kI a z_characters z_firstSigns z_lastSigns z_numbers (u7 + (nI 1)) ++ cwAlph b o1_out) H := hP
          replace hD : va_D A (cwText kI a z_characters z_firstSigns z_lastSigns z_numbers (u7 + (nI 1)) ++ cwAlph b o1_out) := hD
          refine lv_aload_n hx hb dX6_readEntry_53 rfl (lv_at hl 2 rfl) ?_
          refine lv_aload_n hx hb dX6_readEntry_54 rfl (lv_at hl 3 rfl) ?_
          refine lv_iload_n hx hb dX6_readEntry_55 rfl (lv_at hl 1 rfl) ?_
          refine kMVi (q0 := 0) (As := [.ref (b 0), .int r6]) (rest := []) C (c_X6_readLastSign l D kI kC kB a b z_characters z_firstSigns z_lastSigns z_numbers (u7 + (nI 1)) o1_out H.size r6 _ hw) ⟨rfl, rfl⟩ ce_X6_readLastSign cv_X6_readLastSign tw_306 ⟨Nat.le_of_ble_eq_true rfl, Nat.le_of_ble_eq_true rfl⟩ hP hD hS hA [0, 1, 2, 3, 4, 5, 6, 7, 8, 9] rfl rfl (fun _ => rfl) rfl rfl rfl hl.1 rfl (Nat.le_of_ble_eq_true rfl) ⟨Nat.zero_le _, Nat.zero_le _⟩ dX6_readEntry_56 (fun r10 u H locs hw hP hD hS => ?_)
          obtain ⟨u11, rfl⟩ : ∃ z, z = u := ⟨_, rfl⟩
          try dsimp only at hw
          replace hP : va_P D vwCl (cwText kI a z_characters z_firstSigns z_lastSigns z_numbers u11 ++ cwAlph b o1_out) H := hP
          replace hD : va_D A (cwText kI a z_characters z_firstSigns z_lastSigns z_numbers u11 ++ cwAlph b o1_out) := hD
          refine lv_istore (lv' := [(4, .int r10), (3, .int r6), (0, .ref (a 0)), (1, .ref (b 0)), (2, .int p2)]) hx hb dX6_readEntry_59 hl (by decide) rfl (fun ls hl => ?_)
          refine lv_iload hx hb dX6_readEntry_61 (lv_at hl 0 rfl) ?_
          refine lv_iconst (v := (-1)) hx hb dX6_readEntry_63 (by decide) ?_
          refine lv_icmp_ne (tgt := 69) hx hb dX6_readEntry_64 (by decide) (fun hc => ?_) (fun hc => ?_)
          · replace hw := hw.2 hc
            exact cj_X6_readEntry_69 l D kI kC kB a b z_characters z_firstSigns z_lastSigns z_numbers u11 o1_out r6 r10 Post hA C hw H locs hP hD hS ls (lv_sub hl [2, 1, 0] rfl)
          · replace hw := hw.1 hc
            refine lv_iconst (v := (nI 0)) hx hb dX6_readEntry_67 (by decide) ?_
            exact retMz C (z_firstSigns, z_lastSigns, z_numbers, u11) (by decide) hw hP hD hS dX6_readEntry_68
  · replace hw := hw.1 hc
    refine lv_iconst (v := (nI 0)) hx hb dX6_readEntry_11 (by decide) ?_
    exact retMz C (z_firstSigns, z_lastSigns, z_numbers, u7) (by decide) hw hP hD hS dX6_readEntry_12
set_option maxHeartbeats 4000000 in
set_option maxRecDepth 100000 in
theorem cl_X6_readEntries_28 (l : Launch) (D : va_G) (kI kC kB : ClassId) (a : AdT) (b : AdT) (z_characters : RowT) (o1_out : Int32) (p2 : Int32) (Post : Int32 → RowT → RowT → RowT → Int32 → Prop) {p : Program} {e : Env} {s : State} {m : MethodId} {args : Array Value} {below : List Frame} {meth : Method} {c : Code} {A : Nat → Prop} (hA : ∀ q : Nat, s.heap.size ≤ q → A q) (C : CtxT p s m args meth c cX6_readEntries 4 (some .int) yX6_readEntries.cls D kI kC kB) : ∀ (n : Nat), ∀ (z_firstSigns : RowT) (z_lastSigns : RowT) (z_numbers : RowT) (z_at : Int32) (v3 : Int32), wl_X6_readEntries_28 z_characters o1_out p2 Post n z_firstSigns z_lastSigns z_numbers z_at v3 → ∀ (H : Heap) (locs : List Loc), va_P D vwCl (cwText kI a z_characters z_firstSigns z_lastSigns z_numbers z_at ++ cwAlph b o1_out) H → va_D A (cwText kI a z_characters z_firstSigns z_lastSigns z_numbers z_at ++ cwAlph b o1_out) → va_S A s.heap H locs → ∀ (ls : Array Slot), lv_has ls 4 [(0, .ref (a 0)), (1, .ref (b 0)), (2, .int p2), (3, .int v3)] → W p l e ({ frames := 4, cells := 0, slots := 0, locals := 92 } : Room) s m args below meth c H locs 0 0 (MQ below (va_Qi (fun (r : Int32) (u : RowT × RowT × RowT × Int32) => Post r u.1 u.2.1 u.2.2.1 u.2.2.2) (BB D A (fun u : RowT × RowT × RowT × Int32 => (cwText kI a z_characters u.1 u.2.1 u.2.2.1 u.2.2.2 ++ cwAlph b o1_out))) A) args s 0 0 A) (F0 m 28 ls []) := by
  obtain ⟨hx, hb, hr, hml, hown, hts, hlocks, hK⟩ := id C
  intro n
  induction n with
  | zero => intro z_firstSigns z_lastSigns z_numbers z_at v3 hw; exact hw.elim
  | succ n ih =>
    intro z_firstSigns z_lastSigns z_numbers z_at v3 hw H locs hP hD hS ls hl
    refine lv_iload_n hx hb dX6_readEntries_28 rfl (lv_at hl 3 rfl) ?_
    refine lv_aload_n hx hb dX6_readEntries_29 rfl (lv_at hl 0 rfl) ?_
    refine va_get (D := D) (ci := 4) (v := .ref (a 1)) (C := RX6) (T := TX6) (N := 6) hx hb hts inX6 hown hK.1 hP 0 rfl rfl 0 (by decide) (hts _ tw_125) (fun _ h9 => h9) rfl dX6_readEntries_30 ?_
    refine kRV (As := []) (rest := [.int v3]) (q0 := 1) C (c_X4_length l D kI kC kB (fun i => a (i + 1)) z_characters _ hw) ⟨rfl, rfl⟩ ce_X4_length cv_X4_length tw_278 ⟨Nat.le_of_ble_eq_true rfl, Nat.le_of_ble_eq_true rfl⟩ hP [1, 2] rfl rfl rfl rfl hl.1 rfl (Nat.le_of_ble_eq_true rfl) ⟨Nat.zero_le _, Nat.zero_le _⟩ dX6_readEntries_33 (fun r1 hw => ?_)
    refine lv_icmp_gt (tgt := 106) hx hb dX6_readEntries_36 (by decide) (fun hc => ?_) (fun hc => ?_)
    · replace hw := hw.1 hc
      refine lv_aload_n hx hb dX6_readEntries_106 rfl (lv_at hl 0 rfl) ?_
      refine va_get (D := D) (ci := 4) (v := .int z_at) (C := RX6) (T := TX6) (N := 6) hx hb hts inX6 hown hK.1 hP 0 rfl rfl 5 (by decide) (hts _ tw_130) (fun _ h9 => h9) rfl dX6_readEntries_107 ?_
      exact retMi C (z_firstSigns, z_lastSigns, z_numbers, z_at) hw hP hD hS dX6_readEntries_110
    · replace hw := hw.2 hc
      refine lv_aload_n hx hb dX6_readEntries_39 rfl (lv_at hl 0 rfl) ?_
      refine lv_aload_n hx hb dX6_readEntries_40 rfl (lv_at hl 1 rfl) ?_
      refine lv_iload_n hx hb dX6_readEntries_41 rfl (lv_at hl 2 rfl) ?_
      refine kMVi (q0 := 0) (As := [.ref (b 0), .int p2]) (rest := []) C (c_X6_readEntry l D kI kC kB a b z_characters z_firstSigns z_lastSigns z_numbers z_at o1_out H.size p2 _ hw) ⟨rfl, rfl⟩ ce_X6_readEntry cv_X6_readEntry tw_279 ⟨Nat.le_of_ble_eq_true rfl, Nat.le_of_ble_eq_true rfl⟩ hP hD hS hA [0, 1, 2, 3, 4, 5, 6, 7, 8, 9] rfl rfl (fun _ => rfl) rfl rfl rfl hl.1 rfl (Nat.le_of_ble_eq_true rfl) ⟨Nat.zero_le _, Nat.zero_le _⟩ dX6_readEntries_42 (fun r2 u H locs hw hP hD hS => ?_)
      obtain ⟨u3, u4, u5, u6⟩ := u
      try dsimp only at hw
      replace hP : va_P D vwCl (cwText kI a z_characters u3 u4 u5 u6 ++ cwAlph b o1_out) H := hP
      replace hD : va_D A (cwText kI a z_characters u3 u4 u5 u6 ++ cwAlph b o1_out) := hD
      refine lv_if_ne (tgt := 53) hx hb dX6_readEntries_45 (by decide) (fun hc => ?_) (fun hc => ?_)
      · replace hw := hw.2 hc
        refine lv_aload_n hx hb dX6_readEntries_53 rfl (lv_at hl 0 rfl) ?_
        refine va_get (D := D) (ci := 4) (v := .int u6) (C := RX6) (T := TX6) (N := 6) hx hb hts inX6 hown hK.1 hP 0 rfl rfl 5 (by decide) (hts _ tw_130) (fun _ h9 => h9) rfl dX6_readEntries_54 ?_
        refine lv_aload_n hx hb dX6_readEntries_57 rfl (lv_at hl 0 rfl) ?_
        refine va_get (D := D) (ci := 4) (v := .ref (a 1)) (C := RX6) (T := TX6) (N := 6) hx hb hts inX6 hown hK.1 hP 0 rfl rfl 0 (by decide) (hts _ tw_125) (fun _ h9 => h9) rfl dX6_readEntries_58 ?_
        refine kRV (As := []) (rest := [.int u6]) (q0 := 1) C (c_X4_length l D kI kC kB (fun i => a (i + 1)) z_characters _ hw) ⟨rfl, rfl⟩ ce_X4_length cv_X4_length tw_278 ⟨Nat.le_of_ble_eq_true rfl, Nat.le_of_ble_eq_true rfl⟩ hP [1, 2] rfl rfl rfl rfl hl.1 rfl (Nat.le_of_ble_eq_true rfl) ⟨Nat.zero_le _, Nat.zero_le _⟩ dX6_readEntries_61 (fun r7 hw => ?_)
        refine lv_icmp_ne (tgt := 69) hx hb dX6_readEntries_64 (by decide) (fun hc => ?_) (fun hc => ?_)
        · replace hw := hw.2 hc
          refine lv_aload_n hx hb dX6_readEntries_69 rfl (lv_at hl 0 rfl) ?_
          refine va_get (D := D) (ci := 4) (v := .ref (a 1)) (C := RX6) (T := TX6) (N := 6) hx hb hts inX6 hown hK.1 hP 0 rfl rfl 0 (by decide) (hts _ tw_125) (fun _ h9 => h9) rfl dX6_readEntries_70 ?_
          refine lv_aload_n hx hb dX6_readEntries_73 rfl (lv_at hl 0 rfl) ?_
          refine va_get (D := D) (ci := 4) (v := .int u6) (C := RX6) (T := TX6) (N := 6) hx hb hts inX6 hown hK.1 hP 0 rfl rfl 5 (by decide) (hts _ tw_130) (fun _ h9 => h9) rfl dX6_readEntries_74 ?_
          refine kRV (As := [.int u6]) (rest := []) (q0 := 1) C (c_X4_at l D kI kC kB (fun i => a (i + 1)) z_characters u6 _ hw) ⟨rfl, rfl⟩ ce_X4_at cv_X4_at tw_287 ⟨Nat.le_of_ble_eq_true rfl, Nat.le_of_ble_eq_true rfl⟩ hP [1, 2] rfl rfl rfl rfl hl.1 rfl (Nat.le_of_ble_eq_true rfl) ⟨Nat.zero_le _, Nat.zero_le _⟩ dX6_readEntries_77 (fun r8 hw => ?_)
          refine lv_bipush (v := (nI 44)) hx hb dX6_readEntries_80 (by decide) ?_
          refine lv_icmp_eq (tgt := 90) hx hb dX6_readEntries_82 (by decide) (fun hc => ?_) (fun hc => ?_)
          · replace hw := hw.1 hc
            refine lv_aload_n hx hb dX6_readEntries_90 rfl (lv_at hl 0 rfl) ?_
            refine lv_dup hx hb dX6_readEntries_91 rfl ?_
            refine va_get (D := D) (ci := 4) (v := .int u6) (C := RX6) (T := TX6) (N := 6) hx hb hts inX6 hown hK.1 hP 0 rfl rfl 5 (by decide) (hts _ tw_130) (fun _ h9 => h9) rfl dX6_readEntries_92 ?_
            refine lv_iconst (v := (nI 1)) hx hb dX6_readEntries_95 (by decide) ?_
            refine lv_iadd hx hb dX6_readEntries_96 ?_
            refine va_put (D := D) (ci := 4) (v := .int (u6 + (nI 1))) (ty := .int) (C := RX6) (T := TX6) (N := 6) hx hb hts inX6 tyX6 tyX6_ok nmX6 hown hK.1 hP hD hS 0 rfl rfl 5 (by decide) (hts _ tw_130) (fun _ h9 => h9) rfl (tyX6_ok 5 (by decide)) rfl rfl (Nat.le_of_ble_eq_true rfl) dX6_readEntries_97 (fun H locs hP hD hS => ?_)
            replace hP : va_P D vwCl (cwText kI a z_characters u3 u4 u5 (u6 + (nI 1)) ++ cwAlph b o1_out) H := hP
            replace hD : va_D A (cwText kI a z_characters u3 u4 u5 (u6 + (nI 1)) ++ cwAlph b o1_out) := hD
            refine lv_iinc (v := (v3 + nI 1)) (lv' := [(3, .int (v3 + nI 1)), (0, .ref (a 0)), (1, .ref (b 0)), (2, .int p2)]) hx hb dX6_readEntries_100 hl (k := 3) rfl rfl (by decide) rfl (fun ls hl => ?_)
            refine lv_goto (tgt := 28) hx hb dX6_readEntries_103 (by decide) ?_
            exact ih u3 u4 u5 (u6 + (nI 1)) (v3 + nI 1) hw H locs hP hD hS ls (lv_sub hl [1, 2, 3, 0] rfl)
          · replace hw := hw.2 hc
            refine lv_aload_n hx hb dX6_readEntries_85 rfl (lv_at hl 0 rfl) ?_
            refine va_get (D := D) (ci := 4) (v := .int u6) (C := RX6) (T := TX6) (N := 6) hx hb hts inX6 hown hK.1 hP 0 rfl rfl 5 (by decide) (hts _ tw_130) (fun _ h9 => h9) rfl dX6_readEntries_86 ?_
            exact retMi C (u3, u4, u5, u6) hw hP hD hS dX6_readEntries_89
        · replace hw := hw.1 hc
          refine lv_iconst (v := (-1)) hx hb dX6_readEntries_67 (by decide) ?_
          exact retMi C (u3, u4, u5, u6) hw hP hD hS dX6_readEntries_68
      · replace hw := hw.1 hc
        refine lv_aload_n hx hb dX6_readEntries_48 rfl (lv_at hl 0 rfl) ?_
        refine va_get (D := D) (ci := 4) (v := .int u6) (C := RX6) (T := TX6) (N := 6) hx hb hts inX6 hown hK.1 hP 0 rfl rfl 5 (by decide) (hts _ tw_130) (fun _ h9 => h9) rfl dX6_readEntries_49 ?_
        exact retMi C (u3, u4, u5, u6) hw hP hD hS dX6_readEntries_52
set_option maxHeartbeats 4000000 in
set_option maxRecDepth 100000 in
theorem c_X6_readEntries (l : Launch) (D : va_G) (kI kC kB : ClassId) (a : AdT) (b : AdT) (z_characters : RowT) (z_firstSigns : RowT) (z_lastSigns : RowT) (z_numbers : RowT) (z_at : Int32) (o1_out : Int32) (sz : Nat) (p2 : Int32) (Post : Int32 → RowT → RowT → RowT → Int32 → Prop) (hw : wp_X6_readEntries z_characters z_firstSigns z_lastSigns z_numbers z_at o1_out p2 Post) : CMi l D kI kC kB yX6_readEntries cX6_readEntries 4 (some .int) ({ frames := 4, cells := 0, slots := 0, locals := 92 } : Room) [.ref (a 0), .ref (b 0), .int p2] (cwText kI a z_characters z_firstSigns z_lastSigns z_numbers z_at ++ cwAlph b o1_out) sz (fun (r : Int32) (u : RowT × RowT × RowT × Int32) => Post r u.1 u.2.1 u.2.2.1 u.2.2.2) (fun u : RowT × RowT × RowT × Int32 => (cwText kI a z_characters u.1 u.2.1 u.2.2.1 u.2.2.2 ++ cwAlph b o1_out)) := by
  refine entMi (by decide) (Nat.le_of_ble_eq_true rfl) ?_
  intro p e s m args below meth c ls A C hA hP hD hS hl
  obtain ⟨H, hHe⟩ : ∃ H, H = s.heap := ⟨_, rfl⟩
  obtain ⟨locs, hlo⟩ : ∃ lo : List Loc, lo = [] := ⟨_, rfl⟩
  have hS : va_S A s.heap H locs := by rw [hHe, hlo]; exact hS
  rw [← hHe] at hP
  suffices hg : W p l e ({ frames := 4, cells := 0, slots := 0, locals := 92 } : Room) s m args below meth c H locs 0 0 (MQ below (va_Qi (fun (r : Int32) (u : RowT × RowT × RowT × Int32) => Post r u.1 u.2.1 u.2.2.1 u.2.2.2) (BB D A (fun u : RowT × RowT × RowT × Int32 => (cwText kI a z_characters u.1 u.2.1 u.2.2.1 u.2.2.2 ++ cwAlph b o1_out))) A) args s 0 0 A) (F0 m 0 ls []) by rw [hHe, hlo] at hg; exact hg
  replace hl : lv_has ls 4 [(0, .ref (a 0)), (1, .ref (b 0)), (2, .int p2)] := hl
  obtain ⟨hx, hb, hr, hml, hown, hts, hlocks, hK⟩ := id C
  refine lv_aload_n hx hb dX6_readEntries_0 rfl (lv_at hl 0 rfl) ?_
  refine va_get (D := D) (ci := 4) (v := .ref (a 3)) (C := RX6) (T := TX6) (N := 6) hx hb hts inX6 hown hK.1 hP 0 rfl rfl 1 (by decide) (hts _ tw_126) (fun _ h9 => h9) rfl dX6_readEntries_1 ?_
  refine kMVv (q0 := 3) (As := []) (rest := []) C (c_X4_empty l D kI kC kB (fun i => a (i + 3)) z_firstSigns H.size _ hw) ⟨rfl, rfl⟩ ce_X4_empty cv_X4_empty tw_274 ⟨Nat.le_of_ble_eq_true rfl, Nat.le_of_ble_eq_true rfl⟩ hP hD hS hA [3, 4] rfl rfl (fun _ => rfl) rfl rfl rfl hl.1 rfl (Nat.le_of_ble_eq_true rfl) ⟨Nat.zero_le _, Nat.zero_le _⟩ dX6_readEntries_4 (fun u H locs hw hP hD hS => ?_)
  obtain ⟨u9, rfl⟩ : ∃ z, z = u := ⟨_, rfl⟩
  try dsimp only at hw
  replace hP : va_P D vwCl (cwText kI a z_characters u9 z_lastSigns z_numbers z_at ++ cwAlph b o1_out) H := hP
  replace hD : va_D A (cwText kI a z_characters u9 z_lastSigns z_numbers z_at ++ cwAlph b o1_out) := hD
  refine lv_aload_n hx hb dX6_readEntries_7 rfl (lv_at hl 0 rfl) ?_
  refine va_get (D := D) (ci := 4) (v := .ref (a 5)) (C := RX6) (T := TX6) (N := 6) hx hb hts inX6 hown hK.1 hP 0 rfl rfl 2 (by decide) (hts _ tw_127) (fun _ h9 => h9) rfl dX6_readEntries_8 ?_
  refine kMVv (q0 := 5) (As := []) (rest := []) C (c_X4_empty l D kI kC kB (fun i => a (i + 5)) z_lastSigns H.size _ hw) ⟨rfl, rfl⟩ ce_X4_empty cv_X4_empty tw_274 ⟨Nat.le_of_ble_eq_true rfl, Nat.le_of_ble_eq_true rfl⟩ hP hD hS hA [5, 6] rfl rfl (fun _ => rfl) rfl rfl rfl hl.1 rfl (Nat.le_of_ble_eq_true rfl) ⟨Nat.zero_le _, Nat.zero_le _⟩ dX6_readEntries_11 (fun u H locs hw hP hD hS => ?_)
  obtain ⟨u10, rfl⟩ : ∃ z, z = u := ⟨_, rfl⟩
  try dsimp only at hw
  replace hP : va_P D vwCl (cwText kI a z_characters u9 u10 z_numbers z_at ++ cwAlph b o1_out) H := hP
  replace hD : va_D A (cwText kI a z_characters u9 u10 z_numbers z_at ++ cwAlph b o1_out) := hD
  refine lv_aload_n hx hb dX6_readEntries_14 rfl (lv_at hl 0 rfl) ?_
  refine va_get (D := D) (ci := 4) (v := .ref (a 7)) (C := RX6) (T := TX6) (N := 6) hx hb hts inX6 hown hK.1 hP 0 rfl rfl 3 (by decide) (hts _ tw_128) (fun _ h9 => h9) rfl dX6_readEntries_15 ?_
  refine kMVv (q0 := 7) (As := []) (rest := []) C (c_X4_empty l D kI kC kB (fun i => a (i + 7)) z_numbers H.size _ hw) ⟨rfl, rfl⟩ ce_X4_empty cv_X4_empty tw_274 ⟨Nat.le_of_ble_eq_true rfl, Nat.le_of_ble_eq_true rfl⟩ hP hD hS hA [7, 8] rfl rfl (fun _ => rfl) rfl rfl rfl hl.1 rfl (Nat.le_of_ble_eq_true rfl) ⟨Nat.zero_le _, Nat.zero_le _⟩ dX6_readEntries_18 (fun u H locs hw hP hD hS => ?_)
  obtain ⟨u11, rfl⟩ : ∃ z, z = u := ⟨_, rfl⟩
  try dsimp only at hw
  replace hP : va_P D vwCl (cwText kI a z_characters u9 u10 u11 z_at ++ cwAlph b o1_out) H := hP
  replace hD : va_D A (cwText kI a z_characters u9 u10 u11 z_at ++ cwAlph b o1_out) := hD
  refine lv_aload_n hx hb dX6_readEntries_21 rfl (lv_at hl 0 rfl) ?_
  refine lv_iconst (v := (nI 0)) hx hb dX6_readEntries_22 (by decide) ?_
  refine va_put (D := D) (ci := 4) (v := .int (nI 0)) (ty := .int) (C := RX6) (T := TX6) (N := 6) hx hb hts inX6 tyX6 tyX6_ok nmX6 hown hK.1 hP hD hS 0 rfl rfl 5 (by decide) (hts _ tw_130) (fun _ h9 => h9) rfl (tyX6_ok 5 (by decide)) rfl rfl (Nat.le_of_ble_eq_true rfl) dX6_readEntries_23 (fun H locs hP hD hS => ?_)
  replace hP : va_P D vwCl (cwText kI a z_characters u9 u10 u11 (nI 0) ++ cwAlph b o1_out) H := hP
  replace hD : va_D A (cwText kI a z_characters u9 u10 u11 (nI 0) ++ cwAlph b o1_out) := hD
  refine lv_iconst (v := (nI 0)) hx hb dX6_readEntries_26 (by decide) ?_
  refine lv_istore_n (lv' := [(3, .int (nI 0)), (0, .ref (a 0)), (1, .ref (b 0)), (2, .int p2)]) hx hb dX6_readEntries_27 rfl hl (by decide) rfl (fun ls hl => ?_)
  obtain ⟨n9, hw⟩ := hw
  exact cl_X6_readEntries_28 l D kI kC kB a b z_characters o1_out p2 Post hA C n9 u9 u10 u11 (nI 0) (nI 0) hw H locs hP hD hS ls (lv_sub hl [1, 2, 3, 0] rfl)
set_option maxHeartbeats 4000000 in
set_option maxRecDepth 100000 in
theorem c_X6_readAsFormula (l : Launch) (D : va_G) (kI kC kB : ClassId) (a : AdT) (b : AdT) (z_characters : RowT) (z_firstSigns : RowT) (z_lastSigns : RowT) (z_numbers : RowT) (z_at : Int32) (o1_out : Int32) (sz : Nat) (Post : Int32 → RowT → RowT → RowT → Int32 → Prop) (hw : wp_X6_readAsFormula z_characters z_firstSigns z_lastSigns z_numbers z_at o1_out Post) : CMi l D kI kC kB yX6_readAsFormula cX6_readAsFormula 2 (some .int) ({ frames := 5, cells := 0, slots := 0, locals := 115 } : Room) [.ref (a 0), .ref (b 0)] (cwText kI a z_characters z_firstSigns z_lastSigns z_numbers z_at ++ cwAlph b o1_out) sz (fun (r : Int32) (u : RowT × RowT × RowT × Int32) => Post r u.1 u.2.1 u.2.2.1 u.2.2.2) (fun u : RowT × RowT × RowT × Int32 => (cwText kI a z_characters u.1 u.2.1 u.2.2.1 u.2.2.2 ++ cwAlph b o1_out)) := by
  refine entMi (by decide) (Nat.le_of_ble_eq_true rfl) ?_
  intro p e s m args below meth c ls A C hA hP hD hS hl
  obtain ⟨H, hHe⟩ : ∃ H, H = s.heap := ⟨_, rfl⟩
  obtain ⟨locs, hlo⟩ : ∃ lo : List Loc, lo = [] := ⟨_, rfl⟩
  have hS : va_S A s.heap H locs := by rw [hHe, hlo]; exact hS
  rw [← hHe] at hP
  suffices hg : W p l e ({ frames := 5, cells := 0, slots := 0, locals := 115 } : Room) s m args below meth c H locs 0 0 (MQ below (va_Qi (fun (r : Int32) (u : RowT × RowT × RowT × Int32) => Post r u.1 u.2.1 u.2.2.1 u.2.2.2) (BB D A (fun u : RowT × RowT × RowT × Int32 => (cwText kI a z_characters u.1 u.2.1 u.2.2.1 u.2.2.2 ++ cwAlph b o1_out))) A) args s 0 0 A) (F0 m 0 ls []) by rw [hHe, hlo] at hg; exact hg
  replace hl : lv_has ls 2 [(0, .ref (a 0)), (1, .ref (b 0))] := hl
  obtain ⟨hx, hb, hr, hml, hown, hts, hlocks, hK⟩ := id C
  refine lv_aload_n hx hb dX6_readAsFormula_0 rfl (lv_at hl 0 rfl) ?_
  refine lv_aload_n hx hb dX6_readAsFormula_1 rfl (lv_at hl 1 rfl) ?_
  refine lv_iconst (v := (nI 1)) hx hb dX6_readAsFormula_2 (by decide) ?_
  refine kMVi (q0 := 0) (As := [.ref (b 0), .int (nI 1)]) (rest := []) C (c_X6_readEntries l D kI kC kB a b z_characters z_firstSigns z_lastSigns z_numbers z_at o1_out H.size (nI 1) _ hw) ⟨rfl, rfl⟩ ce_X6_readEntries cv_X6_readEntries tw_270 ⟨Nat.le_of_ble_eq_true rfl, Nat.le_of_ble_eq_true rfl⟩ hP hD hS hA [0, 1, 2, 3, 4, 5, 6, 7, 8, 9] rfl rfl (fun _ => rfl) rfl rfl rfl hl.1 rfl (Nat.le_of_ble_eq_true rfl) ⟨Nat.zero_le _, Nat.zero_le _⟩ dX6_readAsFormula_3 (fun r1 u H locs hw hP hD hS => ?_)
  obtain ⟨u2, u3, u4, u5⟩ := u
  try dsimp only at hw
  replace hP : va_P D vwCl (cwText kI a z_characters u2 u3 u4 u5 ++ cwAlph b o1_out) H := hP
  replace hD : va_D A (cwText kI a z_characters u2 u3 u4 u5 ++ cwAlph b o1_out) := hD
  exact retMi C (u2, u3, u4, u5) hw hP hD hS dX6_readAsFormula_6
set_option maxHeartbeats 4000000 in
set_option maxRecDepth 100000 in
theorem c_X6_entries (l : Launch) (D : va_G) (kI kC kB : ClassId) (a : AdT) (z_characters : RowT) (z_firstSigns : RowT) (z_lastSigns : RowT) (z_numbers : RowT) (z_at : Int32) (Post : Int32 → Prop) (hw : wp_X6_entries z_numbers Post) : CR l D kI kC kB yX6_entries cX6_entries 1 (some .int) ({ frames := 1, cells := 0, slots := 0, locals := 20 } : Room) [.ref (a 0)] (cwText kI a z_characters z_firstSigns z_lastSigns z_numbers z_at) Post := by
  refine entR (by decide) (Nat.le_of_ble_eq_true rfl) ?_
  intro p e s m args below meth c ls C hP hl
  replace hl : lv_has ls 1 [(0, .ref (a 0))] := hl
  obtain ⟨hx, hb, hr, hml, hown, hts, hlocks, hK⟩ := id C
  refine lv_aload_n hx hb dX6_entries_0 rfl (lv_at hl 0 rfl) ?_
  refine va_get (D := D) (ci := 4) (v := .ref (a 7)) (C := RX6) (T := TX6) (N := 6) hx hb hts inX6 hown hK.1 hP 0 rfl rfl 3 (by decide) (hts _ tw_128) (fun _ h9 => h9) rfl dX6_entries_1 ?_
  refine kRV (As := []) (rest := []) (q0 := 7) C (c_X4_length l D kI kC kB (fun i => a (i + 7)) z_numbers _ hw) ⟨rfl, rfl⟩ ce_X4_length cv_X4_length tw_278 ⟨Nat.le_of_ble_eq_true rfl, Nat.le_of_ble_eq_true rfl⟩ hP [7, 8] rfl rfl rfl rfl hl.1 rfl (Nat.le_of_ble_eq_true rfl) ⟨Nat.zero_le _, Nat.zero_le _⟩ dX6_entries_4 (fun r1 hw => ?_)
  exact retR C hw dX6_entries_7
set_option maxHeartbeats 4000000 in
set_option maxRecDepth 100000 in
theorem c_X6_firstSign (l : Launch) (D : va_G) (kI kC kB : ClassId) (a : AdT) (z_characters : RowT) (z_firstSigns : RowT) (z_lastSigns : RowT) (z_numbers : RowT) (z_at : Int32) (p1 : Int32) (Post : Int32 → Prop) (hw : wp_X6_firstSign z_firstSigns p1 Post) : CR l D kI kC kB yX6_firstSign cX6_firstSign 2 (some .int) ({ frames := 1, cells := 0, slots := 0, locals := 21 } : Room) [.ref (a 0), .int p1] (cwText kI a z_characters z_firstSigns z_lastSigns z_numbers z_at) Post := by
  refine entR (by decide) (Nat.le_of_ble_eq_true rfl) ?_
  intro p e s m args below meth c ls C hP hl
  replace hl : lv_has ls 2 [(0, .ref (a 0)), (1, .int p1)] := hl
  obtain ⟨hx, hb, hr, hml, hown, hts, hlocks, hK⟩ := id C
  refine lv_aload_n hx hb dX6_firstSign_0 rfl (lv_at hl 0 rfl) ?_
  refine va_get (D := D) (ci := 4) (v := .ref (a 3)) (C := RX6) (T := TX6) (N := 6) hx hb hts inX6 hown hK.1 hP 0 rfl rfl 1 (by decide) (hts _ tw_126) (fun _ h9 => h9) rfl dX6_firstSign_1 ?_
  refine lv_iload_n hx hb dX6_firstSign_4 rfl (lv_at hl 1 rfl) ?_
  refine kRV (As := [.int p1]) (rest := []) (q0 := 3) C (c_X4_at l D kI kC kB (fun i => a (i + 3)) z_firstSigns p1 _ hw) ⟨rfl, rfl⟩ ce_X4_at cv_X4_at tw_287 ⟨Nat.le_of_ble_eq_true rfl, Nat.le_of_ble_eq_true rfl⟩ hP [3, 4] rfl rfl rfl rfl hl.1 rfl (Nat.le_of_ble_eq_true rfl) ⟨Nat.zero_le _, Nat.zero_le _⟩ dX6_firstSign_5 (fun r1 hw => ?_)
  exact retR C hw dX6_firstSign_8
set_option maxHeartbeats 4000000 in
set_option maxRecDepth 100000 in
theorem c_X6_lastSign (l : Launch) (D : va_G) (kI kC kB : ClassId) (a : AdT) (z_characters : RowT) (z_firstSigns : RowT) (z_lastSigns : RowT) (z_numbers : RowT) (z_at : Int32) (p1 : Int32) (Post : Int32 → Prop) (hw : wp_X6_lastSign z_lastSigns p1 Post) : CR l D kI kC kB yX6_lastSign cX6_lastSign 2 (some .int) ({ frames := 1, cells := 0, slots := 0, locals := 21 } : Room) [.ref (a 0), .int p1] (cwText kI a z_characters z_firstSigns z_lastSigns z_numbers z_at) Post := by
  refine entR (by decide) (Nat.le_of_ble_eq_true rfl) ?_
  intro p e s m args below meth c ls C hP hl
  replace hl : lv_has ls 2 [(0, .ref (a 0)), (1, .int p1)] := hl
  obtain ⟨hx, hb, hr, hml, hown, hts, hlocks, hK⟩ := id C
  refine lv_aload_n hx hb dX6_lastSign_0 rfl (lv_at hl 0 rfl) ?_
  refine va_get (D := D) (ci := 4) (v := .ref (a 5)) (C := RX6) (T := TX6) (N := 6) hx hb hts inX6 hown hK.1 hP 0 rfl rfl 2 (by decide) (hts _ tw_127) (fun _ h9 => h9) rfl dX6_lastSign_1 ?_
  refine lv_iload_n hx hb dX6_lastSign_4 rfl (lv_at hl 1 rfl) ?_
  refine kRV (As := [.int p1]) (rest := []) (q0 := 5) C (c_X4_at l D kI kC kB (fun i => a (i + 5)) z_lastSigns p1 _ hw) ⟨rfl, rfl⟩ ce_X4_at cv_X4_at tw_287 ⟨Nat.le_of_ble_eq_true rfl, Nat.le_of_ble_eq_true rfl⟩ hP [5, 6] rfl rfl rfl rfl hl.1 rfl (Nat.le_of_ble_eq_true rfl) ⟨Nat.zero_le _, Nat.zero_le _⟩ dX6_lastSign_5 (fun r1 hw => ?_)
  exact retR C hw dX6_lastSign_8
set_option maxHeartbeats 4000000 in
set_option maxRecDepth 100000 in
theorem c_X6_number (l : Launch) (D : va_G) (kI kC kB : ClassId) (a : AdT) (z_characters : RowT) (z_firstSigns : RowT) (z_lastSigns : RowT) (z_numbers : RowT) (z_at : Int32) (p1 : Int32) (Post : Int32 → Prop) (hw : wp_X6_number z_numbers p1 Post) : CR l D kI kC kB yX6_number cX6_number 2 (some .int) ({ frames := 1, cells := 0, slots := 0, locals := 21 } : Room) [.ref (a 0), .int p1] (cwText kI a z_characters z_firstSigns z_lastSigns z_numbers z_at) Post := by
  refine entR (by decide) (Nat.le_of_ble_eq_true rfl) ?_
  intro p e s m args below meth c ls C hP hl
  replace hl : lv_has ls 2 [(0, .ref (a 0)), (1, .int p1)] := hl
  obtain ⟨hx, hb, hr, hml, hown, hts, hlocks, hK⟩ := id C
  refine lv_aload_n hx hb dX6_number_0 rfl (lv_at hl 0 rfl) ?_
  refine va_get (D := D) (ci := 4) (v := .ref (a 7)) (C := RX6) (T := TX6) (N := 6) hx hb hts inX6 hown hK.1 hP 0 rfl rfl 3 (by decide) (hts _ tw_128) (fun _ h9 => h9) rfl dX6_number_1 ?_
  refine lv_iload_n hx hb dX6_number_4 rfl (lv_at hl 1 rfl) ?_
  refine kRV (As := [.int p1]) (rest := []) (q0 := 7) C (c_X4_at l D kI kC kB (fun i => a (i + 7)) z_numbers p1 _ hw) ⟨rfl, rfl⟩ ce_X4_at cv_X4_at tw_287 ⟨Nat.le_of_ble_eq_true rfl, Nat.le_of_ble_eq_true rfl⟩ hP [7, 8] rfl rfl rfl rfl hl.1 rfl (Nat.le_of_ble_eq_true rfl) ⟨Nat.zero_le _, Nat.zero_le _⟩ dX6_number_5 (fun r1 hw => ?_)
  exact retR C hw dX6_number_8
set_option maxHeartbeats 4000000 in
set_option maxRecDepth 100000 in
theorem c_X6_length (l : Launch) (D : va_G) (kI kC kB : ClassId) (a : AdT) (z_characters : RowT) (z_firstSigns : RowT) (z_lastSigns : RowT) (z_numbers : RowT) (z_at : Int32) (Post : Int32 → Prop) (hw : wp_X6_length z_characters Post) : CR l D kI kC kB yX6_length cX6_length 1 (some .int) ({ frames := 1, cells := 0, slots := 0, locals := 20 } : Room) [.ref (a 0)] (cwText kI a z_characters z_firstSigns z_lastSigns z_numbers z_at) Post := by
  refine entR (by decide) (Nat.le_of_ble_eq_true rfl) ?_
  intro p e s m args below meth c ls C hP hl
  replace hl : lv_has ls 1 [(0, .ref (a 0))] := hl
  obtain ⟨hx, hb, hr, hml, hown, hts, hlocks, hK⟩ := id C
  refine lv_aload_n hx hb dX6_length_0 rfl (lv_at hl 0 rfl) ?_
  refine va_get (D := D) (ci := 4) (v := .ref (a 1)) (C := RX6) (T := TX6) (N := 6) hx hb hts inX6 hown hK.1 hP 0 rfl rfl 0 (by decide) (hts _ tw_125) (fun _ h9 => h9) rfl dX6_length_1 ?_
  refine kRV (As := []) (rest := []) (q0 := 1) C (c_X4_length l D kI kC kB (fun i => a (i + 1)) z_characters _ hw) ⟨rfl, rfl⟩ ce_X4_length cv_X4_length tw_278 ⟨Nat.le_of_ble_eq_true rfl, Nat.le_of_ble_eq_true rfl⟩ hP [1, 2] rfl rfl rfl rfl hl.1 rfl (Nat.le_of_ble_eq_true rfl) ⟨Nat.zero_le _, Nat.zero_le _⟩ dX6_length_4 (fun r1 hw => ?_)
  exact retR C hw dX6_length_7
set_option maxHeartbeats 4000000 in
set_option maxRecDepth 100000 in
theorem c_X6_add (l : Launch) (D : va_G) (kI kC kB : ClassId) (a : AdT) (z_characters : RowT) (z_firstSigns : RowT) (z_lastSigns : RowT) (z_numbers : RowT) (z_at : Int32) (sz : Nat) (p1 : Int32) (Post : RowT → Prop) (hw : wp_X6_add z_characters p1 Post) : CMv l D kI kC kB yX6_add cX6_add 2 none ({ frames := 3, cells := 0, slots := 0, locals := 66 } : Room) [.ref (a 0), .int p1] (cwText kI a z_characters z_firstSigns z_lastSigns z_numbers z_at) sz (fun (u : RowT) => Post u) (fun u : RowT => (cwText kI a u z_firstSigns z_lastSigns z_numbers z_at)) := by
  refine entMv (by decide) (Nat.le_of_ble_eq_true rfl) ?_
  intro p e s m args below meth c ls A C hA hP hD hS hl
  obtain ⟨H, hHe⟩ : ∃ H, H = s.heap := ⟨_, rfl⟩
  obtain ⟨locs, hlo⟩ : ∃ lo : List Loc, lo = [] := ⟨_, rfl⟩
  have hS : va_S A s.heap H locs := by rw [hHe, hlo]; exact hS
  rw [← hHe] at hP
  suffices hg : W p l e ({ frames := 3, cells := 0, slots := 0, locals := 66 } : Room) s m args below meth c H locs 0 0 (MQ below (va_Qv (fun (u : RowT) => Post u) (BB D A (fun u : RowT => (cwText kI a u z_firstSigns z_lastSigns z_numbers z_at))) A) args s 0 0 A) (F0 m 0 ls []) by rw [hHe, hlo] at hg; exact hg
  replace hl : lv_has ls 2 [(0, .ref (a 0)), (1, .int p1)] := hl
  obtain ⟨hx, hb, hr, hml, hown, hts, hlocks, hK⟩ := id C
  refine lv_aload_n hx hb dX6_add_0 rfl (lv_at hl 0 rfl) ?_
  refine va_get (D := D) (ci := 4) (v := .ref (a 1)) (C := RX6) (T := TX6) (N := 6) hx hb hts inX6 hown hK.1 hP 0 rfl rfl 0 (by decide) (hts _ tw_125) (fun _ h9 => h9) rfl dX6_add_1 ?_
  refine lv_iload_n hx hb dX6_add_4 rfl (lv_at hl 1 rfl) ?_
  refine kMVv (q0 := 1) (As := [.int p1]) (rest := []) C (c_X4_add l D kI kC kB (fun i => a (i + 1)) z_characters H.size p1 _ hw) ⟨rfl, rfl⟩ ce_X4_add cv_X4_add tw_322 ⟨Nat.le_of_ble_eq_true rfl, Nat.le_of_ble_eq_true rfl⟩ hP hD hS hA [1, 2] rfl rfl (fun _ => rfl) rfl rfl rfl hl.1 rfl (Nat.le_of_ble_eq_true rfl) ⟨Nat.zero_le _, Nat.zero_le _⟩ dX6_add_5 (fun u H locs hw hP hD hS => ?_)
  obtain ⟨u1, rfl⟩ : ∃ z, z = u := ⟨_, rfl⟩
  try dsimp only at hw
  replace hP : va_P D vwCl (cwText kI a u1 z_firstSigns z_lastSigns z_numbers z_at) H := hP
  replace hD : va_D A (cwText kI a u1 z_firstSigns z_lastSigns z_numbers z_at) := hD
  exact retMv C (u1) hw hP hD hS dX6_add_8
set_option maxHeartbeats 4000000 in
set_option maxRecDepth 100000 in
theorem c_X6_empty (l : Launch) (D : va_G) (kI kC kB : ClassId) (a : AdT) (z_characters : RowT) (z_firstSigns : RowT) (z_lastSigns : RowT) (z_numbers : RowT) (z_at : Int32) (sz : Nat) (Post : RowT → Prop) (hw : wp_X6_empty z_characters Post) : CMv l D kI kC kB yX6_empty cX6_empty 1 none ({ frames := 1, cells := 0, slots := 0, locals := 20 } : Room) [.ref (a 0)] (cwText kI a z_characters z_firstSigns z_lastSigns z_numbers z_at) sz (fun (u : RowT) => Post u) (fun u : RowT => (cwText kI a u z_firstSigns z_lastSigns z_numbers z_at)) := by
  refine entMv (by decide) (Nat.le_of_ble_eq_true rfl) ?_
  intro p e s m args below meth c ls A C hA hP hD hS hl
  obtain ⟨H, hHe⟩ : ∃ H, H = s.heap := ⟨_, rfl⟩
  obtain ⟨locs, hlo⟩ : ∃ lo : List Loc, lo = [] := ⟨_, rfl⟩
  have hS : va_S A s.heap H locs := by rw [hHe, hlo]; exact hS
  rw [← hHe] at hP
  suffices hg : W p l e ({ frames := 1, cells := 0, slots := 0, locals := 20 } : Room) s m args below meth c H locs 0 0 (MQ below (va_Qv (fun (u : RowT) => Post u) (BB D A (fun u : RowT => (cwText kI a u z_firstSigns z_lastSigns z_numbers z_at))) A) args s 0 0 A) (F0 m 0 ls []) by rw [hHe, hlo] at hg; exact hg
  replace hl : lv_has ls 1 [(0, .ref (a 0))] := hl
  obtain ⟨hx, hb, hr, hml, hown, hts, hlocks, hK⟩ := id C
  refine lv_aload_n hx hb dX6_empty_0 rfl (lv_at hl 0 rfl) ?_
  refine va_get (D := D) (ci := 4) (v := .ref (a 1)) (C := RX6) (T := TX6) (N := 6) hx hb hts inX6 hown hK.1 hP 0 rfl rfl 0 (by decide) (hts _ tw_125) (fun _ h9 => h9) rfl dX6_empty_1 ?_
  refine kMVv (q0 := 1) (As := []) (rest := []) C (c_X4_empty l D kI kC kB (fun i => a (i + 1)) z_characters H.size _ hw) ⟨rfl, rfl⟩ ce_X4_empty cv_X4_empty tw_274 ⟨Nat.le_of_ble_eq_true rfl, Nat.le_of_ble_eq_true rfl⟩ hP hD hS hA [1, 2] rfl rfl (fun _ => rfl) rfl rfl rfl hl.1 rfl (Nat.le_of_ble_eq_true rfl) ⟨Nat.zero_le _, Nat.zero_le _⟩ dX6_empty_4 (fun u H locs hw hP hD hS => ?_)
  obtain ⟨u1, rfl⟩ : ∃ z, z = u := ⟨_, rfl⟩
  try dsimp only at hw
  replace hP : va_P D vwCl (cwText kI a u1 z_firstSigns z_lastSigns z_numbers z_at) H := hP
  replace hD : va_D A (cwText kI a u1 z_firstSigns z_lastSigns z_numbers z_at) := hD
  exact retMv C (u1) hw hP hD hS dX6_empty_7
set_option maxHeartbeats 4000000 in
set_option maxRecDepth 100000 in
theorem c_X6_readAsPile (l : Launch) (D : va_G) (kI kC kB : ClassId) (a : AdT) (z_characters : RowT) (z_firstSigns : RowT) (z_lastSigns : RowT) (z_numbers : RowT) (z_at : Int32) (z_allLetters_out : Int32) (sz : Nat) (Post : Int32 → RowT → RowT → RowT → Int32 → Prop) (hw : wp_X6_readAsPile z_characters z_firstSigns z_lastSigns z_numbers z_at z_allLetters_out Post) : CMi l D kI kC kB yX6_readAsPile cX6_readAsPile 1 (some .int) ({ frames := 5, cells := 0, slots := 0, locals := 115 } : Room) [.ref (a 0)] ((cwText kI a z_characters z_firstSigns z_lastSigns z_numbers z_at ++ cwAlph (fun i => a (i + 9)) z_allLetters_out)) sz (fun (r : Int32) (u : RowT × RowT × RowT × Int32) => Post r u.1 u.2.1 u.2.2.1 u.2.2.2) (fun u : RowT × RowT × RowT × Int32 => ((cwText kI a z_characters u.1 u.2.1 u.2.2.1 u.2.2.2 ++ cwAlph (fun i => a (i + 9)) z_allLetters_out))) := by
  refine entMi (by decide) (Nat.le_of_ble_eq_true rfl) ?_
  intro p e s m args below meth c ls A C hA hP hD hS hl
  obtain ⟨H, hHe⟩ : ∃ H, H = s.heap := ⟨_, rfl⟩
  obtain ⟨locs, hlo⟩ : ∃ lo : List Loc, lo = [] := ⟨_, rfl⟩
  have hS : va_S A s.heap H locs := by rw [hHe, hlo]; exact hS
  rw [← hHe] at hP
  suffices hg : W p l e ({ frames := 5, cells := 0, slots := 0, locals := 115 } : Room) s m args below meth c H locs 0 0 (MQ below (va_Qi (fun (r : Int32) (u : RowT × RowT × RowT × Int32) => Post r u.1 u.2.1 u.2.2.1 u.2.2.2) (BB D A (fun u : RowT × RowT × RowT × Int32 => ((cwText kI a z_characters u.1 u.2.1 u.2.2.1 u.2.2.2 ++ cwAlph (fun i => a (i + 9)) z_allLetters_out)))) A) args s 0 0 A) (F0 m 0 ls []) by rw [hHe, hlo] at hg; exact hg
  replace hl : lv_has ls 1 [(0, .ref (a 0))] := hl
  obtain ⟨hx, hb, hr, hml, hown, hts, hlocks, hK⟩ := id C
  refine lv_aload_n hx hb dX6_readAsPile_0 rfl (lv_at hl 0 rfl) ?_
  refine lv_aload_n hx hb dX6_readAsPile_1 rfl (lv_at hl 0 rfl) ?_
  refine va_get (D := D) (ci := 4) (v := .ref (a 9)) (C := RX6) (T := TX6) (N := 6) hx hb hts inX6 hown hK.1 hP 0 rfl rfl 4 (by decide) (hts _ tw_129) (fun _ h9 => h9) rfl dX6_readAsPile_2 ?_
  refine lv_iconst (v := (nI 0)) hx hb dX6_readAsPile_5 (by decide) ?_
  refine kMVi (q0 := 0) (As := [.ref (a 9), .int (nI 0)]) (rest := []) C (c_X6_readEntries l D kI kC kB a (fun i => a (i + 9)) z_characters z_firstSigns z_lastSigns z_numbers z_at z_allLetters_out H.size (nI 0) _ hw) ⟨rfl, rfl⟩ ce_X6_readEntries cv_X6_readEntries tw_270 ⟨Nat.le_of_ble_eq_true rfl, Nat.le_of_ble_eq_true rfl⟩ hP hD hS hA [0, 1, 2, 3, 4, 5, 6, 7, 8, 9] rfl rfl (fun _ => rfl) rfl rfl rfl hl.1 rfl (Nat.le_of_ble_eq_true rfl) ⟨Nat.zero_le _, Nat.zero_le _⟩ dX6_readAsPile_6 (fun r1 u H locs hw hP hD hS => ?_)
  obtain ⟨u2, u3, u4, u5⟩ := u
  try dsimp only at hw
  replace hP : va_P D vwCl ((cwText kI a z_characters u2 u3 u4 u5 ++ cwAlph (fun i => a (i + 9)) z_allLetters_out)) H := hP
  replace hD : va_D A ((cwText kI a z_characters u2 u3 u4 u5 ++ cwAlph (fun i => a (i + 9)) z_allLetters_out)) := hD
  exact retMi C (u2, u3, u4, u5) hw hP hD hS dX6_readAsPile_9
