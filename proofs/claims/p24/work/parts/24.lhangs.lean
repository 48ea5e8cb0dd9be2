theorem ce_L_hangs : CE yL_hangs cL_hangs 16 (some .boolean) 1 := ⟨tw_619, tw_16, ⟨by decide, by decide⟩, ce_par (by decide +kernel)⟩
theorem cv_L_hangs : Cond.static yL_hangs ∈ gw := tw_618
theorem ce_L_again : CE yL_again cL_again 6 (some .boolean) 1 := ⟨tw_622, tw_16, ⟨by decide, by decide⟩, ce_par (by decide +kernel)⟩
theorem cv_L_again : Cond.static yL_again ∈ gw := tw_621
theorem ce_L_isOut : CE yL_isOut cL_isOut 4 (some .boolean) 2 := ⟨tw_625, tw_16, ⟨by decide, by decide⟩, ce_par (by decide +kernel)⟩
theorem cv_L_isOut : Cond.static yL_isOut ∈ gw := tw_624
set_option maxHeartbeats 4000000 in
set_option maxRecDepth 100000 in
theorem cj_L_isOut_18 (l : Launch) (D : va_G) (kI kC kB : ClassId) (a : AdT) (h_ : Nat → AdT) (x : XS) (v2 : Int32) (Post : Int32 → XS → Prop) {p : Program} {e : Env} {s : State} {m : MethodId} {args : Array Value} {below : List Frame} {meth : Method} {c : Code} {A : Nat → Prop} (hA : ∀ q : Nat, s.heap.size ≤ q → A q) (C : CtxT p s m args meth c cL_isOut 4 (some .boolean) yL_isOut.cls D kI kC kB) : ∀ (t0 : Int32), wj_L_isOut_18 x v2 t0 Post → ∀ (H : Heap) (locs : List Loc), va_P D vwCl (bfl [cwX kI kB a h_ x]) H → va_D A (bfl [cwX kI kB a h_ x]) → va_S A s.heap H locs → ∀ (ls : Array Slot), lv_has ls 4 [(0, .ref (a 0)), (2, .int v2)] → W p l e ({ frames := 5, cells := 0, slots := 0, locals := 111 } : Room) s m args below meth c H locs 0 0 (MQ below (va_Qi (fun (r : Int32) (u : (Nat → AdT) × XS) => Post r u.2) (BB D A (fun u : (Nat → AdT) × XS => cwX kI kB a u.1 u.2)) A) args s 0 0 A) (F0 m 18 ls [.int t0]) := by
  obtain ⟨hx, hb, hr, hml, hown, hts, hlocks, hK⟩ := id C
  intro t0 hw H locs hP hD hS ls hl
  unfold wj_L_isOut_18 at hw
  refine lv_istore_n (lv' := [(3, .int t0), (0, .ref (a 0)), (2, .int v2)]) hx hb dL_isOut_18 rfl hl (by decide) rfl (fun ls hl => ?_)
  refine lv_iload_n hx hb dL_isOut_19 rfl (lv_at hl 2 rfl) ?_
  refine lv_if_lt (tgt := 28) hx hb dL_isOut_20 (by decide) (fun hc => ?_) (fun hc => ?_)
  · replace hw := hw.1 hc
    refine lv_iload_n hx hb dL_isOut_28 rfl (lv_at hl 0 rfl) ?_
    have hz := hw.1
    replace hw := hw.2
    exact retMz C (S := (Nat → AdT) × XS) (h_, x) hz hw hP hD hS dL_isOut_29
  · replace hw := hw.2 hc
    refine lv_aload_n hx hb dL_isOut_23 rfl (lv_at hl 1 rfl) ?_
    refine kMBi (As := []) (rest := []) (q0 := 0) (ws' := fun u : (Nat → AdT) × XS => (bfl [cwX kI kB a u.1 u.2])) C (cx_undo l D kI kC kB a h_ x H.size  _ hw) ⟨rfl, rfl⟩ ce_X8_undo cv_X8_undo tw_471 ⟨(Nat.le_of_ble_eq_true rfl), (Nat.le_of_ble_eq_true rfl)⟩ hP hD hS hA (bfl_p1 [_] 0 rfl) (fun u => (bfl_p1 [_] 0 rfl)) rfl rfl rfl hl.1 rfl (Nat.le_of_ble_eq_true rfl) ⟨(Nat.le_of_ble_eq_true rfl), (Nat.le_of_ble_eq_true rfl)⟩ dL_isOut_24 (fun r1 u H locs hw hP hD hS => ?_)
    obtain ⟨h2, x3⟩ := u
    try dsimp only at hw
    replace hP : va_P D vwCl (bfl [cwX kI kB a h2 x3]) H := hP
    replace hD : va_D A (bfl [cwX kI kB a h2 x3]) := hD
    refine lv_pop hx hb dL_isOut_27 rfl ?_
    refine lv_iload_n hx hb dL_isOut_28 rfl (lv_at hl 0 rfl) ?_
    have hz := hw.1
    replace hw := hw.2
    exact retMz C (S := (Nat → AdT) × XS) (h2, x3) hz hw hP hD hS dL_isOut_29
set_option maxHeartbeats 4000000 in
set_option maxRecDepth 100000 in
theorem c_L_isOut (l : Launch) (D : va_G) (kI kC kB : ClassId) (a : AdT) (h_ : Nat → AdT) (x : XS) (sz : Nat) (p2 : Int32) (Post : Int32 → XS → Prop) (hw : wp_L_isOut x p2 Post) : CMg l D kI kC kB yL_isOut cL_isOut 4 (some .boolean) ({ frames := 5, cells := 0, slots := 0, locals := 111 } : Room) [.ref (a 0), .int p2] (cwX kI kB a h_ x) sz 0 0 (fun (r : Int32) (u : (Nat → AdT) × XS) => Post r u.2) (fun u : (Nat → AdT) × XS => cwX kI kB a u.1 u.2) := by
  refine entMg (by decide) (Nat.le_of_ble_eq_true rfl) ?_
  intro p e s m args below meth c ls A C hA hP hD hS hl
  obtain ⟨H, hHe⟩ : ∃ H, H = s.heap := ⟨_, rfl⟩
  obtain ⟨locs, hlo⟩ : ∃ lo : List Loc, lo = [] := ⟨_, rfl⟩
  have hS : va_S A s.heap H locs := by rw [hHe, hlo]; exact hS
  rw [← hHe] at hP
  suffices hg : W p l e ({ frames := 5, cells := 0, slots := 0, locals := 111 } : Room) s m args below meth c H locs 0 0 (MQ below (va_Qi (fun (r : Int32) (u : (Nat → AdT) × XS) => Post r u.2) (BB D A (fun u : (Nat → AdT) × XS => cwX kI kB a u.1 u.2)) A) args s 0 0 A) (F0 m 0 ls []) by rw [hHe, hlo] at hg; exact hg
  replace hl : lv_has ls 4 [(0, .ref (a 0)), (1, .int p2)] := hl
  replace hP : va_P D vwCl (bfl [cwX kI kB a h_ x]) H := hP
  replace hD : va_D A (bfl [cwX kI kB a h_ x]) := hD
  unfold wp_L_isOut at hw
  obtain ⟨hx, hb, hr, hml, hown, hts, hlocks, hK⟩ := id C
  refine lv_aload_n hx hb dL_isOut_0 rfl (lv_at hl 0 rfl) ?_
  refine lv_iload_n hx hb dL_isOut_1 rfl (lv_at hl 1 rfl) ?_
  refine lv_iconst (v := (nI 1)) hx hb dL_isOut_2 (by decide) ?_
  refine kMBi (As := [.int p2, .int (nI 1)]) (rest := []) (q0 := 0) (ws' := fun u : (Nat → AdT) × XS => (bfl [cwX kI kB a u.1 u.2])) C (cx_leaveOut l D kI kC kB a h_ x H.size p2 (nI 1) _ hw) ⟨rfl, rfl⟩ ce_X8_leaveOut cv_X8_leaveOut tw_183 ⟨(Nat.le_of_ble_eq_true rfl), (Nat.le_of_ble_eq_true rfl)⟩ hP hD hS hA (bfl_p1 [_] 0 rfl) (fun u => (bfl_p1 [_] 0 rfl)) rfl rfl rfl hl.1 rfl (Nat.le_of_ble_eq_true rfl) ⟨(Nat.le_of_ble_eq_true rfl), (Nat.le_of_ble_eq_true rfl)⟩ dL_isOut_3 (fun r4 u H locs hw hP hD hS => ?_)
  obtain ⟨h5, x6⟩ := u
  try dsimp only at hw
  replace hP : va_P D vwCl (bfl [cwX kI kB a h5 x6]) H := hP
  replace hD : va_D A (bfl [cwX kI kB a h5 x6]) := hD
  refine lv_istore_n (lv' := [(2, .int r4), (0, .ref (a 0)), (1, .int p2)]) hx hb dL_isOut_6 rfl hl (by decide) rfl (fun ls hl => ?_)
  refine lv_iload_n hx hb dL_isOut_7 rfl (lv_at hl 0 rfl) ?_
  refine lv_bipush (v := (-5)) hx hb dL_isOut_8 (by decide) ?_
  refine lv_icmp_ne (tgt := 17) hx hb dL_isOut_10 (by decide) (fun hc => ?_) (fun hc => ?_)
  · replace hw := hw.2 hc
    refine lv_iconst (v := (nI 0)) hx hb dL_isOut_17 (by decide) ?_
    exact cj_L_isOut_18 l D kI kC kB a h5 x6 r4 Post hA C (nI 0) hw H locs hP hD hS ls (lv_sub hl [1, 0] rfl)
  · replace hw := hw.1 hc
    refine lv_iconst (v := (nI 1)) hx hb dL_isOut_13 (by decide) ?_
    refine lv_goto (tgt := 18) hx hb dL_isOut_14 (by decide) ?_
    exact cj_L_isOut_18 l D kI kC kB a h5 x6 r4 Post hA C (nI 1) hw H locs hP hD hS ls (lv_sub hl [1, 0] rfl)
set_option maxHeartbeats 4000000 in
set_option maxRecDepth 100000 in
theorem cj_L_hangs_275 (l : Launch) (D : va_G) (kI kC kB : ClassId) (a : AdT) (h_ : Nat → AdT) (x : XS) (v1 : Int32) (v2 : Int32) (v3 : Int32) (v4 : Int32) (v5 : Int32) (v7 : Int32) (v8 : Int32) (v10 : Int32) (v11 : Int32) (v12 : Int32) (v13 : Int32) (v14 : Int32) (Post : Int32 → XS → Prop) {p : Program} {e : Env} {s : State} {m : MethodId} {args : Array Value} {below : List Frame} {meth : Method} {c : Code} {A : Nat → Prop} (hA : ∀ q : Nat, s.heap.size ≤ q → A q) (C : CtxT p s m args meth c cL_hangs 16 (some .boolean) yL_hangs.cls D kI kC kB) (K36 : Int32 → Int32 → Int32 → Int32 → Int32 → Int32 → Prop) (hK36 : ∀ (v2 : Int32) (v3 : Int32) (v4 : Int32) (v5 : Int32) (v6 : Int32) (v7 : Int32), K36 v2 v3 v4 v5 v6 v7 → ∀ (H : Heap) (locs : List Loc), va_P D vwCl (bfl [cwX kI kB a h_ x]) H → va_D A (bfl [cwX kI kB a h_ x]) → va_S A s.heap H locs → ∀ (ls : Array Slot), lv_has ls 16 [(0, .ref (a 0)), (1, .int v1), (2, .int v2), (3, .int v3), (4, .int v4), (5, .int v5), (6, .int v6), (7, .int v7)] → W p l e ({ frames := 7, cells := 0, slots := 0, locals := 154 } : Room) s m args below meth c H locs 0 0 (MQ below (va_Qi (fun (r : Int32) (u : (Nat → AdT) × XS) => Post r u.2) (BB D A (fun u : (Nat → AdT) × XS => cwX kI kB a u.1 u.2)) A) args s 0 0 A) (F0 m 36 ls [])) (K177 : Int32 → Int32 → Int32 → Prop) (hK177 : ∀ (v6 : Int32) (v11 : Int32) (v12 : Int32), K177 v6 v11 v12 → ∀ (H : Heap) (locs : List Loc), va_P D vwCl (bfl [cwX kI kB a h_ x]) H → va_D A (bfl [cwX kI kB a h_ x]) → va_S A s.heap H locs → ∀ (ls : Array Slot), lv_has ls 16 [(0, .ref (a 0)), (1, .int v1), (2, .int v2), (3, .int v3), (4, .int v4), (5, .int v5), (6, .int v6), (7, .int v7), (8, .int v8), (10, .int v10), (11, .int v11), (12, .int v12)] → W p l e ({ frames := 7, cells := 0, slots := 0, locals := 154 } : Room) s m args below meth c H locs 0 0 (MQ below (va_Qi (fun (r : Int32) (u : (Nat → AdT) × XS) => Post r u.2) (BB D A (fun u : (Nat → AdT) × XS => cwX kI kB a u.1 u.2)) A) args s 0 0 A) (F0 m 177 ls [])) : ∀ (t0 : Int32) (t1 : Int32), wj_L_hangs_275 x v1 v2 v3 v4 v5 v7 v8 v10 v11 v12 v13 v14 t0 t1 K36 K177 Post → ∀ (H : Heap) (locs : List Loc), va_P D vwCl (bfl [cwX kI kB a h_ x]) H → va_D A (bfl [cwX kI kB a h_ x]) → va_S A s.heap H locs → ∀ (ls : Array Slot), lv_has ls 16 [(0, .ref (a 0)), (1, .int v1), (2, .int v2), (3, .int v3), (4, .int v4), (5, .int v5), (7, .int v7), (8, .int v8), (10, .int v10), (11, .int v11), (12, .int v12), (13, .int v13), (14, .int v14)] → W p l e ({ frames := 7, cells := 0, slots := 0, locals := 154 } : Room) s m args below meth c H locs 0 0 (MQ below (va_Qi (fun (r : Int32) (u : (Nat → AdT) × XS) => Post r u.2) (BB D A (fun u : (Nat → AdT) × XS => cwX kI kB a u.1 u.2)) A) args s 0 0 A) (F0 m 275 ls [.int t1, .int t0]) := by
  obtain ⟨hx, hb, hr, hml, hown, hts, hlocks, hK⟩ := id C
  intro t0 t1 hw H locs hP hD hS ls hl
  unfold wj_L_hangs_275 at hw
  refine lv_icmp_ne (tgt := 327) hx hb dL_hangs_275 (by decide) (fun hc => ?_) (fun hc => ?_)
  · replace hw := hw.2 hc
    refine lv_iconst (v := (nI 0)) hx hb dL_hangs_327 (by decide) ?_
    refine lv_istore (lv' := [(6, .int (nI 0)), (0, .ref (a 0)), (1, .int v1), (2, .int v2), (3, .int v3), (4, .int v4), (5, .int v5), (7, .int v7), (8, .int v8), (10, .int v10), (11, .int v11), (12, .int v12), (13, .int v13), (14, .int v14)]) hx hb dL_hangs_328 hl (by decide) rfl (fun ls hl => ?_)
    refine lv_iinc (v := (v12 + nI 1)) (lv' := [(12, .int (v12 + nI 1)), (6, .int (nI 0)), (0, .ref (a 0)), (1, .int v1), (2, .int v2), (3, .int v3), (4, .int v4), (5, .int v5), (7, .int v7), (8, .int v8), (10, .int v10), (11, .int v11), (13, .int v13), (14, .int v14)]) hx hb dL_hangs_330 hl (k := 11) rfl rfl (by decide) rfl (fun ls hl => ?_)
    refine lv_goto (tgt := 177) hx hb dL_hangs_333 (by decide) ?_
    exact hK177 (nI 0) v11 (v12 + nI 1) hw H locs hP hD hS ls (lv_sub hl [2, 3, 4, 5, 6, 7, 1, 8, 9, 10, 11, 0] rfl)
  · replace hw := hw.1 hc
    refine lv_iconst (v := (nI 2)) hx hb dL_hangs_278 (by decide) ?_
    refine lv_iload hx hb dL_hangs_279 (lv_at hl 10 rfl) ?_
    refine lv_imul hx hb dL_hangs_281 ?_
    refine lv_iload hx hb dL_hangs_282 (lv_at hl 7 rfl) ?_
    refine lv_iconst (v := (nI 1)) hx hb dL_hangs_284 (by decide) ?_
    refine lv_iadd hx hb dL_hangs_285 ?_
    refine lv_icmp_ne (tgt := 299) hx hb dL_hangs_286 (by decide) (fun hc => ?_) (fun hc => ?_)
    · replace hw := hw.2 hc
      refine lv_iload hx hb dL_hangs_299 (lv_at hl 12 rfl) ?_
      refine lv_iload_n hx hb dL_hangs_301 rfl (lv_at hl 2 rfl) ?_
      refine lv_iload hx hb dL_hangs_302 (lv_at hl 7 rfl) ?_
      refine lv_iadd hx hb dL_hangs_304 ?_
      refine lv_iload hx hb dL_hangs_305 (lv_at hl 10 rfl) ?_
      refine lv_isub hx hb dL_hangs_307 ?_
      refine lv_icmp_ne (tgt := 327) hx hb dL_hangs_308 (by decide) (fun hc => ?_) (fun hc => ?_)
      · replace hw := hw.2 hc
        refine lv_iconst (v := (nI 0)) hx hb dL_hangs_327 (by decide) ?_
        refine lv_istore (lv' := [(6, .int (nI 0)), (0, .ref (a 0)), (1, .int v1), (2, .int v2), (3, .int v3), (4, .int v4), (5, .int v5), (7, .int v7), (8, .int v8), (10, .int v10), (11, .int v11), (12, .int v12), (13, .int v13), (14, .int v14)]) hx hb dL_hangs_328 hl (by decide) rfl (fun ls hl => ?_)
        refine lv_iinc (v := (v12 + nI 1)) (lv' := [(12, .int (v12 + nI 1)), (6, .int (nI 0)), (0, .ref (a 0)), (1, .int v1), (2, .int v2), (3, .int v3), (4, .int v4), (5, .int v5), (7, .int v7), (8, .int v8), (10, .int v10), (11, .int v11), (13, .int v13), (14, .int v14)]) hx hb dL_hangs_330 hl (k := 11) rfl rfl (by decide) rfl (fun ls hl => ?_)
        refine lv_goto (tgt := 177) hx hb dL_hangs_333 (by decide) ?_
        exact hK177 (nI 0) v11 (v12 + nI 1) hw H locs hP hD hS ls (lv_sub hl [2, 3, 4, 5, 6, 7, 1, 8, 9, 10, 11, 0] rfl)
      · replace hw := hw.1 hc
        refine lv_aload_n hx hb dL_hangs_311 rfl (lv_at hl 0 rfl) ?_
        refine lv_iload hx hb dL_hangs_312 (lv_at hl 12 rfl) ?_
        refine lv_iconst (v := (nI 3)) hx hb dL_hangs_314 (by decide) ?_
        refine kRB (As := [.int v14, .int (nI 3)]) (rest := []) (q0 := 0) C (c_X8_leaf l D kI kC kB a h_ x.1 x.2.1 x.2.2.1 x.2.2.2.1 x.2.2.2.2.1 x.2.2.2.2.2.1 x.2.2.2.2.2.2.1 x.2.2.2.2.2.2.2.1 x.2.2.2.2.2.2.2.2.1 x.2.2.2.2.2.2.2.2.2.1 x.2.2.2.2.2.2.2.2.2.2.1 x.2.2.2.2.2.2.2.2.2.2.2.1 x.2.2.2.2.2.2.2.2.2.2.2.2.1 x.2.2.2.2.2.2.2.2.2.2.2.2.2.1 x.2.2.2.2.2.2.2.2.2.2.2.2.2.2.1 x.2.2.2.2.2.2.2.2.2.2.2.2.2.2.2.1 x.2.2.2.2.2.2.2.2.2.2.2.2.2.2.2.2.1 x.2.2.2.2.2.2.2.2.2.2.2.2.2.2.2.2.2.1 x.2.2.2.2.2.2.2.2.2.2.2.2.2.2.2.2.2.2.1 x.2.2.2.2.2.2.2.2.2.2.2.2.2.2.2.2.2.2.2.1 x.2.2.2.2.2.2.2.2.2.2.2.2.2.2.2.2.2.2.2.2.1 x.2.2.2.2.2.2.2.2.2.2.2.2.2.2.2.2.2.2.2.2.2.1 x.2.2.2.2.2.2.2.2.2.2.2.2.2.2.2.2.2.2.2.2.2.2 v14 (nI 3) _ hw) ⟨rfl, rfl⟩ ce_X8_leaf cv_X8_leaf tw_505 ⟨(Nat.le_of_ble_eq_true rfl), (Nat.le_of_ble_eq_true rfl)⟩ hP (bfl_p1 [_] 0 rfl) rfl rfl rfl hl.1 rfl (Nat.le_of_ble_eq_true rfl) ⟨(Nat.le_of_ble_eq_true rfl), (Nat.le_of_ble_eq_true rfl)⟩ dL_hangs_315 (fun r1 hw => ?_)
        refine lv_iload hx hb dL_hangs_318 (lv_at hl 11 rfl) ?_
        refine lv_icmp_ne (tgt := 327) hx hb dL_hangs_320 (by decide) (fun hc => ?_) (fun hc => ?_)
        · replace hw := hw.2 hc
          refine lv_iconst (v := (nI 0)) hx hb dL_hangs_327 (by decide) ?_
          refine lv_istore (lv' := [(6, .int (nI 0)), (0, .ref (a 0)), (1, .int v1), (2, .int v2), (3, .int v3), (4, .int v4), (5, .int v5), (7, .int v7), (8, .int v8), (10, .int v10), (11, .int v11), (12, .int v12), (13, .int v13), (14, .int v14)]) hx hb dL_hangs_328 hl (by decide) rfl (fun ls hl => ?_)
          refine lv_iinc (v := (v12 + nI 1)) (lv' := [(12, .int (v12 + nI 1)), (6, .int (nI 0)), (0, .ref (a 0)), (1, .int v1), (2, .int v2), (3, .int v3), (4, .int v4), (5, .int v5), (7, .int v7), (8, .int v8), (10, .int v10), (11, .int v11), (13, .int v13), (14, .int v14)]) hx hb dL_hangs_330 hl (k := 11) rfl rfl (by decide) rfl (fun ls hl => ?_)
          refine lv_goto (tgt := 177) hx hb dL_hangs_333 (by decide) ?_
          exact hK177 (nI 0) v11 (v12 + nI 1) hw H locs hP hD hS ls (lv_sub hl [2, 3, 4, 5, 6, 7, 1, 8, 9, 10, 11, 0] rfl)
        · replace hw := hw.1 hc
          refine lv_iconst (v := (nI 1)) hx hb dL_hangs_323 (by decide) ?_
          refine lv_goto (tgt := 328) hx hb dL_hangs_324 (by decide) ?_
          refine lv_istore (lv' := [(6, .int (nI 1)), (0, .ref (a 0)), (1, .int v1), (2, .int v2), (3, .int v3), (4, .int v4), (5, .int v5), (7, .int v7), (8, .int v8), (10, .int v10), (11, .int v11), (12, .int v12), (13, .int v13), (14, .int v14)]) hx hb dL_hangs_328 hl (by decide) rfl (fun ls hl => ?_)
          refine lv_iinc (v := (v12 + nI 1)) (lv' := [(12, .int (v12 + nI 1)), (6, .int (nI 1)), (0, .ref (a 0)), (1, .int v1), (2, .int v2), (3, .int v3), (4, .int v4), (5, .int v5), (7, .int v7), (8, .int v8), (10, .int v10), (11, .int v11), (13, .int v13), (14, .int v14)]) hx hb dL_hangs_330 hl (k := 11) rfl rfl (by decide) rfl (fun ls hl => ?_)
          refine lv_goto (tgt := 177) hx hb dL_hangs_333 (by decide) ?_
          exact hK177 (nI 1) v11 (v12 + nI 1) hw H locs hP hD hS ls (lv_sub hl [2, 3, 4, 5, 6, 7, 1, 8, 9, 10, 11, 0] rfl)
    · replace hw := hw.1 hc
      refine lv_iload hx hb dL_hangs_289 (lv_at hl 12 rfl) ?_
      refine lv_bipush (v := (-5)) hx hb dL_hangs_291 (by decide) ?_
      refine lv_icmp_ne (tgt := 327) hx hb dL_hangs_293 (by decide) (fun hc => ?_) (fun hc => ?_)
      · replace hw := hw.2 hc
        refine lv_iconst (v := (nI 0)) hx hb dL_hangs_327 (by decide) ?_
        refine lv_istore (lv' := [(6, .int (nI 0)), (0, .ref (a 0)), (1, .int v1), (2, .int v2), (3, .int v3), (4, .int v4), (5, .int v5), (7, .int v7), (8, .int v8), (10, .int v10), (11, .int v11), (12, .int v12), (13, .int v13), (14, .int v14)]) hx hb dL_hangs_328 hl (by decide) rfl (fun ls hl => ?_)
        refine lv_iinc (v := (v12 + nI 1)) (lv' := [(12, .int (v12 + nI 1)), (6, .int (nI 0)), (0, .ref (a 0)), (1, .int v1), (2, .int v2), (3, .int v3), (4, .int v4), (5, .int v5), (7, .int v7), (8, .int v8), (10, .int v10), (11, .int v11), (13, .int v13), (14, .int v14)]) hx hb dL_hangs_330 hl (k := 11) rfl rfl (by decide) rfl (fun ls hl => ?_)
        refine lv_goto (tgt := 177) hx hb dL_hangs_333 (by decide) ?_
        exact hK177 (nI 0) v11 (v12 + nI 1) hw H locs hP hD hS ls (lv_sub hl [2, 3, 4, 5, 6, 7, 1, 8, 9, 10, 11, 0] rfl)
      · replace hw := hw.1 hc
        refine lv_goto (tgt := 323) hx hb dL_hangs_296 (by decide) ?_
        refine lv_iconst (v := (nI 1)) hx hb dL_hangs_323 (by decide) ?_
        refine lv_goto (tgt := 328) hx hb dL_hangs_324 (by decide) ?_
        refine lv_istore (lv' := [(6, .int (nI 1)), (0, .ref (a 0)), (1, .int v1), (2, .int v2), (3, .int v3), (4, .int v4), (5, .int v5), (7, .int v7), (8, .int v8), (10, .int v10), (11, .int v11), (12, .int v12), (13, .int v13), (14, .int v14)]) hx hb dL_hangs_328 hl (by decide) rfl (fun ls hl => ?_)
        refine lv_iinc (v := (v12 + nI 1)) (lv' := [(12, .int (v12 + nI 1)), (6, .int (nI 1)), (0, .ref (a 0)), (1, .int v1), (2, .int v2), (3, .int v3), (4, .int v4), (5, .int v5), (7, .int v7), (8, .int v8), (10, .int v10), (11, .int v11), (13, .int v13), (14, .int v14)]) hx hb dL_hangs_330 hl (k := 11) rfl rfl (by decide) rfl (fun ls hl => ?_)
        refine lv_goto (tgt := 177) hx hb dL_hangs_333 (by decide) ?_
        exact hK177 (nI 1) v11 (v12 + nI 1) hw H locs hP hD hS ls (lv_sub hl [2, 3, 4, 5, 6, 7, 1, 8, 9, 10, 11, 0] rfl)
set_option maxHeartbeats 4000000 in
set_option maxRecDepth 100000 in
theorem cj_L_hangs_258 (l : Launch) (D : va_G) (kI kC kB : ClassId) (a : AdT) (h_ : Nat → AdT) (x : XS) (v1 : Int32) (v2 : Int32) (v3 : Int32) (v4 : Int32) (v5 : Int32) (v7 : Int32) (v8 : Int32) (v10 : Int32) (v11 : Int32) (v12 : Int32) (v13 : Int32) (v14 : Int32) (Post : Int32 → XS → Prop) {p : Program} {e : Env} {s : State} {m : MethodId} {args : Array Value} {below : List Frame} {meth : Method} {c : Code} {A : Nat → Prop} (hA : ∀ q : Nat, s.heap.size ≤ q → A q) (C : CtxT p s m args meth c cL_hangs 16 (some .boolean) yL_hangs.cls D kI kC kB) (K36 : Int32 → Int32 → Int32 → Int32 → Int32 → Int32 → Prop) (hK36 : ∀ (v2 : Int32) (v3 : Int32) (v4 : Int32) (v5 : Int32) (v6 : Int32) (v7 : Int32), K36 v2 v3 v4 v5 v6 v7 → ∀ (H : Heap) (locs : List Loc), va_P D vwCl (bfl [cwX kI kB a h_ x]) H → va_D A (bfl [cwX kI kB a h_ x]) → va_S A s.heap H locs → ∀ (ls : Array Slot), lv_has ls 16 [(0, .ref (a 0)), (1, .int v1), (2, .int v2), (3, .int v3), (4, .int v4), (5, .int v5), (6, .int v6), (7, .int v7)] → W p l e ({ frames := 7, cells := 0, slots := 0, locals := 154 } : Room) s m args below meth c H locs 0 0 (MQ below (va_Qi (fun (r : Int32) (u : (Nat → AdT) × XS) => Post r u.2) (BB D A (fun u : (Nat → AdT) × XS => cwX kI kB a u.1 u.2)) A) args s 0 0 A) (F0 m 36 ls [])) (K177 : Int32 → Int32 → Int32 → Prop) (hK177 : ∀ (v6 : Int32) (v11 : Int32) (v12 : Int32), K177 v6 v11 v12 → ∀ (H : Heap) (locs : List Loc), va_P D vwCl (bfl [cwX kI kB a h_ x]) H → va_D A (bfl [cwX kI kB a h_ x]) → va_S A s.heap H locs → ∀ (ls : Array Slot), lv_has ls 16 [(0, .ref (a 0)), (1, .int v1), (2, .int v2), (3, .int v3), (4, .int v4), (5, .int v5), (6, .int v6), (7, .int v7), (8, .int v8), (10, .int v10), (11, .int v11), (12, .int v12)] → W p l e ({ frames := 7, cells := 0, slots := 0, locals := 154 } : Room) s m args below meth c H locs 0 0 (MQ below (va_Qi (fun (r : Int32) (u : (Nat → AdT) × XS) => Post r u.2) (BB D A (fun u : (Nat → AdT) × XS => cwX kI kB a u.1 u.2)) A) args s 0 0 A) (F0 m 177 ls [])) : ∀ (t0 : Int32), wj_L_hangs_258 x v1 v2 v3 v4 v5 v7 v8 v10 v11 v12 v13 v14 t0 K36 K177 Post → ∀ (H : Heap) (locs : List Loc), va_P D vwCl (bfl [cwX kI kB a h_ x]) H → va_D A (bfl [cwX kI kB a h_ x]) → va_S A s.heap H locs → ∀ (ls : Array Slot), lv_has ls 16 [(0, .ref (a 0)), (1, .int v1), (2, .int v2), (3, .int v3), (4, .int v4), (5, .int v5), (7, .int v7), (8, .int v8), (10, .int v10), (11, .int v11), (12, .int v12), (13, .int v13), (14, .int v14)] → W p l e ({ frames := 7, cells := 0, slots := 0, locals := 154 } : Room) s m args below meth c H locs 0 0 (MQ below (va_Qi (fun (r : Int32) (u : (Nat → AdT) × XS) => Post r u.2) (BB D A (fun u : (Nat → AdT) × XS => cwX kI kB a u.1 u.2)) A) args s 0 0 A) (F0 m 258 ls [.int t0]) := by
  obtain ⟨hx, hb, hr, hml, hown, hts, hlocks, hK⟩ := id C
  intro t0 hw H locs hP hD hS ls hl
  unfold wj_L_hangs_258 at hw
  refine lv_iload hx hb dL_hangs_258 (lv_at hl 10 rfl) ?_
  refine lv_aload_n hx hb dL_hangs_260 rfl (lv_at hl 0 rfl) ?_
  refine lv_iload hx hb dL_hangs_261 (lv_at hl 6 rfl) ?_
  refine lv_iconst (v := (nI 4)) hx hb dL_hangs_263 (by decide) ?_
  refine kRB (As := [.int v7, .int (nI 4)]) (rest := [.int v12, .int t0]) (q0 := 0) C (c_X8_quire l D kI kC kB a h_ x.1 x.2.1 x.2.2.1 x.2.2.2.1 x.2.2.2.2.1 x.2.2.2.2.2.1 x.2.2.2.2.2.2.1 x.2.2.2.2.2.2.2.1 x.2.2.2.2.2.2.2.2.1 x.2.2.2.2.2.2.2.2.2.1 x.2.2.2.2.2.2.2.2.2.2.1 x.2.2.2.2.2.2.2.2.2.2.2.1 x.2.2.2.2.2.2.2.2.2.2.2.2.1 x.2.2.2.2.2.2.2.2.2.2.2.2.2.1 x.2.2.2.2.2.2.2.2.2.2.2.2.2.2.1 x.2.2.2.2.2.2.2.2.2.2.2.2.2.2.2.1 x.2.2.2.2.2.2.2.2.2.2.2.2.2.2.2.2.1 x.2.2.2.2.2.2.2.2.2.2.2.2.2.2.2.2.2.1 x.2.2.2.2.2.2.2.2.2.2.2.2.2.2.2.2.2.2.1 x.2.2.2.2.2.2.2.2.2.2.2.2.2.2.2.2.2.2.2.1 x.2.2.2.2.2.2.2.2.2.2.2.2.2.2.2.2.2.2.2.2.1 x.2.2.2.2.2.2.2.2.2.2.2.2.2.2.2.2.2.2.2.2.2.1 x.2.2.2.2.2.2.2.2.2.2.2.2.2.2.2.2.2.2.2.2.2.2 v7 (nI 4) _ hw) ⟨rfl, rfl⟩ ce_X8_quire cv_X8_quire tw_488 ⟨(Nat.le_of_ble_eq_true rfl), (Nat.le_of_ble_eq_true rfl)⟩ hP (bfl_p1 [_] 0 rfl) rfl rfl rfl hl.1 rfl (Nat.le_of_ble_eq_true rfl) ⟨(Nat.le_of_ble_eq_true rfl), (Nat.le_of_ble_eq_true rfl)⟩ dL_hangs_264 (fun r2 hw => ?_)
  refine lv_icmp_gt (tgt := 274) hx hb dL_hangs_267 (by decide) (fun hc => ?_) (fun hc => ?_)
  · replace hw := hw.1 hc
    refine lv_iconst (v := (nI 0)) hx hb dL_hangs_274 (by decide) ?_
    exact cj_L_hangs_275 l D kI kC kB a h_ x v1 v2 v3 v4 v5 v7 v8 v10 v11 v12 v13 v14 Post hA C _ hK36 _ hK177 t0 (nI 0) hw H locs hP hD hS ls (lv_sub hl [0, 1, 2, 3, 4, 5, 6, 7, 8, 9, 10, 11, 12] rfl)
  · replace hw := hw.2 hc
    refine lv_iconst (v := (nI 1)) hx hb dL_hangs_270 (by decide) ?_
    refine lv_goto (tgt := 275) hx hb dL_hangs_271 (by decide) ?_
    exact cj_L_hangs_275 l D kI kC kB a h_ x v1 v2 v3 v4 v5 v7 v8 v10 v11 v12 v13 v14 Post hA C _ hK36 _ hK177 t0 (nI 1) hw H locs hP hD hS ls (lv_sub hl [0, 1, 2, 3, 4, 5, 6, 7, 8, 9, 10, 11, 12] rfl)
set_option maxHeartbeats 4000000 in
set_option maxRecDepth 100000 in
theorem cj_L_hangs_361 (l : Launch) (D : va_G) (kI kC kB : ClassId) (a : AdT) (h_ : Nat → AdT) (x : XS) (v1 : Int32) (v2 : Int32) (v3 : Int32) (v4 : Int32) (v5 : Int32) (v7 : Int32) (v8 : Int32) (v10 : Int32) (v11 : Int32) (Post : Int32 → XS → Prop) {p : Program} {e : Env} {s : State} {m : MethodId} {args : Array Value} {below : List Frame} {meth : Method} {c : Code} {A : Nat → Prop} (hA : ∀ q : Nat, s.heap.size ≤ q → A q) (C : CtxT p s m args meth c cL_hangs 16 (some .boolean) yL_hangs.cls D kI kC kB) (K36 : Int32 → Int32 → Int32 → Int32 → Int32 → Int32 → Prop) (hK36 : ∀ (v2 : Int32) (v3 : Int32) (v4 : Int32) (v5 : Int32) (v6 : Int32) (v7 : Int32), K36 v2 v3 v4 v5 v6 v7 → ∀ (H : Heap) (locs : List Loc), va_P D vwCl (bfl [cwX kI kB a h_ x]) H → va_D A (bfl [cwX kI kB a h_ x]) → va_S A s.heap H locs → ∀ (ls : Array Slot), lv_has ls 16 [(0, .ref (a 0)), (1, .int v1), (2, .int v2), (3, .int v3), (4, .int v4), (5, .int v5), (6, .int v6), (7, .int v7)] → W p l e ({ frames := 7, cells := 0, slots := 0, locals := 154 } : Room) s m args below meth c H locs 0 0 (MQ below (va_Qi (fun (r : Int32) (u : (Nat → AdT) × XS) => Post r u.2) (BB D A (fun u : (Nat → AdT) × XS => cwX kI kB a u.1 u.2)) A) args s 0 0 A) (F0 m 36 ls [])) : ∀ (t0 : Int32), wj_L_hangs_361 x v1 v2 v3 v4 v5 v7 v8 v10 v11 t0 K36 Post → ∀ (H : Heap) (locs : List Loc), va_P D vwCl (bfl [cwX kI kB a h_ x]) H → va_D A (bfl [cwX kI kB a h_ x]) → va_S A s.heap H locs → ∀ (ls : Array Slot), lv_has ls 16 [(0, .ref (a 0)), (1, .int v1), (2, .int v2), (3, .int v3), (4, .int v4), (5, .int v5), (7, .int v7), (8, .int v8), (10, .int v10), (11, .int v11)] → W p l e ({ frames := 7, cells := 0, slots := 0, locals := 154 } : Room) s m args below meth c H locs 0 0 (MQ below (va_Qi (fun (r : Int32) (u : (Nat → AdT) × XS) => Post r u.2) (BB D A (fun u : (Nat → AdT) × XS => cwX kI kB a u.1 u.2)) A) args s 0 0 A) (F0 m 361 ls [.int t0]) := by
  obtain ⟨hx, hb, hr, hml, hown, hts, hlocks, hK⟩ := id C
  intro t0 hw H locs hP hD hS ls hl
  unfold wj_L_hangs_361 at hw
  refine lv_istore (lv' := [(6, .int t0), (0, .ref (a 0)), (1, .int v1), (2, .int v2), (3, .int v3), (4, .int v4), (5, .int v5), (7, .int v7), (8, .int v8), (10, .int v10), (11, .int v11)]) hx hb dL_hangs_361 hl (by decide) rfl (fun ls hl => ?_)
  refine lv_iload_n hx hb dL_hangs_363 rfl (lv_at hl 3 rfl) ?_
  refine lv_iload hx hb dL_hangs_364 (lv_at hl 8 rfl) ?_
  refine lv_iadd hx hb dL_hangs_366 ?_
  refine lv_topi (fun y3 ey3 => ?_)
  replace hw := hw y3 ey3
  refine lv_istore_n (lv' := [(2, .int y3), (6, .int t0), (0, .ref (a 0)), (1, .int v1), (3, .int v3), (4, .int v4), (5, .int v5), (7, .int v7), (8, .int v8), (10, .int v10), (11, .int v11)]) hx hb dL_hangs_367 rfl hl (by decide) rfl (fun ls hl => ?_)
  refine lv_iload_n hx hb dL_hangs_368 rfl (lv_at hl 4 rfl) ?_
  refine lv_aload_n hx hb dL_hangs_369 rfl (lv_at hl 2 rfl) ?_
  refine lv_iload hx hb dL_hangs_370 (lv_at hl 7 rfl) ?_
  refine lv_iconst (v := (nI 4)) hx hb dL_hangs_372 (by decide) ?_
  refine kRB (As := [.int v7, .int (nI 4)]) (rest := [.int v3]) (q0 := 0) C (c_X8_quire l D kI kC kB a h_ x.1 x.2.1 x.2.2.1 x.2.2.2.1 x.2.2.2.2.1 x.2.2.2.2.2.1 x.2.2.2.2.2.2.1 x.2.2.2.2.2.2.2.1 x.2.2.2.2.2.2.2.2.1 x.2.2.2.2.2.2.2.2.2.1 x.2.2.2.2.2.2.2.2.2.2.1 x.2.2.2.2.2.2.2.2.2.2.2.1 x.2.2.2.2.2.2.2.2.2.2.2.2.1 x.2.2.2.2.2.2.2.2.2.2.2.2.2.1 x.2.2.2.2.2.2.2.2.2.2.2.2.2.2.1 x.2.2.2.2.2.2.2.2.2.2.2.2.2.2.2.1 x.2.2.2.2.2.2.2.2.2.2.2.2.2.2.2.2.1 x.2.2.2.2.2.2.2.2.2.2.2.2.2.2.2.2.2.1 x.2.2.2.2.2.2.2.2.2.2.2.2.2.2.2.2.2.2.1 x.2.2.2.2.2.2.2.2.2.2.2.2.2.2.2.2.2.2.2.1 x.2.2.2.2.2.2.2.2.2.2.2.2.2.2.2.2.2.2.2.2.1 x.2.2.2.2.2.2.2.2.2.2.2.2.2.2.2.2.2.2.2.2.2.1 x.2.2.2.2.2.2.2.2.2.2.2.2.2.2.2.2.2.2.2.2.2.2 v7 (nI 4) _ hw) ⟨rfl, rfl⟩ ce_X8_quire cv_X8_quire tw_488 ⟨(Nat.le_of_ble_eq_true rfl), (Nat.le_of_ble_eq_true rfl)⟩ hP (bfl_p1 [_] 0 rfl) rfl rfl rfl hl.1 rfl (Nat.le_of_ble_eq_true rfl) ⟨(Nat.le_of_ble_eq_true rfl), (Nat.le_of_ble_eq_true rfl)⟩ dL_hangs_373 (fun r4 hw => ?_)
  refine lv_iadd hx hb dL_hangs_376 ?_
  refine lv_topi (fun y5 ey5 => ?_)
  replace hw := hw y5 ey5
  refine lv_istore_n (lv' := [(3, .int y5), (2, .int y3), (6, .int t0), (0, .ref (a 0)), (1, .int v1), (4, .int v4), (5, .int v5), (7, .int v7), (8, .int v8), (10, .int v10), (11, .int v11)]) hx hb dL_hangs_377 rfl hl (by decide) rfl (fun ls hl => ?_)
  refine lv_iload hx hb dL_hangs_378 (lv_at hl 5 rfl) ?_
  refine lv_iload hx hb dL_hangs_380 (lv_at hl 8 rfl) ?_
  refine lv_iload hx hb dL_hangs_382 (lv_at hl 10 rfl) ?_
  refine lv_isub hx hb dL_hangs_384 ?_
  refine lv_iadd hx hb dL_hangs_385 ?_
  refine lv_topi (fun y6 ey6 => ?_)
  replace hw := hw y6 ey6
  refine lv_istore (lv' := [(4, .int y6), (3, .int y5), (2, .int y3), (6, .int t0), (0, .ref (a 0)), (1, .int v1), (5, .int v5), (7, .int v7), (8, .int v8), (10, .int v10), (11, .int v11)]) hx hb dL_hangs_386 hl (by decide) rfl (fun ls hl => ?_)
  refine lv_iload hx hb dL_hangs_388 (lv_at hl 6 rfl) ?_
  refine lv_iload hx hb dL_hangs_390 (lv_at hl 9 rfl) ?_
  refine lv_if_eq (tgt := 399) hx hb dL_hangs_392 (by decide) (fun hc => ?_) (fun hc => ?_)
  · replace hw := hw.1 hc
    refine lv_iconst (v := (nI 0)) hx hb dL_hangs_399 (by decide) ?_
    refine lv_iadd hx hb dL_hangs_400 ?_
    refine lv_topi (fun y7 ey7 => ?_)
    replace hw := hw y7 ey7
    refine lv_istore (lv' := [(5, .int y7), (4, .int y6), (3, .int y5), (2, .int y3), (6, .int t0), (0, .ref (a 0)), (1, .int v1), (7, .int v7), (8, .int v8), (10, .int v10), (11, .int v11)]) hx hb dL_hangs_401 hl (by decide) rfl (fun ls hl => ?_)
    refine lv_iinc (v := (v7 + nI 1)) (lv' := [(7, .int (v7 + nI 1)), (5, .int y7), (4, .int y6), (3, .int y5), (2, .int y3), (6, .int t0), (0, .ref (a 0)), (1, .int v1), (8, .int v8), (10, .int v10), (11, .int v11)]) hx hb dL_hangs_403 hl (k := 7) rfl rfl (by decide) rfl (fun ls hl => ?_)
    refine lv_goto (tgt := 36) hx hb dL_hangs_406 (by decide) ?_
    exact hK36 y3 y5 y6 y7 t0 (v7 + nI 1) hw H locs hP hD hS ls (lv_sub hl [6, 7, 4, 3, 2, 1, 5, 0] rfl)
  · replace hw := hw.2 hc
    refine lv_iconst (v := (nI 1)) hx hb dL_hangs_395 (by decide) ?_
    refine lv_goto (tgt := 400) hx hb dL_hangs_396 (by decide) ?_
    refine lv_iadd hx hb dL_hangs_400 ?_
    refine lv_topi (fun y8 ey8 => ?_)
    replace hw := hw y8 ey8
    refine lv_istore (lv' := [(5, .int y8), (4, .int y6), (3, .int y5), (2, .int y3), (6, .int t0), (0, .ref (a 0)), (1, .int v1), (7, .int v7), (8, .int v8), (10, .int v10), (11, .int v11)]) hx hb dL_hangs_401 hl (by decide) rfl (fun ls hl => ?_)
    refine lv_iinc (v := (v7 + nI 1)) (lv' := [(7, .int (v7 + nI 1)), (5, .int y8), (4, .int y6), (3, .int y5), (2, .int y3), (6, .int t0), (0, .ref (a 0)), (1, .int v1), (8, .int v8), (10, .int v10), (11, .int v11)]) hx hb dL_hangs_403 hl (k := 7) rfl rfl (by decide) rfl (fun ls hl => ?_)
    refine lv_goto (tgt := 36) hx hb dL_hangs_406 (by decide) ?_
    exact hK36 y3 y5 y6 y8 t0 (v7 + nI 1) hw H locs hP hD hS ls (lv_sub hl [6, 7, 4, 3, 2, 1, 5, 0] rfl)
set_option maxHeartbeats 4000000 in
set_option maxRecDepth 100000 in
theorem cj_L_hangs_360 (l : Launch) (D : va_G) (kI kC kB : ClassId) (a : AdT) (h_ : Nat → AdT) (x : XS) (v1 : Int32) (v2 : Int32) (v3 : Int32) (v4 : Int32) (v5 : Int32) (v7 : Int32) (v8 : Int32) (v10 : Int32) (v11 : Int32) (Post : Int32 → XS → Prop) {p : Program} {e : Env} {s : State} {m : MethodId} {args : Array Value} {below : List Frame} {meth : Method} {c : Code} {A : Nat → Prop} (hA : ∀ q : Nat, s.heap.size ≤ q → A q) (C : CtxT p s m args meth c cL_hangs 16 (some .boolean) yL_hangs.cls D kI kC kB) (K36 : Int32 → Int32 → Int32 → Int32 → Int32 → Int32 → Prop) (hK36 : ∀ (v2 : Int32) (v3 : Int32) (v4 : Int32) (v5 : Int32) (v6 : Int32) (v7 : Int32), K36 v2 v3 v4 v5 v6 v7 → ∀ (H : Heap) (locs : List Loc), va_P D vwCl (bfl [cwX kI kB a h_ x]) H → va_D A (bfl [cwX kI kB a h_ x]) → va_S A s.heap H locs → ∀ (ls : Array Slot), lv_has ls 16 [(0, .ref (a 0)), (1, .int v1), (2, .int v2), (3, .int v3), (4, .int v4), (5, .int v5), (6, .int v6), (7, .int v7)] → W p l e ({ frames := 7, cells := 0, slots := 0, locals := 154 } : Room) s m args below meth c H locs 0 0 (MQ below (va_Qi (fun (r : Int32) (u : (Nat → AdT) × XS) => Post r u.2) (BB D A (fun u : (Nat → AdT) × XS => cwX kI kB a u.1 u.2)) A) args s 0 0 A) (F0 m 36 ls [])) : wj_L_hangs_360 x v1 v2 v3 v4 v5 v7 v8 v10 v11 K36 Post → ∀ (H : Heap) (locs : List Loc), va_P D vwCl (bfl [cwX kI kB a h_ x]) H → va_D A (bfl [cwX kI kB a h_ x]) → va_S A s.heap H locs → ∀ (ls : Array Slot), lv_has ls 16 [(0, .ref (a 0)), (1, .int v1), (2, .int v2), (3, .int v3), (4, .int v4), (5, .int v5), (7, .int v7), (8, .int v8), (10, .int v10), (11, .int v11)] → W p l e ({ frames := 7, cells := 0, slots := 0, locals := 154 } : Room) s m args below meth c H locs 0 0 (MQ below (va_Qi (fun (r : Int32) (u : (Nat → AdT) × XS) => Post r u.2) (BB D A (fun u : (Nat → AdT) × XS => cwX kI kB a u.1 u.2)) A) args s 0 0 A) (F0 m 360 ls []) := by
  obtain ⟨hx, hb, hr, hml, hown, hts, hlocks, hK⟩ := id C
  intro hw H locs hP hD hS ls hl
  unfold wj_L_hangs_360 at hw
  refine lv_iconst (v := (nI 0)) hx hb dL_hangs_360 (by decide) ?_
  exact cj_L_hangs_361 l D kI kC kB a h_ x v1 v2 v3 v4 v5 v7 v8 v10 v11 Post hA C _ hK36 (nI 0) hw H locs hP hD hS ls (lv_sub hl [0, 1, 2, 3, 4, 5, 6, 7, 8, 9] rfl)
set_option maxHeartbeats 4000000 in
set_option maxRecDepth 100000 in
theorem cj_L_hangs_336 (l : Launch) (D : va_G) (kI kC kB : ClassId) (a : AdT) (h_ : Nat → AdT) (x : XS) (v1 : Int32) (v2 : Int32) (v3 : Int32) (v4 : Int32) (v5 : Int32) (v6 : Int32) (v7 : Int32) (v8 : Int32) (v10 : Int32) (v11 : Int32) (Post : Int32 → XS → Prop) {p : Program} {e : Env} {s : State} {m : MethodId} {args : Array Value} {below : List Frame} {meth : Method} {c : Code} {A : Nat → Prop} (hA : ∀ q : Nat, s.heap.size ≤ q → A q) (C : CtxT p s m args meth c cL_hangs 16 (some .boolean) yL_hangs.cls D kI kC kB) (K36 : Int32 → Int32 → Int32 → Int32 → Int32 → Int32 → Prop) (hK36 : ∀ (v2 : Int32) (v3 : Int32) (v4 : Int32) (v5 : Int32) (v6 : Int32) (v7 : Int32), K36 v2 v3 v4 v5 v6 v7 → ∀ (H : Heap) (locs : List Loc), va_P D vwCl (bfl [cwX kI kB a h_ x]) H → va_D A (bfl [cwX kI kB a h_ x]) → va_S A s.heap H locs → ∀ (ls : Array Slot), lv_has ls 16 [(0, .ref (a 0)), (1, .int v1), (2, .int v2), (3, .int v3), (4, .int v4), (5, .int v5), (6, .int v6), (7, .int v7)] → W p l e ({ frames := 7, cells := 0, slots := 0, locals := 154 } : Room) s m args below meth c H locs 0 0 (MQ below (va_Qi (fun (r : Int32) (u : (Nat → AdT) × XS) => Post r u.2) (BB D A (fun u : (Nat → AdT) × XS => cwX kI kB a u.1 u.2)) A) args s 0 0 A) (F0 m 36 ls [])) : wj_L_hangs_336 x v1 v2 v3 v4 v5 v6 v7 v8 v10 v11 K36 Post → ∀ (H : Heap) (locs : List Loc), va_P D vwCl (bfl [cwX kI kB a h_ x]) H → va_D A (bfl [cwX kI kB a h_ x]) → va_S A s.heap H locs → ∀ (ls : Array Slot), lv_has ls 16 [(0, .ref (a 0)), (1, .int v1), (2, .int v2), (3, .int v3), (4, .int v4), (5, .int v5), (6, .int v6), (7, .int v7), (8, .int v8), (10, .int v10), (11, .int v11)] → W p l e ({ frames := 7, cells := 0, slots := 0, locals := 154 } : Room) s m args below meth c H locs 0 0 (MQ below (va_Qi (fun (r : Int32) (u : (Nat → AdT) × XS) => Post r u.2) (BB D A (fun u : (Nat → AdT) × XS => cwX kI kB a u.1 u.2)) A) args s 0 0 A) (F0 m 336 ls []) := by
  obtain ⟨hx, hb, hr, hml, hown, hts, hlocks, hK⟩ := id C
  intro hw H locs hP hD hS ls hl
  unfold wj_L_hangs_336 at hw
  refine lv_iload hx hb dL_hangs_336 (lv_at hl 6 rfl) ?_
  refine lv_if_eq (tgt := 360) hx hb dL_hangs_338 (by decide) (fun hc => ?_) (fun hc => ?_)
  · replace hw := hw.1 hc
    exact cj_L_hangs_360 l D kI kC kB a h_ x v1 v2 v3 v4 v5 v7 v8 v10 v11 Post hA C _ hK36 hw H locs hP hD hS ls (lv_sub hl [0, 1, 2, 3, 4, 5, 7, 8, 9, 10] rfl)
  · replace hw := hw.2 hc
    refine lv_aload_n hx hb dL_hangs_341 rfl (lv_at hl 0 rfl) ?_
    refine lv_iload hx hb dL_hangs_342 (lv_at hl 7 rfl) ?_
    refine lv_iconst (v := (nI 5)) hx hb dL_hangs_344 (by decide) ?_
    refine kRB (As := [.int v7, .int (nI 5)]) (rest := []) (q0 := 0) C (c_X8_quire l D kI kC kB a h_ x.1 x.2.1 x.2.2.1 x.2.2.2.1 x.2.2.2.2.1 x.2.2.2.2.2.1 x.2.2.2.2.2.2.1 x.2.2.2.2.2.2.2.1 x.2.2.2.2.2.2.2.2.1 x.2.2.2.2.2.2.2.2.2.1 x.2.2.2.2.2.2.2.2.2.2.1 x.2.2.2.2.2.2.2.2.2.2.2.1 x.2.2.2.2.2.2.2.2.2.2.2.2.1 x.2.2.2.2.2.2.2.2.2.2.2.2.2.1 x.2.2.2.2.2.2.2.2.2.2.2.2.2.2.1 x.2.2.2.2.2.2.2.2.2.2.2.2.2.2.2.1 x.2.2.2.2.2.2.2.2.2.2.2.2.2.2.2.2.1 x.2.2.2.2.2.2.2.2.2.2.2.2.2.2.2.2.2.1 x.2.2.2.2.2.2.2.2.2.2.2.2.2.2.2.2.2.2.1 x.2.2.2.2.2.2.2.2.2.2.2.2.2.2.2.2.2.2.2.1 x.2.2.2.2.2.2.2.2.2.2.2.2.2.2.2.2.2.2.2.2.1 x.2.2.2.2.2.2.2.2.2.2.2.2.2.2.2.2.2.2.2.2.2.1 x.2.2.2.2.2.2.2.2.2.2.2.2.2.2.2.2.2.2.2.2.2.2 v7 (nI 5) _ hw) ⟨rfl, rfl⟩ ce_X8_quire cv_X8_quire tw_488 ⟨(Nat.le_of_ble_eq_true rfl), (Nat.le_of_ble_eq_true rfl)⟩ hP (bfl_p1 [_] 0 rfl) rfl rfl rfl hl.1 rfl (Nat.le_of_ble_eq_true rfl) ⟨(Nat.le_of_ble_eq_true rfl), (Nat.le_of_ble_eq_true rfl)⟩ dL_hangs_345 (fun r9 hw => ?_)
    refine lv_iload hx hb dL_hangs_348 (lv_at hl 8 rfl) ?_
    refine lv_iload hx hb dL_hangs_350 (lv_at hl 10 rfl) ?_
    refine lv_isub hx hb dL_hangs_352 ?_
    refine lv_icmp_ne (tgt := 360) hx hb dL_hangs_353 (by decide) (fun hc => ?_) (fun hc => ?_)
    · replace hw := hw.2 hc
      exact cj_L_hangs_360 l D kI kC kB a h_ x v1 v2 v3 v4 v5 v7 v8 v10 v11 Post hA C _ hK36 hw H locs hP hD hS ls (lv_sub hl [0, 1, 2, 3, 4, 5, 7, 8, 9, 10] rfl)
    · replace hw := hw.1 hc
      refine lv_iconst (v := (nI 1)) hx hb dL_hangs_356 (by decide) ?_
      refine lv_goto (tgt := 361) hx hb dL_hangs_357 (by decide) ?_
      exact cj_L_hangs_361 l D kI kC kB a h_ x v1 v2 v3 v4 v5 v7 v8 v10 v11 Post hA C _ hK36 (nI 1) hw H locs hP hD hS ls (lv_sub hl [0, 1, 2, 3, 4, 5, 7, 8, 9, 10] rfl)
set_option maxHeartbeats 4000000 in
set_option maxRecDepth 100000 in
theorem cl_L_hangs_177 (l : Launch) (D : va_G) (kI kC kB : ClassId) (a : AdT) (h_ : Nat → AdT) (x : XS) (v1 : Int32) (v2 : Int32) (v3 : Int32) (v4 : Int32) (v5 : Int32) (v7 : Int32) (v8 : Int32) (v10 : Int32) (Post : Int32 → XS → Prop) {p : Program} {e : Env} {s : State} {m : MethodId} {args : Array Value} {below : List Frame} {meth : Method} {c : Code} {A : Nat → Prop} (hA : ∀ q : Nat, s.heap.size ≤ q → A q) (C : CtxT p s m args meth c cL_hangs 16 (some .boolean) yL_hangs.cls D kI kC kB) (K36 : Int32 → Int32 → Int32 → Int32 → Int32 → Int32 → Prop) (hK36 : ∀ (v2 : Int32) (v3 : Int32) (v4 : Int32) (v5 : Int32) (v6 : Int32) (v7 : Int32), K36 v2 v3 v4 v5 v6 v7 → ∀ (H : Heap) (locs : List Loc), va_P D vwCl (bfl [cwX kI kB a h_ x]) H → va_D A (bfl [cwX kI kB a h_ x]) → va_S A s.heap H locs → ∀ (ls : Array Slot), lv_has ls 16 [(0, .ref (a 0)), (1, .int v1), (2, .int v2), (3, .int v3), (4, .int v4), (5, .int v5), (6, .int v6), (7, .int v7)] → W p l e ({ frames := 7, cells := 0, slots := 0, locals := 154 } : Room) s m args below meth c H locs 0 0 (MQ below (va_Qi (fun (r : Int32) (u : (Nat → AdT) × XS) => Post r u.2) (BB D A (fun u : (Nat → AdT) × XS => cwX kI kB a u.1 u.2)) A) args s 0 0 A) (F0 m 36 ls [])) : ∀ (n : Nat), ∀ (v6 : Int32) (v11 : Int32) (v12 : Int32), wl_L_hangs_177 x v1 v2 v3 v4 v5 v7 v8 v10 K36 Post n v6 v11 v12 → ∀ (H : Heap) (locs : List Loc), va_P D vwCl (bfl [cwX kI kB a h_ x]) H → va_D A (bfl [cwX kI kB a h_ x]) → va_S A s.heap H locs → ∀ (ls : Array Slot), lv_has ls 16 [(0, .ref (a 0)), (1, .int v1), (2, .int v2), (3, .int v3), (4, .int v4), (5, .int v5), (6, .int v6), (7, .int v7), (8, .int v8), (10, .int v10), (11, .int v11), (12, .int v12)] → W p l e ({ frames := 7, cells := 0, slots := 0, locals := 154 } : Room) s m args below meth c H locs 0 0 (MQ below (va_Qi (fun (r : Int32) (u : (Nat → AdT) × XS) => Post r u.2) (BB D A (fun u : (Nat → AdT) × XS => cwX kI kB a u.1 u.2)) A) args s 0 0 A) (F0 m 177 ls []) := by
  obtain ⟨hx, hb, hr, hml, hown, hts, hlocks, hK⟩ := id C
  intro n
  induction n with
  | zero => intro v6 v11 v12 hw; exact hw.elim
  | succ n ih =>
    intro v6 v11 v12 hw H locs hP hD hS ls hl
    unfold wl_L_hangs_177 at hw
    refine lv_iload hx hb dL_hangs_177 (lv_at hl 11 rfl) ?_
    refine lv_iload hx hb dL_hangs_179 (lv_at hl 8 rfl) ?_
    refine lv_icmp_gt (tgt := 336) hx hb dL_hangs_181 (by decide) (fun hc => ?_) (fun hc => ?_)
    · replace hw := hw.1 hc
      exact cj_L_hangs_336 l D kI kC kB a h_ x v1 v2 v3 v4 v5 v6 v7 v8 v10 v11 Post hA C _ hK36 hw H locs hP hD hS ls (lv_sub hl [0, 1, 2, 3, 4, 5, 6, 7, 8, 9, 10] rfl)
    · replace hw := hw.2 hc
      refine lv_iload hx hb dL_hangs_184 (lv_at hl 6 rfl) ?_
      refine lv_if_eq (tgt := 336) hx hb dL_hangs_186 (by decide) (fun hc => ?_) (fun hc => ?_)
      · replace hw := hw.1 hc
        exact cj_L_hangs_336 l D kI kC kB a h_ x v1 v2 v3 v4 v5 v6 v7 v8 v10 v11 Post hA C _ hK36 hw H locs hP hD hS ls (lv_sub hl [0, 1, 2, 3, 4, 5, 6, 7, 8, 9, 10] rfl)
      · replace hw := hw.2 hc
        refine lv_iload_n hx hb dL_hangs_189 rfl (lv_at hl 2 rfl) ?_
        refine lv_iload hx hb dL_hangs_190 (lv_at hl 11 rfl) ?_
        refine lv_iadd hx hb dL_hangs_192 ?_
        refine lv_iconst (v := (nI 1)) hx hb dL_hangs_193 (by decide) ?_
        refine lv_isub hx hb dL_hangs_194 ?_
        refine lv_topi (fun y10 ey10 => ?_)
        replace hw := hw y10 ey10
        refine lv_istore (lv' := [(13, .int y10), (0, .ref (a 0)), (1, .int v1), (2, .int v2), (3, .int v3), (4, .int v4), (5, .int v5), (6, .int v6), (7, .int v7), (8, .int v8), (10, .int v10), (11, .int v11), (12, .int v12)]) hx hb dL_hangs_195 hl (by decide) rfl (fun ls hl => ?_)
        refine lv_aload_n hx hb dL_hangs_197 rfl (lv_at hl 1 rfl) ?_
        refine lv_iload hx hb dL_hangs_198 (lv_at hl 0 rfl) ?_
        refine lv_iconst (v := (nI 3)) hx hb dL_hangs_200 (by decide) ?_
        refine kRB (As := [.int y10, .int (nI 3)]) (rest := []) (q0 := 0) C (c_X8_leaf l D kI kC kB a h_ x.1 x.2.1 x.2.2.1 x.2.2.2.1 x.2.2.2.2.1 x.2.2.2.2.2.1 x.2.2.2.2.2.2.1 x.2.2.2.2.2.2.2.1 x.2.2.2.2.2.2.2.2.1 x.2.2.2.2.2.2.2.2.2.1 x.2.2.2.2.2.2.2.2.2.2.1 x.2.2.2.2.2.2.2.2.2.2.2.1 x.2.2.2.2.2.2.2.2.2.2.2.2.1 x.2.2.2.2.2.2.2.2.2.2.2.2.2.1 x.2.2.2.2.2.2.2.2.2.2.2.2.2.2.1 x.2.2.2.2.2.2.2.2.2.2.2.2.2.2.2.1 x.2.2.2.2.2.2.2.2.2.2.2.2.2.2.2.2.1 x.2.2.2.2.2.2.2.2.2.2.2.2.2.2.2.2.2.1 x.2.2.2.2.2.2.2.2.2.2.2.2.2.2.2.2.2.2.1 x.2.2.2.2.2.2.2.2.2.2.2.2.2.2.2.2.2.2.2.1 x.2.2.2.2.2.2.2.2.2.2.2.2.2.2.2.2.2.2.2.2.1 x.2.2.2.2.2.2.2.2.2.2.2.2.2.2.2.2.2.2.2.2.2.1 x.2.2.2.2.2.2.2.2.2.2.2.2.2.2.2.2.2.2.2.2.2.2 y10 (nI 3) _ hw) ⟨rfl, rfl⟩ ce_X8_leaf cv_X8_leaf tw_505 ⟨(Nat.le_of_ble_eq_true rfl), (Nat.le_of_ble_eq_true rfl)⟩ hP (bfl_p1 [_] 0 rfl) rfl rfl rfl hl.1 rfl (Nat.le_of_ble_eq_true rfl) ⟨(Nat.le_of_ble_eq_true rfl), (Nat.le_of_ble_eq_true rfl)⟩ dL_hangs_201 (fun r11 hw => ?_)
        refine lv_istore (lv' := [(14, .int r11), (13, .int y10), (0, .ref (a 0)), (1, .int v1), (2, .int v2), (3, .int v3), (4, .int v4), (5, .int v5), (6, .int v6), (7, .int v7), (8, .int v8), (10, .int v10), (11, .int v11), (12, .int v12)]) hx hb dL_hangs_204 hl (by decide) rfl (fun ls hl => ?_)
        refine lv_iload hx hb dL_hangs_206 (lv_at hl 12 rfl) ?_
        refine lv_aload_n hx hb dL_hangs_208 rfl (lv_at hl 2 rfl) ?_
        refine lv_iload hx hb dL_hangs_209 (lv_at hl 1 rfl) ?_
        refine lv_iconst (v := (nI 4)) hx hb dL_hangs_211 (by decide) ?_
        refine kRB (As := [.int y10, .int (nI 4)]) (rest := [.int v11]) (q0 := 0) C (c_X8_leaf l D kI kC kB a h_ x.1 x.2.1 x.2.2.1 x.2.2.2.1 x.2.2.2.2.1 x.2.2.2.2.2.1 x.2.2.2.2.2.2.1 x.2.2.2.2.2.2.2.1 x.2.2.2.2.2.2.2.2.1 x.2.2.2.2.2.2.2.2.2.1 x.2.2.2.2.2.2.2.2.2.2.1 x.2.2.2.2.2.2.2.2.2.2.2.1 x.2.2.2.2.2.2.2.2.2.2.2.2.1 x.2.2.2.2.2.2.2.2.2.2.2.2.2.1 x.2.2.2.2.2.2.2.2.2.2.2.2.2.2.1 x.2.2.2.2.2.2.2.2.2.2.2.2.2.2.2.1 x.2.2.2.2.2.2.2.2.2.2.2.2.2.2.2.2.1 x.2.2.2.2.2.2.2.2.2.2.2.2.2.2.2.2.2.1 x.2.2.2.2.2.2.2.2.2.2.2.2.2.2.2.2.2.2.1 x.2.2.2.2.2.2.2.2.2.2.2.2.2.2.2.2.2.2.2.1 x.2.2.2.2.2.2.2.2.2.2.2.2.2.2.2.2.2.2.2.2.1 x.2.2.2.2.2.2.2.2.2.2.2.2.2.2.2.2.2.2.2.2.2.1 x.2.2.2.2.2.2.2.2.2.2.2.2.2.2.2.2.2.2.2.2.2.2 y10 (nI 4) _ hw) ⟨rfl, rfl⟩ ce_X8_leaf cv_X8_leaf tw_505 ⟨(Nat.le_of_ble_eq_true rfl), (Nat.le_of_ble_eq_true rfl)⟩ hP (bfl_p1 [_] 0 rfl) rfl rfl rfl hl.1 rfl (Nat.le_of_ble_eq_true rfl) ⟨(Nat.le_of_ble_eq_true rfl), (Nat.le_of_ble_eq_true rfl)⟩ dL_hangs_212 (fun r12 hw => ?_)
        refine lv_iadd hx hb dL_hangs_215 ?_
        refine lv_topi (fun y13 ey13 => ?_)
        replace hw := hw y13 ey13
        refine lv_istore (lv' := [(11, .int y13), (14, .int r11), (13, .int y10), (0, .ref (a 0)), (1, .int v1), (2, .int v2), (3, .int v3), (4, .int v4), (5, .int v5), (6, .int v6), (7, .int v7), (8, .int v8), (10, .int v10), (12, .int v12)]) hx hb dL_hangs_216 hl (by decide) rfl (fun ls hl => ?_)
        refine lv_aload_n hx hb dL_hangs_218 rfl (lv_at hl 3 rfl) ?_
        refine lv_iload hx hb dL_hangs_219 (lv_at hl 2 rfl) ?_
        refine lv_iconst (v := (nI 0)) hx hb dL_hangs_221 (by decide) ?_
        refine kRB (As := [.int y10, .int (nI 0)]) (rest := []) (q0 := 0) C (c_X8_leaf l D kI kC kB a h_ x.1 x.2.1 x.2.2.1 x.2.2.2.1 x.2.2.2.2.1 x.2.2.2.2.2.1 x.2.2.2.2.2.2.1 x.2.2.2.2.2.2.2.1 x.2.2.2.2.2.2.2.2.1 x.2.2.2.2.2.2.2.2.2.1 x.2.2.2.2.2.2.2.2.2.2.1 x.2.2.2.2.2.2.2.2.2.2.2.1 x.2.2.2.2.2.2.2.2.2.2.2.2.1 x.2.2.2.2.2.2.2.2.2.2.2.2.2.1 x.2.2.2.2.2.2.2.2.2.2.2.2.2.2.1 x.2.2.2.2.2.2.2.2.2.2.2.2.2.2.2.1 x.2.2.2.2.2.2.2.2.2.2.2.2.2.2.2.2.1 x.2.2.2.2.2.2.2.2.2.2.2.2.2.2.2.2.2.1 x.2.2.2.2.2.2.2.2.2.2.2.2.2.2.2.2.2.2.1 x.2.2.2.2.2.2.2.2.2.2.2.2.2.2.2.2.2.2.2.1 x.2.2.2.2.2.2.2.2.2.2.2.2.2.2.2.2.2.2.2.2.1 x.2.2.2.2.2.2.2.2.2.2.2.2.2.2.2.2.2.2.2.2.2.1 x.2.2.2.2.2.2.2.2.2.2.2.2.2.2.2.2.2.2.2.2.2.2 y10 (nI 0) _ hw) ⟨rfl, rfl⟩ ce_X8_leaf cv_X8_leaf tw_505 ⟨(Nat.le_of_ble_eq_true rfl), (Nat.le_of_ble_eq_true rfl)⟩ hP (bfl_p1 [_] 0 rfl) rfl rfl rfl hl.1 rfl (Nat.le_of_ble_eq_true rfl) ⟨(Nat.le_of_ble_eq_true rfl), (Nat.le_of_ble_eq_true rfl)⟩ dL_hangs_222 (fun r14 hw => ?_)
        refine lv_iload hx hb dL_hangs_225 (lv_at hl 10 rfl) ?_
        refine lv_icmp_ne (tgt := 327) hx hb dL_hangs_227 (by decide) (fun hc => ?_) (fun hc => ?_)
        · replace hw := hw.2 hc
          refine lv_iconst (v := (nI 0)) hx hb dL_hangs_327 (by decide) ?_
          refine lv_istore (lv' := [(6, .int (nI 0)), (11, .int y13), (14, .int r11), (13, .int y10), (0, .ref (a 0)), (1, .int v1), (2, .int v2), (3, .int v3), (4, .int v4), (5, .int v5), (7, .int v7), (8, .int v8), (10, .int v10), (12, .int v12)]) hx hb dL_hangs_328 hl (by decide) rfl (fun ls hl => ?_)
          refine lv_iinc (v := (v12 + nI 1)) (lv' := [(12, .int (v12 + nI 1)), (6, .int (nI 0)), (11, .int y13), (14, .int r11), (13, .int y10), (0, .ref (a 0)), (1, .int v1), (2, .int v2), (3, .int v3), (4, .int v4), (5, .int v5), (7, .int v7), (8, .int v8), (10, .int v10)]) hx hb dL_hangs_330 hl (k := 13) rfl rfl (by decide) rfl (fun ls hl => ?_)
          refine lv_goto (tgt := 177) hx hb dL_hangs_333 (by decide) ?_
          exact ih (nI 0) y13 (v12 + nI 1) hw H locs hP hD hS ls (lv_sub hl [5, 6, 7, 8, 9, 10, 1, 11, 12, 13, 2, 0] rfl)
        · replace hw := hw.1 hc
          refine lv_aload_n hx hb dL_hangs_230 rfl (lv_at hl 3 rfl) ?_
          refine lv_iload hx hb dL_hangs_231 (lv_at hl 2 rfl) ?_
          refine lv_iconst (v := (nI 1)) hx hb dL_hangs_233 (by decide) ?_
          refine kRB (As := [.int y10, .int (nI 1)]) (rest := []) (q0 := 0) C (c_X8_leaf l D kI kC kB a h_ x.1 x.2.1 x.2.2.1 x.2.2.2.1 x.2.2.2.2.1 x.2.2.2.2.2.1 x.2.2.2.2.2.2.1 x.2.2.2.2.2.2.2.1 x.2.2.2.2.2.2.2.2.1 x.2.2.2.2.2.2.2.2.2.1 x.2.2.2.2.2.2.2.2.2.2.1 x.2.2.2.2.2.2.2.2.2.2.2.1 x.2.2.2.2.2.2.2.2.2.2.2.2.1 x.2.2.2.2.2.2.2.2.2.2.2.2.2.1 x.2.2.2.2.2.2.2.2.2.2.2.2.2.2.1 x.2.2.2.2.2.2.2.2.2.2.2.2.2.2.2.1 x.2.2.2.2.2.2.2.2.2.2.2.2.2.2.2.2.1 x.2.2.2.2.2.2.2.2.2.2.2.2.2.2.2.2.2.1 x.2.2.2.2.2.2.2.2.2.2.2.2.2.2.2.2.2.2.1 x.2.2.2.2.2.2.2.2.2.2.2.2.2.2.2.2.2.2.2.1 x.2.2.2.2.2.2.2.2.2.2.2.2.2.2.2.2.2.2.2.2.1 x.2.2.2.2.2.2.2.2.2.2.2.2.2.2.2.2.2.2.2.2.2.1 x.2.2.2.2.2.2.2.2.2.2.2.2.2.2.2.2.2.2.2.2.2.2 y10 (nI 1) _ hw) ⟨rfl, rfl⟩ ce_X8_leaf cv_X8_leaf tw_505 ⟨(Nat.le_of_ble_eq_true rfl), (Nat.le_of_ble_eq_true rfl)⟩ hP (bfl_p1 [_] 0 rfl) rfl rfl rfl hl.1 rfl (Nat.le_of_ble_eq_true rfl) ⟨(Nat.le_of_ble_eq_true rfl), (Nat.le_of_ble_eq_true rfl)⟩ dL_hangs_234 (fun r15 hw => ?_)
          refine lv_iload hx hb dL_hangs_237 (lv_at hl 13 rfl) ?_
          refine lv_icmp_ne (tgt := 327) hx hb dL_hangs_239 (by decide) (fun hc => ?_) (fun hc => ?_)
          · replace hw := hw.2 hc
            refine lv_iconst (v := (nI 0)) hx hb dL_hangs_327 (by decide) ?_
            refine lv_istore (lv' := [(6, .int (nI 0)), (11, .int y13), (14, .int r11), (13, .int y10), (0, .ref (a 0)), (1, .int v1), (2, .int v2), (3, .int v3), (4, .int v4), (5, .int v5), (7, .int v7), (8, .int v8), (10, .int v10), (12, .int v12)]) hx hb dL_hangs_328 hl (by decide) rfl (fun ls hl => ?_)
            refine lv_iinc (v := (v12 + nI 1)) (lv' := [(12, .int (v12 + nI 1)), (6, .int (nI 0)), (11, .int y13), (14, .int r11), (13, .int y10), (0, .ref (a 0)), (1, .int v1), (2, .int v2), (3, .int v3), (4, .int v4), (5, .int v5), (7, .int v7), (8, .int v8), (10, .int v10)]) hx hb dL_hangs_330 hl (k := 13) rfl rfl (by decide) rfl (fun ls hl => ?_)
            refine lv_goto (tgt := 177) hx hb dL_hangs_333 (by decide) ?_
            exact ih (nI 0) y13 (v12 + nI 1) hw H locs hP hD hS ls (lv_sub hl [5, 6, 7, 8, 9, 10, 1, 11, 12, 13, 2, 0] rfl)
          · replace hw := hw.1 hc
            refine lv_aload_n hx hb dL_hangs_242 rfl (lv_at hl 3 rfl) ?_
            refine lv_iload hx hb dL_hangs_243 (lv_at hl 2 rfl) ?_
            refine lv_iconst (v := (nI 2)) hx hb dL_hangs_245 (by decide) ?_
            refine kRB (As := [.int y10, .int (nI 2)]) (rest := []) (q0 := 0) C (c_X8_leaf l D kI kC kB a h_ x.1 x.2.1 x.2.2.1 x.2.2.2.1 x.2.2.2.2.1 x.2.2.2.2.2.1 x.2.2.2.2.2.2.1 x.2.2.2.2.2.2.2.1 x.2.2.2.2.2.2.2.2.1 x.2.2.2.2.2.2.2.2.2.1 x.2.2.2.2.2.2.2.2.2.2.1 x.2.2.2.2.2.2.2.2.2.2.2.1 x.2.2.2.2.2.2.2.2.2.2.2.2.1 x.2.2.2.2.2.2.2.2.2.2.2.2.2.1 x.2.2.2.2.2.2.2.2.2.2.2.2.2.2.1 x.2.2.2.2.2.2.2.2.2.2.2.2.2.2.2.1 x.2.2.2.2.2.2.2.2.2.2.2.2.2.2.2.2.1 x.2.2.2.2.2.2.2.2.2.2.2.2.2.2.2.2.2.1 x.2.2.2.2.2.2.2.2.2.2.2.2.2.2.2.2.2.2.1 x.2.2.2.2.2.2.2.2.2.2.2.2.2.2.2.2.2.2.2.1 x.2.2.2.2.2.2.2.2.2.2.2.2.2.2.2.2.2.2.2.2.1 x.2.2.2.2.2.2.2.2.2.2.2.2.2.2.2.2.2.2.2.2.2.1 x.2.2.2.2.2.2.2.2.2.2.2.2.2.2.2.2.2.2.2.2.2.2 y10 (nI 2) _ hw) ⟨rfl, rfl⟩ ce_X8_leaf cv_X8_leaf tw_505 ⟨(Nat.le_of_ble_eq_true rfl), (Nat.le_of_ble_eq_true rfl)⟩ hP (bfl_p1 [_] 0 rfl) rfl rfl rfl hl.1 rfl (Nat.le_of_ble_eq_true rfl) ⟨(Nat.le_of_ble_eq_true rfl), (Nat.le_of_ble_eq_true rfl)⟩ dL_hangs_246 (fun r16 hw => ?_)
            refine lv_iconst (v := (nI 1)) hx hb dL_hangs_249 (by decide) ?_
            refine lv_icmp_ne (tgt := 257) hx hb dL_hangs_250 (by decide) (fun hc => ?_) (fun hc => ?_)
            · replace hw := hw.2 hc
              refine lv_iconst (v := (nI 0)) hx hb dL_hangs_257 (by decide) ?_
              exact cj_L_hangs_258 l D kI kC kB a h_ x v1 v2 v3 v4 v5 v7 v8 v10 y13 v12 y10 r11 Post hA C _ hK36 _ ih (nI 0) hw H locs hP hD hS ls (lv_sub hl [3, 4, 5, 6, 7, 8, 10, 11, 12, 0, 13, 2, 1] rfl)
            · replace hw := hw.1 hc
              refine lv_iconst (v := (nI 1)) hx hb dL_hangs_253 (by decide) ?_
              refine lv_goto (tgt := 258) hx hb dL_hangs_254 (by decide) ?_
              exact cj_L_hangs_258 l D kI kC kB a h_ x v1 v2 v3 v4 v5 v7 v8 v10 y13 v12 y10 r11 Post hA C _ hK36 _ ih (nI 1) hw H locs hP hD hS ls (lv_sub hl [3, 4, 5, 6, 7, 8, 10, 11, 12, 0, 13, 2, 1] rfl)
set_option maxHeartbeats 4000000 in
set_option maxRecDepth 100000 in
theorem cj_L_hangs_161 (l : Launch) (D : va_G) (kI kC kB : ClassId) (a : AdT) (h_ : Nat → AdT) (x : XS) (v1 : Int32) (v2 : Int32) (v3 : Int32) (v4 : Int32) (v5 : Int32) (v7 : Int32) (v8 : Int32) (v10 : Int32) (Post : Int32 → XS → Prop) {p : Program} {e : Env} {s : State} {m : MethodId} {args : Array Value} {below : List Frame} {meth : Method} {c : Code} {A : Nat → Prop} (hA : ∀ q : Nat, s.heap.size ≤ q → A q) (C : CtxT p s m args meth c cL_hangs 16 (some .boolean) yL_hangs.cls D kI kC kB) (K36 : Int32 → Int32 → Int32 → Int32 → Int32 → Int32 → Prop) (hK36 : ∀ (v2 : Int32) (v3 : Int32) (v4 : Int32) (v5 : Int32) (v6 : Int32) (v7 : Int32), K36 v2 v3 v4 v5 v6 v7 → ∀ (H : Heap) (locs : List Loc), va_P D vwCl (bfl [cwX kI kB a h_ x]) H → va_D A (bfl [cwX kI kB a h_ x]) → va_S A s.heap H locs → ∀ (ls : Array Slot), lv_has ls 16 [(0, .ref (a 0)), (1, .int v1), (2, .int v2), (3, .int v3), (4, .int v4), (5, .int v5), (6, .int v6), (7, .int v7)] → W p l e ({ frames := 7, cells := 0, slots := 0, locals := 154 } : Room) s m args below meth c H locs 0 0 (MQ below (va_Qi (fun (r : Int32) (u : (Nat → AdT) × XS) => Post r u.2) (BB D A (fun u : (Nat → AdT) × XS => cwX kI kB a u.1 u.2)) A) args s 0 0 A) (F0 m 36 ls [])) : ∀ (t0 : Int32) (t1 : Int32), wj_L_hangs_161 x v1 v2 v3 v4 v5 v7 v8 v10 t0 t1 K36 Post → ∀ (H : Heap) (locs : List Loc), va_P D vwCl (bfl [cwX kI kB a h_ x]) H → va_D A (bfl [cwX kI kB a h_ x]) → va_S A s.heap H locs → ∀ (ls : Array Slot), lv_has ls 16 [(0, .ref (a 0)), (1, .int v1), (2, .int v2), (3, .int v3), (4, .int v4), (5, .int v5), (7, .int v7), (8, .int v8), (10, .int v10)] → W p l e ({ frames := 7, cells := 0, slots := 0, locals := 154 } : Room) s m args below meth c H locs 0 0 (MQ below (va_Qi (fun (r : Int32) (u : (Nat → AdT) × XS) => Post r u.2) (BB D A (fun u : (Nat → AdT) × XS => cwX kI kB a u.1 u.2)) A) args s 0 0 A) (F0 m 161 ls [.int t1, .int t0]) := by
  obtain ⟨hx, hb, hr, hml, hown, hts, hlocks, hK⟩ := id C
  intro t0 t1 hw H locs hP hD hS ls hl
  unfold wj_L_hangs_161 at hw
  refine lv_icmp_gt (tgt := 168) hx hb dL_hangs_161 (by decide) (fun hc => ?_) (fun hc => ?_)
  · replace hw := hw.1 hc
    refine lv_iconst (v := (nI 0)) hx hb dL_hangs_168 (by decide) ?_
    refine lv_istore (lv' := [(6, .int (nI 0)), (0, .ref (a 0)), (1, .int v1), (2, .int v2), (3, .int v3), (4, .int v4), (5, .int v5), (7, .int v7), (8, .int v8), (10, .int v10)]) hx hb dL_hangs_169 hl (by decide) rfl (fun ls hl => ?_)
    refine lv_iconst (v := (nI 0)) hx hb dL_hangs_171 (by decide) ?_
    refine lv_istore (lv' := [(11, .int (nI 0)), (6, .int (nI 0)), (0, .ref (a 0)), (1, .int v1), (2, .int v2), (3, .int v3), (4, .int v4), (5, .int v5), (7, .int v7), (8, .int v8), (10, .int v10)]) hx hb dL_hangs_172 hl (by decide) rfl (fun ls hl => ?_)
    refine lv_iconst (v := (nI 1)) hx hb dL_hangs_174 (by decide) ?_
    refine lv_istore (lv' := [(12, .int (nI 1)), (11, .int (nI 0)), (6, .int (nI 0)), (0, .ref (a 0)), (1, .int v1), (2, .int v2), (3, .int v3), (4, .int v4), (5, .int v5), (7, .int v7), (8, .int v8), (10, .int v10)]) hx hb dL_hangs_175 hl (by decide) rfl (fun ls hl => ?_)
    obtain ⟨n9, hw⟩ := hw
    exact cl_L_hangs_177 l D kI kC kB a h_ x v1 v2 v3 v4 v5 v7 v8 v10 Post hA C _ hK36 n9 (nI 0) (nI 0) (nI 1) hw H locs hP hD hS ls (lv_sub hl [3, 4, 5, 6, 7, 8, 2, 9, 10, 11, 1, 0] rfl)
  · replace hw := hw.2 hc
    refine lv_iconst (v := (nI 1)) hx hb dL_hangs_164 (by decide) ?_
    refine lv_goto (tgt := 169) hx hb dL_hangs_165 (by decide) ?_
    refine lv_istore (lv' := [(6, .int (nI 1)), (0, .ref (a 0)), (1, .int v1), (2, .int v2), (3, .int v3), (4, .int v4), (5, .int v5), (7, .int v7), (8, .int v8), (10, .int v10)]) hx hb dL_hangs_169 hl (by decide) rfl (fun ls hl => ?_)
    refine lv_iconst (v := (nI 0)) hx hb dL_hangs_171 (by decide) ?_
    refine lv_istore (lv' := [(11, .int (nI 0)), (6, .int (nI 1)), (0, .ref (a 0)), (1, .int v1), (2, .int v2), (3, .int v3), (4, .int v4), (5, .int v5), (7, .int v7), (8, .int v8), (10, .int v10)]) hx hb dL_hangs_172 hl (by decide) rfl (fun ls hl => ?_)
    refine lv_iconst (v := (nI 1)) hx hb dL_hangs_174 (by decide) ?_
    refine lv_istore (lv' := [(12, .int (nI 1)), (11, .int (nI 0)), (6, .int (nI 1)), (0, .ref (a 0)), (1, .int v1), (2, .int v2), (3, .int v3), (4, .int v4), (5, .int v5), (7, .int v7), (8, .int v8), (10, .int v10)]) hx hb dL_hangs_175 hl (by decide) rfl (fun ls hl => ?_)
    obtain ⟨n9, hw⟩ := hw
    exact cl_L_hangs_177 l D kI kC kB a h_ x v1 v2 v3 v4 v5 v7 v8 v10 Post hA C _ hK36 n9 (nI 1) (nI 0) (nI 1) hw H locs hP hD hS ls (lv_sub hl [3, 4, 5, 6, 7, 8, 2, 9, 10, 11, 1, 0] rfl)
set_option maxHeartbeats 4000000 in
set_option maxRecDepth 100000 in
theorem cj_L_hangs_82 (l : Launch) (D : va_G) (kI kC kB : ClassId) (a : AdT) (h_ : Nat → AdT) (x : XS) (v1 : Int32) (v2 : Int32) (v3 : Int32) (v4 : Int32) (v5 : Int32) (v7 : Int32) (v8 : Int32) (v9 : Int32) (Post : Int32 → XS → Prop) {p : Program} {e : Env} {s : State} {m : MethodId} {args : Array Value} {below : List Frame} {meth : Method} {c : Code} {A : Nat → Prop} (hA : ∀ q : Nat, s.heap.size ≤ q → A q) (C : CtxT p s m args meth c cL_hangs 16 (some .boolean) yL_hangs.cls D kI kC kB) (K36 : Int32 → Int32 → Int32 → Int32 → Int32 → Int32 → Prop) (hK36 : ∀ (v2 : Int32) (v3 : Int32) (v4 : Int32) (v5 : Int32) (v6 : Int32) (v7 : Int32), K36 v2 v3 v4 v5 v6 v7 → ∀ (H : Heap) (locs : List Loc), va_P D vwCl (bfl [cwX kI kB a h_ x]) H → va_D A (bfl [cwX kI kB a h_ x]) → va_S A s.heap H locs → ∀ (ls : Array Slot), lv_has ls 16 [(0, .ref (a 0)), (1, .int v1), (2, .int v2), (3, .int v3), (4, .int v4), (5, .int v5), (6, .int v6), (7, .int v7)] → W p l e ({ frames := 7, cells := 0, slots := 0, locals := 154 } : Room) s m args below meth c H locs 0 0 (MQ below (va_Qi (fun (r : Int32) (u : (Nat → AdT) × XS) => Post r u.2) (BB D A (fun u : (Nat → AdT) × XS => cwX kI kB a u.1 u.2)) A) args s 0 0 A) (F0 m 36 ls [])) : ∀ (t0 : Int32), wj_L_hangs_82 x v1 v2 v3 v4 v5 v7 v8 v9 t0 K36 Post → ∀ (H : Heap) (locs : List Loc), va_P D vwCl (bfl [cwX kI kB a h_ x]) H → va_D A (bfl [cwX kI kB a h_ x]) → va_S A s.heap H locs → ∀ (ls : Array Slot), lv_has ls 16 [(0, .ref (a 0)), (1, .int v1), (2, .int v2), (3, .int v3), (4, .int v4), (5, .int v5), (7, .int v7), (8, .int v8), (9, .int v9)] → W p l e ({ frames := 7, cells := 0, slots := 0, locals := 154 } : Room) s m args below meth c H locs 0 0 (MQ below (va_Qi (fun (r : Int32) (u : (Nat → AdT) × XS) => Post r u.2) (BB D A (fun u : (Nat → AdT) × XS => cwX kI kB a u.1 u.2)) A) args s 0 0 A) (F0 m 82 ls [.int t0]) := by
  obtain ⟨hx, hb, hr, hml, hown, hts, hlocks, hK⟩ := id C
  intro t0 hw H locs hP hD hS ls hl
  unfold wj_L_hangs_82 at hw
  refine lv_istore (lv' := [(10, .int t0), (0, .ref (a 0)), (1, .int v1), (2, .int v2), (3, .int v3), (4, .int v4), (5, .int v5), (7, .int v7), (8, .int v8), (9, .int v9)]) hx hb dL_hangs_82 hl (by decide) rfl (fun ls hl => ?_)
  refine lv_iload hx hb dL_hangs_84 (lv_at hl 8 rfl) ?_
  refine lv_iconst (v := (nI 1)) hx hb dL_hangs_86 (by decide) ?_
  refine lv_icmp_lt (tgt := 168) hx hb dL_hangs_87 (by decide) (fun hc => ?_) (fun hc => ?_)
  · replace hw := hw.1 hc
    refine lv_iconst (v := (nI 0)) hx hb dL_hangs_168 (by decide) ?_
    refine lv_istore (lv' := [(6, .int (nI 0)), (10, .int t0), (0, .ref (a 0)), (1, .int v1), (2, .int v2), (3, .int v3), (4, .int v4), (5, .int v5), (7, .int v7), (8, .int v8), (9, .int v9)]) hx hb dL_hangs_169 hl (by decide) rfl (fun ls hl => ?_)
    refine lv_iconst (v := (nI 0)) hx hb dL_hangs_171 (by decide) ?_
    refine lv_istore (lv' := [(11, .int (nI 0)), (6, .int (nI 0)), (10, .int t0), (0, .ref (a 0)), (1, .int v1), (2, .int v2), (3, .int v3), (4, .int v4), (5, .int v5), (7, .int v7), (8, .int v8), (9, .int v9)]) hx hb dL_hangs_172 hl (by decide) rfl (fun ls hl => ?_)
    refine lv_iconst (v := (nI 1)) hx hb dL_hangs_174 (by decide) ?_
    refine lv_istore (lv' := [(12, .int (nI 1)), (11, .int (nI 0)), (6, .int (nI 0)), (10, .int t0), (0, .ref (a 0)), (1, .int v1), (2, .int v2), (3, .int v3), (4, .int v4), (5, .int v5), (7, .int v7), (8, .int v8), (9, .int v9)]) hx hb dL_hangs_175 hl (by decide) rfl (fun ls hl => ?_)
    obtain ⟨n9, hw⟩ := hw
    exact cl_L_hangs_177 l D kI kC kB a h_ x v1 v2 v3 v4 v5 v7 v8 t0 Post hA C _ hK36 n9 (nI 0) (nI 0) (nI 1) hw H locs hP hD hS ls (lv_sub hl [4, 5, 6, 7, 8, 9, 2, 10, 11, 3, 1, 0] rfl)
  · replace hw := hw.2 hc
    refine lv_iload hx hb dL_hangs_90 (lv_at hl 8 rfl) ?_
    refine lv_bipush (v := (nI 24)) hx hb dL_hangs_92 (by decide) ?_
    refine lv_icmp_gt (tgt := 168) hx hb dL_hangs_94 (by decide) (fun hc => ?_) (fun hc => ?_)
    · replace hw := hw.1 hc
      refine lv_iconst (v := (nI 0)) hx hb dL_hangs_168 (by decide) ?_
      refine lv_istore (lv' := [(6, .int (nI 0)), (10, .int t0), (0, .ref (a 0)), (1, .int v1), (2, .int v2), (3, .int v3), (4, .int v4), (5, .int v5), (7, .int v7), (8, .int v8), (9, .int v9)]) hx hb dL_hangs_169 hl (by decide) rfl (fun ls hl => ?_)
      refine lv_iconst (v := (nI 0)) hx hb dL_hangs_171 (by decide) ?_
      refine lv_istore (lv' := [(11, .int (nI 0)), (6, .int (nI 0)), (10, .int t0), (0, .ref (a 0)), (1, .int v1), (2, .int v2), (3, .int v3), (4, .int v4), (5, .int v5), (7, .int v7), (8, .int v8), (9, .int v9)]) hx hb dL_hangs_172 hl (by decide) rfl (fun ls hl => ?_)
      refine lv_iconst (v := (nI 1)) hx hb dL_hangs_174 (by decide) ?_
      refine lv_istore (lv' := [(12, .int (nI 1)), (11, .int (nI 0)), (6, .int (nI 0)), (10, .int t0), (0, .ref (a 0)), (1, .int v1), (2, .int v2), (3, .int v3), (4, .int v4), (5, .int v5), (7, .int v7), (8, .int v8), (9, .int v9)]) hx hb dL_hangs_175 hl (by decide) rfl (fun ls hl => ?_)
      obtain ⟨n9, hw⟩ := hw
      exact cl_L_hangs_177 l D kI kC kB a h_ x v1 v2 v3 v4 v5 v7 v8 t0 Post hA C _ hK36 n9 (nI 0) (nI 0) (nI 1) hw H locs hP hD hS ls (lv_sub hl [4, 5, 6, 7, 8, 9, 2, 10, 11, 3, 1, 0] rfl)
    · replace hw := hw.2 hc
      refine lv_aload_n hx hb dL_hangs_97 rfl (lv_at hl 1 rfl) ?_
      refine lv_iload hx hb dL_hangs_98 (lv_at hl 7 rfl) ?_
      refine lv_iconst (v := (nI 3)) hx hb dL_hangs_100 (by decide) ?_
      refine kRB (As := [.int v7, .int (nI 3)]) (rest := []) (q0 := 0) C (c_X8_quire l D kI kC kB a h_ x.1 x.2.1 x.2.2.1 x.2.2.2.1 x.2.2.2.2.1 x.2.2.2.2.2.1 x.2.2.2.2.2.2.1 x.2.2.2.2.2.2.2.1 x.2.2.2.2.2.2.2.2.1 x.2.2.2.2.2.2.2.2.2.1 x.2.2.2.2.2.2.2.2.2.2.1 x.2.2.2.2.2.2.2.2.2.2.2.1 x.2.2.2.2.2.2.2.2.2.2.2.2.1 x.2.2.2.2.2.2.2.2.2.2.2.2.2.1 x.2.2.2.2.2.2.2.2.2.2.2.2.2.2.1 x.2.2.2.2.2.2.2.2.2.2.2.2.2.2.2.1 x.2.2.2.2.2.2.2.2.2.2.2.2.2.2.2.2.1 x.2.2.2.2.2.2.2.2.2.2.2.2.2.2.2.2.2.1 x.2.2.2.2.2.2.2.2.2.2.2.2.2.2.2.2.2.2.1 x.2.2.2.2.2.2.2.2.2.2.2.2.2.2.2.2.2.2.2.1 x.2.2.2.2.2.2.2.2.2.2.2.2.2.2.2.2.2.2.2.2.1 x.2.2.2.2.2.2.2.2.2.2.2.2.2.2.2.2.2.2.2.2.2.1 x.2.2.2.2.2.2.2.2.2.2.2.2.2.2.2.2.2.2.2.2.2.2 v7 (nI 3) _ hw) ⟨rfl, rfl⟩ ce_X8_quire cv_X8_quire tw_488 ⟨(Nat.le_of_ble_eq_true rfl), (Nat.le_of_ble_eq_true rfl)⟩ hP (bfl_p1 [_] 0 rfl) rfl rfl rfl hl.1 rfl (Nat.le_of_ble_eq_true rfl) ⟨(Nat.le_of_ble_eq_true rfl), (Nat.le_of_ble_eq_true rfl)⟩ dL_hangs_101 (fun r17 hw => ?_)
      refine lv_iload_n hx hb dL_hangs_104 rfl (lv_at hl 3 rfl) ?_
      refine lv_icmp_ne (tgt := 168) hx hb dL_hangs_105 (by decide) (fun hc => ?_) (fun hc => ?_)
      · replace hw := hw.2 hc
        refine lv_iconst (v := (nI 0)) hx hb dL_hangs_168 (by decide) ?_
        refine lv_istore (lv' := [(6, .int (nI 0)), (10, .int t0), (0, .ref (a 0)), (1, .int v1), (2, .int v2), (3, .int v3), (4, .int v4), (5, .int v5), (7, .int v7), (8, .int v8), (9, .int v9)]) hx hb dL_hangs_169 hl (by decide) rfl (fun ls hl => ?_)
        refine lv_iconst (v := (nI 0)) hx hb dL_hangs_171 (by decide) ?_
        refine lv_istore (lv' := [(11, .int (nI 0)), (6, .int (nI 0)), (10, .int t0), (0, .ref (a 0)), (1, .int v1), (2, .int v2), (3, .int v3), (4, .int v4), (5, .int v5), (7, .int v7), (8, .int v8), (9, .int v9)]) hx hb dL_hangs_172 hl (by decide) rfl (fun ls hl => ?_)
        refine lv_iconst (v := (nI 1)) hx hb dL_hangs_174 (by decide) ?_
        refine lv_istore (lv' := [(12, .int (nI 1)), (11, .int (nI 0)), (6, .int (nI 0)), (10, .int t0), (0, .ref (a 0)), (1, .int v1), (2, .int v2), (3, .int v3), (4, .int v4), (5, .int v5), (7, .int v7), (8, .int v8), (9, .int v9)]) hx hb dL_hangs_175 hl (by decide) rfl (fun ls hl => ?_)
        obtain ⟨n9, hw⟩ := hw
        exact cl_L_hangs_177 l D kI kC kB a h_ x v1 v2 v3 v4 v5 v7 v8 t0 Post hA C _ hK36 n9 (nI 0) (nI 0) (nI 1) hw H locs hP hD hS ls (lv_sub hl [4, 5, 6, 7, 8, 9, 2, 10, 11, 3, 1, 0] rfl)
      · replace hw := hw.1 hc
        refine lv_aload_n hx hb dL_hangs_108 rfl (lv_at hl 1 rfl) ?_
        refine lv_iload hx hb dL_hangs_109 (lv_at hl 7 rfl) ?_
        refine lv_iconst (v := (nI 4)) hx hb dL_hangs_111 (by decide) ?_
        refine kRB (As := [.int v7, .int (nI 4)]) (rest := []) (q0 := 0) C (c_X8_quire l D kI kC kB a h_ x.1 x.2.1 x.2.2.1 x.2.2.2.1 x.2.2.2.2.1 x.2.2.2.2.2.1 x.2.2.2.2.2.2.1 x.2.2.2.2.2.2.2.1 x.2.2.2.2.2.2.2.2.1 x.2.2.2.2.2.2.2.2.2.1 x.2.2.2.2.2.2.2.2.2.2.1 x.2.2.2.2.2.2.2.2.2.2.2.1 x.2.2.2.2.2.2.2.2.2.2.2.2.1 x.2.2.2.2.2.2.2.2.2.2.2.2.2.1 x.2.2.2.2.2.2.2.2.2.2.2.2.2.2.1 x.2.2.2.2.2.2.2.2.2.2.2.2.2.2.2.1 x.2.2.2.2.2.2.2.2.2.2.2.2.2.2.2.2.1 x.2.2.2.2.2.2.2.2.2.2.2.2.2.2.2.2.2.1 x.2.2.2.2.2.2.2.2.2.2.2.2.2.2.2.2.2.2.1 x.2.2.2.2.2.2.2.2.2.2.2.2.2.2.2.2.2.2.2.1 x.2.2.2.2.2.2.2.2.2.2.2.2.2.2.2.2.2.2.2.2.1 x.2.2.2.2.2.2.2.2.2.2.2.2.2.2.2.2.2.2.2.2.2.1 x.2.2.2.2.2.2.2.2.2.2.2.2.2.2.2.2.2.2.2.2.2.2 v7 (nI 4) _ hw) ⟨rfl, rfl⟩ ce_X8_quire cv_X8_quire tw_488 ⟨(Nat.le_of_ble_eq_true rfl), (Nat.le_of_ble_eq_true rfl)⟩ hP (bfl_p1 [_] 0 rfl) rfl rfl rfl hl.1 rfl (Nat.le_of_ble_eq_true rfl) ⟨(Nat.le_of_ble_eq_true rfl), (Nat.le_of_ble_eq_true rfl)⟩ dL_hangs_112 (fun r18 hw => ?_)
        refine lv_iconst (v := (nI 1)) hx hb dL_hangs_115 (by decide) ?_
        refine lv_icmp_lt (tgt := 168) hx hb dL_hangs_116 (by decide) (fun hc => ?_) (fun hc => ?_)
        · replace hw := hw.1 hc
          refine lv_iconst (v := (nI 0)) hx hb dL_hangs_168 (by decide) ?_
          refine lv_istore (lv' := [(6, .int (nI 0)), (10, .int t0), (0, .ref (a 0)), (1, .int v1), (2, .int v2), (3, .int v3), (4, .int v4), (5, .int v5), (7, .int v7), (8, .int v8), (9, .int v9)]) hx hb dL_hangs_169 hl (by decide) rfl (fun ls hl => ?_)
          refine lv_iconst (v := (nI 0)) hx hb dL_hangs_171 (by decide) ?_
          refine lv_istore (lv' := [(11, .int (nI 0)), (6, .int (nI 0)), (10, .int t0), (0, .ref (a 0)), (1, .int v1), (2, .int v2), (3, .int v3), (4, .int v4), (5, .int v5), (7, .int v7), (8, .int v8), (9, .int v9)]) hx hb dL_hangs_172 hl (by decide) rfl (fun ls hl => ?_)
          refine lv_iconst (v := (nI 1)) hx hb dL_hangs_174 (by decide) ?_
          refine lv_istore (lv' := [(12, .int (nI 1)), (11, .int (nI 0)), (6, .int (nI 0)), (10, .int t0), (0, .ref (a 0)), (1, .int v1), (2, .int v2), (3, .int v3), (4, .int v4), (5, .int v5), (7, .int v7), (8, .int v8), (9, .int v9)]) hx hb dL_hangs_175 hl (by decide) rfl (fun ls hl => ?_)
          obtain ⟨n9, hw⟩ := hw
          exact cl_L_hangs_177 l D kI kC kB a h_ x v1 v2 v3 v4 v5 v7 v8 t0 Post hA C _ hK36 n9 (nI 0) (nI 0) (nI 1) hw H locs hP hD hS ls (lv_sub hl [4, 5, 6, 7, 8, 9, 2, 10, 11, 3, 1, 0] rfl)
        · replace hw := hw.2 hc
          refine lv_aload_n hx hb dL_hangs_119 rfl (lv_at hl 1 rfl) ?_
          refine lv_iload hx hb dL_hangs_120 (lv_at hl 7 rfl) ?_
          refine lv_iconst (v := (nI 4)) hx hb dL_hangs_122 (by decide) ?_
          refine kRB (As := [.int v7, .int (nI 4)]) (rest := []) (q0 := 0) C (c_X8_quire l D kI kC kB a h_ x.1 x.2.1 x.2.2.1 x.2.2.2.1 x.2.2.2.2.1 x.2.2.2.2.2.1 x.2.2.2.2.2.2.1 x.2.2.2.2.2.2.2.1 x.2.2.2.2.2.2.2.2.1 x.2.2.2.2.2.2.2.2.2.1 x.2.2.2.2.2.2.2.2.2.2.1 x.2.2.2.2.2.2.2.2.2.2.2.1 x.2.2.2.2.2.2.2.2.2.2.2.2.1 x.2.2.2.2.2.2.2.2.2.2.2.2.2.1 x.2.2.2.2.2.2.2.2.2.2.2.2.2.2.1 x.2.2.2.2.2.2.2.2.2.2.2.2.2.2.2.1 x.2.2.2.2.2.2.2.2.2.2.2.2.2.2.2.2.1 x.2.2.2.2.2.2.2.2.2.2.2.2.2.2.2.2.2.1 x.2.2.2.2.2.2.2.2.2.2.2.2.2.2.2.2.2.2.1 x.2.2.2.2.2.2.2.2.2.2.2.2.2.2.2.2.2.2.2.1 x.2.2.2.2.2.2.2.2.2.2.2.2.2.2.2.2.2.2.2.2.1 x.2.2.2.2.2.2.2.2.2.2.2.2.2.2.2.2.2.2.2.2.2.1 x.2.2.2.2.2.2.2.2.2.2.2.2.2.2.2.2.2.2.2.2.2.2 v7 (nI 4) _ hw) ⟨rfl, rfl⟩ ce_X8_quire cv_X8_quire tw_488 ⟨(Nat.le_of_ble_eq_true rfl), (Nat.le_of_ble_eq_true rfl)⟩ hP (bfl_p1 [_] 0 rfl) rfl rfl rfl hl.1 rfl (Nat.le_of_ble_eq_true rfl) ⟨(Nat.le_of_ble_eq_true rfl), (Nat.le_of_ble_eq_true rfl)⟩ dL_hangs_123 (fun r19 hw => ?_)
          refine lv_iload hx hb dL_hangs_126 (lv_at hl 8 rfl) ?_
          refine lv_icmp_gt (tgt := 168) hx hb dL_hangs_128 (by decide) (fun hc => ?_) (fun hc => ?_)
          · replace hw := hw.1 hc
            refine lv_iconst (v := (nI 0)) hx hb dL_hangs_168 (by decide) ?_
            refine lv_istore (lv' := [(6, .int (nI 0)), (10, .int t0), (0, .ref (a 0)), (1, .int v1), (2, .int v2), (3, .int v3), (4, .int v4), (5, .int v5), (7, .int v7), (8, .int v8), (9, .int v9)]) hx hb dL_hangs_169 hl (by decide) rfl (fun ls hl => ?_)
            refine lv_iconst (v := (nI 0)) hx hb dL_hangs_171 (by decide) ?_
            refine lv_istore (lv' := [(11, .int (nI 0)), (6, .int (nI 0)), (10, .int t0), (0, .ref (a 0)), (1, .int v1), (2, .int v2), (3, .int v3), (4, .int v4), (5, .int v5), (7, .int v7), (8, .int v8), (9, .int v9)]) hx hb dL_hangs_172 hl (by decide) rfl (fun ls hl => ?_)
            refine lv_iconst (v := (nI 1)) hx hb dL_hangs_174 (by decide) ?_
            refine lv_istore (lv' := [(12, .int (nI 1)), (11, .int (nI 0)), (6, .int (nI 0)), (10, .int t0), (0, .ref (a 0)), (1, .int v1), (2, .int v2), (3, .int v3), (4, .int v4), (5, .int v5), (7, .int v7), (8, .int v8), (9, .int v9)]) hx hb dL_hangs_175 hl (by decide) rfl (fun ls hl => ?_)
            obtain ⟨n9, hw⟩ := hw
            exact cl_L_hangs_177 l D kI kC kB a h_ x v1 v2 v3 v4 v5 v7 v8 t0 Post hA C _ hK36 n9 (nI 0) (nI 0) (nI 1) hw H locs hP hD hS ls (lv_sub hl [4, 5, 6, 7, 8, 9, 2, 10, 11, 3, 1, 0] rfl)
          · replace hw := hw.2 hc
            refine lv_aload_n hx hb dL_hangs_131 rfl (lv_at hl 1 rfl) ?_
            refine lv_iload hx hb dL_hangs_132 (lv_at hl 7 rfl) ?_
            refine lv_iconst (v := (nI 5)) hx hb dL_hangs_134 (by decide) ?_
            refine kRB (As := [.int v7, .int (nI 5)]) (rest := []) (q0 := 0) C (c_X8_quire l D kI kC kB a h_ x.1 x.2.1 x.2.2.1 x.2.2.2.1 x.2.2.2.2.1 x.2.2.2.2.2.1 x.2.2.2.2.2.2.1 x.2.2.2.2.2.2.2.1 x.2.2.2.2.2.2.2.2.1 x.2.2.2.2.2.2.2.2.2.1 x.2.2.2.2.2.2.2.2.2.2.1 x.2.2.2.2.2.2.2.2.2.2.2.1 x.2.2.2.2.2.2.2.2.2.2.2.2.1 x.2.2.2.2.2.2.2.2.2.2.2.2.2.1 x.2.2.2.2.2.2.2.2.2.2.2.2.2.2.1 x.2.2.2.2.2.2.2.2.2.2.2.2.2.2.2.1 x.2.2.2.2.2.2.2.2.2.2.2.2.2.2.2.2.1 x.2.2.2.2.2.2.2.2.2.2.2.2.2.2.2.2.2.1 x.2.2.2.2.2.2.2.2.2.2.2.2.2.2.2.2.2.2.1 x.2.2.2.2.2.2.2.2.2.2.2.2.2.2.2.2.2.2.2.1 x.2.2.2.2.2.2.2.2.2.2.2.2.2.2.2.2.2.2.2.2.1 x.2.2.2.2.2.2.2.2.2.2.2.2.2.2.2.2.2.2.2.2.2.1 x.2.2.2.2.2.2.2.2.2.2.2.2.2.2.2.2.2.2.2.2.2.2 v7 (nI 5) _ hw) ⟨rfl, rfl⟩ ce_X8_quire cv_X8_quire tw_488 ⟨(Nat.le_of_ble_eq_true rfl), (Nat.le_of_ble_eq_true rfl)⟩ hP (bfl_p1 [_] 0 rfl) rfl rfl rfl hl.1 rfl (Nat.le_of_ble_eq_true rfl) ⟨(Nat.le_of_ble_eq_true rfl), (Nat.le_of_ble_eq_true rfl)⟩ dL_hangs_135 (fun r20 hw => ?_)
            refine lv_iload hx hb dL_hangs_138 (lv_at hl 8 rfl) ?_
            refine lv_icmp_gt (tgt := 168) hx hb dL_hangs_140 (by decide) (fun hc => ?_) (fun hc => ?_)
            · replace hw := hw.1 hc
              refine lv_iconst (v := (nI 0)) hx hb dL_hangs_168 (by decide) ?_
              refine lv_istore (lv' := [(6, .int (nI 0)), (10, .int t0), (0, .ref (a 0)), (1, .int v1), (2, .int v2), (3, .int v3), (4, .int v4), (5, .int v5), (7, .int v7), (8, .int v8), (9, .int v9)]) hx hb dL_hangs_169 hl (by decide) rfl (fun ls hl => ?_)
              refine lv_iconst (v := (nI 0)) hx hb dL_hangs_171 (by decide) ?_
              refine lv_istore (lv' := [(11, .int (nI 0)), (6, .int (nI 0)), (10, .int t0), (0, .ref (a 0)), (1, .int v1), (2, .int v2), (3, .int v3), (4, .int v4), (5, .int v5), (7, .int v7), (8, .int v8), (9, .int v9)]) hx hb dL_hangs_172 hl (by decide) rfl (fun ls hl => ?_)
              refine lv_iconst (v := (nI 1)) hx hb dL_hangs_174 (by decide) ?_
              refine lv_istore (lv' := [(12, .int (nI 1)), (11, .int (nI 0)), (6, .int (nI 0)), (10, .int t0), (0, .ref (a 0)), (1, .int v1), (2, .int v2), (3, .int v3), (4, .int v4), (5, .int v5), (7, .int v7), (8, .int v8), (9, .int v9)]) hx hb dL_hangs_175 hl (by decide) rfl (fun ls hl => ?_)
              obtain ⟨n9, hw⟩ := hw
              exact cl_L_hangs_177 l D kI kC kB a h_ x v1 v2 v3 v4 v5 v7 v8 t0 Post hA C _ hK36 n9 (nI 0) (nI 0) (nI 1) hw H locs hP hD hS ls (lv_sub hl [4, 5, 6, 7, 8, 9, 2, 10, 11, 3, 1, 0] rfl)
            · replace hw := hw.2 hc
              refine lv_iload hx hb dL_hangs_143 (lv_at hl 9 rfl) ?_
              refine lv_iconst (v := (nI 1)) hx hb dL_hangs_145 (by decide) ?_
              refine lv_icmp_lt (tgt := 168) hx hb dL_hangs_146 (by decide) (fun hc => ?_) (fun hc => ?_)
              · replace hw := hw.1 hc
                refine lv_iconst (v := (nI 0)) hx hb dL_hangs_168 (by decide) ?_
                refine lv_istore (lv' := [(6, .int (nI 0)), (10, .int t0), (0, .ref (a 0)), (1, .int v1), (2, .int v2), (3, .int v3), (4, .int v4), (5, .int v5), (7, .int v7), (8, .int v8), (9, .int v9)]) hx hb dL_hangs_169 hl (by decide) rfl (fun ls hl => ?_)
                refine lv_iconst (v := (nI 0)) hx hb dL_hangs_171 (by decide) ?_
                refine lv_istore (lv' := [(11, .int (nI 0)), (6, .int (nI 0)), (10, .int t0), (0, .ref (a 0)), (1, .int v1), (2, .int v2), (3, .int v3), (4, .int v4), (5, .int v5), (7, .int v7), (8, .int v8), (9, .int v9)]) hx hb dL_hangs_172 hl (by decide) rfl (fun ls hl => ?_)
                refine lv_iconst (v := (nI 1)) hx hb dL_hangs_174 (by decide) ?_
                refine lv_istore (lv' := [(12, .int (nI 1)), (11, .int (nI 0)), (6, .int (nI 0)), (10, .int t0), (0, .ref (a 0)), (1, .int v1), (2, .int v2), (3, .int v3), (4, .int v4), (5, .int v5), (7, .int v7), (8, .int v8), (9, .int v9)]) hx hb dL_hangs_175 hl (by decide) rfl (fun ls hl => ?_)
                obtain ⟨n9, hw⟩ := hw
                exact cl_L_hangs_177 l D kI kC kB a h_ x v1 v2 v3 v4 v5 v7 v8 t0 Post hA C _ hK36 n9 (nI 0) (nI 0) (nI 1) hw H locs hP hD hS ls (lv_sub hl [4, 5, 6, 7, 8, 9, 2, 10, 11, 3, 1, 0] rfl)
              · replace hw := hw.2 hc
                refine lv_iload hx hb dL_hangs_149 (lv_at hl 9 rfl) ?_
                refine lv_iload hx hb dL_hangs_151 (lv_at hl 0 rfl) ?_
                refine lv_if_eq (tgt := 160) hx hb dL_hangs_153 (by decide) (fun hc => ?_) (fun hc => ?_)
                · replace hw := hw.1 hc
                  refine lv_iconst (v := (nI 3)) hx hb dL_hangs_160 (by decide) ?_
                  exact cj_L_hangs_161 l D kI kC kB a h_ x v1 v2 v3 v4 v5 v7 v8 t0 Post hA C _ hK36 v9 (nI 3) hw H locs hP hD hS ls (lv_sub hl [1, 2, 3, 4, 5, 6, 7, 8, 0] rfl)
                · replace hw := hw.2 hc
                  refine lv_iconst (v := (nI 5)) hx hb dL_hangs_156 (by decide) ?_
                  refine lv_goto (tgt := 161) hx hb dL_hangs_157 (by decide) ?_
                  exact cj_L_hangs_161 l D kI kC kB a h_ x v1 v2 v3 v4 v5 v7 v8 t0 Post hA C _ hK36 v9 (nI 5) hw H locs hP hD hS ls (lv_sub hl [1, 2, 3, 4, 5, 6, 7, 8, 0] rfl)
set_option maxHeartbeats 4000000 in
set_option maxRecDepth 100000 in
theorem cj_L_hangs_571 (l : Launch) (D : va_G) (kI kC kB : ClassId) (a : AdT) (h_ : Nat → AdT) (x : XS) (v1 : Int32) (v7 : Int32) (v8 : Int32) (v9 : Int32) (v10 : Int32) (Post : Int32 → XS → Prop) {p : Program} {e : Env} {s : State} {m : MethodId} {args : Array Value} {below : List Frame} {meth : Method} {c : Code} {A : Nat → Prop} (hA : ∀ q : Nat, s.heap.size ≤ q → A q) (C : CtxT p s m args meth c cL_hangs 16 (some .boolean) yL_hangs.cls D kI kC kB) (K485 : XS → Int32 → Int32 → Int32 → Prop) (hK485 : ∀ (h_ : Nat → AdT) (x : XS) (v6 : Int32) (v8 : Int32) (v9 : Int32), K485 x v6 v8 v9 → ∀ (H : Heap) (locs : List Loc), va_P D vwCl (bfl [cwX kI kB a h_ x]) H → va_D A (bfl [cwX kI kB a h_ x]) → va_S A s.heap H locs → ∀ (ls : Array Slot), lv_has ls 16 [(0, .ref (a 0)), (1, .int v1), (6, .int v6), (7, .int v7), (8, .int v8), (9, .int v9)] → W p l e ({ frames := 7, cells := 0, slots := 0, locals := 154 } : Room) s m args below meth c H locs 0 0 (MQ below (va_Qi (fun (r : Int32) (u : (Nat → AdT) × XS) => Post r u.2) (BB D A (fun u : (Nat → AdT) × XS => cwX kI kB a u.1 u.2)) A) args s 0 0 A) (F0 m 485 ls [])) : wj_L_hangs_571 x v1 v7 v8 v9 v10 K485 Post → ∀ (H : Heap) (locs : List Loc), va_P D vwCl (bfl [cwX kI kB a h_ x]) H → va_D A (bfl [cwX kI kB a h_ x]) → va_S A s.heap H locs → ∀ (ls : Array Slot), lv_has ls 16 [(0, .ref (a 0)), (1, .int v1), (7, .int v7), (8, .int v8), (9, .int v9), (10, .int v10)] → W p l e ({ frames := 7, cells := 0, slots := 0, locals := 154 } : Room) s m args below meth c H locs 0 0 (MQ below (va_Qi (fun (r : Int32) (u : (Nat → AdT) × XS) => Post r u.2) (BB D A (fun u : (Nat → AdT) × XS => cwX kI kB a u.1 u.2)) A) args s 0 0 A) (F0 m 571 ls []) := by
  obtain ⟨hx, hb, hr, hml, hown, hts, hlocks, hK⟩ := id C
  intro hw H locs hP hD hS ls hl
  unfold wj_L_hangs_571 at hw
  refine lv_iload hx hb dL_hangs_571 (lv_at hl 5 rfl) ?_
  refine lv_bipush (v := (nI 97)) hx hb dL_hangs_573 (by decide) ?_
  refine lv_icmp_lt (tgt := 589) hx hb dL_hangs_575 (by decide) (fun hc => ?_) (fun hc => ?_)
  · replace hw := hw.1 hc
    refine lv_iconst (v := (nI 0)) hx hb dL_hangs_589 (by decide) ?_
    refine lv_istore (lv' := [(6, .int (nI 0)), (0, .ref (a 0)), (1, .int v1), (7, .int v7), (8, .int v8), (9, .int v9), (10, .int v10)]) hx hb dL_hangs_590 hl (by decide) rfl (fun ls hl => ?_)
    refine lv_iinc (v := (v9 + nI 1)) (lv' := [(9, .int (v9 + nI 1)), (6, .int (nI 0)), (0, .ref (a 0)), (1, .int v1), (7, .int v7), (8, .int v8), (10, .int v10)]) hx hb dL_hangs_592 hl (k := 5) rfl rfl (by decide) rfl (fun ls hl => ?_)
    refine lv_goto (tgt := 485) hx hb dL_hangs_595 (by decide) ?_
    exact hK485 h_ x (nI 0) v8 (v9 + nI 1) hw H locs hP hD hS ls (lv_sub hl [2, 3, 1, 4, 5, 0] rfl)
  · replace hw := hw.2 hc
    refine lv_iload hx hb dL_hangs_578 (lv_at hl 5 rfl) ?_
    refine lv_bipush (v := (nI 122)) hx hb dL_hangs_580 (by decide) ?_
    refine lv_icmp_gt (tgt := 589) hx hb dL_hangs_582 (by decide) (fun hc => ?_) (fun hc => ?_)
    · replace hw := hw.1 hc
      refine lv_iconst (v := (nI 0)) hx hb dL_hangs_589 (by decide) ?_
      refine lv_istore (lv' := [(6, .int (nI 0)), (0, .ref (a 0)), (1, .int v1), (7, .int v7), (8, .int v8), (9, .int v9), (10, .int v10)]) hx hb dL_hangs_590 hl (by decide) rfl (fun ls hl => ?_)
      refine lv_iinc (v := (v9 + nI 1)) (lv' := [(9, .int (v9 + nI 1)), (6, .int (nI 0)), (0, .ref (a 0)), (1, .int v1), (7, .int v7), (8, .int v8), (10, .int v10)]) hx hb dL_hangs_592 hl (k := 5) rfl rfl (by decide) rfl (fun ls hl => ?_)
      refine lv_goto (tgt := 485) hx hb dL_hangs_595 (by decide) ?_
      exact hK485 h_ x (nI 0) v8 (v9 + nI 1) hw H locs hP hD hS ls (lv_sub hl [2, 3, 1, 4, 5, 0] rfl)
    · replace hw := hw.2 hc
      refine lv_iconst (v := (nI 1)) hx hb dL_hangs_585 (by decide) ?_
      refine lv_goto (tgt := 590) hx hb dL_hangs_586 (by decide) ?_
      refine lv_istore (lv' := [(6, .int (nI 1)), (0, .ref (a 0)), (1, .int v1), (7, .int v7), (8, .int v8), (9, .int v9), (10, .int v10)]) hx hb dL_hangs_590 hl (by decide) rfl (fun ls hl => ?_)
      refine lv_iinc (v := (v9 + nI 1)) (lv' := [(9, .int (v9 + nI 1)), (6, .int (nI 1)), (0, .ref (a 0)), (1, .int v1), (7, .int v7), (8, .int v8), (10, .int v10)]) hx hb dL_hangs_592 hl (k := 5) rfl rfl (by decide) rfl (fun ls hl => ?_)
      refine lv_goto (tgt := 485) hx hb dL_hangs_595 (by decide) ?_
      exact hK485 h_ x (nI 1) v8 (v9 + nI 1) hw H locs hP hD hS ls (lv_sub hl [2, 3, 1, 4, 5, 0] rfl)
set_option maxHeartbeats 4000000 in
set_option maxRecDepth 100000 in
theorem cj_L_hangs_557 (l : Launch) (D : va_G) (kI kC kB : ClassId) (a : AdT) (h_ : Nat → AdT) (x : XS) (v1 : Int32) (v7 : Int32) (v8 : Int32) (v9 : Int32) (v10 : Int32) (Post : Int32 → XS → Prop) {p : Program} {e : Env} {s : State} {m : MethodId} {args : Array Value} {below : List Frame} {meth : Method} {c : Code} {A : Nat → Prop} (hA : ∀ q : Nat, s.heap.size ≤ q → A q) (C : CtxT p s m args meth c cL_hangs 16 (some .boolean) yL_hangs.cls D kI kC kB) (K485 : XS → Int32 → Int32 → Int32 → Prop) (hK485 : ∀ (h_ : Nat → AdT) (x : XS) (v6 : Int32) (v8 : Int32) (v9 : Int32), K485 x v6 v8 v9 → ∀ (H : Heap) (locs : List Loc), va_P D vwCl (bfl [cwX kI kB a h_ x]) H → va_D A (bfl [cwX kI kB a h_ x]) → va_S A s.heap H locs → ∀ (ls : Array Slot), lv_has ls 16 [(0, .ref (a 0)), (1, .int v1), (6, .int v6), (7, .int v7), (8, .int v8), (9, .int v9)] → W p l e ({ frames := 7, cells := 0, slots := 0, locals := 154 } : Room) s m args below meth c H locs 0 0 (MQ below (va_Qi (fun (r : Int32) (u : (Nat → AdT) × XS) => Post r u.2) (BB D A (fun u : (Nat → AdT) × XS => cwX kI kB a u.1 u.2)) A) args s 0 0 A) (F0 m 485 ls [])) : wj_L_hangs_557 x v1 v7 v8 v9 v10 K485 Post → ∀ (H : Heap) (locs : List Loc), va_P D vwCl (bfl [cwX kI kB a h_ x]) H → va_D A (bfl [cwX kI kB a h_ x]) → va_S A s.heap H locs → ∀ (ls : Array Slot), lv_has ls 16 [(0, .ref (a 0)), (1, .int v1), (7, .int v7), (8, .int v8), (9, .int v9), (10, .int v10)] → W p l e ({ frames := 7, cells := 0, slots := 0, locals := 154 } : Room) s m args below meth c H locs 0 0 (MQ below (va_Qi (fun (r : Int32) (u : (Nat → AdT) × XS) => Post r u.2) (BB D A (fun u : (Nat → AdT) × XS => cwX kI kB a u.1 u.2)) A) args s 0 0 A) (F0 m 557 ls []) := by
  obtain ⟨hx, hb, hr, hml, hown, hts, hlocks, hK⟩ := id C
  intro hw H locs hP hD hS ls hl
  unfold wj_L_hangs_557 at hw
  refine lv_iload hx hb dL_hangs_557 (lv_at hl 5 rfl) ?_
  refine lv_bipush (v := (nI 65)) hx hb dL_hangs_559 (by decide) ?_
  refine lv_icmp_lt (tgt := 571) hx hb dL_hangs_561 (by decide) (fun hc => ?_) (fun hc => ?_)
  · replace hw := hw.1 hc
    exact cj_L_hangs_571 l D kI kC kB a h_ x v1 v7 v8 v9 v10 Post hA C _ hK485 hw H locs hP hD hS ls (lv_sub hl [0, 1, 2, 3, 4, 5] rfl)
  · replace hw := hw.2 hc
    refine lv_iload hx hb dL_hangs_564 (lv_at hl 5 rfl) ?_
    refine lv_bipush (v := (nI 90)) hx hb dL_hangs_566 (by decide) ?_
    refine lv_icmp_le (tgt := 585) hx hb dL_hangs_568 (by decide) (fun hc => ?_) (fun hc => ?_)
    · replace hw := hw.1 hc
      refine lv_iconst (v := (nI 1)) hx hb dL_hangs_585 (by decide) ?_
      refine lv_goto (tgt := 590) hx hb dL_hangs_586 (by decide) ?_
      refine lv_istore (lv' := [(6, .int (nI 1)), (0, .ref (a 0)), (1, .int v1), (7, .int v7), (8, .int v8), (9, .int v9), (10, .int v10)]) hx hb dL_hangs_590 hl (by decide) rfl (fun ls hl => ?_)
      refine lv_iinc (v := (v9 + nI 1)) (lv' := [(9, .int (v9 + nI 1)), (6, .int (nI 1)), (0, .ref (a 0)), (1, .int v1), (7, .int v7), (8, .int v8), (10, .int v10)]) hx hb dL_hangs_592 hl (k := 5) rfl rfl (by decide) rfl (fun ls hl => ?_)
      refine lv_goto (tgt := 485) hx hb dL_hangs_595 (by decide) ?_
      exact hK485 h_ x (nI 1) v8 (v9 + nI 1) hw H locs hP hD hS ls (lv_sub hl [2, 3, 1, 4, 5, 0] rfl)
    · replace hw := hw.2 hc
      exact cj_L_hangs_571 l D kI kC kB a h_ x v1 v7 v8 v9 v10 Post hA C _ hK485 hw H locs hP hD hS ls (lv_sub hl [0, 1, 2, 3, 4, 5] rfl)
set_option maxHeartbeats 4000000 in
set_option maxRecDepth 100000 in
theorem cj_L_hangs_519 (l : Launch) (D : va_G) (kI kC kB : ClassId) (a : AdT) (h_ : Nat → AdT) (x : XS) (v1 : Int32) (v7 : Int32) (v9 : Int32) (v10 : Int32) (Post : Int32 → XS → Prop) {p : Program} {e : Env} {s : State} {m : MethodId} {args : Array Value} {below : List Frame} {meth : Method} {c : Code} {A : Nat → Prop} (hA : ∀ q : Nat, s.heap.size ≤ q → A q) (C : CtxT p s m args meth c cL_hangs 16 (some .boolean) yL_hangs.cls D kI kC kB) (K485 : XS → Int32 → Int32 → Int32 → Prop) (hK485 : ∀ (h_ : Nat → AdT) (x : XS) (v6 : Int32) (v8 : Int32) (v9 : Int32), K485 x v6 v8 v9 → ∀ (H : Heap) (locs : List Loc), va_P D vwCl (bfl [cwX kI kB a h_ x]) H → va_D A (bfl [cwX kI kB a h_ x]) → va_S A s.heap H locs → ∀ (ls : Array Slot), lv_has ls 16 [(0, .ref (a 0)), (1, .int v1), (6, .int v6), (7, .int v7), (8, .int v8), (9, .int v9)] → W p l e ({ frames := 7, cells := 0, slots := 0, locals := 154 } : Room) s m args below meth c H locs 0 0 (MQ below (va_Qi (fun (r : Int32) (u : (Nat → AdT) × XS) => Post r u.2) (BB D A (fun u : (Nat → AdT) × XS => cwX kI kB a u.1 u.2)) A) args s 0 0 A) (F0 m 485 ls [])) : ∀ (t0 : Int32) (t1 : Int32), wj_L_hangs_519 x v1 v7 v9 v10 t0 t1 K485 Post → ∀ (H : Heap) (locs : List Loc), va_P D vwCl (bfl [cwX kI kB a h_ x]) H → va_D A (bfl [cwX kI kB a h_ x]) → va_S A s.heap H locs → ∀ (ls : Array Slot), lv_has ls 16 [(0, .ref (a 0)), (1, .int v1), (7, .int v7), (9, .int v9), (10, .int v10)] → W p l e ({ frames := 7, cells := 0, slots := 0, locals := 154 } : Room) s m args below meth c H locs 0 0 (MQ below (va_Qi (fun (r : Int32) (u : (Nat → AdT) × XS) => Post r u.2) (BB D A (fun u : (Nat → AdT) × XS => cwX kI kB a u.1 u.2)) A) args s 0 0 A) (F0 m 519 ls [.int t1, .int t0]) := by
  obtain ⟨hx, hb, hr, hml, hown, hts, hlocks, hK⟩ := id C
  intro t0 t1 hw H locs hP hD hS ls hl
  unfold wj_L_hangs_519 at hw
  refine lv_iadd hx hb dL_hangs_519 ?_
  refine lv_topi (fun y21 ey21 => ?_)
  replace hw := hw y21 ey21
  refine lv_istore (lv' := [(8, .int y21), (0, .ref (a 0)), (1, .int v1), (7, .int v7), (9, .int v9), (10, .int v10)]) hx hb dL_hangs_520 hl (by decide) rfl (fun ls hl => ?_)
  refine lv_iload hx hb dL_hangs_522 (lv_at hl 5 rfl) ?_
  refine lv_bipush (v := (nI 44)) hx hb dL_hangs_524 (by decide) ?_
  refine lv_icmp_eq (tgt := 585) hx hb dL_hangs_526 (by decide) (fun hc => ?_) (fun hc => ?_)
  · replace hw := hw.1 hc
    refine lv_iconst (v := (nI 1)) hx hb dL_hangs_585 (by decide) ?_
    refine lv_goto (tgt := 590) hx hb dL_hangs_586 (by decide) ?_
    refine lv_istore (lv' := [(6, .int (nI 1)), (8, .int y21), (0, .ref (a 0)), (1, .int v1), (7, .int v7), (9, .int v9), (10, .int v10)]) hx hb dL_hangs_590 hl (by decide) rfl (fun ls hl => ?_)
    refine lv_iinc (v := (v9 + nI 1)) (lv' := [(9, .int (v9 + nI 1)), (6, .int (nI 1)), (8, .int y21), (0, .ref (a 0)), (1, .int v1), (7, .int v7), (10, .int v10)]) hx hb dL_hangs_592 hl (k := 5) rfl rfl (by decide) rfl (fun ls hl => ?_)
    refine lv_goto (tgt := 485) hx hb dL_hangs_595 (by decide) ?_
    exact hK485 h_ x (nI 1) y21 (v9 + nI 1) hw H locs hP hD hS ls (lv_sub hl [3, 4, 1, 5, 2, 0] rfl)
  · replace hw := hw.2 hc
    refine lv_iload hx hb dL_hangs_529 (lv_at hl 5 rfl) ?_
    refine lv_bipush (v := (nI 45)) hx hb dL_hangs_531 (by decide) ?_
    refine lv_icmp_eq (tgt := 585) hx hb dL_hangs_533 (by decide) (fun hc => ?_) (fun hc => ?_)
    · replace hw := hw.1 hc
      refine lv_iconst (v := (nI 1)) hx hb dL_hangs_585 (by decide) ?_
      refine lv_goto (tgt := 590) hx hb dL_hangs_586 (by decide) ?_
      refine lv_istore (lv' := [(6, .int (nI 1)), (8, .int y21), (0, .ref (a 0)), (1, .int v1), (7, .int v7), (9, .int v9), (10, .int v10)]) hx hb dL_hangs_590 hl (by decide) rfl (fun ls hl => ?_)
      refine lv_iinc (v := (v9 + nI 1)) (lv' := [(9, .int (v9 + nI 1)), (6, .int (nI 1)), (8, .int y21), (0, .ref (a 0)), (1, .int v1), (7, .int v7), (10, .int v10)]) hx hb dL_hangs_592 hl (k := 5) rfl rfl (by decide) rfl (fun ls hl => ?_)
      refine lv_goto (tgt := 485) hx hb dL_hangs_595 (by decide) ?_
      exact hK485 h_ x (nI 1) y21 (v9 + nI 1) hw H locs hP hD hS ls (lv_sub hl [3, 4, 1, 5, 2, 0] rfl)
    · replace hw := hw.2 hc
      refine lv_iload hx hb dL_hangs_536 (lv_at hl 5 rfl) ?_
      refine lv_bipush (v := (nI 42)) hx hb dL_hangs_538 (by decide) ?_
      refine lv_icmp_eq (tgt := 585) hx hb dL_hangs_540 (by decide) (fun hc => ?_) (fun hc => ?_)
      · replace hw := hw.1 hc
        refine lv_iconst (v := (nI 1)) hx hb dL_hangs_585 (by decide) ?_
        refine lv_goto (tgt := 590) hx hb dL_hangs_586 (by decide) ?_
        refine lv_istore (lv' := [(6, .int (nI 1)), (8, .int y21), (0, .ref (a 0)), (1, .int v1), (7, .int v7), (9, .int v9), (10, .int v10)]) hx hb dL_hangs_590 hl (by decide) rfl (fun ls hl => ?_)
        refine lv_iinc (v := (v9 + nI 1)) (lv' := [(9, .int (v9 + nI 1)), (6, .int (nI 1)), (8, .int y21), (0, .ref (a 0)), (1, .int v1), (7, .int v7), (10, .int v10)]) hx hb dL_hangs_592 hl (k := 5) rfl rfl (by decide) rfl (fun ls hl => ?_)
        refine lv_goto (tgt := 485) hx hb dL_hangs_595 (by decide) ?_
        exact hK485 h_ x (nI 1) y21 (v9 + nI 1) hw H locs hP hD hS ls (lv_sub hl [3, 4, 1, 5, 2, 0] rfl)
      · replace hw := hw.2 hc
        refine lv_iload hx hb dL_hangs_543 (lv_at hl 5 rfl) ?_
        refine lv_bipush (v := (nI 48)) hx hb dL_hangs_545 (by decide) ?_
        refine lv_icmp_lt (tgt := 557) hx hb dL_hangs_547 (by decide) (fun hc => ?_) (fun hc => ?_)
        · replace hw := hw.1 hc
          exact cj_L_hangs_557 l D kI kC kB a h_ x v1 v7 y21 v9 v10 Post hA C _ hK485 hw H locs hP hD hS ls (lv_sub hl [1, 2, 3, 0, 4, 5] rfl)
        · replace hw := hw.2 hc
          refine lv_iload hx hb dL_hangs_550 (lv_at hl 5 rfl) ?_
          refine lv_bipush (v := (nI 57)) hx hb dL_hangs_552 (by decide) ?_
          refine lv_icmp_le (tgt := 585) hx hb dL_hangs_554 (by decide) (fun hc => ?_) (fun hc => ?_)
          · replace hw := hw.1 hc
            refine lv_iconst (v := (nI 1)) hx hb dL_hangs_585 (by decide) ?_
            refine lv_goto (tgt := 590) hx hb dL_hangs_586 (by decide) ?_
            refine lv_istore (lv' := [(6, .int (nI 1)), (8, .int y21), (0, .ref (a 0)), (1, .int v1), (7, .int v7), (9, .int v9), (10, .int v10)]) hx hb dL_hangs_590 hl (by decide) rfl (fun ls hl => ?_)
            refine lv_iinc (v := (v9 + nI 1)) (lv' := [(9, .int (v9 + nI 1)), (6, .int (nI 1)), (8, .int y21), (0, .ref (a 0)), (1, .int v1), (7, .int v7), (10, .int v10)]) hx hb dL_hangs_592 hl (k := 5) rfl rfl (by decide) rfl (fun ls hl => ?_)
            refine lv_goto (tgt := 485) hx hb dL_hangs_595 (by decide) ?_
            exact hK485 h_ x (nI 1) y21 (v9 + nI 1) hw H locs hP hD hS ls (lv_sub hl [3, 4, 1, 5, 2, 0] rfl)
          · replace hw := hw.2 hc
            exact cj_L_hangs_557 l D kI kC kB a h_ x v1 v7 y21 v9 v10 Post hA C _ hK485 hw H locs hP hD hS ls (lv_sub hl [1, 2, 3, 0, 4, 5] rfl)
set_option maxHeartbeats 4000000 in
set_option maxRecDepth 100000 in
theorem cj_L_hangs_732 (l : Launch) (D : va_G) (kI kC kB : ClassId) (a : AdT) (h_ : Nat → AdT) (x : XS) (v9 : Int32) (v11 : Int32) (v12 : Int32) (Post : Int32 → XS → Prop) {p : Program} {e : Env} {s : State} {m : MethodId} {args : Array Value} {below : List Frame} {meth : Method} {c : Code} {A : Nat → Prop} (hA : ∀ q : Nat, s.heap.size ≤ q → A q) (C : CtxT p s m args meth c cL_hangs 16 (some .boolean) yL_hangs.cls D kI kC kB) (K656 : Int32 → Int32 → Int32 → Prop) (hK656 : ∀ (v6 : Int32) (v10 : Int32) (v11 : Int32), K656 v6 v10 v11 → ∀ (H : Heap) (locs : List Loc), va_P D vwCl (bfl [cwX kI kB a h_ x]) H → va_D A (bfl [cwX kI kB a h_ x]) → va_S A s.heap H locs → ∀ (ls : Array Slot), lv_has ls 16 [(0, .ref (a 0)), (6, .int v6), (9, .int v9), (10, .int v10), (11, .int v11)] → W p l e ({ frames := 7, cells := 0, slots := 0, locals := 154 } : Room) s m args below meth c H locs 0 0 (MQ below (va_Qi (fun (r : Int32) (u : (Nat → AdT) × XS) => Post r u.2) (BB D A (fun u : (Nat → AdT) × XS => cwX kI kB a u.1 u.2)) A) args s 0 0 A) (F0 m 656 ls [])) : wj_L_hangs_732 x v9 v11 v12 K656 Post → ∀ (H : Heap) (locs : List Loc), va_P D vwCl (bfl [cwX kI kB a h_ x]) H → va_D A (bfl [cwX kI kB a h_ x]) → va_S A s.heap H locs → ∀ (ls : Array Slot), lv_has ls 16 [(0, .ref (a 0)), (9, .int v9), (11, .int v11), (12, .int v12)] → W p l e ({ frames := 7, cells := 0, slots := 0, locals := 154 } : Room) s m args below meth c H locs 0 0 (MQ below (va_Qi (fun (r : Int32) (u : (Nat → AdT) × XS) => Post r u.2) (BB D A (fun u : (Nat → AdT) × XS => cwX kI kB a u.1 u.2)) A) args s 0 0 A) (F0 m 732 ls []) := by
  obtain ⟨hx, hb, hr, hml, hown, hts, hlocks, hK⟩ := id C
  intro hw H locs hP hD hS ls hl
  unfold wj_L_hangs_732 at hw
  refine lv_iconst (v := (nI 1)) hx hb dL_hangs_732 (by decide) ?_
  refine lv_goto (tgt := 737) hx hb dL_hangs_733 (by decide) ?_
  refine lv_istore (lv' := [(6, .int (nI 1)), (0, .ref (a 0)), (9, .int v9), (11, .int v11), (12, .int v12)]) hx hb dL_hangs_737 hl (by decide) rfl (fun ls hl => ?_)
  refine lv_iload hx hb dL_hangs_739 (lv_at hl 4 rfl) ?_
  refine lv_istore (lv' := [(10, .int v12), (6, .int (nI 1)), (0, .ref (a 0)), (9, .int v9), (11, .int v11), (12, .int v12)]) hx hb dL_hangs_741 hl (by decide) rfl (fun ls hl => ?_)
  refine lv_iinc (v := (v11 + nI 1)) (lv' := [(11, .int (v11 + nI 1)), (10, .int v12), (6, .int (nI 1)), (0, .ref (a 0)), (9, .int v9), (12, .int v12)]) hx hb dL_hangs_743 hl (k := 4) rfl rfl (by decide) rfl (fun ls hl => ?_)
  refine lv_goto (tgt := 656) hx hb dL_hangs_746 (by decide) ?_
  exact hK656 (nI 1) v12 (v11 + nI 1) hw H locs hP hD hS ls (lv_sub hl [3, 2, 4, 1, 0] rfl)
set_option maxHeartbeats 4000000 in
set_option maxRecDepth 100000 in
theorem cj_L_hangs_858 (l : Launch) (D : va_G) (kI kC kB : ClassId) (a : AdT) (h_ : Nat → AdT) (x : XS) (v9 : Int32) (v11 : Int32) (v13 : Int32) (v14 : Int32) (Post : Int32 → XS → Prop) {p : Program} {e : Env} {s : State} {m : MethodId} {args : Array Value} {below : List Frame} {meth : Method} {c : Code} {A : Nat → Prop} (hA : ∀ q : Nat, s.heap.size ≤ q → A q) (C : CtxT p s m args meth c cL_hangs 16 (some .boolean) yL_hangs.cls D kI kC kB) (K763 : Int32 → Int32 → Int32 → Prop) (hK763 : ∀ (v6 : Int32) (v12 : Int32) (v13 : Int32), K763 v6 v12 v13 → ∀ (H : Heap) (locs : List Loc), va_P D vwCl (bfl [cwX kI kB a h_ x]) H → va_D A (bfl [cwX kI kB a h_ x]) → va_S A s.heap H locs → ∀ (ls : Array Slot), lv_has ls 16 [(0, .ref (a 0)), (6, .int v6), (9, .int v9), (11, .int v11), (12, .int v12), (13, .int v13)] → W p l e ({ frames := 7, cells := 0, slots := 0, locals := 154 } : Room) s m args below meth c H locs 0 0 (MQ below (va_Qi (fun (r : Int32) (u : (Nat → AdT) × XS) => Post r u.2) (BB D A (fun u : (Nat → AdT) × XS => cwX kI kB a u.1 u.2)) A) args s 0 0 A) (F0 m 763 ls [])) : wj_L_hangs_858 x v9 v11 v13 v14 K763 Post → ∀ (H : Heap) (locs : List Loc), va_P D vwCl (bfl [cwX kI kB a h_ x]) H → va_D A (bfl [cwX kI kB a h_ x]) → va_S A s.heap H locs → ∀ (ls : Array Slot), lv_has ls 16 [(0, .ref (a 0)), (9, .int v9), (11, .int v11), (13, .int v13), (14, .int v14)] → W p l e ({ frames := 7, cells := 0, slots := 0, locals := 154 } : Room) s m args below meth c H locs 0 0 (MQ below (va_Qi (fun (r : Int32) (u : (Nat → AdT) × XS) => Post r u.2) (BB D A (fun u : (Nat → AdT) × XS => cwX kI kB a u.1 u.2)) A) args s 0 0 A) (F0 m 858 ls []) := by
  obtain ⟨hx, hb, hr, hml, hown, hts, hlocks, hK⟩ := id C
  intro hw H locs hP hD hS ls hl
  unfold wj_L_hangs_858 at hw
  refine lv_iconst (v := (nI 1)) hx hb dL_hangs_858 (by decide) ?_
  refine lv_goto (tgt := 863) hx hb dL_hangs_859 (by decide) ?_
  refine lv_istore (lv' := [(6, .int (nI 1)), (0, .ref (a 0)), (9, .int v9), (11, .int v11), (13, .int v13), (14, .int v14)]) hx hb dL_hangs_863 hl (by decide) rfl (fun ls hl => ?_)
  refine lv_iload hx hb dL_hangs_865 (lv_at hl 5 rfl) ?_
  refine lv_istore (lv' := [(12, .int v14), (6, .int (nI 1)), (0, .ref (a 0)), (9, .int v9), (11, .int v11), (13, .int v13), (14, .int v14)]) hx hb dL_hangs_867 hl (by decide) rfl (fun ls hl => ?_)
  refine lv_iinc (v := (v13 + nI 1)) (lv' := [(13, .int (v13 + nI 1)), (12, .int v14), (6, .int (nI 1)), (0, .ref (a 0)), (9, .int v9), (11, .int v11), (14, .int v14)]) hx hb dL_hangs_869 hl (k := 5) rfl rfl (by decide) rfl (fun ls hl => ?_)
  refine lv_goto (tgt := 763) hx hb dL_hangs_872 (by decide) ?_
  exact hK763 (nI 1) v14 (v13 + nI 1) hw H locs hP hD hS ls (lv_sub hl [3, 2, 4, 5, 1, 0] rfl)
set_option maxHeartbeats 4000000 in
set_option maxRecDepth 100000 in
theorem cj_L_hangs_875 (l : Launch) (D : va_G) (kI kC kB : ClassId) (a : AdT) (h_ : Nat → AdT) (x : XS) (v6 : Int32) (v9 : Int32) (v11 : Int32) (Post : Int32 → XS → Prop) {p : Program} {e : Env} {s : State} {m : MethodId} {args : Array Value} {below : List Frame} {meth : Method} {c : Code} {A : Nat → Prop} (hA : ∀ q : Nat, s.heap.size ≤ q → A q) (C : CtxT p s m args meth c cL_hangs 16 (some .boolean) yL_hangs.cls D kI kC kB) : wj_L_hangs_875 x v6 v9 v11 Post → ∀ (H : Heap) (locs : List Loc), va_P D vwCl (bfl [cwX kI kB a h_ x]) H → va_D A (bfl [cwX kI kB a h_ x]) → va_S A s.heap H locs → ∀ (ls : Array Slot), lv_has ls 16 [(0, .ref (a 0)), (6, .int v6), (9, .int v9), (11, .int v11)] → W p l e ({ frames := 7, cells := 0, slots := 0, locals := 154 } : Room) s m args below meth c H locs 0 0 (MQ below (va_Qi (fun (r : Int32) (u : (Nat → AdT) × XS) => Post r u.2) (BB D A (fun u : (Nat → AdT) × XS => cwX kI kB a u.1 u.2)) A) args s 0 0 A) (F0 m 875 ls []) := by
  obtain ⟨hx, hb, hr, hml, hown, hts, hlocks, hK⟩ := id C
  intro hw H locs hP hD hS ls hl
  unfold wj_L_hangs_875 at hw
  refine lv_iload hx hb dL_hangs_875 (lv_at hl 1 rfl) ?_
  refine lv_if_eq (tgt := 908) hx hb dL_hangs_877 (by decide) (fun hc => ?_) (fun hc => ?_)
  · replace hw := hw.1 hc
    refine lv_iconst (v := (nI 0)) hx hb dL_hangs_908 (by decide) ?_
    exact retMz C (S := (Nat → AdT) × XS) (h_, x) (by decide) hw hP hD hS dL_hangs_909
  · replace hw := hw.2 hc
    refine lv_aload_n hx hb dL_hangs_880 rfl (lv_at hl 0 rfl) ?_
    refine lv_iload hx hb dL_hangs_881 (lv_at hl 2 rfl) ?_
    refine lv_iconst (v := (nI 0)) hx hb dL_hangs_883 (by decide) ?_
    refine kRB (As := [.int v9, .int (nI 0)]) (rest := []) (q0 := 0) C (c_X8_lapse l D kI kC kB a h_ x.1 x.2.1 x.2.2.1 x.2.2.2.1 x.2.2.2.2.1 x.2.2.2.2.2.1 x.2.2.2.2.2.2.1 x.2.2.2.2.2.2.2.1 x.2.2.2.2.2.2.2.2.1 x.2.2.2.2.2.2.2.2.2.1 x.2.2.2.2.2.2.2.2.2.2.1 x.2.2.2.2.2.2.2.2.2.2.2.1 x.2.2.2.2.2.2.2.2.2.2.2.2.1 x.2.2.2.2.2.2.2.2.2.2.2.2.2.1 x.2.2.2.2.2.2.2.2.2.2.2.2.2.2.1 x.2.2.2.2.2.2.2.2.2.2.2.2.2.2.2.1 x.2.2.2.2.2.2.2.2.2.2.2.2.2.2.2.2.1 x.2.2.2.2.2.2.2.2.2.2.2.2.2.2.2.2.2.1 x.2.2.2.2.2.2.2.2.2.2.2.2.2.2.2.2.2.2.1 x.2.2.2.2.2.2.2.2.2.2.2.2.2.2.2.2.2.2.2.1 x.2.2.2.2.2.2.2.2.2.2.2.2.2.2.2.2.2.2.2.2.1 x.2.2.2.2.2.2.2.2.2.2.2.2.2.2.2.2.2.2.2.2.2.1 x.2.2.2.2.2.2.2.2.2.2.2.2.2.2.2.2.2.2.2.2.2.2 v9 (nI 0) _ hw) ⟨rfl, rfl⟩ ce_X8_lapse cv_X8_lapse tw_528 ⟨(Nat.le_of_ble_eq_true rfl), (Nat.le_of_ble_eq_true rfl)⟩ hP (bfl_p1 [_] 0 rfl) rfl rfl rfl hl.1 rfl (Nat.le_of_ble_eq_true rfl) ⟨(Nat.le_of_ble_eq_true rfl), (Nat.le_of_ble_eq_true rfl)⟩ dL_hangs_884 (fun r22 hw => ?_)
    refine lv_bipush (v := (-5)) hx hb dL_hangs_887 (by decide) ?_
    refine lv_icmp_ne (tgt := 908) hx hb dL_hangs_889 (by decide) (fun hc => ?_) (fun hc => ?_)
    · replace hw := hw.2 hc
      refine lv_iconst (v := (nI 0)) hx hb dL_hangs_908 (by decide) ?_
      exact retMz C (S := (Nat → AdT) × XS) (h_, x) (by decide) hw hP hD hS dL_hangs_909
    · replace hw := hw.1 hc
      refine lv_aload_n hx hb dL_hangs_892 rfl (lv_at hl 0 rfl) ?_
      refine lv_iload hx hb dL_hangs_893 (lv_at hl 3 rfl) ?_
      refine lv_iconst (v := (nI 0)) hx hb dL_hangs_895 (by decide) ?_
      refine kRB (As := [.int v11, .int (nI 0)]) (rest := []) (q0 := 0) C (c_X8_piled l D kI kC kB a h_ x.1 x.2.1 x.2.2.1 x.2.2.2.1 x.2.2.2.2.1 x.2.2.2.2.2.1 x.2.2.2.2.2.2.1 x.2.2.2.2.2.2.2.1 x.2.2.2.2.2.2.2.2.1 x.2.2.2.2.2.2.2.2.2.1 x.2.2.2.2.2.2.2.2.2.2.1 x.2.2.2.2.2.2.2.2.2.2.2.1 x.2.2.2.2.2.2.2.2.2.2.2.2.1 x.2.2.2.2.2.2.2.2.2.2.2.2.2.1 x.2.2.2.2.2.2.2.2.2.2.2.2.2.2.1 x.2.2.2.2.2.2.2.2.2.2.2.2.2.2.2.1 x.2.2.2.2.2.2.2.2.2.2.2.2.2.2.2.2.1 x.2.2.2.2.2.2.2.2.2.2.2.2.2.2.2.2.2.1 x.2.2.2.2.2.2.2.2.2.2.2.2.2.2.2.2.2.2.1 x.2.2.2.2.2.2.2.2.2.2.2.2.2.2.2.2.2.2.2.1 x.2.2.2.2.2.2.2.2.2.2.2.2.2.2.2.2.2.2.2.2.1 x.2.2.2.2.2.2.2.2.2.2.2.2.2.2.2.2.2.2.2.2.2.1 x.2.2.2.2.2.2.2.2.2.2.2.2.2.2.2.2.2.2.2.2.2.2 v11 (nI 0) _ hw) ⟨rfl, rfl⟩ ce_X8_piled cv_X8_piled tw_548 ⟨(Nat.le_of_ble_eq_true rfl), (Nat.le_of_ble_eq_true rfl)⟩ hP (bfl_p1 [_] 0 rfl) rfl rfl rfl hl.1 rfl (Nat.le_of_ble_eq_true rfl) ⟨(Nat.le_of_ble_eq_true rfl), (Nat.le_of_ble_eq_true rfl)⟩ dL_hangs_896 (fun r23 hw => ?_)
      refine lv_bipush (v := (-5)) hx hb dL_hangs_899 (by decide) ?_
      refine lv_icmp_ne (tgt := 908) hx hb dL_hangs_901 (by decide) (fun hc => ?_) (fun hc => ?_)
      · replace hw := hw.2 hc
        refine lv_iconst (v := (nI 0)) hx hb dL_hangs_908 (by decide) ?_
        exact retMz C (S := (Nat → AdT) × XS) (h_, x) (by decide) hw hP hD hS dL_hangs_909
      · replace hw := hw.1 hc
        refine lv_iconst (v := (nI 1)) hx hb dL_hangs_904 (by decide) ?_
        refine lv_goto (tgt := 909) hx hb dL_hangs_905 (by decide) ?_
        exact retMz C (S := (Nat → AdT) × XS) (h_, x) (by decide) hw hP hD hS dL_hangs_909
set_option maxHeartbeats 4000000 in
set_option maxRecDepth 100000 in
theorem cl_L_hangs_763 (l : Launch) (D : va_G) (kI kC kB : ClassId) (a : AdT) (h_ : Nat → AdT) (x : XS) (v9 : Int32) (v11 : Int32) (Post : Int32 → XS → Prop) {p : Program} {e : Env} {s : State} {m : MethodId} {args : Array Value} {below : List Frame} {meth : Method} {c : Code} {A : Nat → Prop} (hA : ∀ q : Nat, s.heap.size ≤ q → A q) (C : CtxT p s m args meth c cL_hangs 16 (some .boolean) yL_hangs.cls D kI kC kB) : ∀ (n : Nat), ∀ (v6 : Int32) (v12 : Int32) (v13 : Int32), wl_L_hangs_763 x v9 v11 Post n v6 v12 v13 → ∀ (H : Heap) (locs : List Loc), va_P D vwCl (bfl [cwX kI kB a h_ x]) H → va_D A (bfl [cwX kI kB a h_ x]) → va_S A s.heap H locs → ∀ (ls : Array Slot), lv_has ls 16 [(0, .ref (a 0)), (6, .int v6), (9, .int v9), (11, .int v11), (12, .int v12), (13, .int v13)] → W p l e ({ frames := 7, cells := 0, slots := 0, locals := 154 } : Room) s m args below meth c H locs 0 0 (MQ below (va_Qi (fun (r : Int32) (u : (Nat → AdT) × XS) => Post r u.2) (BB D A (fun u : (Nat → AdT) × XS => cwX kI kB a u.1 u.2)) A) args s 0 0 A) (F0 m 763 ls []) := by
  obtain ⟨hx, hb, hr, hml, hown, hts, hlocks, hK⟩ := id C
  intro n
  induction n with
  | zero => intro v6 v12 v13 hw; exact hw.elim
  | succ n ih =>
    intro v6 v12 v13 hw H locs hP hD hS ls hl
    unfold wl_L_hangs_763 at hw
    refine lv_iload hx hb dL_hangs_763 (lv_at hl 5 rfl) ?_
    refine lv_iload hx hb dL_hangs_765 (lv_at hl 3 rfl) ?_
    refine lv_icmp_ge (tgt := 875) hx hb dL_hangs_767 (by decide) (fun hc => ?_) (fun hc => ?_)
    · replace hw := hw.1 hc
      exact cj_L_hangs_875 l D kI kC kB a h_ x v6 v9 v11 Post hA C hw H locs hP hD hS ls (lv_sub hl [0, 1, 2, 3] rfl)
    · replace hw := hw.2 hc
      refine lv_iload hx hb dL_hangs_770 (lv_at hl 1 rfl) ?_
      refine lv_if_eq (tgt := 875) hx hb dL_hangs_772 (by decide) (fun hc => ?_) (fun hc => ?_)
      · replace hw := hw.1 hc
        exact cj_L_hangs_875 l D kI kC kB a h_ x v6 v9 v11 Post hA C hw H locs hP hD hS ls (lv_sub hl [0, 1, 2, 3] rfl)
      · replace hw := hw.2 hc
        refine lv_aload_n hx hb dL_hangs_775 rfl (lv_at hl 0 rfl) ?_
        refine lv_iload hx hb dL_hangs_776 (lv_at hl 5 rfl) ?_
        refine lv_iconst (v := (nI 0)) hx hb dL_hangs_778 (by decide) ?_
        refine kRB (As := [.int v13, .int (nI 0)]) (rest := []) (q0 := 0) C (c_X8_piled l D kI kC kB a h_ x.1 x.2.1 x.2.2.1 x.2.2.2.1 x.2.2.2.2.1 x.2.2.2.2.2.1 x.2.2.2.2.2.2.1 x.2.2.2.2.2.2.2.1 x.2.2.2.2.2.2.2.2.1 x.2.2.2.2.2.2.2.2.2.1 x.2.2.2.2.2.2.2.2.2.2.1 x.2.2.2.2.2.2.2.2.2.2.2.1 x.2.2.2.2.2.2.2.2.2.2.2.2.1 x.2.2.2.2.2.2.2.2.2.2.2.2.2.1 x.2.2.2.2.2.2.2.2.2.2.2.2.2.2.1 x.2.2.2.2.2.2.2.2.2.2.2.2.2.2.2.1 x.2.2.2.2.2.2.2.2.2.2.2.2.2.2.2.2.1 x.2.2.2.2.2.2.2.2.2.2.2.2.2.2.2.2.2.1 x.2.2.2.2.2.2.2.2.2.2.2.2.2.2.2.2.2.2.1 x.2.2.2.2.2.2.2.2.2.2.2.2.2.2.2.2.2.2.2.1 x.2.2.2.2.2.2.2.2.2.2.2.2.2.2.2.2.2.2.2.2.1 x.2.2.2.2.2.2.2.2.2.2.2.2.2.2.2.2.2.2.2.2.2.1 x.2.2.2.2.2.2.2.2.2.2.2.2.2.2.2.2.2.2.2.2.2.2 v13 (nI 0) _ hw) ⟨rfl, rfl⟩ ce_X8_piled cv_X8_piled tw_548 ⟨(Nat.le_of_ble_eq_true rfl), (Nat.le_of_ble_eq_true rfl)⟩ hP (bfl_p1 [_] 0 rfl) rfl rfl rfl hl.1 rfl (Nat.le_of_ble_eq_true rfl) ⟨(Nat.le_of_ble_eq_true rfl), (Nat.le_of_ble_eq_true rfl)⟩ dL_hangs_779 (fun r24 hw => ?_)
        refine lv_istore (lv' := [(14, .int r24), (0, .ref (a 0)), (6, .int v6), (9, .int v9), (11, .int v11), (12, .int v12), (13, .int v13)]) hx hb dL_hangs_782 hl (by decide) rfl (fun ls hl => ?_)
        refine lv_aload_n hx hb dL_hangs_784 rfl (lv_at hl 1 rfl) ?_
        refine lv_iload hx hb dL_hangs_785 (lv_at hl 6 rfl) ?_
        refine lv_iconst (v := (nI 1)) hx hb dL_hangs_787 (by decide) ?_
        refine kRB (As := [.int v13, .int (nI 1)]) (rest := []) (q0 := 0) C (c_X8_piled l D kI kC kB a h_ x.1 x.2.1 x.2.2.1 x.2.2.2.1 x.2.2.2.2.1 x.2.2.2.2.2.1 x.2.2.2.2.2.2.1 x.2.2.2.2.2.2.2.1 x.2.2.2.2.2.2.2.2.1 x.2.2.2.2.2.2.2.2.2.1 x.2.2.2.2.2.2.2.2.2.2.1 x.2.2.2.2.2.2.2.2.2.2.2.1 x.2.2.2.2.2.2.2.2.2.2.2.2.1 x.2.2.2.2.2.2.2.2.2.2.2.2.2.1 x.2.2.2.2.2.2.2.2.2.2.2.2.2.2.1 x.2.2.2.2.2.2.2.2.2.2.2.2.2.2.2.1 x.2.2.2.2.2.2.2.2.2.2.2.2.2.2.2.2.1 x.2.2.2.2.2.2.2.2.2.2.2.2.2.2.2.2.2.1 x.2.2.2.2.2.2.2.2.2.2.2.2.2.2.2.2.2.2.1 x.2.2.2.2.2.2.2.2.2.2.2.2.2.2.2.2.2.2.2.1 x.2.2.2.2.2.2.2.2.2.2.2.2.2.2.2.2.2.2.2.2.1 x.2.2.2.2.2.2.2.2.2.2.2.2.2.2.2.2.2.2.2.2.2.1 x.2.2.2.2.2.2.2.2.2.2.2.2.2.2.2.2.2.2.2.2.2.2 v13 (nI 1) _ hw) ⟨rfl, rfl⟩ ce_X8_piled cv_X8_piled tw_548 ⟨(Nat.le_of_ble_eq_true rfl), (Nat.le_of_ble_eq_true rfl)⟩ hP (bfl_p1 [_] 0 rfl) rfl rfl rfl hl.1 rfl (Nat.le_of_ble_eq_true rfl) ⟨(Nat.le_of_ble_eq_true rfl), (Nat.le_of_ble_eq_true rfl)⟩ dL_hangs_788 (fun r25 hw => ?_)
        refine lv_istore (lv' := [(15, .int r25), (14, .int r24), (0, .ref (a 0)), (6, .int v6), (9, .int v9), (11, .int v11), (12, .int v12), (13, .int v13)]) hx hb dL_hangs_791 hl (by decide) rfl (fun ls hl => ?_)
        refine lv_iload hx hb dL_hangs_793 (lv_at hl 1 rfl) ?_
        refine lv_iload hx hb dL_hangs_795 (lv_at hl 6 rfl) ?_
        refine lv_icmp_le (tgt := 862) hx hb dL_hangs_797 (by decide) (fun hc => ?_) (fun hc => ?_)
        · replace hw := hw.1 hc
          refine lv_iconst (v := (nI 0)) hx hb dL_hangs_862 (by decide) ?_
          refine lv_istore (lv' := [(6, .int (nI 0)), (15, .int r25), (14, .int r24), (0, .ref (a 0)), (9, .int v9), (11, .int v11), (12, .int v12), (13, .int v13)]) hx hb dL_hangs_863 hl (by decide) rfl (fun ls hl => ?_)
          refine lv_iload hx hb dL_hangs_865 (lv_at hl 2 rfl) ?_
          refine lv_istore (lv' := [(12, .int r24), (6, .int (nI 0)), (15, .int r25), (14, .int r24), (0, .ref (a 0)), (9, .int v9), (11, .int v11), (13, .int v13)]) hx hb dL_hangs_867 hl (by decide) rfl (fun ls hl => ?_)
          refine lv_iinc (v := (v13 + nI 1)) (lv' := [(13, .int (v13 + nI 1)), (12, .int r24), (6, .int (nI 0)), (15, .int r25), (14, .int r24), (0, .ref (a 0)), (9, .int v9), (11, .int v11)]) hx hb dL_hangs_869 hl (k := 7) rfl rfl (by decide) rfl (fun ls hl => ?_)
          refine lv_goto (tgt := 763) hx hb dL_hangs_872 (by decide) ?_
          exact ih (nI 0) r24 (v13 + nI 1) hw H locs hP hD hS ls (lv_sub hl [5, 2, 6, 7, 1, 0] rfl)
        · replace hw := hw.2 hc
          refine lv_aload_n hx hb dL_hangs_800 rfl (lv_at hl 2 rfl) ?_
          refine lv_iload hx hb dL_hangs_801 (lv_at hl 1 rfl) ?_
          refine lv_iconst (v := (nI 4)) hx hb dL_hangs_803 (by decide) ?_
          refine kRB (As := [.int r24, .int (nI 4)]) (rest := []) (q0 := 0) C (c_X8_leaf l D kI kC kB a h_ x.1 x.2.1 x.2.2.1 x.2.2.2.1 x.2.2.2.2.1 x.2.2.2.2.2.1 x.2.2.2.2.2.2.1 x.2.2.2.2.2.2.2.1 x.2.2.2.2.2.2.2.2.1 x.2.2.2.2.2.2.2.2.2.1 x.2.2.2.2.2.2.2.2.2.2.1 x.2.2.2.2.2.2.2.2.2.2.2.1 x.2.2.2.2.2.2.2.2.2.2.2.2.1 x.2.2.2.2.2.2.2.2.2.2.2.2.2.1 x.2.2.2.2.2.2.2.2.2.2.2.2.2.2.1 x.2.2.2.2.2.2.2.2.2.2.2.2.2.2.2.1 x.2.2.2.2.2.2.2.2.2.2.2.2.2.2.2.2.1 x.2.2.2.2.2.2.2.2.2.2.2.2.2.2.2.2.2.1 x.2.2.2.2.2.2.2.2.2.2.2.2.2.2.2.2.2.2.1 x.2.2.2.2.2.2.2.2.2.2.2.2.2.2.2.2.2.2.2.1 x.2.2.2.2.2.2.2.2.2.2.2.2.2.2.2.2.2.2.2.2.1 x.2.2.2.2.2.2.2.2.2.2.2.2.2.2.2.2.2.2.2.2.2.1 x.2.2.2.2.2.2.2.2.2.2.2.2.2.2.2.2.2.2.2.2.2.2 r24 (nI 4) _ hw) ⟨rfl, rfl⟩ ce_X8_leaf cv_X8_leaf tw_505 ⟨(Nat.le_of_ble_eq_true rfl), (Nat.le_of_ble_eq_true rfl)⟩ hP (bfl_p1 [_] 0 rfl) rfl rfl rfl hl.1 rfl (Nat.le_of_ble_eq_true rfl) ⟨(Nat.le_of_ble_eq_true rfl), (Nat.le_of_ble_eq_true rfl)⟩ dL_hangs_804 (fun r26 hw => ?_)
          refine lv_if_ne (tgt := 862) hx hb dL_hangs_807 (by decide) (fun hc => ?_) (fun hc => ?_)
          · replace hw := hw.2 hc
            refine lv_iconst (v := (nI 0)) hx hb dL_hangs_862 (by decide) ?_
            refine lv_istore (lv' := [(6, .int (nI 0)), (15, .int r25), (14, .int r24), (0, .ref (a 0)), (9, .int v9), (11, .int v11), (12, .int v12), (13, .int v13)]) hx hb dL_hangs_863 hl (by decide) rfl (fun ls hl => ?_)
            refine lv_iload hx hb dL_hangs_865 (lv_at hl 2 rfl) ?_
            refine lv_istore (lv' := [(12, .int r24), (6, .int (nI 0)), (15, .int r25), (14, .int r24), (0, .ref (a 0)), (9, .int v9), (11, .int v11), (13, .int v13)]) hx hb dL_hangs_867 hl (by decide) rfl (fun ls hl => ?_)
            refine lv_iinc (v := (v13 + nI 1)) (lv' := [(13, .int (v13 + nI 1)), (12, .int r24), (6, .int (nI 0)), (15, .int r25), (14, .int r24), (0, .ref (a 0)), (9, .int v9), (11, .int v11)]) hx hb dL_hangs_869 hl (k := 7) rfl rfl (by decide) rfl (fun ls hl => ?_)
            refine lv_goto (tgt := 763) hx hb dL_hangs_872 (by decide) ?_
            exact ih (nI 0) r24 (v13 + nI 1) hw H locs hP hD hS ls (lv_sub hl [5, 2, 6, 7, 1, 0] rfl)
          · replace hw := hw.1 hc
            refine lv_iload hx hb dL_hangs_810 (lv_at hl 7 rfl) ?_
            refine lv_iload hx hb dL_hangs_812 (lv_at hl 5 rfl) ?_
            refine lv_iconst (v := (nI 1)) hx hb dL_hangs_814 (by decide) ?_
            refine lv_isub hx hb dL_hangs_815 ?_
            refine lv_icmp_ne (tgt := 829) hx hb dL_hangs_816 (by decide) (fun hc => ?_) (fun hc => ?_)
            · replace hw := hw.2 hc
              refine lv_aload_n hx hb dL_hangs_829 rfl (lv_at hl 2 rfl) ?_
              refine lv_aload_n hx hb dL_hangs_830 rfl (lv_at hl 2 rfl) ?_
              refine lv_iload hx hb dL_hangs_831 (lv_at hl 7 rfl) ?_
              refine lv_iconst (v := (nI 1)) hx hb dL_hangs_833 (by decide) ?_
              refine lv_iadd hx hb dL_hangs_834 ?_
              refine lv_iconst (v := (nI 0)) hx hb dL_hangs_835 (by decide) ?_
              refine kRB (As := [.int (v13 + (nI 1)), .int (nI 0)]) (rest := [.ref (a 0)]) (q0 := 0) C (c_X8_piled l D kI kC kB a h_ x.1 x.2.1 x.2.2.1 x.2.2.2.1 x.2.2.2.2.1 x.2.2.2.2.2.1 x.2.2.2.2.2.2.1 x.2.2.2.2.2.2.2.1 x.2.2.2.2.2.2.2.2.1 x.2.2.2.2.2.2.2.2.2.1 x.2.2.2.2.2.2.2.2.2.2.1 x.2.2.2.2.2.2.2.2.2.2.2.1 x.2.2.2.2.2.2.2.2.2.2.2.2.1 x.2.2.2.2.2.2.2.2.2.2.2.2.2.1 x.2.2.2.2.2.2.2.2.2.2.2.2.2.2.1 x.2.2.2.2.2.2.2.2.2.2.2.2.2.2.2.1 x.2.2.2.2.2.2.2.2.2.2.2.2.2.2.2.2.1 x.2.2.2.2.2.2.2.2.2.2.2.2.2.2.2.2.2.1 x.2.2.2.2.2.2.2.2.2.2.2.2.2.2.2.2.2.2.1 x.2.2.2.2.2.2.2.2.2.2.2.2.2.2.2.2.2.2.2.1 x.2.2.2.2.2.2.2.2.2.2.2.2.2.2.2.2.2.2.2.2.1 x.2.2.2.2.2.2.2.2.2.2.2.2.2.2.2.2.2.2.2.2.2.1 x.2.2.2.2.2.2.2.2.2.2.2.2.2.2.2.2.2.2.2.2.2.2 (v13 + (nI 1)) (nI 0) _ hw) ⟨rfl, rfl⟩ ce_X8_piled cv_X8_piled tw_548 ⟨(Nat.le_of_ble_eq_true rfl), (Nat.le_of_ble_eq_true rfl)⟩ hP (bfl_p1 [_] 0 rfl) rfl rfl rfl hl.1 rfl (Nat.le_of_ble_eq_true rfl) ⟨(Nat.le_of_ble_eq_true rfl), (Nat.le_of_ble_eq_true rfl)⟩ dL_hangs_836 (fun r27 hw => ?_)
              refine lv_iconst (v := (nI 5)) hx hb dL_hangs_839 (by decide) ?_
              refine kRB (As := [.int r27, .int (nI 5)]) (rest := []) (q0 := 0) C (c_X8_leaf l D kI kC kB a h_ x.1 x.2.1 x.2.2.1 x.2.2.2.1 x.2.2.2.2.1 x.2.2.2.2.2.1 x.2.2.2.2.2.2.1 x.2.2.2.2.2.2.2.1 x.2.2.2.2.2.2.2.2.1 x.2.2.2.2.2.2.2.2.2.1 x.2.2.2.2.2.2.2.2.2.2.1 x.2.2.2.2.2.2.2.2.2.2.2.1 x.2.2.2.2.2.2.2.2.2.2.2.2.1 x.2.2.2.2.2.2.2.2.2.2.2.2.2.1 x.2.2.2.2.2.2.2.2.2.2.2.2.2.2.1 x.2.2.2.2.2.2.2.2.2.2.2.2.2.2.2.1 x.2.2.2.2.2.2.2.2.2.2.2.2.2.2.2.2.1 x.2.2.2.2.2.2.2.2.2.2.2.2.2.2.2.2.2.1 x.2.2.2.2.2.2.2.2.2.2.2.2.2.2.2.2.2.2.1 x.2.2.2.2.2.2.2.2.2.2.2.2.2.2.2.2.2.2.2.1 x.2.2.2.2.2.2.2.2.2.2.2.2.2.2.2.2.2.2.2.2.1 x.2.2.2.2.2.2.2.2.2.2.2.2.2.2.2.2.2.2.2.2.2.1 x.2.2.2.2.2.2.2.2.2.2.2.2.2.2.2.2.2.2.2.2.2.2 r27 (nI 5) _ hw) ⟨rfl, rfl⟩ ce_X8_leaf cv_X8_leaf tw_505 ⟨(Nat.le_of_ble_eq_true rfl), (Nat.le_of_ble_eq_true rfl)⟩ hP (bfl_p1 [_] 0 rfl) rfl rfl rfl hl.1 rfl (Nat.le_of_ble_eq_true rfl) ⟨(Nat.le_of_ble_eq_true rfl), (Nat.le_of_ble_eq_true rfl)⟩ dL_hangs_840 (fun r28 hw => ?_)
              refine lv_aload_n hx hb dL_hangs_843 rfl (lv_at hl 2 rfl) ?_
              refine lv_iload hx hb dL_hangs_844 (lv_at hl 1 rfl) ?_
              refine lv_iconst (v := (nI 5)) hx hb dL_hangs_846 (by decide) ?_
              refine kRB (As := [.int r24, .int (nI 5)]) (rest := [.int r28]) (q0 := 0) C (c_X8_leaf l D kI kC kB a h_ x.1 x.2.1 x.2.2.1 x.2.2.2.1 x.2.2.2.2.1 x.2.2.2.2.2.1 x.2.2.2.2.2.2.1 x.2.2.2.2.2.2.2.1 x.2.2.2.2.2.2.2.2.1 x.2.2.2.2.2.2.2.2.2.1 x.2.2.2.2.2.2.2.2.2.2.1 x.2.2.2.2.2.2.2.2.2.2.2.1 x.2.2.2.2.2.2.2.2.2.2.2.2.1 x.2.2.2.2.2.2.2.2.2.2.2.2.2.1 x.2.2.2.2.2.2.2.2.2.2.2.2.2.2.1 x.2.2.2.2.2.2.2.2.2.2.2.2.2.2.2.1 x.2.2.2.2.2.2.2.2.2.2.2.2.2.2.2.2.1 x.2.2.2.2.2.2.2.2.2.2.2.2.2.2.2.2.2.1 x.2.2.2.2.2.2.2.2.2.2.2.2.2.2.2.2.2.2.1 x.2.2.2.2.2.2.2.2.2.2.2.2.2.2.2.2.2.2.2.1 x.2.2.2.2.2.2.2.2.2.2.2.2.2.2.2.2.2.2.2.2.1 x.2.2.2.2.2.2.2.2.2.2.2.2.2.2.2.2.2.2.2.2.2.1 x.2.2.2.2.2.2.2.2.2.2.2.2.2.2.2.2.2.2.2.2.2.2 r24 (nI 5) _ hw) ⟨rfl, rfl⟩ ce_X8_leaf cv_X8_leaf tw_505 ⟨(Nat.le_of_ble_eq_true rfl), (Nat.le_of_ble_eq_true rfl)⟩ hP (bfl_p1 [_] 0 rfl) rfl rfl rfl hl.1 rfl (Nat.le_of_ble_eq_true rfl) ⟨(Nat.le_of_ble_eq_true rfl), (Nat.le_of_ble_eq_true rfl)⟩ dL_hangs_847 (fun r29 hw => ?_)
              refine lv_isub hx hb dL_hangs_850 ?_
              refine lv_iconst (v := (nI 1)) hx hb dL_hangs_851 (by decide) ?_
              refine lv_isub hx hb dL_hangs_852 ?_
              refine lv_iload hx hb dL_hangs_853 (lv_at hl 0 rfl) ?_
              refine lv_icmp_ne (tgt := 862) hx hb dL_hangs_855 (by decide) (fun hc => ?_) (fun hc => ?_)
              · replace hw := hw.2 hc
                refine lv_iconst (v := (nI 0)) hx hb dL_hangs_862 (by decide) ?_
                refine lv_istore (lv' := [(6, .int (nI 0)), (15, .int r25), (14, .int r24), (0, .ref (a 0)), (9, .int v9), (11, .int v11), (12, .int v12), (13, .int v13)]) hx hb dL_hangs_863 hl (by decide) rfl (fun ls hl => ?_)
                refine lv_iload hx hb dL_hangs_865 (lv_at hl 2 rfl) ?_
                refine lv_istore (lv' := [(12, .int r24), (6, .int (nI 0)), (15, .int r25), (14, .int r24), (0, .ref (a 0)), (9, .int v9), (11, .int v11), (13, .int v13)]) hx hb dL_hangs_867 hl (by decide) rfl (fun ls hl => ?_)
                refine lv_iinc (v := (v13 + nI 1)) (lv' := [(13, .int (v13 + nI 1)), (12, .int r24), (6, .int (nI 0)), (15, .int r25), (14, .int r24), (0, .ref (a 0)), (9, .int v9), (11, .int v11)]) hx hb dL_hangs_869 hl (k := 7) rfl rfl (by decide) rfl (fun ls hl => ?_)
                refine lv_goto (tgt := 763) hx hb dL_hangs_872 (by decide) ?_
                exact ih (nI 0) r24 (v13 + nI 1) hw H locs hP hD hS ls (lv_sub hl [5, 2, 6, 7, 1, 0] rfl)
              · replace hw := hw.1 hc
                exact cj_L_hangs_858 l D kI kC kB a h_ x v9 v11 v13 r24 Post hA C _ ih hw H locs hP hD hS ls (lv_sub hl [2, 4, 5, 7, 1] rfl)
            · replace hw := hw.1 hc
              refine lv_iload hx hb dL_hangs_819 (lv_at hl 0 rfl) ?_
              refine lv_bipush (v := (-5)) hx hb dL_hangs_821 (by decide) ?_
              refine lv_icmp_ne (tgt := 862) hx hb dL_hangs_823 (by decide) (fun hc => ?_) (fun hc => ?_)
              · replace hw := hw.2 hc
                refine lv_iconst (v := (nI 0)) hx hb dL_hangs_862 (by decide) ?_
                refine lv_istore (lv' := [(6, .int (nI 0)), (15, .int r25), (14, .int r24), (0, .ref (a 0)), (9, .int v9), (11, .int v11), (12, .int v12), (13, .int v13)]) hx hb dL_hangs_863 hl (by decide) rfl (fun ls hl => ?_)
                refine lv_iload hx hb dL_hangs_865 (lv_at hl 2 rfl) ?_
                refine lv_istore (lv' := [(12, .int r24), (6, .int (nI 0)), (15, .int r25), (14, .int r24), (0, .ref (a 0)), (9, .int v9), (11, .int v11), (13, .int v13)]) hx hb dL_hangs_867 hl (by decide) rfl (fun ls hl => ?_)
                refine lv_iinc (v := (v13 + nI 1)) (lv' := [(13, .int (v13 + nI 1)), (12, .int r24), (6, .int (nI 0)), (15, .int r25), (14, .int r24), (0, .ref (a 0)), (9, .int v9), (11, .int v11)]) hx hb dL_hangs_869 hl (k := 7) rfl rfl (by decide) rfl (fun ls hl => ?_)
                refine lv_goto (tgt := 763) hx hb dL_hangs_872 (by decide) ?_
                exact ih (nI 0) r24 (v13 + nI 1) hw H locs hP hD hS ls (lv_sub hl [5, 2, 6, 7, 1, 0] rfl)
              · replace hw := hw.1 hc
                refine lv_goto (tgt := 858) hx hb dL_hangs_826 (by decide) ?_
                exact cj_L_hangs_858 l D kI kC kB a h_ x v9 v11 v13 r24 Post hA C _ ih hw H locs hP hD hS ls (lv_sub hl [2, 4, 5, 7, 1] rfl)
set_option maxHeartbeats 4000000 in
set_option maxRecDepth 100000 in
theorem cj_L_hangs_749 (l : Launch) (D : va_G) (kI kC kB : ClassId) (a : AdT) (h_ : Nat → AdT) (x : XS) (v6 : Int32) (v9 : Int32) (Post : Int32 → XS → Prop) {p : Program} {e : Env} {s : State} {m : MethodId} {args : Array Value} {below : List Frame} {meth : Method} {c : Code} {A : Nat → Prop} (hA : ∀ q : Nat, s.heap.size ≤ q → A q) (C : CtxT p s m args meth c cL_hangs 16 (some .boolean) yL_hangs.cls D kI kC kB) : wj_L_hangs_749 x v6 v9 Post → ∀ (H : Heap) (locs : List Loc), va_P D vwCl (bfl [cwX kI kB a h_ x]) H → va_D A (bfl [cwX kI kB a h_ x]) → va_S A s.heap H locs → ∀ (ls : Array Slot), lv_has ls 16 [(0, .ref (a 0)), (6, .int v6), (9, .int v9)] → W p l e ({ frames := 7, cells := 0, slots := 0, locals := 154 } : Room) s m args below meth c H locs 0 0 (MQ below (va_Qi (fun (r : Int32) (u : (Nat → AdT) × XS) => Post r u.2) (BB D A (fun u : (Nat → AdT) × XS => cwX kI kB a u.1 u.2)) A) args s 0 0 A) (F0 m 749 ls []) := by
  obtain ⟨hx, hb, hr, hml, hown, hts, hlocks, hK⟩ := id C
  intro hw H locs hP hD hS ls hl
  unfold wj_L_hangs_749 at hw
  refine lv_aload_n hx hb dL_hangs_749 rfl (lv_at hl 0 rfl) ?_
  refine lv_bipush (v := (nI 9)) hx hb dL_hangs_750 (by decide) ?_
  refine kMBi (As := [.int (nI 9)]) (rest := []) (q0 := 0) (ws' := fun u : (Nat → AdT) × XS => (bfl [cwX kI kB a u.1 u.2])) C (cx_count l D kI kC kB a h_ x H.size (nI 9) _ hw) ⟨rfl, rfl⟩ ce_X8_count cv_X8_count tw_597 ⟨(Nat.le_of_ble_eq_true rfl), (Nat.le_of_ble_eq_true rfl)⟩ hP hD hS hA (bfl_p1 [_] 0 rfl) (fun u => (bfl_p1 [_] 0 rfl)) rfl rfl rfl hl.1 rfl (Nat.le_of_ble_eq_true rfl) ⟨(Nat.le_of_ble_eq_true rfl), (Nat.le_of_ble_eq_true rfl)⟩ dL_hangs_752 (fun r30 u H locs hw hP hD hS => ?_)
  obtain ⟨h31, x32⟩ := u
  try dsimp only at hw
  replace hP : va_P D vwCl (bfl [cwX kI kB a h31 x32]) H := hP
  replace hD : va_D A (bfl [cwX kI kB a h31 x32]) := hD
  refine lv_istore (lv' := [(11, .int r30), (0, .ref (a 0)), (6, .int v6), (9, .int v9)]) hx hb dL_hangs_755 hl (by decide) rfl (fun ls hl => ?_)
  refine lv_iconst (v := (-1)) hx hb dL_hangs_757 (by decide) ?_
  refine lv_istore (lv' := [(12, .int (-1)), (11, .int r30), (0, .ref (a 0)), (6, .int v6), (9, .int v9)]) hx hb dL_hangs_758 hl (by decide) rfl (fun ls hl => ?_)
  refine lv_iconst (v := (nI 0)) hx hb dL_hangs_760 (by decide) ?_
  refine lv_istore (lv' := [(13, .int (nI 0)), (12, .int (-1)), (11, .int r30), (0, .ref (a 0)), (6, .int v6), (9, .int v9)]) hx hb dL_hangs_761 hl (by decide) rfl (fun ls hl => ?_)
  obtain ⟨n9, hw⟩ := hw
  exact cl_L_hangs_763 l D kI kC kB a h31 x32 v9 r30 Post hA C n9 v6 (-1) (nI 0) hw H locs hP hD hS ls (lv_sub hl [3, 4, 5, 2, 1, 0] rfl)
set_option maxHeartbeats 4000000 in
set_option maxRecDepth 100000 in
theorem cl_L_hangs_656 (l : Launch) (D : va_G) (kI kC kB : ClassId) (a : AdT) (h_ : Nat → AdT) (x : XS) (v9 : Int32) (Post : Int32 → XS → Prop) {p : Program} {e : Env} {s : State} {m : MethodId} {args : Array Value} {below : List Frame} {meth : Method} {c : Code} {A : Nat → Prop} (hA : ∀ q : Nat, s.heap.size ≤ q → A q) (C : CtxT p s m args meth c cL_hangs 16 (some .boolean) yL_hangs.cls D kI kC kB) : ∀ (n : Nat), ∀ (v6 : Int32) (v10 : Int32) (v11 : Int32), wl_L_hangs_656 x v9 Post n v6 v10 v11 → ∀ (H : Heap) (locs : List Loc), va_P D vwCl (bfl [cwX kI kB a h_ x]) H → va_D A (bfl [cwX kI kB a h_ x]) → va_S A s.heap H locs → ∀ (ls : Array Slot), lv_has ls 16 [(0, .ref (a 0)), (6, .int v6), (9, .int v9), (10, .int v10), (11, .int v11)] → W p l e ({ frames := 7, cells := 0, slots := 0, locals := 154 } : Room) s m args below meth c H locs 0 0 (MQ below (va_Qi (fun (r : Int32) (u : (Nat → AdT) × XS) => Post r u.2) (BB D A (fun u : (Nat → AdT) × XS => cwX kI kB a u.1 u.2)) A) args s 0 0 A) (F0 m 656 ls []) := by
  obtain ⟨hx, hb, hr, hml, hown, hts, hlocks, hK⟩ := id C
  intro n
  induction n with
  | zero => intro v6 v10 v11 hw; exact hw.elim
  | succ n ih =>
    intro v6 v10 v11 hw H locs hP hD hS ls hl
    unfold wl_L_hangs_656 at hw
    refine lv_iload hx hb dL_hangs_656 (lv_at hl 4 rfl) ?_
    refine lv_iload hx hb dL_hangs_658 (lv_at hl 2 rfl) ?_
    refine lv_icmp_ge (tgt := 749) hx hb dL_hangs_660 (by decide) (fun hc => ?_) (fun hc => ?_)
    · replace hw := hw.1 hc
      exact cj_L_hangs_749 l D kI kC kB a h_ x v6 v9 Post hA C hw H locs hP hD hS ls (lv_sub hl [0, 1, 2] rfl)
    · replace hw := hw.2 hc
      refine lv_iload hx hb dL_hangs_663 (lv_at hl 1 rfl) ?_
      refine lv_if_eq (tgt := 749) hx hb dL_hangs_665 (by decide) (fun hc => ?_) (fun hc => ?_)
      · replace hw := hw.1 hc
        exact cj_L_hangs_749 l D kI kC kB a h_ x v6 v9 Post hA C hw H locs hP hD hS ls (lv_sub hl [0, 1, 2] rfl)
      · replace hw := hw.2 hc
        refine lv_aload_n hx hb dL_hangs_668 rfl (lv_at hl 0 rfl) ?_
        refine lv_iload hx hb dL_hangs_669 (lv_at hl 4 rfl) ?_
        refine lv_iconst (v := (nI 0)) hx hb dL_hangs_671 (by decide) ?_
        refine kRB (As := [.int v11, .int (nI 0)]) (rest := []) (q0 := 0) C (c_X8_lapse l D kI kC kB a h_ x.1 x.2.1 x.2.2.1 x.2.2.2.1 x.2.2.2.2.1 x.2.2.2.2.2.1 x.2.2.2.2.2.2.1 x.2.2.2.2.2.2.2.1 x.2.2.2.2.2.2.2.2.1 x.2.2.2.2.2.2.2.2.2.1 x.2.2.2.2.2.2.2.2.2.2.1 x.2.2.2.2.2.2.2.2.2.2.2.1 x.2.2.2.2.2.2.2.2.2.2.2.2.1 x.2.2.2.2.2.2.2.2.2.2.2.2.2.1 x.2.2.2.2.2.2.2.2.2.2.2.2.2.2.1 x.2.2.2.2.2.2.2.2.2.2.2.2.2.2.2.1 x.2.2.2.2.2.2.2.2.2.2.2.2.2.2.2.2.1 x.2.2.2.2.2.2.2.2.2.2.2.2.2.2.2.2.2.1 x.2.2.2.2.2.2.2.2.2.2.2.2.2.2.2.2.2.2.1 x.2.2.2.2.2.2.2.2.2.2.2.2.2.2.2.2.2.2.2.1 x.2.2.2.2.2.2.2.2.2.2.2.2.2.2.2.2.2.2.2.2.1 x.2.2.2.2.2.2.2.2.2.2.2.2.2.2.2.2.2.2.2.2.2.1 x.2.2.2.2.2.2.2.2.2.2.2.2.2.2.2.2.2.2.2.2.2.2 v11 (nI 0) _ hw) ⟨rfl, rfl⟩ ce_X8_lapse cv_X8_lapse tw_528 ⟨(Nat.le_of_ble_eq_true rfl), (Nat.le_of_ble_eq_true rfl)⟩ hP (bfl_p1 [_] 0 rfl) rfl rfl rfl hl.1 rfl (Nat.le_of_ble_eq_true rfl) ⟨(Nat.le_of_ble_eq_true rfl), (Nat.le_of_ble_eq_true rfl)⟩ dL_hangs_672 (fun r33 hw => ?_)
        refine lv_istore (lv' := [(12, .int r33), (0, .ref (a 0)), (6, .int v6), (9, .int v9), (10, .int v10), (11, .int v11)]) hx hb dL_hangs_675 hl (by decide) rfl (fun ls hl => ?_)
        refine lv_aload_n hx hb dL_hangs_677 rfl (lv_at hl 1 rfl) ?_
        refine lv_iload hx hb dL_hangs_678 (lv_at hl 5 rfl) ?_
        refine lv_iconst (v := (nI 1)) hx hb dL_hangs_680 (by decide) ?_
        refine kRB (As := [.int v11, .int (nI 1)]) (rest := []) (q0 := 0) C (c_X8_lapse l D kI kC kB a h_ x.1 x.2.1 x.2.2.1 x.2.2.2.1 x.2.2.2.2.1 x.2.2.2.2.2.1 x.2.2.2.2.2.2.1 x.2.2.2.2.2.2.2.1 x.2.2.2.2.2.2.2.2.1 x.2.2.2.2.2.2.2.2.2.1 x.2.2.2.2.2.2.2.2.2.2.1 x.2.2.2.2.2.2.2.2.2.2.2.1 x.2.2.2.2.2.2.2.2.2.2.2.2.1 x.2.2.2.2.2.2.2.2.2.2.2.2.2.1 x.2.2.2.2.2.2.2.2.2.2.2.2.2.2.1 x.2.2.2.2.2.2.2.2.2.2.2.2.2.2.2.1 x.2.2.2.2.2.2.2.2.2.2.2.2.2.2.2.2.1 x.2.2.2.2.2.2.2.2.2.2.2.2.2.2.2.2.2.1 x.2.2.2.2.2.2.2.2.2.2.2.2.2.2.2.2.2.2.1 x.2.2.2.2.2.2.2.2.2.2.2.2.2.2.2.2.2.2.2.1 x.2.2.2.2.2.2.2.2.2.2.2.2.2.2.2.2.2.2.2.2.1 x.2.2.2.2.2.2.2.2.2.2.2.2.2.2.2.2.2.2.2.2.2.1 x.2.2.2.2.2.2.2.2.2.2.2.2.2.2.2.2.2.2.2.2.2.2 v11 (nI 1) _ hw) ⟨rfl, rfl⟩ ce_X8_lapse cv_X8_lapse tw_528 ⟨(Nat.le_of_ble_eq_true rfl), (Nat.le_of_ble_eq_true rfl)⟩ hP (bfl_p1 [_] 0 rfl) rfl rfl rfl hl.1 rfl (Nat.le_of_ble_eq_true rfl) ⟨(Nat.le_of_ble_eq_true rfl), (Nat.le_of_ble_eq_true rfl)⟩ dL_hangs_681 (fun r34 hw => ?_)
        refine lv_istore (lv' := [(13, .int r34), (12, .int r33), (0, .ref (a 0)), (6, .int v6), (9, .int v9), (10, .int v10), (11, .int v11)]) hx hb dL_hangs_684 hl (by decide) rfl (fun ls hl => ?_)
        refine lv_iload hx hb dL_hangs_686 (lv_at hl 1 rfl) ?_
        refine lv_iload hx hb dL_hangs_688 (lv_at hl 5 rfl) ?_
        refine lv_icmp_le (tgt := 736) hx hb dL_hangs_690 (by decide) (fun hc => ?_) (fun hc => ?_)
        · replace hw := hw.1 hc
          refine lv_iconst (v := (nI 0)) hx hb dL_hangs_736 (by decide) ?_
          refine lv_istore (lv' := [(6, .int (nI 0)), (13, .int r34), (12, .int r33), (0, .ref (a 0)), (9, .int v9), (10, .int v10), (11, .int v11)]) hx hb dL_hangs_737 hl (by decide) rfl (fun ls hl => ?_)
          refine lv_iload hx hb dL_hangs_739 (lv_at hl 2 rfl) ?_
          refine lv_istore (lv' := [(10, .int r33), (6, .int (nI 0)), (13, .int r34), (12, .int r33), (0, .ref (a 0)), (9, .int v9), (11, .int v11)]) hx hb dL_hangs_741 hl (by decide) rfl (fun ls hl => ?_)
          refine lv_iinc (v := (v11 + nI 1)) (lv' := [(11, .int (v11 + nI 1)), (10, .int r33), (6, .int (nI 0)), (13, .int r34), (12, .int r33), (0, .ref (a 0)), (9, .int v9)]) hx hb dL_hangs_743 hl (k := 6) rfl rfl (by decide) rfl (fun ls hl => ?_)
          refine lv_goto (tgt := 656) hx hb dL_hangs_746 (by decide) ?_
          exact ih (nI 0) r33 (v11 + nI 1) hw H locs hP hD hS ls (lv_sub hl [5, 2, 6, 1, 0] rfl)
        · replace hw := hw.2 hc
          refine lv_aload_n hx hb dL_hangs_693 rfl (lv_at hl 2 rfl) ?_
          refine lv_iload hx hb dL_hangs_694 (lv_at hl 1 rfl) ?_
          refine lv_iconst (v := (nI 1)) hx hb dL_hangs_696 (by decide) ?_
          refine kRB (As := [.int r33, .int (nI 1)]) (rest := []) (q0 := 0) C (c_X8_quire l D kI kC kB a h_ x.1 x.2.1 x.2.2.1 x.2.2.2.1 x.2.2.2.2.1 x.2.2.2.2.2.1 x.2.2.2.2.2.2.1 x.2.2.2.2.2.2.2.1 x.2.2.2.2.2.2.2.2.1 x.2.2.2.2.2.2.2.2.2.1 x.2.2.2.2.2.2.2.2.2.2.1 x.2.2.2.2.2.2.2.2.2.2.2.1 x.2.2.2.2.2.2.2.2.2.2.2.2.1 x.2.2.2.2.2.2.2.2.2.2.2.2.2.1 x.2.2.2.2.2.2.2.2.2.2.2.2.2.2.1 x.2.2.2.2.2.2.2.2.2.2.2.2.2.2.2.1 x.2.2.2.2.2.2.2.2.2.2.2.2.2.2.2.2.1 x.2.2.2.2.2.2.2.2.2.2.2.2.2.2.2.2.2.1 x.2.2.2.2.2.2.2.2.2.2.2.2.2.2.2.2.2.2.1 x.2.2.2.2.2.2.2.2.2.2.2.2.2.2.2.2.2.2.2.1 x.2.2.2.2.2.2.2.2.2.2.2.2.2.2.2.2.2.2.2.2.1 x.2.2.2.2.2.2.2.2.2.2.2.2.2.2.2.2.2.2.2.2.2.1 x.2.2.2.2.2.2.2.2.2.2.2.2.2.2.2.2.2.2.2.2.2.2 r33 (nI 1) _ hw) ⟨rfl, rfl⟩ ce_X8_quire cv_X8_quire tw_488 ⟨(Nat.le_of_ble_eq_true rfl), (Nat.le_of_ble_eq_true rfl)⟩ hP (bfl_p1 [_] 0 rfl) rfl rfl rfl hl.1 rfl (Nat.le_of_ble_eq_true rfl) ⟨(Nat.le_of_ble_eq_true rfl), (Nat.le_of_ble_eq_true rfl)⟩ dL_hangs_697 (fun r35 hw => ?_)
          refine lv_bipush (v := (-5)) hx hb dL_hangs_700 (by decide) ?_
          refine lv_icmp_eq (tgt := 736) hx hb dL_hangs_702 (by decide) (fun hc => ?_) (fun hc => ?_)
          · replace hw := hw.1 hc
            refine lv_iconst (v := (nI 0)) hx hb dL_hangs_736 (by decide) ?_
            refine lv_istore (lv' := [(6, .int (nI 0)), (13, .int r34), (12, .int r33), (0, .ref (a 0)), (9, .int v9), (10, .int v10), (11, .int v11)]) hx hb dL_hangs_737 hl (by decide) rfl (fun ls hl => ?_)
            refine lv_iload hx hb dL_hangs_739 (lv_at hl 2 rfl) ?_
            refine lv_istore (lv' := [(10, .int r33), (6, .int (nI 0)), (13, .int r34), (12, .int r33), (0, .ref (a 0)), (9, .int v9), (11, .int v11)]) hx hb dL_hangs_741 hl (by decide) rfl (fun ls hl => ?_)
            refine lv_iinc (v := (v11 + nI 1)) (lv' := [(11, .int (v11 + nI 1)), (10, .int r33), (6, .int (nI 0)), (13, .int r34), (12, .int r33), (0, .ref (a 0)), (9, .int v9)]) hx hb dL_hangs_743 hl (k := 6) rfl rfl (by decide) rfl (fun ls hl => ?_)
            refine lv_goto (tgt := 656) hx hb dL_hangs_746 (by decide) ?_
            exact ih (nI 0) r33 (v11 + nI 1) hw H locs hP hD hS ls (lv_sub hl [5, 2, 6, 1, 0] rfl)
          · replace hw := hw.2 hc
            refine lv_iload hx hb dL_hangs_705 (lv_at hl 0 rfl) ?_
            refine lv_if_lt (tgt := 736) hx hb dL_hangs_707 (by decide) (fun hc => ?_) (fun hc => ?_)
            · replace hw := hw.1 hc
              refine lv_iconst (v := (nI 0)) hx hb dL_hangs_736 (by decide) ?_
              refine lv_istore (lv' := [(6, .int (nI 0)), (13, .int r34), (12, .int r33), (0, .ref (a 0)), (9, .int v9), (10, .int v10), (11, .int v11)]) hx hb dL_hangs_737 hl (by decide) rfl (fun ls hl => ?_)
              refine lv_iload hx hb dL_hangs_739 (lv_at hl 2 rfl) ?_
              refine lv_istore (lv' := [(10, .int r33), (6, .int (nI 0)), (13, .int r34), (12, .int r33), (0, .ref (a 0)), (9, .int v9), (11, .int v11)]) hx hb dL_hangs_741 hl (by decide) rfl (fun ls hl => ?_)
              refine lv_iinc (v := (v11 + nI 1)) (lv' := [(11, .int (v11 + nI 1)), (10, .int r33), (6, .int (nI 0)), (13, .int r34), (12, .int r33), (0, .ref (a 0)), (9, .int v9)]) hx hb dL_hangs_743 hl (k := 6) rfl rfl (by decide) rfl (fun ls hl => ?_)
              refine lv_goto (tgt := 656) hx hb dL_hangs_746 (by decide) ?_
              exact ih (nI 0) r33 (v11 + nI 1) hw H locs hP hD hS ls (lv_sub hl [5, 2, 6, 1, 0] rfl)
            · replace hw := hw.2 hc
              refine lv_iload hx hb dL_hangs_710 (lv_at hl 0 rfl) ?_
              refine lv_iconst (v := (nI 2)) hx hb dL_hangs_712 (by decide) ?_
              refine lv_icmp_gt (tgt := 736) hx hb dL_hangs_713 (by decide) (fun hc => ?_) (fun hc => ?_)
              · replace hw := hw.1 hc
                refine lv_iconst (v := (nI 0)) hx hb dL_hangs_736 (by decide) ?_
                refine lv_istore (lv' := [(6, .int (nI 0)), (13, .int r34), (12, .int r33), (0, .ref (a 0)), (9, .int v9), (10, .int v10), (11, .int v11)]) hx hb dL_hangs_737 hl (by decide) rfl (fun ls hl => ?_)
                refine lv_iload hx hb dL_hangs_739 (lv_at hl 2 rfl) ?_
                refine lv_istore (lv' := [(10, .int r33), (6, .int (nI 0)), (13, .int r34), (12, .int r33), (0, .ref (a 0)), (9, .int v9), (11, .int v11)]) hx hb dL_hangs_741 hl (by decide) rfl (fun ls hl => ?_)
                refine lv_iinc (v := (v11 + nI 1)) (lv' := [(11, .int (v11 + nI 1)), (10, .int r33), (6, .int (nI 0)), (13, .int r34), (12, .int r33), (0, .ref (a 0)), (9, .int v9)]) hx hb dL_hangs_743 hl (k := 6) rfl rfl (by decide) rfl (fun ls hl => ?_)
                refine lv_goto (tgt := 656) hx hb dL_hangs_746 (by decide) ?_
                exact ih (nI 0) r33 (v11 + nI 1) hw H locs hP hD hS ls (lv_sub hl [5, 2, 6, 1, 0] rfl)
              · replace hw := hw.2 hc
                refine lv_iload hx hb dL_hangs_716 (lv_at hl 0 rfl) ?_
                refine lv_iconst (v := (nI 2)) hx hb dL_hangs_718 (by decide) ?_
                refine lv_icmp_eq (tgt := 732) hx hb dL_hangs_719 (by decide) (fun hc => ?_) (fun hc => ?_)
                · replace hw := hw.1 hc
                  exact cj_L_hangs_732 l D kI kC kB a h_ x v9 v11 r33 Post hA C _ ih hw H locs hP hD hS ls (lv_sub hl [2, 4, 6, 1] rfl)
                · replace hw := hw.2 hc
                  refine lv_aload_n hx hb dL_hangs_722 rfl (lv_at hl 2 rfl) ?_
                  refine lv_iload hx hb dL_hangs_723 (lv_at hl 6 rfl) ?_
                  refine lv_iconst (v := (nI 2)) hx hb dL_hangs_725 (by decide) ?_
                  refine kRB (As := [.int v11, .int (nI 2)]) (rest := []) (q0 := 0) C (c_X8_lapse l D kI kC kB a h_ x.1 x.2.1 x.2.2.1 x.2.2.2.1 x.2.2.2.2.1 x.2.2.2.2.2.1 x.2.2.2.2.2.2.1 x.2.2.2.2.2.2.2.1 x.2.2.2.2.2.2.2.2.1 x.2.2.2.2.2.2.2.2.2.1 x.2.2.2.2.2.2.2.2.2.2.1 x.2.2.2.2.2.2.2.2.2.2.2.1 x.2.2.2.2.2.2.2.2.2.2.2.2.1 x.2.2.2.2.2.2.2.2.2.2.2.2.2.1 x.2.2.2.2.2.2.2.2.2.2.2.2.2.2.1 x.2.2.2.2.2.2.2.2.2.2.2.2.2.2.2.1 x.2.2.2.2.2.2.2.2.2.2.2.2.2.2.2.2.1 x.2.2.2.2.2.2.2.2.2.2.2.2.2.2.2.2.2.1 x.2.2.2.2.2.2.2.2.2.2.2.2.2.2.2.2.2.2.1 x.2.2.2.2.2.2.2.2.2.2.2.2.2.2.2.2.2.2.2.1 x.2.2.2.2.2.2.2.2.2.2.2.2.2.2.2.2.2.2.2.2.1 x.2.2.2.2.2.2.2.2.2.2.2.2.2.2.2.2.2.2.2.2.2.1 x.2.2.2.2.2.2.2.2.2.2.2.2.2.2.2.2.2.2.2.2.2.2 v11 (nI 2) _ hw) ⟨rfl, rfl⟩ ce_X8_lapse cv_X8_lapse tw_528 ⟨(Nat.le_of_ble_eq_true rfl), (Nat.le_of_ble_eq_true rfl)⟩ hP (bfl_p1 [_] 0 rfl) rfl rfl rfl hl.1 rfl (Nat.le_of_ble_eq_true rfl) ⟨(Nat.le_of_ble_eq_true rfl), (Nat.le_of_ble_eq_true rfl)⟩ dL_hangs_726 (fun r36 hw => ?_)
                  refine lv_if_ne (tgt := 736) hx hb dL_hangs_729 (by decide) (fun hc => ?_) (fun hc => ?_)
                  · replace hw := hw.2 hc
                    refine lv_iconst (v := (nI 0)) hx hb dL_hangs_736 (by decide) ?_
                    refine lv_istore (lv' := [(6, .int (nI 0)), (13, .int r34), (12, .int r33), (0, .ref (a 0)), (9, .int v9), (10, .int v10), (11, .int v11)]) hx hb dL_hangs_737 hl (by decide) rfl (fun ls hl => ?_)
                    refine lv_iload hx hb dL_hangs_739 (lv_at hl 2 rfl) ?_
                    refine lv_istore (lv' := [(10, .int r33), (6, .int (nI 0)), (13, .int r34), (12, .int r33), (0, .ref (a 0)), (9, .int v9), (11, .int v11)]) hx hb dL_hangs_741 hl (by decide) rfl (fun ls hl => ?_)
                    refine lv_iinc (v := (v11 + nI 1)) (lv' := [(11, .int (v11 + nI 1)), (10, .int r33), (6, .int (nI 0)), (13, .int r34), (12, .int r33), (0, .ref (a 0)), (9, .int v9)]) hx hb dL_hangs_743 hl (k := 6) rfl rfl (by decide) rfl (fun ls hl => ?_)
                    refine lv_goto (tgt := 656) hx hb dL_hangs_746 (by decide) ?_
                    exact ih (nI 0) r33 (v11 + nI 1) hw H locs hP hD hS ls (lv_sub hl [5, 2, 6, 1, 0] rfl)
                  · replace hw := hw.1 hc
                    exact cj_L_hangs_732 l D kI kC kB a h_ x v9 v11 r33 Post hA C _ ih hw H locs hP hD hS ls (lv_sub hl [2, 4, 6, 1] rfl)
set_option maxHeartbeats 4000000 in
set_option maxRecDepth 100000 in
theorem cj_L_hangs_640 (l : Launch) (D : va_G) (kI kC kB : ClassId) (a : AdT) (h_ : Nat → AdT) (x : XS) (Post : Int32 → XS → Prop) {p : Program} {e : Env} {s : State} {m : MethodId} {args : Array Value} {below : List Frame} {meth : Method} {c : Code} {A : Nat → Prop} (hA : ∀ q : Nat, s.heap.size ≤ q → A q) (C : CtxT p s m args meth c cL_hangs 16 (some .boolean) yL_hangs.cls D kI kC kB) : ∀ (t0 : Int32), wj_L_hangs_640 x t0 Post → ∀ (H : Heap) (locs : List Loc), va_P D vwCl (bfl [cwX kI kB a h_ x]) H → va_D A (bfl [cwX kI kB a h_ x]) → va_S A s.heap H locs → ∀ (ls : Array Slot), lv_has ls 16 [(0, .ref (a 0))] → W p l e ({ frames := 7, cells := 0, slots := 0, locals := 154 } : Room) s m args below meth c H locs 0 0 (MQ below (va_Qi (fun (r : Int32) (u : (Nat → AdT) × XS) => Post r u.2) (BB D A (fun u : (Nat → AdT) × XS => cwX kI kB a u.1 u.2)) A) args s 0 0 A) (F0 m 640 ls [.int t0]) := by
  obtain ⟨hx, hb, hr, hml, hown, hts, hlocks, hK⟩ := id C
  intro t0 hw H locs hP hD hS ls hl
  unfold wj_L_hangs_640 at hw
  refine lv_istore (lv' := [(6, .int t0), (0, .ref (a 0))]) hx hb dL_hangs_640 hl (by decide) rfl (fun ls hl => ?_)
  refine lv_aload_n hx hb dL_hangs_642 rfl (lv_at hl 1 rfl) ?_
  refine lv_bipush (v := (nI 6)) hx hb dL_hangs_643 (by decide) ?_
  refine kMBi (As := [.int (nI 6)]) (rest := []) (q0 := 0) (ws' := fun u : (Nat → AdT) × XS => (bfl [cwX kI kB a u.1 u.2])) C (cx_count l D kI kC kB a h_ x H.size (nI 6) _ hw) ⟨rfl, rfl⟩ ce_X8_count cv_X8_count tw_597 ⟨(Nat.le_of_ble_eq_true rfl), (Nat.le_of_ble_eq_true rfl)⟩ hP hD hS hA (bfl_p1 [_] 0 rfl) (fun u => (bfl_p1 [_] 0 rfl)) rfl rfl rfl hl.1 rfl (Nat.le_of_ble_eq_true rfl) ⟨(Nat.le_of_ble_eq_true rfl), (Nat.le_of_ble_eq_true rfl)⟩ dL_hangs_645 (fun r37 u H locs hw hP hD hS => ?_)
  obtain ⟨h38, x39⟩ := u
  try dsimp only at hw
  replace hP : va_P D vwCl (bfl [cwX kI kB a h38 x39]) H := hP
  replace hD : va_D A (bfl [cwX kI kB a h38 x39]) := hD
  refine lv_istore (lv' := [(9, .int r37), (6, .int t0), (0, .ref (a 0))]) hx hb dL_hangs_648 hl (by decide) rfl (fun ls hl => ?_)
  refine lv_iconst (v := (nI 0)) hx hb dL_hangs_650 (by decide) ?_
  refine lv_istore (lv' := [(10, .int (nI 0)), (9, .int r37), (6, .int t0), (0, .ref (a 0))]) hx hb dL_hangs_651 hl (by decide) rfl (fun ls hl => ?_)
  refine lv_iconst (v := (nI 0)) hx hb dL_hangs_653 (by decide) ?_
  refine lv_istore (lv' := [(11, .int (nI 0)), (10, .int (nI 0)), (9, .int r37), (6, .int t0), (0, .ref (a 0))]) hx hb dL_hangs_654 hl (by decide) rfl (fun ls hl => ?_)
  obtain ⟨n9, hw⟩ := hw
  exact cl_L_hangs_656 l D kI kC kB a h38 x39 r37 Post hA C n9 t0 (nI 0) (nI 0) hw H locs hP hD hS ls (lv_sub hl [4, 3, 2, 1, 0] rfl)
set_option maxHeartbeats 4000000 in
set_option maxRecDepth 100000 in
theorem cj_L_hangs_639 (l : Launch) (D : va_G) (kI kC kB : ClassId) (a : AdT) (h_ : Nat → AdT) (x : XS) (Post : Int32 → XS → Prop) {p : Program} {e : Env} {s : State} {m : MethodId} {args : Array Value} {below : List Frame} {meth : Method} {c : Code} {A : Nat → Prop} (hA : ∀ q : Nat, s.heap.size ≤ q → A q) (C : CtxT p s m args meth c cL_hangs 16 (some .boolean) yL_hangs.cls D kI kC kB) : wj_L_hangs_639 x Post → ∀ (H : Heap) (locs : List Loc), va_P D vwCl (bfl [cwX kI kB a h_ x]) H → va_D A (bfl [cwX kI kB a h_ x]) → va_S A s.heap H locs → ∀ (ls : Array Slot), lv_has ls 16 [(0, .ref (a 0))] → W p l e ({ frames := 7, cells := 0, slots := 0, locals := 154 } : Room) s m args below meth c H locs 0 0 (MQ below (va_Qi (fun (r : Int32) (u : (Nat → AdT) × XS) => Post r u.2) (BB D A (fun u : (Nat → AdT) × XS => cwX kI kB a u.1 u.2)) A) args s 0 0 A) (F0 m 639 ls []) := by
  obtain ⟨hx, hb, hr, hml, hown, hts, hlocks, hK⟩ := id C
  intro hw H locs hP hD hS ls hl
  unfold wj_L_hangs_639 at hw
  refine lv_iconst (v := (nI 0)) hx hb dL_hangs_639 (by decide) ?_
  exact cj_L_hangs_640 l D kI kC kB a h_ x Post hA C (nI 0) hw H locs hP hD hS ls (lv_sub hl [0] rfl)
set_option maxHeartbeats 4000000 in
set_option maxRecDepth 100000 in
theorem cj_L_hangs_632 (l : Launch) (D : va_G) (kI kC kB : ClassId) (a : AdT) (h_ : Nat → AdT) (x : XS) (Post : Int32 → XS → Prop) {p : Program} {e : Env} {s : State} {m : MethodId} {args : Array Value} {below : List Frame} {meth : Method} {c : Code} {A : Nat → Prop} (hA : ∀ q : Nat, s.heap.size ≤ q → A q) (C : CtxT p s m args meth c cL_hangs 16 (some .boolean) yL_hangs.cls D kI kC kB) : ∀ (t0 : Int32) (t1 : Int32), wj_L_hangs_632 x t0 t1 Post → ∀ (H : Heap) (locs : List Loc), va_P D vwCl (bfl [cwX kI kB a h_ x]) H → va_D A (bfl [cwX kI kB a h_ x]) → va_S A s.heap H locs → ∀ (ls : Array Slot), lv_has ls 16 [(0, .ref (a 0))] → W p l e ({ frames := 7, cells := 0, slots := 0, locals := 154 } : Room) s m args below meth c H locs 0 0 (MQ below (va_Qi (fun (r : Int32) (u : (Nat → AdT) × XS) => Post r u.2) (BB D A (fun u : (Nat → AdT) × XS => cwX kI kB a u.1 u.2)) A) args s 0 0 A) (F0 m 632 ls [.int t1, .int t0]) := by
  obtain ⟨hx, hb, hr, hml, hown, hts, hlocks, hK⟩ := id C
  intro t0 t1 hw H locs hP hD hS ls hl
  unfold wj_L_hangs_632 at hw
  refine lv_icmp_ne (tgt := 639) hx hb dL_hangs_632 (by decide) (fun hc => ?_) (fun hc => ?_)
  · replace hw := hw.2 hc
    exact cj_L_hangs_639 l D kI kC kB a h_ x Post hA C hw H locs hP hD hS ls (lv_sub hl [0] rfl)
  · replace hw := hw.1 hc
    refine lv_iconst (v := (nI 1)) hx hb dL_hangs_635 (by decide) ?_
    refine lv_goto (tgt := 640) hx hb dL_hangs_636 (by decide) ?_
    exact cj_L_hangs_640 l D kI kC kB a h_ x Post hA C (nI 1) hw H locs hP hD hS ls (lv_sub hl [0] rfl)
set_option maxHeartbeats 4000000 in
set_option maxRecDepth 100000 in
theorem cj_L_hangs_598 (l : Launch) (D : va_G) (kI kC kB : ClassId) (a : AdT) (h_ : Nat → AdT) (x : XS) (v1 : Int32) (v6 : Int32) (v7 : Int32) (v8 : Int32) (Post : Int32 → XS → Prop) {p : Program} {e : Env} {s : State} {m : MethodId} {args : Array Value} {below : List Frame} {meth : Method} {c : Code} {A : Nat → Prop} (hA : ∀ q : Nat, s.heap.size ≤ q → A q) (C : CtxT p s m args meth c cL_hangs 16 (some .boolean) yL_hangs.cls D kI kC kB) : wj_L_hangs_598 x v1 v6 v7 v8 Post → ∀ (H : Heap) (locs : List Loc), va_P D vwCl (bfl [cwX kI kB a h_ x]) H → va_D A (bfl [cwX kI kB a h_ x]) → va_S A s.heap H locs → ∀ (ls : Array Slot), lv_has ls 16 [(0, .ref (a 0)), (1, .int v1), (6, .int v6), (7, .int v7), (8, .int v8)] → W p l e ({ frames := 7, cells := 0, slots := 0, locals := 154 } : Room) s m args below meth c H locs 0 0 (MQ below (va_Qi (fun (r : Int32) (u : (Nat → AdT) × XS) => Post r u.2) (BB D A (fun u : (Nat → AdT) × XS => cwX kI kB a u.1 u.2)) A) args s 0 0 A) (F0 m 598 ls []) := by
  obtain ⟨hx, hb, hr, hml, hown, hts, hlocks, hK⟩ := id C
  intro hw H locs hP hD hS ls hl
  unfold wj_L_hangs_598 at hw
  refine lv_iload hx hb dL_hangs_598 (lv_at hl 2 rfl) ?_
  refine lv_if_eq (tgt := 639) hx hb dL_hangs_600 (by decide) (fun hc => ?_) (fun hc => ?_)
  · replace hw := hw.1 hc
    exact cj_L_hangs_639 l D kI kC kB a h_ x Post hA C hw H locs hP hD hS ls (lv_sub hl [0] rfl)
  · replace hw := hw.2 hc
    refine lv_aload_n hx hb dL_hangs_603 rfl (lv_at hl 0 rfl) ?_
    refine lv_iload hx hb dL_hangs_604 (lv_at hl 3 rfl) ?_
    refine kMBi (As := [.int v7]) (rest := []) (q0 := 0) (ws' := fun u : (Nat → AdT) × XS => (bfl [cwX kI kB a u.1 u.2])) C (cx_formula l D kI kC kB a h_ x H.size v7 _ hw) ⟨rfl, rfl⟩ ce_X8_formula cv_X8_formula tw_557 ⟨(Nat.le_of_ble_eq_true rfl), (Nat.le_of_ble_eq_true rfl)⟩ hP hD hS hA (bfl_p1 [_] 0 rfl) (fun u => (bfl_p1 [_] 0 rfl)) rfl rfl rfl hl.1 rfl (Nat.le_of_ble_eq_true rfl) ⟨(Nat.le_of_ble_eq_true rfl), (Nat.le_of_ble_eq_true rfl)⟩ dL_hangs_606 (fun r40 u H locs hw hP hD hS => ?_)
    obtain ⟨h41, x42⟩ := u
    try dsimp only at hw
    replace hP : va_P D vwCl (bfl [cwX kI kB a h41 x42]) H := hP
    replace hD : va_D A (bfl [cwX kI kB a h41 x42]) := hD
    refine lv_bipush (v := (-5)) hx hb dL_hangs_609 (by decide) ?_
    refine lv_icmp_ne (tgt := 639) hx hb dL_hangs_611 (by decide) (fun hc => ?_) (fun hc => ?_)
    · replace hw := hw.2 hc
      exact cj_L_hangs_639 l D kI kC kB a h41 x42 Post hA C hw H locs hP hD hS ls (lv_sub hl [0] rfl)
    · replace hw := hw.1 hc
      refine lv_aload_n hx hb dL_hangs_614 rfl (lv_at hl 0 rfl) ?_
      refine lv_bipush (v := (nI 8)) hx hb dL_hangs_615 (by decide) ?_
      refine kMBi (As := [.int (nI 8)]) (rest := []) (q0 := 0) (ws' := fun u : (Nat → AdT) × XS => (bfl [cwX kI kB a u.1 u.2])) C (cx_count l D kI kC kB a h41 x42 H.size (nI 8) _ hw) ⟨rfl, rfl⟩ ce_X8_count cv_X8_count tw_597 ⟨(Nat.le_of_ble_eq_true rfl), (Nat.le_of_ble_eq_true rfl)⟩ hP hD hS hA (bfl_p1 [_] 0 rfl) (fun u => (bfl_p1 [_] 0 rfl)) rfl rfl rfl hl.1 rfl (Nat.le_of_ble_eq_true rfl) ⟨(Nat.le_of_ble_eq_true rfl), (Nat.le_of_ble_eq_true rfl)⟩ dL_hangs_617 (fun r43 u H locs hw hP hD hS => ?_)
      obtain ⟨h44, x45⟩ := u
      try dsimp only at hw
      replace hP : va_P D vwCl (bfl [cwX kI kB a h44 x45]) H := hP
      replace hD : va_D A (bfl [cwX kI kB a h44 x45]) := hD
      refine lv_iload_n hx hb dL_hangs_620 rfl (lv_at hl 1 rfl) ?_
      refine lv_if_ne (tgt := 628) hx hb dL_hangs_621 (by decide) (fun hc => ?_) (fun hc => ?_)
      · replace hw := hw.2 hc
        refine lv_iload hx hb dL_hangs_628 (lv_at hl 4 rfl) ?_
        refine lv_iconst (v := (nI 1)) hx hb dL_hangs_630 (by decide) ?_
        refine lv_iadd hx hb dL_hangs_631 ?_
        exact cj_L_hangs_632 l D kI kC kB a h44 x45 Post hA C r43 (v8 + (nI 1)) hw H locs hP hD hS ls (lv_sub hl [0] rfl)
      · replace hw := hw.1 hc
        refine lv_iconst (v := (nI 0)) hx hb dL_hangs_624 (by decide) ?_
        refine lv_goto (tgt := 632) hx hb dL_hangs_625 (by decide) ?_
        exact cj_L_hangs_632 l D kI kC kB a h44 x45 Post hA C r43 (nI 0) hw H locs hP hD hS ls (lv_sub hl [0] rfl)
set_option maxHeartbeats 4000000 in
set_option maxRecDepth 100000 in
theorem cl_L_hangs_485 (l : Launch) (D : va_G) (kI kC kB : ClassId) (a : AdT) (v1 : Int32) (v7 : Int32) (Post : Int32 → XS → Prop) {p : Program} {e : Env} {s : State} {m : MethodId} {args : Array Value} {below : List Frame} {meth : Method} {c : Code} {A : Nat → Prop} (hA : ∀ q : Nat, s.heap.size ≤ q → A q) (C : CtxT p s m args meth c cL_hangs 16 (some .boolean) yL_hangs.cls D kI kC kB) : ∀ (n : Nat), ∀ (h_ : Nat → AdT) (x : XS) (v6 : Int32) (v8 : Int32) (v9 : Int32), wl_L_hangs_485 v1 v7 Post n x v6 v8 v9 → ∀ (H : Heap) (locs : List Loc), va_P D vwCl (bfl [cwX kI kB a h_ x]) H → va_D A (bfl [cwX kI kB a h_ x]) → va_S A s.heap H locs → ∀ (ls : Array Slot), lv_has ls 16 [(0, .ref (a 0)), (1, .int v1), (6, .int v6), (7, .int v7), (8, .int v8), (9, .int v9)] → W p l e ({ frames := 7, cells := 0, slots := 0, locals := 154 } : Room) s m args below meth c H locs 0 0 (MQ below (va_Qi (fun (r : Int32) (u : (Nat → AdT) × XS) => Post r u.2) (BB D A (fun u : (Nat → AdT) × XS => cwX kI kB a u.1 u.2)) A) args s 0 0 A) (F0 m 485 ls []) := by
  obtain ⟨hx, hb, hr, hml, hown, hts, hlocks, hK⟩ := id C
  intro n
  induction n with
  | zero => intro h_ x v6 v8 v9 hw; exact hw.elim
  | succ n ih =>
    intro h_ x v6 v8 v9 hw H locs hP hD hS ls hl
    unfold wl_L_hangs_485 at hw
    refine lv_iload hx hb dL_hangs_485 (lv_at hl 5 rfl) ?_
    refine lv_iload hx hb dL_hangs_487 (lv_at hl 3 rfl) ?_
    refine lv_icmp_ge (tgt := 598) hx hb dL_hangs_489 (by decide) (fun hc => ?_) (fun hc => ?_)
    · replace hw := hw.1 hc
      exact cj_L_hangs_598 l D kI kC kB a h_ x v1 v6 v7 v8 Post hA C hw H locs hP hD hS ls (lv_sub hl [0, 1, 2, 3, 4] rfl)
    · replace hw := hw.2 hc
      refine lv_iload hx hb dL_hangs_492 (lv_at hl 2 rfl) ?_
      refine lv_if_eq (tgt := 598) hx hb dL_hangs_494 (by decide) (fun hc => ?_) (fun hc => ?_)
      · replace hw := hw.1 hc
        exact cj_L_hangs_598 l D kI kC kB a h_ x v1 v6 v7 v8 Post hA C hw H locs hP hD hS ls (lv_sub hl [0, 1, 2, 3, 4] rfl)
      · replace hw := hw.2 hc
        refine lv_aload_n hx hb dL_hangs_497 rfl (lv_at hl 0 rfl) ?_
        refine lv_iload hx hb dL_hangs_498 (lv_at hl 5 rfl) ?_
        refine kMBi (As := [.int v9]) (rest := []) (q0 := 0) (ws' := fun u : (Nat → AdT) × XS => (bfl [cwX kI kB a u.1 u.2])) C (cx_formula l D kI kC kB a h_ x H.size v9 _ hw) ⟨rfl, rfl⟩ ce_X8_formula cv_X8_formula tw_557 ⟨(Nat.le_of_ble_eq_true rfl), (Nat.le_of_ble_eq_true rfl)⟩ hP hD hS hA (bfl_p1 [_] 0 rfl) (fun u => (bfl_p1 [_] 0 rfl)) rfl rfl rfl hl.1 rfl (Nat.le_of_ble_eq_true rfl) ⟨(Nat.le_of_ble_eq_true rfl), (Nat.le_of_ble_eq_true rfl)⟩ dL_hangs_500 (fun r46 u H locs hw hP hD hS => ?_)
        obtain ⟨h47, x48⟩ := u
        try dsimp only at hw
        replace hP : va_P D vwCl (bfl [cwX kI kB a h47 x48]) H := hP
        replace hD : va_D A (bfl [cwX kI kB a h47 x48]) := hD
        refine lv_istore (lv' := [(10, .int r46), (0, .ref (a 0)), (1, .int v1), (6, .int v6), (7, .int v7), (8, .int v8), (9, .int v9)]) hx hb dL_hangs_503 hl (by decide) rfl (fun ls hl => ?_)
        refine lv_iload hx hb dL_hangs_505 (lv_at hl 5 rfl) ?_
        refine lv_iload hx hb dL_hangs_507 (lv_at hl 0 rfl) ?_
        refine lv_bipush (v := (nI 44)) hx hb dL_hangs_509 (by decide) ?_
        refine lv_icmp_ne (tgt := 518) hx hb dL_hangs_511 (by decide) (fun hc => ?_) (fun hc => ?_)
        · replace hw := hw.2 hc
          refine lv_iconst (v := (nI 0)) hx hb dL_hangs_518 (by decide) ?_
          exact cj_L_hangs_519 l D kI kC kB a h47 x48 v1 v7 v9 r46 Post hA C _ ih v8 (nI 0) hw H locs hP hD hS ls (lv_sub hl [1, 2, 4, 6, 0] rfl)
        · replace hw := hw.1 hc
          refine lv_iconst (v := (nI 1)) hx hb dL_hangs_514 (by decide) ?_
          refine lv_goto (tgt := 519) hx hb dL_hangs_515 (by decide) ?_
          exact cj_L_hangs_519 l D kI kC kB a h47 x48 v1 v7 v9 r46 Post hA C _ ih v8 (nI 1) hw H locs hP hD hS ls (lv_sub hl [1, 2, 4, 6, 0] rfl)
set_option maxHeartbeats 4000000 in
set_option maxRecDepth 100000 in
theorem cj_L_hangs_469 (l : Launch) (D : va_G) (kI kC kB : ClassId) (a : AdT) (h_ : Nat → AdT) (x : XS) (v1 : Int32) (Post : Int32 → XS → Prop) {p : Program} {e : Env} {s : State} {m : MethodId} {args : Array Value} {below : List Frame} {meth : Method} {c : Code} {A : Nat → Prop} (hA : ∀ q : Nat, s.heap.size ≤ q → A q) (C : CtxT p s m args meth c cL_hangs 16 (some .boolean) yL_hangs.cls D kI kC kB) : ∀ (t0 : Int32), wj_L_hangs_469 x v1 t0 Post → ∀ (H : Heap) (locs : List Loc), va_P D vwCl (bfl [cwX kI kB a h_ x]) H → va_D A (bfl [cwX kI kB a h_ x]) → va_S A s.heap H locs → ∀ (ls : Array Slot), lv_has ls 16 [(0, .ref (a 0)), (1, .int v1)] → W p l e ({ frames := 7, cells := 0, slots := 0, locals := 154 } : Room) s m args below meth c H locs 0 0 (MQ below (va_Qi (fun (r : Int32) (u : (Nat → AdT) × XS) => Post r u.2) (BB D A (fun u : (Nat → AdT) × XS => cwX kI kB a u.1 u.2)) A) args s 0 0 A) (F0 m 469 ls [.int t0]) := by
  obtain ⟨hx, hb, hr, hml, hown, hts, hlocks, hK⟩ := id C
  intro t0 hw H locs hP hD hS ls hl
  unfold wj_L_hangs_469 at hw
  refine lv_istore (lv' := [(6, .int t0), (0, .ref (a 0)), (1, .int v1)]) hx hb dL_hangs_469 hl (by decide) rfl (fun ls hl => ?_)
  refine lv_aload_n hx hb dL_hangs_471 rfl (lv_at hl 1 rfl) ?_
  refine lv_bipush (v := (nI 7)) hx hb dL_hangs_472 (by decide) ?_
  refine kMBi (As := [.int (nI 7)]) (rest := []) (q0 := 0) (ws' := fun u : (Nat → AdT) × XS => (bfl [cwX kI kB a u.1 u.2])) C (cx_count l D kI kC kB a h_ x H.size (nI 7) _ hw) ⟨rfl, rfl⟩ ce_X8_count cv_X8_count tw_597 ⟨(Nat.le_of_ble_eq_true rfl), (Nat.le_of_ble_eq_true rfl)⟩ hP hD hS hA (bfl_p1 [_] 0 rfl) (fun u => (bfl_p1 [_] 0 rfl)) rfl rfl rfl hl.1 rfl (Nat.le_of_ble_eq_true rfl) ⟨(Nat.le_of_ble_eq_true rfl), (Nat.le_of_ble_eq_true rfl)⟩ dL_hangs_474 (fun r49 u H locs hw hP hD hS => ?_)
  obtain ⟨h50, x51⟩ := u
  try dsimp only at hw
  replace hP : va_P D vwCl (bfl [cwX kI kB a h50 x51]) H := hP
  replace hD : va_D A (bfl [cwX kI kB a h50 x51]) := hD
  refine lv_istore (lv' := [(7, .int r49), (6, .int t0), (0, .ref (a 0)), (1, .int v1)]) hx hb dL_hangs_477 hl (by decide) rfl (fun ls hl => ?_)
  refine lv_iconst (v := (nI 0)) hx hb dL_hangs_479 (by decide) ?_
  refine lv_istore (lv' := [(8, .int (nI 0)), (7, .int r49), (6, .int t0), (0, .ref (a 0)), (1, .int v1)]) hx hb dL_hangs_480 hl (by decide) rfl (fun ls hl => ?_)
  refine lv_iconst (v := (nI 0)) hx hb dL_hangs_482 (by decide) ?_
  refine lv_istore (lv' := [(9, .int (nI 0)), (8, .int (nI 0)), (7, .int r49), (6, .int t0), (0, .ref (a 0)), (1, .int v1)]) hx hb dL_hangs_483 hl (by decide) rfl (fun ls hl => ?_)
  obtain ⟨n9, hw⟩ := hw
  exact cl_L_hangs_485 l D kI kC kB a v1 r49 Post hA C n9 h50 x51 t0 (nI 0) (nI 0) hw H locs hP hD hS ls (lv_sub hl [4, 5, 3, 2, 1, 0] rfl)
set_option maxHeartbeats 4000000 in
set_option maxRecDepth 100000 in
theorem cj_L_hangs_468 (l : Launch) (D : va_G) (kI kC kB : ClassId) (a : AdT) (h_ : Nat → AdT) (x : XS) (v1 : Int32) (Post : Int32 → XS → Prop) {p : Program} {e : Env} {s : State} {m : MethodId} {args : Array Value} {below : List Frame} {meth : Method} {c : Code} {A : Nat → Prop} (hA : ∀ q : Nat, s.heap.size ≤ q → A q) (C : CtxT p s m args meth c cL_hangs 16 (some .boolean) yL_hangs.cls D kI kC kB) : wj_L_hangs_468 x v1 Post → ∀ (H : Heap) (locs : List Loc), va_P D vwCl (bfl [cwX kI kB a h_ x]) H → va_D A (bfl [cwX kI kB a h_ x]) → va_S A s.heap H locs → ∀ (ls : Array Slot), lv_has ls 16 [(0, .ref (a 0)), (1, .int v1)] → W p l e ({ frames := 7, cells := 0, slots := 0, locals := 154 } : Room) s m args below meth c H locs 0 0 (MQ below (va_Qi (fun (r : Int32) (u : (Nat → AdT) × XS) => Post r u.2) (BB D A (fun u : (Nat → AdT) × XS => cwX kI kB a u.1 u.2)) A) args s 0 0 A) (F0 m 468 ls []) := by
  obtain ⟨hx, hb, hr, hml, hown, hts, hlocks, hK⟩ := id C
  intro hw H locs hP hD hS ls hl
  unfold wj_L_hangs_468 at hw
  refine lv_iconst (v := (nI 0)) hx hb dL_hangs_468 (by decide) ?_
  exact cj_L_hangs_469 l D kI kC kB a h_ x v1 Post hA C (nI 0) hw H locs hP hD hS ls (lv_sub hl [0, 1] rfl)
set_option maxHeartbeats 4000000 in
set_option maxRecDepth 100000 in
theorem cj_L_hangs_409 (l : Launch) (D : va_G) (kI kC kB : ClassId) (a : AdT) (h_ : Nat → AdT) (x : XS) (v1 : Int32) (v2 : Int32) (v3 : Int32) (v4 : Int32) (v5 : Int32) (v6 : Int32) (Post : Int32 → XS → Prop) {p : Program} {e : Env} {s : State} {m : MethodId} {args : Array Value} {below : List Frame} {meth : Method} {c : Code} {A : Nat → Prop} (hA : ∀ q : Nat, s.heap.size ≤ q → A q) (C : CtxT p s m args meth c cL_hangs 16 (some .boolean) yL_hangs.cls D kI kC kB) : wj_L_hangs_409 x v1 v2 v3 v4 v5 v6 Post → ∀ (H : Heap) (locs : List Loc), va_P D vwCl (bfl [cwX kI kB a h_ x]) H → va_D A (bfl [cwX kI kB a h_ x]) → va_S A s.heap H locs → ∀ (ls : Array Slot), lv_has ls 16 [(0, .ref (a 0)), (1, .int v1), (2, .int v2), (3, .int v3), (4, .int v4), (5, .int v5), (6, .int v6)] → W p l e ({ frames := 7, cells := 0, slots := 0, locals := 154 } : Room) s m args below meth c H locs 0 0 (MQ below (va_Qi (fun (r : Int32) (u : (Nat → AdT) × XS) => Post r u.2) (BB D A (fun u : (Nat → AdT) × XS => cwX kI kB a u.1 u.2)) A) args s 0 0 A) (F0 m 409 ls []) := by
  obtain ⟨hx, hb, hr, hml, hown, hts, hlocks, hK⟩ := id C
  intro hw H locs hP hD hS ls hl
  unfold wj_L_hangs_409 at hw
  refine lv_iload hx hb dL_hangs_409 (lv_at hl 6 rfl) ?_
  refine lv_if_eq (tgt := 468) hx hb dL_hangs_411 (by decide) (fun hc => ?_) (fun hc => ?_)
  · replace hw := hw.1 hc
    exact cj_L_hangs_468 l D kI kC kB a h_ x v1 Post hA C hw H locs hP hD hS ls (lv_sub hl [0, 1] rfl)
  · replace hw := hw.2 hc
    refine lv_iload_n hx hb dL_hangs_414 rfl (lv_at hl 2 rfl) ?_
    refine lv_aload_n hx hb dL_hangs_415 rfl (lv_at hl 0 rfl) ?_
    refine lv_iconst (v := (nI 1)) hx hb dL_hangs_416 (by decide) ?_
    refine kMBi (As := [.int (nI 1)]) (rest := [.int v2]) (q0 := 0) (ws' := fun u : (Nat → AdT) × XS => (bfl [cwX kI kB a u.1 u.2])) C (cx_count l D kI kC kB a h_ x H.size (nI 1) _ hw) ⟨rfl, rfl⟩ ce_X8_count cv_X8_count tw_597 ⟨(Nat.le_of_ble_eq_true rfl), (Nat.le_of_ble_eq_true rfl)⟩ hP hD hS hA (bfl_p1 [_] 0 rfl) (fun u => (bfl_p1 [_] 0 rfl)) rfl rfl rfl hl.1 rfl (Nat.le_of_ble_eq_true rfl) ⟨(Nat.le_of_ble_eq_true rfl), (Nat.le_of_ble_eq_true rfl)⟩ dL_hangs_417 (fun r52 u H locs hw hP hD hS => ?_)
    obtain ⟨h53, x54⟩ := u
    try dsimp only at hw
    replace hP : va_P D vwCl (bfl [cwX kI kB a h53 x54]) H := hP
    replace hD : va_D A (bfl [cwX kI kB a h53 x54]) := hD
    refine lv_icmp_ne (tgt := 468) hx hb dL_hangs_420 (by decide) (fun hc => ?_) (fun hc => ?_)
    · replace hw := hw.2 hc
      exact cj_L_hangs_468 l D kI kC kB a h53 x54 v1 Post hA C hw H locs hP hD hS ls (lv_sub hl [0, 1] rfl)
    · replace hw := hw.1 hc
      refine lv_iload_n hx hb dL_hangs_423 rfl (lv_at hl 3 rfl) ?_
      refine lv_aload_n hx hb dL_hangs_424 rfl (lv_at hl 0 rfl) ?_
      refine lv_iconst (v := (nI 3)) hx hb dL_hangs_425 (by decide) ?_
      refine kMBi (As := [.int (nI 3)]) (rest := [.int v3]) (q0 := 0) (ws' := fun u : (Nat → AdT) × XS => (bfl [cwX kI kB a u.1 u.2])) C (cx_count l D kI kC kB a h53 x54 H.size (nI 3) _ hw) ⟨rfl, rfl⟩ ce_X8_count cv_X8_count tw_597 ⟨(Nat.le_of_ble_eq_true rfl), (Nat.le_of_ble_eq_true rfl)⟩ hP hD hS hA (bfl_p1 [_] 0 rfl) (fun u => (bfl_p1 [_] 0 rfl)) rfl rfl rfl hl.1 rfl (Nat.le_of_ble_eq_true rfl) ⟨(Nat.le_of_ble_eq_true rfl), (Nat.le_of_ble_eq_true rfl)⟩ dL_hangs_426 (fun r55 u H locs hw hP hD hS => ?_)
      obtain ⟨h56, x57⟩ := u
      try dsimp only at hw
      replace hP : va_P D vwCl (bfl [cwX kI kB a h56 x57]) H := hP
      replace hD : va_D A (bfl [cwX kI kB a h56 x57]) := hD
      refine lv_icmp_ne (tgt := 468) hx hb dL_hangs_429 (by decide) (fun hc => ?_) (fun hc => ?_)
      · replace hw := hw.2 hc
        exact cj_L_hangs_468 l D kI kC kB a h56 x57 v1 Post hA C hw H locs hP hD hS ls (lv_sub hl [0, 1] rfl)
      · replace hw := hw.1 hc
        refine lv_aload_n hx hb dL_hangs_432 rfl (lv_at hl 0 rfl) ?_
        refine lv_iconst (v := (nI 2)) hx hb dL_hangs_433 (by decide) ?_
        refine kMBi (As := [.int (nI 2)]) (rest := []) (q0 := 0) (ws' := fun u : (Nat → AdT) × XS => (bfl [cwX kI kB a u.1 u.2])) C (cx_count l D kI kC kB a h56 x57 H.size (nI 2) _ hw) ⟨rfl, rfl⟩ ce_X8_count cv_X8_count tw_597 ⟨(Nat.le_of_ble_eq_true rfl), (Nat.le_of_ble_eq_true rfl)⟩ hP hD hS hA (bfl_p1 [_] 0 rfl) (fun u => (bfl_p1 [_] 0 rfl)) rfl rfl rfl hl.1 rfl (Nat.le_of_ble_eq_true rfl) ⟨(Nat.le_of_ble_eq_true rfl), (Nat.le_of_ble_eq_true rfl)⟩ dL_hangs_434 (fun r58 u H locs hw hP hD hS => ?_)
        obtain ⟨h59, x60⟩ := u
        try dsimp only at hw
        replace hP : va_P D vwCl (bfl [cwX kI kB a h59 x60]) H := hP
        replace hD : va_D A (bfl [cwX kI kB a h59 x60]) := hD
        refine lv_iload_n hx hb dL_hangs_437 rfl (lv_at hl 2 rfl) ?_
        refine lv_iload hx hb dL_hangs_438 (lv_at hl 4 rfl) ?_
        refine lv_isub hx hb dL_hangs_440 ?_
        refine lv_icmp_ne (tgt := 468) hx hb dL_hangs_441 (by decide) (fun hc => ?_) (fun hc => ?_)
        · replace hw := hw.2 hc
          exact cj_L_hangs_468 l D kI kC kB a h59 x60 v1 Post hA C hw H locs hP hD hS ls (lv_sub hl [0, 1] rfl)
        · replace hw := hw.1 hc
          refine lv_iload hx hb dL_hangs_444 (lv_at hl 5 rfl) ?_
          refine lv_aload_n hx hb dL_hangs_446 rfl (lv_at hl 0 rfl) ?_
          refine lv_iconst (v := (nI 5)) hx hb dL_hangs_447 (by decide) ?_
          refine kMBi (As := [.int (nI 5)]) (rest := [.int v5]) (q0 := 0) (ws' := fun u : (Nat → AdT) × XS => (bfl [cwX kI kB a u.1 u.2])) C (cx_count l D kI kC kB a h59 x60 H.size (nI 5) _ hw) ⟨rfl, rfl⟩ ce_X8_count cv_X8_count tw_597 ⟨(Nat.le_of_ble_eq_true rfl), (Nat.le_of_ble_eq_true rfl)⟩ hP hD hS hA (bfl_p1 [_] 0 rfl) (fun u => (bfl_p1 [_] 0 rfl)) rfl rfl rfl hl.1 rfl (Nat.le_of_ble_eq_true rfl) ⟨(Nat.le_of_ble_eq_true rfl), (Nat.le_of_ble_eq_true rfl)⟩ dL_hangs_448 (fun r61 u H locs hw hP hD hS => ?_)
          obtain ⟨h62, x63⟩ := u
          try dsimp only at hw
          replace hP : va_P D vwCl (bfl [cwX kI kB a h62 x63]) H := hP
          replace hD : va_D A (bfl [cwX kI kB a h62 x63]) := hD
          refine lv_icmp_ne (tgt := 468) hx hb dL_hangs_451 (by decide) (fun hc => ?_) (fun hc => ?_)
          · replace hw := hw.2 hc
            exact cj_L_hangs_468 l D kI kC kB a h62 x63 v1 Post hA C hw H locs hP hD hS ls (lv_sub hl [0, 1] rfl)
          · replace hw := hw.1 hc
            refine lv_aload_n hx hb dL_hangs_454 rfl (lv_at hl 0 rfl) ?_
            refine lv_iload_n hx hb dL_hangs_455 rfl (lv_at hl 2 rfl) ?_
            refine lv_iconst (v := (nI 0)) hx hb dL_hangs_456 (by decide) ?_
            refine kRB (As := [.int v2, .int (nI 0)]) (rest := []) (q0 := 0) C (c_X8_leaf l D kI kC kB a h62 x63.1 x63.2.1 x63.2.2.1 x63.2.2.2.1 x63.2.2.2.2.1 x63.2.2.2.2.2.1 x63.2.2.2.2.2.2.1 x63.2.2.2.2.2.2.2.1 x63.2.2.2.2.2.2.2.2.1 x63.2.2.2.2.2.2.2.2.2.1 x63.2.2.2.2.2.2.2.2.2.2.1 x63.2.2.2.2.2.2.2.2.2.2.2.1 x63.2.2.2.2.2.2.2.2.2.2.2.2.1 x63.2.2.2.2.2.2.2.2.2.2.2.2.2.1 x63.2.2.2.2.2.2.2.2.2.2.2.2.2.2.1 x63.2.2.2.2.2.2.2.2.2.2.2.2.2.2.2.1 x63.2.2.2.2.2.2.2.2.2.2.2.2.2.2.2.2.1 x63.2.2.2.2.2.2.2.2.2.2.2.2.2.2.2.2.2.1 x63.2.2.2.2.2.2.2.2.2.2.2.2.2.2.2.2.2.2.1 x63.2.2.2.2.2.2.2.2.2.2.2.2.2.2.2.2.2.2.2.1 x63.2.2.2.2.2.2.2.2.2.2.2.2.2.2.2.2.2.2.2.2.1 x63.2.2.2.2.2.2.2.2.2.2.2.2.2.2.2.2.2.2.2.2.2.1 x63.2.2.2.2.2.2.2.2.2.2.2.2.2.2.2.2.2.2.2.2.2.2 v2 (nI 0) _ hw) ⟨rfl, rfl⟩ ce_X8_leaf cv_X8_leaf tw_505 ⟨(Nat.le_of_ble_eq_true rfl), (Nat.le_of_ble_eq_true rfl)⟩ hP (bfl_p1 [_] 0 rfl) rfl rfl rfl hl.1 rfl (Nat.le_of_ble_eq_true rfl) ⟨(Nat.le_of_ble_eq_true rfl), (Nat.le_of_ble_eq_true rfl)⟩ dL_hangs_457 (fun r64 hw => ?_)
            refine lv_iconst (v := (-1)) hx hb dL_hangs_460 (by decide) ?_
            refine lv_icmp_ne (tgt := 468) hx hb dL_hangs_461 (by decide) (fun hc => ?_) (fun hc => ?_)
            · replace hw := hw.2 hc
              exact cj_L_hangs_468 l D kI kC kB a h62 x63 v1 Post hA C hw H locs hP hD hS ls (lv_sub hl [0, 1] rfl)
            · replace hw := hw.1 hc
              refine lv_iconst (v := (nI 1)) hx hb dL_hangs_464 (by decide) ?_
              refine lv_goto (tgt := 469) hx hb dL_hangs_465 (by decide) ?_
              exact cj_L_hangs_469 l D kI kC kB a h62 x63 v1 Post hA C (nI 1) hw H locs hP hD hS ls (lv_sub hl [0, 1] rfl)
set_option maxHeartbeats 4000000 in
set_option maxRecDepth 100000 in
theorem cl_L_hangs_36 (l : Launch) (D : va_G) (kI kC kB : ClassId) (a : AdT) (h_ : Nat → AdT) (x : XS) (v1 : Int32) (Post : Int32 → XS → Prop) {p : Program} {e : Env} {s : State} {m : MethodId} {args : Array Value} {below : List Frame} {meth : Method} {c : Code} {A : Nat → Prop} (hA : ∀ q : Nat, s.heap.size ≤ q → A q) (C : CtxT p s m args meth c cL_hangs 16 (some .boolean) yL_hangs.cls D kI kC kB) : ∀ (n : Nat), ∀ (v2 : Int32) (v3 : Int32) (v4 : Int32) (v5 : Int32) (v6 : Int32) (v7 : Int32), wl_L_hangs_36 x v1 Post n v2 v3 v4 v5 v6 v7 → ∀ (H : Heap) (locs : List Loc), va_P D vwCl (bfl [cwX kI kB a h_ x]) H → va_D A (bfl [cwX kI kB a h_ x]) → va_S A s.heap H locs → ∀ (ls : Array Slot), lv_has ls 16 [(0, .ref (a 0)), (1, .int v1), (2, .int v2), (3, .int v3), (4, .int v4), (5, .int v5), (6, .int v6), (7, .int v7)] → W p l e ({ frames := 7, cells := 0, slots := 0, locals := 154 } : Room) s m args below meth c H locs 0 0 (MQ below (va_Qi (fun (r : Int32) (u : (Nat → AdT) × XS) => Post r u.2) (BB D A (fun u : (Nat → AdT) × XS => cwX kI kB a u.1 u.2)) A) args s 0 0 A) (F0 m 36 ls []) := by
  obtain ⟨hx, hb, hr, hml, hown, hts, hlocks, hK⟩ := id C
  intro n
  induction n with
  | zero => intro v2 v3 v4 v5 v6 v7 hw; exact hw.elim
  | succ n ih =>
    intro v2 v3 v4 v5 v6 v7 hw H locs hP hD hS ls hl
    unfold wl_L_hangs_36 at hw
    refine lv_iload hx hb dL_hangs_36 (lv_at hl 7 rfl) ?_
    refine lv_iload_n hx hb dL_hangs_38 rfl (lv_at hl 1 rfl) ?_
    refine lv_icmp_ge (tgt := 409) hx hb dL_hangs_39 (by decide) (fun hc => ?_) (fun hc => ?_)
    · replace hw := hw.1 hc
      exact cj_L_hangs_409 l D kI kC kB a h_ x v1 v2 v3 v4 v5 v6 Post hA C hw H locs hP hD hS ls (lv_sub hl [0, 1, 2, 3, 4, 5, 6] rfl)
    · replace hw := hw.2 hc
      refine lv_iload hx hb dL_hangs_42 (lv_at hl 6 rfl) ?_
      refine lv_if_eq (tgt := 409) hx hb dL_hangs_44 (by decide) (fun hc => ?_) (fun hc => ?_)
      · replace hw := hw.1 hc
        exact cj_L_hangs_409 l D kI kC kB a h_ x v1 v2 v3 v4 v5 v6 Post hA C hw H locs hP hD hS ls (lv_sub hl [0, 1, 2, 3, 4, 5, 6] rfl)
      · replace hw := hw.2 hc
        refine lv_aload_n hx hb dL_hangs_47 rfl (lv_at hl 0 rfl) ?_
        refine lv_iload hx hb dL_hangs_48 (lv_at hl 7 rfl) ?_
        refine lv_iconst (v := (nI 2)) hx hb dL_hangs_50 (by decide) ?_
        refine kRB (As := [.int v7, .int (nI 2)]) (rest := []) (q0 := 0) C (c_X8_quire l D kI kC kB a h_ x.1 x.2.1 x.2.2.1 x.2.2.2.1 x.2.2.2.2.1 x.2.2.2.2.2.1 x.2.2.2.2.2.2.1 x.2.2.2.2.2.2.2.1 x.2.2.2.2.2.2.2.2.1 x.2.2.2.2.2.2.2.2.2.1 x.2.2.2.2.2.2.2.2.2.2.1 x.2.2.2.2.2.2.2.2.2.2.2.1 x.2.2.2.2.2.2.2.2.2.2.2.2.1 x.2.2.2.2.2.2.2.2.2.2.2.2.2.1 x.2.2.2.2.2.2.2.2.2.2.2.2.2.2.1 x.2.2.2.2.2.2.2.2.2.2.2.2.2.2.2.1 x.2.2.2.2.2.2.2.2.2.2.2.2.2.2.2.2.1 x.2.2.2.2.2.2.2.2.2.2.2.2.2.2.2.2.2.1 x.2.2.2.2.2.2.2.2.2.2.2.2.2.2.2.2.2.2.1 x.2.2.2.2.2.2.2.2.2.2.2.2.2.2.2.2.2.2.2.1 x.2.2.2.2.2.2.2.2.2.2.2.2.2.2.2.2.2.2.2.2.1 x.2.2.2.2.2.2.2.2.2.2.2.2.2.2.2.2.2.2.2.2.2.1 x.2.2.2.2.2.2.2.2.2.2.2.2.2.2.2.2.2.2.2.2.2.2 v7 (nI 2) _ hw) ⟨rfl, rfl⟩ ce_X8_quire cv_X8_quire tw_488 ⟨(Nat.le_of_ble_eq_true rfl), (Nat.le_of_ble_eq_true rfl)⟩ hP (bfl_p1 [_] 0 rfl) rfl rfl rfl hl.1 rfl (Nat.le_of_ble_eq_true rfl) ⟨(Nat.le_of_ble_eq_true rfl), (Nat.le_of_ble_eq_true rfl)⟩ dL_hangs_51 (fun r65 hw => ?_)
        refine lv_istore (lv' := [(8, .int r65), (0, .ref (a 0)), (1, .int v1), (2, .int v2), (3, .int v3), (4, .int v4), (5, .int v5), (6, .int v6), (7, .int v7)]) hx hb dL_hangs_54 hl (by decide) rfl (fun ls hl => ?_)
        refine lv_aload_n hx hb dL_hangs_56 rfl (lv_at hl 1 rfl) ?_
        refine lv_iload hx hb dL_hangs_57 (lv_at hl 8 rfl) ?_
        refine lv_iconst (v := (nI 0)) hx hb dL_hangs_59 (by decide) ?_
        refine kRB (As := [.int v7, .int (nI 0)]) (rest := []) (q0 := 0) C (c_X8_quire l D kI kC kB a h_ x.1 x.2.1 x.2.2.1 x.2.2.2.1 x.2.2.2.2.1 x.2.2.2.2.2.1 x.2.2.2.2.2.2.1 x.2.2.2.2.2.2.2.1 x.2.2.2.2.2.2.2.2.1 x.2.2.2.2.2.2.2.2.2.1 x.2.2.2.2.2.2.2.2.2.2.1 x.2.2.2.2.2.2.2.2.2.2.2.1 x.2.2.2.2.2.2.2.2.2.2.2.2.1 x.2.2.2.2.2.2.2.2.2.2.2.2.2.1 x.2.2.2.2.2.2.2.2.2.2.2.2.2.2.1 x.2.2.2.2.2.2.2.2.2.2.2.2.2.2.2.1 x.2.2.2.2.2.2.2.2.2.2.2.2.2.2.2.2.1 x.2.2.2.2.2.2.2.2.2.2.2.2.2.2.2.2.2.1 x.2.2.2.2.2.2.2.2.2.2.2.2.2.2.2.2.2.2.1 x.2.2.2.2.2.2.2.2.2.2.2.2.2.2.2.2.2.2.2.1 x.2.2.2.2.2.2.2.2.2.2.2.2.2.2.2.2.2.2.2.2.1 x.2.2.2.2.2.2.2.2.2.2.2.2.2.2.2.2.2.2.2.2.2.1 x.2.2.2.2.2.2.2.2.2.2.2.2.2.2.2.2.2.2.2.2.2.2 v7 (nI 0) _ hw) ⟨rfl, rfl⟩ ce_X8_quire cv_X8_quire tw_488 ⟨(Nat.le_of_ble_eq_true rfl), (Nat.le_of_ble_eq_true rfl)⟩ hP (bfl_p1 [_] 0 rfl) rfl rfl rfl hl.1 rfl (Nat.le_of_ble_eq_true rfl) ⟨(Nat.le_of_ble_eq_true rfl), (Nat.le_of_ble_eq_true rfl)⟩ dL_hangs_60 (fun r66 hw => ?_)
        refine lv_istore (lv' := [(9, .int r66), (8, .int r65), (0, .ref (a 0)), (1, .int v1), (2, .int v2), (3, .int v3), (4, .int v4), (5, .int v5), (6, .int v6), (7, .int v7)]) hx hb dL_hangs_63 hl (by decide) rfl (fun ls hl => ?_)
        refine lv_aload_n hx hb dL_hangs_65 rfl (lv_at hl 2 rfl) ?_
        refine lv_iload hx hb dL_hangs_66 (lv_at hl 9 rfl) ?_
        refine lv_iconst (v := (nI 1)) hx hb dL_hangs_68 (by decide) ?_
        refine kRB (As := [.int v7, .int (nI 1)]) (rest := []) (q0 := 0) C (c_X8_quire l D kI kC kB a h_ x.1 x.2.1 x.2.2.1 x.2.2.2.1 x.2.2.2.2.1 x.2.2.2.2.2.1 x.2.2.2.2.2.2.1 x.2.2.2.2.2.2.2.1 x.2.2.2.2.2.2.2.2.1 x.2.2.2.2.2.2.2.2.2.1 x.2.2.2.2.2.2.2.2.2.2.1 x.2.2.2.2.2.2.2.2.2.2.2.1 x.2.2.2.2.2.2.2.2.2.2.2.2.1 x.2.2.2.2.2.2.2.2.2.2.2.2.2.1 x.2.2.2.2.2.2.2.2.2.2.2.2.2.2.1 x.2.2.2.2.2.2.2.2.2.2.2.2.2.2.2.1 x.2.2.2.2.2.2.2.2.2.2.2.2.2.2.2.2.1 x.2.2.2.2.2.2.2.2.2.2.2.2.2.2.2.2.2.1 x.2.2.2.2.2.2.2.2.2.2.2.2.2.2.2.2.2.2.1 x.2.2.2.2.2.2.2.2.2.2.2.2.2.2.2.2.2.2.2.1 x.2.2.2.2.2.2.2.2.2.2.2.2.2.2.2.2.2.2.2.2.1 x.2.2.2.2.2.2.2.2.2.2.2.2.2.2.2.2.2.2.2.2.2.1 x.2.2.2.2.2.2.2.2.2.2.2.2.2.2.2.2.2.2.2.2.2.2 v7 (nI 1) _ hw) ⟨rfl, rfl⟩ ce_X8_quire cv_X8_quire tw_488 ⟨(Nat.le_of_ble_eq_true rfl), (Nat.le_of_ble_eq_true rfl)⟩ hP (bfl_p1 [_] 0 rfl) rfl rfl rfl hl.1 rfl (Nat.le_of_ble_eq_true rfl) ⟨(Nat.le_of_ble_eq_true rfl), (Nat.le_of_ble_eq_true rfl)⟩ dL_hangs_69 (fun r67 hw => ?_)
        refine lv_bipush (v := (-5)) hx hb dL_hangs_72 (by decide) ?_
        refine lv_icmp_ne (tgt := 81) hx hb dL_hangs_74 (by decide) (fun hc => ?_) (fun hc => ?_)
        · replace hw := hw.2 hc
          refine lv_iconst (v := (nI 0)) hx hb dL_hangs_81 (by decide) ?_
          exact cj_L_hangs_82 l D kI kC kB a h_ x v1 v2 v3 v4 v5 v7 r65 r66 Post hA C _ ih (nI 0) hw H locs hP hD hS ls (lv_sub hl [2, 3, 4, 5, 6, 7, 9, 1, 0] rfl)
        · replace hw := hw.1 hc
          refine lv_iconst (v := (nI 1)) hx hb dL_hangs_77 (by decide) ?_
          refine lv_goto (tgt := 82) hx hb dL_hangs_78 (by decide) ?_
          exact cj_L_hangs_82 l D kI kC kB a h_ x v1 v2 v3 v4 v5 v7 r65 r66 Post hA C _ ih (nI 1) hw H locs hP hD hS ls (lv_sub hl [2, 3, 4, 5, 6, 7, 9, 1, 0] rfl)
set_option maxHeartbeats 4000000 in
set_option maxRecDepth 100000 in
theorem c_L_hangs (l : Launch) (D : va_G) (kI kC kB : ClassId) (a : AdT) (h_ : Nat → AdT) (x : XS) (sz : Nat) (Post : Int32 → XS → Prop) (hw : wp_L_hangs x Post) : CMg l D kI kC kB yL_hangs cL_hangs 16 (some .boolean) ({ frames := 7, cells := 0, slots := 0, locals := 154 } : Room) [.ref (a 0)] (cwX kI kB a h_ x) sz 0 0 (fun (r : Int32) (u : (Nat → AdT) × XS) => Post r u.2) (fun u : (Nat → AdT) × XS => cwX kI kB a u.1 u.2) := by
  refine entMg (by decide) (Nat.le_of_ble_eq_true rfl) ?_
  intro p e s m args below meth c ls A C hA hP hD hS hl
  obtain ⟨H, hHe⟩ : ∃ H, H = s.heap := ⟨_, rfl⟩
  obtain ⟨locs, hlo⟩ : ∃ lo : List Loc, lo = [] := ⟨_, rfl⟩
  have hS : va_S A s.heap H locs := by rw [hHe, hlo]; exact hS
  rw [← hHe] at hP
  suffices hg : W p l e ({ frames := 7, cells := 0, slots := 0, locals := 154 } : Room) s m args below meth c H locs 0 0 (MQ below (va_Qi (fun (r : Int32) (u : (Nat → AdT) × XS) => Post r u.2) (BB D A (fun u : (Nat → AdT) × XS => cwX kI kB a u.1 u.2)) A) args s 0 0 A) (F0 m 0 ls []) by rw [hHe, hlo] at hg; exact hg
  replace hl : lv_has ls 16 [(0, .ref (a 0))] := hl
  replace hP : va_P D vwCl (bfl [cwX kI kB a h_ x]) H := hP
  replace hD : va_D A (bfl [cwX kI kB a h_ x]) := hD
  unfold wp_L_hangs at hw
  obtain ⟨hx, hb, hr, hml, hown, hts, hlocks, hK⟩ := id C
  refine lv_aload_n hx hb dL_hangs_0 rfl (lv_at hl 0 rfl) ?_
  refine lv_iconst (v := (nI 0)) hx hb dL_hangs_1 (by decide) ?_
  refine kMBi (As := [.int (nI 0)]) (rest := []) (q0 := 0) (ws' := fun u : (Nat → AdT) × XS => (bfl [cwX kI kB a u.1 u.2])) C (cx_count l D kI kC kB a h_ x H.size (nI 0) _ hw) ⟨rfl, rfl⟩ ce_X8_count cv_X8_count tw_597 ⟨(Nat.le_of_ble_eq_true rfl), (Nat.le_of_ble_eq_true rfl)⟩ hP hD hS hA (bfl_p1 [_] 0 rfl) (fun u => (bfl_p1 [_] 0 rfl)) rfl rfl rfl hl.1 rfl (Nat.le_of_ble_eq_true rfl) ⟨(Nat.le_of_ble_eq_true rfl), (Nat.le_of_ble_eq_true rfl)⟩ dL_hangs_2 (fun r68 u H locs hw hP hD hS => ?_)
  obtain ⟨h69, x70⟩ := u
  try dsimp only at hw
  replace hP : va_P D vwCl (bfl [cwX kI kB a h69 x70]) H := hP
  replace hD : va_D A (bfl [cwX kI kB a h69 x70]) := hD
  refine lv_istore_n (lv' := [(1, .int r68), (0, .ref (a 0))]) hx hb dL_hangs_5 rfl hl (by decide) rfl (fun ls hl => ?_)
  refine lv_iconst (v := (nI 0)) hx hb dL_hangs_6 (by decide) ?_
  refine lv_istore_n (lv' := [(2, .int (nI 0)), (1, .int r68), (0, .ref (a 0))]) hx hb dL_hangs_7 rfl hl (by decide) rfl (fun ls hl => ?_)
  refine lv_iconst (v := (nI 0)) hx hb dL_hangs_8 (by decide) ?_
  refine lv_istore_n (lv' := [(3, .int (nI 0)), (2, .int (nI 0)), (1, .int r68), (0, .ref (a 0))]) hx hb dL_hangs_9 rfl hl (by decide) rfl (fun ls hl => ?_)
  refine lv_iconst (v := (nI 0)) hx hb dL_hangs_10 (by decide) ?_
  refine lv_istore (lv' := [(4, .int (nI 0)), (3, .int (nI 0)), (2, .int (nI 0)), (1, .int r68), (0, .ref (a 0))]) hx hb dL_hangs_11 hl (by decide) rfl (fun ls hl => ?_)
  refine lv_iconst (v := (nI 0)) hx hb dL_hangs_13 (by decide) ?_
  refine lv_istore (lv' := [(5, .int (nI 0)), (4, .int (nI 0)), (3, .int (nI 0)), (2, .int (nI 0)), (1, .int r68), (0, .ref (a 0))]) hx hb dL_hangs_14 hl (by decide) rfl (fun ls hl => ?_)
  refine lv_aload_n hx hb dL_hangs_16 rfl (lv_at hl 5 rfl) ?_
  refine lv_iload_n hx hb dL_hangs_17 rfl (lv_at hl 4 rfl) ?_
  refine lv_iconst (v := (nI 0)) hx hb dL_hangs_18 (by decide) ?_
  refine kRB (As := [.int r68, .int (nI 0)]) (rest := []) (q0 := 0) C (c_X8_quire l D kI kC kB a h69 x70.1 x70.2.1 x70.2.2.1 x70.2.2.2.1 x70.2.2.2.2.1 x70.2.2.2.2.2.1 x70.2.2.2.2.2.2.1 x70.2.2.2.2.2.2.2.1 x70.2.2.2.2.2.2.2.2.1 x70.2.2.2.2.2.2.2.2.2.1 x70.2.2.2.2.2.2.2.2.2.2.1 x70.2.2.2.2.2.2.2.2.2.2.2.1 x70.2.2.2.2.2.2.2.2.2.2.2.2.1 x70.2.2.2.2.2.2.2.2.2.2.2.2.2.1 x70.2.2.2.2.2.2.2.2.2.2.2.2.2.2.1 x70.2.2.2.2.2.2.2.2.2.2.2.2.2.2.2.1 x70.2.2.2.2.2.2.2.2.2.2.2.2.2.2.2.2.1 x70.2.2.2.2.2.2.2.2.2.2.2.2.2.2.2.2.2.1 x70.2.2.2.2.2.2.2.2.2.2.2.2.2.2.2.2.2.2.1 x70.2.2.2.2.2.2.2.2.2.2.2.2.2.2.2.2.2.2.2.1 x70.2.2.2.2.2.2.2.2.2.2.2.2.2.2.2.2.2.2.2.2.1 x70.2.2.2.2.2.2.2.2.2.2.2.2.2.2.2.2.2.2.2.2.2.1 x70.2.2.2.2.2.2.2.2.2.2.2.2.2.2.2.2.2.2.2.2.2.2 r68 (nI 0) _ hw) ⟨rfl, rfl⟩ ce_X8_quire cv_X8_quire tw_488 ⟨(Nat.le_of_ble_eq_true rfl), (Nat.le_of_ble_eq_true rfl)⟩ hP (bfl_p1 [_] 0 rfl) rfl rfl rfl hl.1 rfl (Nat.le_of_ble_eq_true rfl) ⟨(Nat.le_of_ble_eq_true rfl), (Nat.le_of_ble_eq_true rfl)⟩ dL_hangs_19 (fun r71 hw => ?_)
  refine lv_iconst (v := (-1)) hx hb dL_hangs_22 (by decide) ?_
  refine lv_icmp_ne (tgt := 30) hx hb dL_hangs_23 (by decide) (fun hc => ?_) (fun hc => ?_)
  · replace hw := hw.2 hc
    refine lv_iconst (v := (nI 0)) hx hb dL_hangs_30 (by decide) ?_
    refine lv_istore (lv' := [(6, .int (nI 0)), (5, .int (nI 0)), (4, .int (nI 0)), (3, .int (nI 0)), (2, .int (nI 0)), (1, .int r68), (0, .ref (a 0))]) hx hb dL_hangs_31 hl (by decide) rfl (fun ls hl => ?_)
    refine lv_iconst (v := (nI 0)) hx hb dL_hangs_33 (by decide) ?_
    refine lv_istore (lv' := [(7, .int (nI 0)), (6, .int (nI 0)), (5, .int (nI 0)), (4, .int (nI 0)), (3, .int (nI 0)), (2, .int (nI 0)), (1, .int r68), (0, .ref (a 0))]) hx hb dL_hangs_34 hl (by decide) rfl (fun ls hl => ?_)
    obtain ⟨n9, hw⟩ := hw
    exact cl_L_hangs_36 l D kI kC kB a h69 x70 r68 Post hA C n9 (nI 0) (nI 0) (nI 0) (nI 0) (nI 0) (nI 0) hw H locs hP hD hS ls (lv_sub hl [7, 6, 5, 4, 3, 2, 1, 0] rfl)
  · replace hw := hw.1 hc
    refine lv_iconst (v := (nI 1)) hx hb dL_hangs_26 (by decide) ?_
    refine lv_goto (tgt := 31) hx hb dL_hangs_27 (by decide) ?_
    refine lv_istore (lv' := [(6, .int (nI 1)), (5, .int (nI 0)), (4, .int (nI 0)), (3, .int (nI 0)), (2, .int (nI 0)), (1, .int r68), (0, .ref (a 0))]) hx hb dL_hangs_31 hl (by decide) rfl (fun ls hl => ?_)
    refine lv_iconst (v := (nI 0)) hx hb dL_hangs_33 (by decide) ?_
    refine lv_istore (lv' := [(7, .int (nI 0)), (6, .int (nI 1)), (5, .int (nI 0)), (4, .int (nI 0)), (3, .int (nI 0)), (2, .int (nI 0)), (1, .int r68), (0, .ref (a 0))]) hx hb dL_hangs_34 hl (by decide) rfl (fun ls hl => ?_)
    obtain ⟨n9, hw⟩ := hw
    exact cl_L_hangs_36 l D kI kC kB a h69 x70 r68 Post hA C n9 (nI 0) (nI 0) (nI 0) (nI 0) (nI 1) (nI 0) hw H locs hP hD hS ls (lv_sub hl [7, 6, 5, 4, 3, 2, 1, 0] rfl)
