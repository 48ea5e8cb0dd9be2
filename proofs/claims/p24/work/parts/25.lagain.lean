set_option maxHeartbeats 4000000 in
set_option maxRecDepth 100000 in
theorem cj_L_again_75 (l : Launch) (D : va_G) (kI kC kB : ClassId) (a : AdT) (b9 : AdT) (h_ : Nat → AdT) (x : XS) (g_ : Nat → AdT) (z : XS) (v1 : Int32) (v4 : Int32) (Post : Int32 → XS → Prop) {p : Program} {e : Env} {s : State} {m : MethodId} {args : Array Value} {below : List Frame} {meth : Method} {c : Code} {A : Nat → Prop} (hA : ∀ q : Nat, s.heap.size ≤ q → A q) (C : CtxT p s m args meth c cL_again 6 (some .boolean) yL_again.cls D kI kC kB) (K33 : XS → XS → Int32 → Int32 → Prop) (hK33 : ∀ (h_ : Nat → AdT) (x : XS) (g_ : Nat → AdT) (z : XS) (v3 : Int32) (v4 : Int32), K33 x z v3 v4 → ∀ (H : Heap) (locs : List Loc), va_P D vwCl (bfl [cwX kI kB a h_ x, cwX kI kB b9 g_ z]) H → va_D A (bfl [cwX kI kB a h_ x, cwX kI kB b9 g_ z]) → va_S A s.heap H locs → ∀ (ls : Array Slot), lv_has ls 6 [(0, .ref (a 0)), (1, .int v1), (2, .ref (b9 0)), (3, .int v3), (4, .int v4)] → W p l e ({ frames := 7, cells := 78, slots := 1376, locals := 158 } : Room) s m args below meth c H locs 78 1376 (MQ below (va_Qi (fun (r : Int32) (u : (Nat → AdT) × XS) => Post r u.2) (BB D A (fun u : (Nat → AdT) × XS => cwX kI kB a u.1 u.2)) A) args s 78 1376 A) (F0 m 33 ls [])) : ∀ (t0 : Int32), wj_L_again_75 x z v1 v4 t0 K33 Post → ∀ (H : Heap) (locs : List Loc), va_P D vwCl (bfl [cwX kI kB a h_ x, cwX kI kB b9 g_ z]) H → va_D A (bfl [cwX kI kB a h_ x, cwX kI kB b9 g_ z]) → va_S A s.heap H locs → ∀ (ls : Array Slot), lv_has ls 6 [(0, .ref (a 0)), (1, .int v1), (2, .ref (b9 0)), (4, .int v4)] → W p l e ({ frames := 7, cells := 78, slots := 1376, locals := 158 } : Room) s m args below meth c H locs 78 1376 (MQ below (va_Qi (fun (r : Int32) (u : (Nat → AdT) × XS) => Post r u.2) (BB D A (fun u : (Nat → AdT) × XS => cwX kI kB a u.1 u.2)) A) args s 78 1376 A) (F0 m 75 ls [.int t0]) := by
  obtain ⟨hx, hb, hr, hml, hown, hts, hlocks, hK⟩ := id C
  intro t0 hw H locs hP hD hS ls hl
  unfold wj_L_again_75 at hw
  refine lv_istore_n (lv' := [(3, .int t0), (0, .ref (a 0)), (1, .int v1), (2, .ref (b9 0)), (4, .int v4)]) hx hb dL_again_75 rfl hl (by decide) rfl (fun ls hl => ?_)
  refine lv_iload hx hb dL_again_76 (lv_at hl 4 rfl) ?_
  refine lv_iconst (v := (nI 1)) hx hb dL_again_78 (by decide) ?_
  refine lv_iadd hx hb dL_again_79 ?_
  refine lv_i2c (v := cI (v4 + (nI 1))) hx hb dL_again_80 rfl ?_
  refine lv_topi (fun y1 ey1 => ?_)
  replace hw := hw y1 ey1
  refine lv_istore (lv' := [(4, .int y1), (3, .int t0), (0, .ref (a 0)), (1, .int v1), (2, .ref (b9 0))]) hx hb dL_again_81 hl (by decide) rfl (fun ls hl => ?_)
  refine lv_goto (tgt := 33) hx hb dL_again_83 (by decide) ?_
  exact hK33 h_ x g_ z t0 y1 hw H locs hP hD hS ls (lv_sub hl [2, 3, 4, 1, 0] rfl)
set_option maxHeartbeats 4000000 in
set_option maxRecDepth 100000 in
theorem cj_L_again_70 (l : Launch) (D : va_G) (kI kC kB : ClassId) (a : AdT) (b9 : AdT) (h_ : Nat → AdT) (x : XS) (g_ : Nat → AdT) (z : XS) (v1 : Int32) (v4 : Int32) (Post : Int32 → XS → Prop) {p : Program} {e : Env} {s : State} {m : MethodId} {args : Array Value} {below : List Frame} {meth : Method} {c : Code} {A : Nat → Prop} (hA : ∀ q : Nat, s.heap.size ≤ q → A q) (C : CtxT p s m args meth c cL_again 6 (some .boolean) yL_again.cls D kI kC kB) (K33 : XS → XS → Int32 → Int32 → Prop) (hK33 : ∀ (h_ : Nat → AdT) (x : XS) (g_ : Nat → AdT) (z : XS) (v3 : Int32) (v4 : Int32), K33 x z v3 v4 → ∀ (H : Heap) (locs : List Loc), va_P D vwCl (bfl [cwX kI kB a h_ x, cwX kI kB b9 g_ z]) H → va_D A (bfl [cwX kI kB a h_ x, cwX kI kB b9 g_ z]) → va_S A s.heap H locs → ∀ (ls : Array Slot), lv_has ls 6 [(0, .ref (a 0)), (1, .int v1), (2, .ref (b9 0)), (3, .int v3), (4, .int v4)] → W p l e ({ frames := 7, cells := 78, slots := 1376, locals := 158 } : Room) s m args below meth c H locs 78 1376 (MQ below (va_Qi (fun (r : Int32) (u : (Nat → AdT) × XS) => Post r u.2) (BB D A (fun u : (Nat → AdT) × XS => cwX kI kB a u.1 u.2)) A) args s 78 1376 A) (F0 m 33 ls [])) : wj_L_again_70 x z v1 v4 K33 Post → ∀ (H : Heap) (locs : List Loc), va_P D vwCl (bfl [cwX kI kB a h_ x, cwX kI kB b9 g_ z]) H → va_D A (bfl [cwX kI kB a h_ x, cwX kI kB b9 g_ z]) → va_S A s.heap H locs → ∀ (ls : Array Slot), lv_has ls 6 [(0, .ref (a 0)), (1, .int v1), (2, .ref (b9 0)), (4, .int v4)] → W p l e ({ frames := 7, cells := 78, slots := 1376, locals := 158 } : Room) s m args below meth c H locs 78 1376 (MQ below (va_Qi (fun (r : Int32) (u : (Nat → AdT) × XS) => Post r u.2) (BB D A (fun u : (Nat → AdT) × XS => cwX kI kB a u.1 u.2)) A) args s 78 1376 A) (F0 m 70 ls []) := by
  obtain ⟨hx, hb, hr, hml, hown, hts, hlocks, hK⟩ := id C
  intro hw H locs hP hD hS ls hl
  unfold wj_L_again_70 at hw
  refine lv_iconst (v := (nI 1)) hx hb dL_again_70 (by decide) ?_
  refine lv_goto (tgt := 75) hx hb dL_again_71 (by decide) ?_
  exact cj_L_again_75 l D kI kC kB a b9 h_ x g_ z v1 v4 Post hA C _ hK33 (nI 1) hw H locs hP hD hS ls (lv_sub hl [0, 1, 2, 3] rfl)
set_option maxHeartbeats 4000000 in
set_option maxRecDepth 100000 in
theorem cl_L_again_242 (l : Launch) (D : va_G) (kI kC kB : ClassId) (a : AdT) (b9 : AdT) (g_ : Nat → AdT) (z : XS) (Post : Int32 → XS → Prop) {p : Program} {e : Env} {s : State} {m : MethodId} {args : Array Value} {below : List Frame} {meth : Method} {c : Code} {A : Nat → Prop} (hA : ∀ q : Nat, s.heap.size ≤ q → A q) (C : CtxT p s m args meth c cL_again 6 (some .boolean) yL_again.cls D kI kC kB) : ∀ (n : Nat), ∀ (h_ : Nat → AdT) (x : XS) (v3 : Int32) (v5 : Int32), wl_L_again_242 z Post n x v3 v5 → ∀ (H : Heap) (locs : List Loc), va_P D vwCl (bfl [cwX kI kB a h_ x, cwX kI kB b9 g_ z]) H → va_D A (bfl [cwX kI kB a h_ x, cwX kI kB b9 g_ z]) → va_S A s.heap H locs → ∀ (ls : Array Slot), lv_has ls 6 [(0, .ref (a 0)), (2, .ref (b9 0)), (3, .int v3), (5, .int v5)] → W p l e ({ frames := 7, cells := 78, slots := 1376, locals := 158 } : Room) s m args below meth c H locs 78 1376 (MQ below (va_Qi (fun (r : Int32) (u : (Nat → AdT) × XS) => Post r u.2) (BB D A (fun u : (Nat → AdT) × XS => cwX kI kB a u.1 u.2)) A) args s 78 1376 A) (F0 m 242 ls []) := by
  obtain ⟨hx, hb, hr, hml, hown, hts, hlocks, hK⟩ := id C
  intro n
  induction n with
  | zero => intro h_ x v3 v5 hw; exact hw.elim
  | succ n ih =>
    intro h_ x v3 v5 hw H locs hP hD hS ls hl
    unfold wl_L_again_242 at hw
    refine lv_iload hx hb dL_again_242 (lv_at hl 3 rfl) ?_
    refine lv_aload_n hx hb dL_again_244 rfl (lv_at hl 0 rfl) ?_
    refine lv_iconst (v := (nI 0)) hx hb dL_again_245 (by decide) ?_
    refine kMBi (As := [.int (nI 0)]) (rest := [.int v5]) (q0 := 0) (ws' := fun u : (Nat → AdT) × XS => (bfl [cwX kI kB a u.1 u.2, cwX kI kB b9 g_ z])) C (cx_count l D kI kC kB a h_ x H.size (nI 0) _ hw) ⟨rfl, rfl⟩ ce_X8_count cv_X8_count tw_597 ⟨(Nat.le_of_ble_eq_true rfl), (Nat.le_of_ble_eq_true rfl)⟩ hP hD hS hA (bfl_p1 [_, _] 0 rfl) (fun u => (bfl_p1 [_, _] 0 rfl)) rfl rfl rfl hl.1 rfl (Nat.le_of_ble_eq_true rfl) ⟨(Nat.le_of_ble_eq_true rfl), (Nat.le_of_ble_eq_true rfl)⟩ dL_again_246 (fun r2 u H locs hw hP hD hS => ?_)
    obtain ⟨h3, x4⟩ := u
    try dsimp only at hw
    replace hP : va_P D vwCl (bfl [cwX kI kB a h3 x4, cwX kI kB b9 g_ z]) H := hP
    replace hD : va_D A (bfl [cwX kI kB a h3 x4, cwX kI kB b9 g_ z]) := hD
    refine lv_icmp_ge (tgt := 319) hx hb dL_again_249 (by decide) (fun hc => ?_) (fun hc => ?_)
    · replace hw := hw.1 hc
      refine lv_iload_n hx hb dL_again_319 rfl (lv_at hl 2 rfl) ?_
      have hz := hw.1
      replace hw := hw.2
      replace hP := va_P_cut (bfl_p1 [_, _] 0 rfl) hP
      replace hD := va_D_cutA (bfl_p1 [_, _] 0 rfl) hD
      exact retMgz C (S := (Nat → AdT) × XS) (h3, x4) hz hw hP hD hS (Nat.le_of_ble_eq_true rfl) (Nat.le_of_ble_eq_true rfl) dL_again_320
    · replace hw := hw.2 hc
      refine lv_iload_n hx hb dL_again_252 rfl (lv_at hl 2 rfl) ?_
      refine lv_if_eq (tgt := 319) hx hb dL_again_253 (by decide) (fun hc => ?_) (fun hc => ?_)
      · replace hw := hw.1 hc
        refine lv_iload_n hx hb dL_again_319 rfl (lv_at hl 2 rfl) ?_
        have hz := hw.1
        replace hw := hw.2
        replace hP := va_P_cut (bfl_p1 [_, _] 0 rfl) hP
        replace hD := va_D_cutA (bfl_p1 [_, _] 0 rfl) hD
        exact retMgz C (S := (Nat → AdT) × XS) (h3, x4) hz hw hP hD hS (Nat.le_of_ble_eq_true rfl) (Nat.le_of_ble_eq_true rfl) dL_again_320
      · replace hw := hw.2 hc
        refine lv_aload_n hx hb dL_again_256 rfl (lv_at hl 1 rfl) ?_
        refine lv_iload hx hb dL_again_257 (lv_at hl 3 rfl) ?_
        refine lv_iconst (v := (nI 0)) hx hb dL_again_259 (by decide) ?_
        refine kRB (As := [.int v5, .int (nI 0)]) (rest := []) (q0 := 0) C (c_X8_quire l D kI kC kB b9 g_ z.1 z.2.1 z.2.2.1 z.2.2.2.1 z.2.2.2.2.1 z.2.2.2.2.2.1 z.2.2.2.2.2.2.1 z.2.2.2.2.2.2.2.1 z.2.2.2.2.2.2.2.2.1 z.2.2.2.2.2.2.2.2.2.1 z.2.2.2.2.2.2.2.2.2.2.1 z.2.2.2.2.2.2.2.2.2.2.2.1 z.2.2.2.2.2.2.2.2.2.2.2.2.1 z.2.2.2.2.2.2.2.2.2.2.2.2.2.1 z.2.2.2.2.2.2.2.2.2.2.2.2.2.2.1 z.2.2.2.2.2.2.2.2.2.2.2.2.2.2.2.1 z.2.2.2.2.2.2.2.2.2.2.2.2.2.2.2.2.1 z.2.2.2.2.2.2.2.2.2.2.2.2.2.2.2.2.2.1 z.2.2.2.2.2.2.2.2.2.2.2.2.2.2.2.2.2.2.1 z.2.2.2.2.2.2.2.2.2.2.2.2.2.2.2.2.2.2.2.1 z.2.2.2.2.2.2.2.2.2.2.2.2.2.2.2.2.2.2.2.2.1 z.2.2.2.2.2.2.2.2.2.2.2.2.2.2.2.2.2.2.2.2.2.1 z.2.2.2.2.2.2.2.2.2.2.2.2.2.2.2.2.2.2.2.2.2.2 v5 (nI 0) _ hw) ⟨rfl, rfl⟩ ce_X8_quire cv_X8_quire tw_488 ⟨(Nat.le_of_ble_eq_true rfl), (Nat.le_of_ble_eq_true rfl)⟩ hP (bfl_p1 [_, _] 1 rfl) rfl rfl rfl hl.1 rfl (Nat.le_of_ble_eq_true rfl) ⟨(Nat.le_of_ble_eq_true rfl), (Nat.le_of_ble_eq_true rfl)⟩ dL_again_260 (fun r5 hw => ?_)
        refine lv_aload_n hx hb dL_again_263 rfl (lv_at hl 0 rfl) ?_
        refine lv_iload hx hb dL_again_264 (lv_at hl 3 rfl) ?_
        refine lv_iconst (v := (nI 0)) hx hb dL_again_266 (by decide) ?_
        refine kRB (As := [.int v5, .int (nI 0)]) (rest := [.int r5]) (q0 := 0) C (c_X8_quire l D kI kC kB a h3 x4.1 x4.2.1 x4.2.2.1 x4.2.2.2.1 x4.2.2.2.2.1 x4.2.2.2.2.2.1 x4.2.2.2.2.2.2.1 x4.2.2.2.2.2.2.2.1 x4.2.2.2.2.2.2.2.2.1 x4.2.2.2.2.2.2.2.2.2.1 x4.2.2.2.2.2.2.2.2.2.2.1 x4.2.2.2.2.2.2.2.2.2.2.2.1 x4.2.2.2.2.2.2.2.2.2.2.2.2.1 x4.2.2.2.2.2.2.2.2.2.2.2.2.2.1 x4.2.2.2.2.2.2.2.2.2.2.2.2.2.2.1 x4.2.2.2.2.2.2.2.2.2.2.2.2.2.2.2.1 x4.2.2.2.2.2.2.2.2.2.2.2.2.2.2.2.2.1 x4.2.2.2.2.2.2.2.2.2.2.2.2.2.2.2.2.2.1 x4.2.2.2.2.2.2.2.2.2.2.2.2.2.2.2.2.2.2.1 x4.2.2.2.2.2.2.2.2.2.2.2.2.2.2.2.2.2.2.2.1 x4.2.2.2.2.2.2.2.2.2.2.2.2.2.2.2.2.2.2.2.2.1 x4.2.2.2.2.2.2.2.2.2.2.2.2.2.2.2.2.2.2.2.2.2.1 x4.2.2.2.2.2.2.2.2.2.2.2.2.2.2.2.2.2.2.2.2.2.2 v5 (nI 0) _ hw) ⟨rfl, rfl⟩ ce_X8_quire cv_X8_quire tw_488 ⟨(Nat.le_of_ble_eq_true rfl), (Nat.le_of_ble_eq_true rfl)⟩ hP (bfl_p1 [_, _] 0 rfl) rfl rfl rfl hl.1 rfl (Nat.le_of_ble_eq_true rfl) ⟨(Nat.le_of_ble_eq_true rfl), (Nat.le_of_ble_eq_true rfl)⟩ dL_again_267 (fun r6 hw => ?_)
        refine lv_icmp_ne (tgt := 311) hx hb dL_again_270 (by decide) (fun hc => ?_) (fun hc => ?_)
        · replace hw := hw.2 hc
          refine lv_iconst (v := (nI 0)) hx hb dL_again_311 (by decide) ?_
          refine lv_istore_n (lv' := [(3, .int (nI 0)), (0, .ref (a 0)), (2, .ref (b9 0)), (5, .int v5)]) hx hb dL_again_312 rfl hl (by decide) rfl (fun ls hl => ?_)
          refine lv_iinc (v := (v5 + nI 1)) (lv' := [(5, .int (v5 + nI 1)), (3, .int (nI 0)), (0, .ref (a 0)), (2, .ref (b9 0))]) hx hb dL_again_313 hl (k := 3) rfl rfl (by decide) rfl (fun ls hl => ?_)
          refine lv_goto (tgt := 242) hx hb dL_again_316 (by decide) ?_
          exact ih h3 x4 (nI 0) (v5 + nI 1) hw H locs hP hD hS ls (lv_sub hl [2, 3, 1, 0] rfl)
        · replace hw := hw.1 hc
          refine lv_aload_n hx hb dL_again_273 rfl (lv_at hl 1 rfl) ?_
          refine lv_iload hx hb dL_again_274 (lv_at hl 3 rfl) ?_
          refine lv_iconst (v := (nI 1)) hx hb dL_again_276 (by decide) ?_
          refine kRB (As := [.int v5, .int (nI 1)]) (rest := []) (q0 := 0) C (c_X8_quire l D kI kC kB b9 g_ z.1 z.2.1 z.2.2.1 z.2.2.2.1 z.2.2.2.2.1 z.2.2.2.2.2.1 z.2.2.2.2.2.2.1 z.2.2.2.2.2.2.2.1 z.2.2.2.2.2.2.2.2.1 z.2.2.2.2.2.2.2.2.2.1 z.2.2.2.2.2.2.2.2.2.2.1 z.2.2.2.2.2.2.2.2.2.2.2.1 z.2.2.2.2.2.2.2.2.2.2.2.2.1 z.2.2.2.2.2.2.2.2.2.2.2.2.2.1 z.2.2.2.2.2.2.2.2.2.2.2.2.2.2.1 z.2.2.2.2.2.2.2.2.2.2.2.2.2.2.2.1 z.2.2.2.2.2.2.2.2.2.2.2.2.2.2.2.2.1 z.2.2.2.2.2.2.2.2.2.2.2.2.2.2.2.2.2.1 z.2.2.2.2.2.2.2.2.2.2.2.2.2.2.2.2.2.2.1 z.2.2.2.2.2.2.2.2.2.2.2.2.2.2.2.2.2.2.2.1 z.2.2.2.2.2.2.2.2.2.2.2.2.2.2.2.2.2.2.2.2.1 z.2.2.2.2.2.2.2.2.2.2.2.2.2.2.2.2.2.2.2.2.2.1 z.2.2.2.2.2.2.2.2.2.2.2.2.2.2.2.2.2.2.2.2.2.2 v5 (nI 1) _ hw) ⟨rfl, rfl⟩ ce_X8_quire cv_X8_quire tw_488 ⟨(Nat.le_of_ble_eq_true rfl), (Nat.le_of_ble_eq_true rfl)⟩ hP (bfl_p1 [_, _] 1 rfl) rfl rfl rfl hl.1 rfl (Nat.le_of_ble_eq_true rfl) ⟨(Nat.le_of_ble_eq_true rfl), (Nat.le_of_ble_eq_true rfl)⟩ dL_again_277 (fun r7 hw => ?_)
          refine lv_aload_n hx hb dL_again_280 rfl (lv_at hl 0 rfl) ?_
          refine lv_iload hx hb dL_again_281 (lv_at hl 3 rfl) ?_
          refine lv_iconst (v := (nI 1)) hx hb dL_again_283 (by decide) ?_
          refine kRB (As := [.int v5, .int (nI 1)]) (rest := [.int r7]) (q0 := 0) C (c_X8_quire l D kI kC kB a h3 x4.1 x4.2.1 x4.2.2.1 x4.2.2.2.1 x4.2.2.2.2.1 x4.2.2.2.2.2.1 x4.2.2.2.2.2.2.1 x4.2.2.2.2.2.2.2.1 x4.2.2.2.2.2.2.2.2.1 x4.2.2.2.2.2.2.2.2.2.1 x4.2.2.2.2.2.2.2.2.2.2.1 x4.2.2.2.2.2.2.2.2.2.2.2.1 x4.2.2.2.2.2.2.2.2.2.2.2.2.1 x4.2.2.2.2.2.2.2.2.2.2.2.2.2.1 x4.2.2.2.2.2.2.2.2.2.2.2.2.2.2.1 x4.2.2.2.2.2.2.2.2.2.2.2.2.2.2.2.1 x4.2.2.2.2.2.2.2.2.2.2.2.2.2.2.2.2.1 x4.2.2.2.2.2.2.2.2.2.2.2.2.2.2.2.2.2.1 x4.2.2.2.2.2.2.2.2.2.2.2.2.2.2.2.2.2.2.1 x4.2.2.2.2.2.2.2.2.2.2.2.2.2.2.2.2.2.2.2.1 x4.2.2.2.2.2.2.2.2.2.2.2.2.2.2.2.2.2.2.2.2.1 x4.2.2.2.2.2.2.2.2.2.2.2.2.2.2.2.2.2.2.2.2.2.1 x4.2.2.2.2.2.2.2.2.2.2.2.2.2.2.2.2.2.2.2.2.2.2 v5 (nI 1) _ hw) ⟨rfl, rfl⟩ ce_X8_quire cv_X8_quire tw_488 ⟨(Nat.le_of_ble_eq_true rfl), (Nat.le_of_ble_eq_true rfl)⟩ hP (bfl_p1 [_, _] 0 rfl) rfl rfl rfl hl.1 rfl (Nat.le_of_ble_eq_true rfl) ⟨(Nat.le_of_ble_eq_true rfl), (Nat.le_of_ble_eq_true rfl)⟩ dL_again_284 (fun r8 hw => ?_)
          refine lv_icmp_ne (tgt := 311) hx hb dL_again_287 (by decide) (fun hc => ?_) (fun hc => ?_)
          · replace hw := hw.2 hc
            refine lv_iconst (v := (nI 0)) hx hb dL_again_311 (by decide) ?_
            refine lv_istore_n (lv' := [(3, .int (nI 0)), (0, .ref (a 0)), (2, .ref (b9 0)), (5, .int v5)]) hx hb dL_again_312 rfl hl (by decide) rfl (fun ls hl => ?_)
            refine lv_iinc (v := (v5 + nI 1)) (lv' := [(5, .int (v5 + nI 1)), (3, .int (nI 0)), (0, .ref (a 0)), (2, .ref (b9 0))]) hx hb dL_again_313 hl (k := 3) rfl rfl (by decide) rfl (fun ls hl => ?_)
            refine lv_goto (tgt := 242) hx hb dL_again_316 (by decide) ?_
            exact ih h3 x4 (nI 0) (v5 + nI 1) hw H locs hP hD hS ls (lv_sub hl [2, 3, 1, 0] rfl)
          · replace hw := hw.1 hc
            refine lv_aload_n hx hb dL_again_290 rfl (lv_at hl 1 rfl) ?_
            refine lv_iload hx hb dL_again_291 (lv_at hl 3 rfl) ?_
            refine lv_iconst (v := (nI 2)) hx hb dL_again_293 (by decide) ?_
            refine kRB (As := [.int v5, .int (nI 2)]) (rest := []) (q0 := 0) C (c_X8_quire l D kI kC kB b9 g_ z.1 z.2.1 z.2.2.1 z.2.2.2.1 z.2.2.2.2.1 z.2.2.2.2.2.1 z.2.2.2.2.2.2.1 z.2.2.2.2.2.2.2.1 z.2.2.2.2.2.2.2.2.1 z.2.2.2.2.2.2.2.2.2.1 z.2.2.2.2.2.2.2.2.2.2.1 z.2.2.2.2.2.2.2.2.2.2.2.1 z.2.2.2.2.2.2.2.2.2.2.2.2.1 z.2.2.2.2.2.2.2.2.2.2.2.2.2.1 z.2.2.2.2.2.2.2.2.2.2.2.2.2.2.1 z.2.2.2.2.2.2.2.2.2.2.2.2.2.2.2.1 z.2.2.2.2.2.2.2.2.2.2.2.2.2.2.2.2.1 z.2.2.2.2.2.2.2.2.2.2.2.2.2.2.2.2.2.1 z.2.2.2.2.2.2.2.2.2.2.2.2.2.2.2.2.2.2.1 z.2.2.2.2.2.2.2.2.2.2.2.2.2.2.2.2.2.2.2.1 z.2.2.2.2.2.2.2.2.2.2.2.2.2.2.2.2.2.2.2.2.1 z.2.2.2.2.2.2.2.2.2.2.2.2.2.2.2.2.2.2.2.2.2.1 z.2.2.2.2.2.2.2.2.2.2.2.2.2.2.2.2.2.2.2.2.2.2 v5 (nI 2) _ hw) ⟨rfl, rfl⟩ ce_X8_quire cv_X8_quire tw_488 ⟨(Nat.le_of_ble_eq_true rfl), (Nat.le_of_ble_eq_true rfl)⟩ hP (bfl_p1 [_, _] 1 rfl) rfl rfl rfl hl.1 rfl (Nat.le_of_ble_eq_true rfl) ⟨(Nat.le_of_ble_eq_true rfl), (Nat.le_of_ble_eq_true rfl)⟩ dL_again_294 (fun r9 hw => ?_)
            refine lv_aload_n hx hb dL_again_297 rfl (lv_at hl 0 rfl) ?_
            refine lv_iload hx hb dL_again_298 (lv_at hl 3 rfl) ?_
            refine lv_iconst (v := (nI 2)) hx hb dL_again_300 (by decide) ?_
            refine kRB (As := [.int v5, .int (nI 2)]) (rest := [.int r9]) (q0 := 0) C (c_X8_quire l D kI kC kB a h3 x4.1 x4.2.1 x4.2.2.1 x4.2.2.2.1 x4.2.2.2.2.1 x4.2.2.2.2.2.1 x4.2.2.2.2.2.2.1 x4.2.2.2.2.2.2.2.1 x4.2.2.2.2.2.2.2.2.1 x4.2.2.2.2.2.2.2.2.2.1 x4.2.2.2.2.2.2.2.2.2.2.1 x4.2.2.2.2.2.2.2.2.2.2.2.1 x4.2.2.2.2.2.2.2.2.2.2.2.2.1 x4.2.2.2.2.2.2.2.2.2.2.2.2.2.1 x4.2.2.2.2.2.2.2.2.2.2.2.2.2.2.1 x4.2.2.2.2.2.2.2.2.2.2.2.2.2.2.2.1 x4.2.2.2.2.2.2.2.2.2.2.2.2.2.2.2.2.1 x4.2.2.2.2.2.2.2.2.2.2.2.2.2.2.2.2.2.1 x4.2.2.2.2.2.2.2.2.2.2.2.2.2.2.2.2.2.2.1 x4.2.2.2.2.2.2.2.2.2.2.2.2.2.2.2.2.2.2.2.1 x4.2.2.2.2.2.2.2.2.2.2.2.2.2.2.2.2.2.2.2.2.1 x4.2.2.2.2.2.2.2.2.2.2.2.2.2.2.2.2.2.2.2.2.2.1 x4.2.2.2.2.2.2.2.2.2.2.2.2.2.2.2.2.2.2.2.2.2.2 v5 (nI 2) _ hw) ⟨rfl, rfl⟩ ce_X8_quire cv_X8_quire tw_488 ⟨(Nat.le_of_ble_eq_true rfl), (Nat.le_of_ble_eq_true rfl)⟩ hP (bfl_p1 [_, _] 0 rfl) rfl rfl rfl hl.1 rfl (Nat.le_of_ble_eq_true rfl) ⟨(Nat.le_of_ble_eq_true rfl), (Nat.le_of_ble_eq_true rfl)⟩ dL_again_301 (fun r10 hw => ?_)
            refine lv_icmp_ne (tgt := 311) hx hb dL_again_304 (by decide) (fun hc => ?_) (fun hc => ?_)
            · replace hw := hw.2 hc
              refine lv_iconst (v := (nI 0)) hx hb dL_again_311 (by decide) ?_
              refine lv_istore_n (lv' := [(3, .int (nI 0)), (0, .ref (a 0)), (2, .ref (b9 0)), (5, .int v5)]) hx hb dL_again_312 rfl hl (by decide) rfl (fun ls hl => ?_)
              refine lv_iinc (v := (v5 + nI 1)) (lv' := [(5, .int (v5 + nI 1)), (3, .int (nI 0)), (0, .ref (a 0)), (2, .ref (b9 0))]) hx hb dL_again_313 hl (k := 3) rfl rfl (by decide) rfl (fun ls hl => ?_)
              refine lv_goto (tgt := 242) hx hb dL_again_316 (by decide) ?_
              exact ih h3 x4 (nI 0) (v5 + nI 1) hw H locs hP hD hS ls (lv_sub hl [2, 3, 1, 0] rfl)
            · replace hw := hw.1 hc
              refine lv_iconst (v := (nI 1)) hx hb dL_again_307 (by decide) ?_
              refine lv_goto (tgt := 312) hx hb dL_again_308 (by decide) ?_
              refine lv_istore_n (lv' := [(3, .int (nI 1)), (0, .ref (a 0)), (2, .ref (b9 0)), (5, .int v5)]) hx hb dL_again_312 rfl hl (by decide) rfl (fun ls hl => ?_)
              refine lv_iinc (v := (v5 + nI 1)) (lv' := [(5, .int (v5 + nI 1)), (3, .int (nI 1)), (0, .ref (a 0)), (2, .ref (b9 0))]) hx hb dL_again_313 hl (k := 3) rfl rfl (by decide) rfl (fun ls hl => ?_)
              refine lv_goto (tgt := 242) hx hb dL_again_316 (by decide) ?_
              exact ih h3 x4 (nI 1) (v5 + nI 1) hw H locs hP hD hS ls (lv_sub hl [2, 3, 1, 0] rfl)
set_option maxHeartbeats 4000000 in
set_option maxRecDepth 100000 in
theorem cl_L_again_146 (l : Launch) (D : va_G) (kI kC kB : ClassId) (a : AdT) (b9 : AdT) (g_ : Nat → AdT) (z : XS) (v3 : Int32) (v4 : Int32) (Post : Int32 → XS → Prop) {p : Program} {e : Env} {s : State} {m : MethodId} {args : Array Value} {below : List Frame} {meth : Method} {c : Code} {A : Nat → Prop} (hA : ∀ q : Nat, s.heap.size ≤ q → A q) (C : CtxT p s m args meth c cL_again 6 (some .boolean) yL_again.cls D kI kC kB) : ∀ (n : Nat), ∀ (h_ : Nat → AdT) (x : XS) (v5 : Int32), wl_L_again_146 z v3 v4 Post n x v5 → ∀ (H : Heap) (locs : List Loc), va_P D vwCl (bfl [cwX kI kB a h_ x, cwX kI kB b9 g_ z]) H → va_D A (bfl [cwX kI kB a h_ x, cwX kI kB b9 g_ z]) → va_S A s.heap H locs → ∀ (ls : Array Slot), lv_has ls 6 [(0, .ref (a 0)), (2, .ref (b9 0)), (3, .int v3), (4, .int v4), (5, .int v5)] → W p l e ({ frames := 7, cells := 78, slots := 1376, locals := 158 } : Room) s m args below meth c H locs 78 1376 (MQ below (va_Qi (fun (r : Int32) (u : (Nat → AdT) × XS) => Post r u.2) (BB D A (fun u : (Nat → AdT) × XS => cwX kI kB a u.1 u.2)) A) args s 78 1376 A) (F0 m 146 ls []) := by
  obtain ⟨hx, hb, hr, hml, hown, hts, hlocks, hK⟩ := id C
  intro n
  induction n with
  | zero => intro h_ x v5 hw; exact hw.elim
  | succ n ih =>
    intro h_ x v5 hw H locs hP hD hS ls hl
    unfold wl_L_again_146 at hw
    refine lv_iload hx hb dL_again_146 (lv_at hl 4 rfl) ?_
    refine lv_aload_n hx hb dL_again_148 rfl (lv_at hl 0 rfl) ?_
    refine lv_iconst (v := (nI 0)) hx hb dL_again_149 (by decide) ?_
    refine kMBi (As := [.int (nI 0)]) (rest := [.int v5]) (q0 := 0) (ws' := fun u : (Nat → AdT) × XS => (bfl [cwX kI kB a u.1 u.2, cwX kI kB b9 g_ z])) C (cx_count l D kI kC kB a h_ x H.size (nI 0) _ hw) ⟨rfl, rfl⟩ ce_X8_count cv_X8_count tw_597 ⟨(Nat.le_of_ble_eq_true rfl), (Nat.le_of_ble_eq_true rfl)⟩ hP hD hS hA (bfl_p1 [_, _] 0 rfl) (fun u => (bfl_p1 [_, _] 0 rfl)) rfl rfl rfl hl.1 rfl (Nat.le_of_ble_eq_true rfl) ⟨(Nat.le_of_ble_eq_true rfl), (Nat.le_of_ble_eq_true rfl)⟩ dL_again_150 (fun r11 u H locs hw hP hD hS => ?_)
    obtain ⟨h12, x13⟩ := u
    try dsimp only at hw
    replace hP : va_P D vwCl (bfl [cwX kI kB a h12 x13, cwX kI kB b9 g_ z]) H := hP
    replace hD : va_D A (bfl [cwX kI kB a h12 x13, cwX kI kB b9 g_ z]) := hD
    refine lv_icmp_ge (tgt := 191) hx hb dL_again_153 (by decide) (fun hc => ?_) (fun hc => ?_)
    · replace hw := hw.1 hc
      refine lv_iload_n hx hb dL_again_191 rfl (lv_at hl 2 rfl) ?_
      refine lv_if_eq (tgt := 237) hx hb dL_again_192 (by decide) (fun hc => ?_) (fun hc => ?_)
      · replace hw := hw.1 hc
        refine lv_iconst (v := (nI 0)) hx hb dL_again_237 (by decide) ?_
        refine lv_istore_n (lv' := [(3, .int (nI 0)), (0, .ref (a 0)), (2, .ref (b9 0)), (4, .int v4), (5, .int v5)]) hx hb dL_again_238 rfl hl (by decide) rfl (fun ls hl => ?_)
        refine lv_iconst (v := (nI 0)) hx hb dL_again_239 (by decide) ?_
        refine lv_istore (lv' := [(5, .int (nI 0)), (3, .int (nI 0)), (0, .ref (a 0)), (2, .ref (b9 0)), (4, .int v4)]) hx hb dL_again_240 hl (by decide) rfl (fun ls hl => ?_)
        obtain ⟨n9, hw⟩ := hw
        exact cl_L_again_242 l D kI kC kB a b9 g_ z Post hA C n9 h12 x13 (nI 0) (nI 0) hw H locs hP hD hS ls (lv_sub hl [2, 3, 1, 0] rfl)
      · replace hw := hw.2 hc
        refine lv_iload hx hb dL_again_195 (lv_at hl 3 rfl) ?_
        refine lv_aload_n hx hb dL_again_197 rfl (lv_at hl 0 rfl) ?_
        refine lv_iconst (v := (nI 0)) hx hb dL_again_198 (by decide) ?_
        refine kMBi (As := [.int (nI 0)]) (rest := [.int v4]) (q0 := 0) (ws' := fun u : (Nat → AdT) × XS => (bfl [cwX kI kB a u.1 u.2, cwX kI kB b9 g_ z])) C (cx_count l D kI kC kB a h12 x13 H.size (nI 0) _ hw) ⟨rfl, rfl⟩ ce_X8_count cv_X8_count tw_597 ⟨(Nat.le_of_ble_eq_true rfl), (Nat.le_of_ble_eq_true rfl)⟩ hP hD hS hA (bfl_p1 [_, _] 0 rfl) (fun u => (bfl_p1 [_, _] 0 rfl)) rfl rfl rfl hl.1 rfl (Nat.le_of_ble_eq_true rfl) ⟨(Nat.le_of_ble_eq_true rfl), (Nat.le_of_ble_eq_true rfl)⟩ dL_again_199 (fun r14 u H locs hw hP hD hS => ?_)
        obtain ⟨h15, x16⟩ := u
        try dsimp only at hw
        replace hP : va_P D vwCl (bfl [cwX kI kB a h15 x16, cwX kI kB b9 g_ z]) H := hP
        replace hD : va_D A (bfl [cwX kI kB a h15 x16, cwX kI kB b9 g_ z]) := hD
        refine lv_icmp_ne (tgt := 237) hx hb dL_again_202 (by decide) (fun hc => ?_) (fun hc => ?_)
        · replace hw := hw.2 hc
          refine lv_iconst (v := (nI 0)) hx hb dL_again_237 (by decide) ?_
          refine lv_istore_n (lv' := [(3, .int (nI 0)), (0, .ref (a 0)), (2, .ref (b9 0)), (4, .int v4), (5, .int v5)]) hx hb dL_again_238 rfl hl (by decide) rfl (fun ls hl => ?_)
          refine lv_iconst (v := (nI 0)) hx hb dL_again_239 (by decide) ?_
          refine lv_istore (lv' := [(5, .int (nI 0)), (3, .int (nI 0)), (0, .ref (a 0)), (2, .ref (b9 0)), (4, .int v4)]) hx hb dL_again_240 hl (by decide) rfl (fun ls hl => ?_)
          obtain ⟨n9, hw⟩ := hw
          exact cl_L_again_242 l D kI kC kB a b9 g_ z Post hA C n9 h15 x16 (nI 0) (nI 0) hw H locs hP hD hS ls (lv_sub hl [2, 3, 1, 0] rfl)
        · replace hw := hw.1 hc
          refine lv_aload_n hx hb dL_again_205 rfl (lv_at hl 1 rfl) ?_
          refine lv_bipush (v := (nI 8)) hx hb dL_again_206 (by decide) ?_
          refine kMBi (As := [.int (nI 8)]) (rest := []) (q0 := 0) (ws' := fun u : (Nat → AdT) × XS => (bfl [cwX kI kB a h15 x16, cwX kI kB b9 u.1 u.2])) C (cx_count l D kI kC kB b9 g_ z H.size (nI 8) _ hw) ⟨rfl, rfl⟩ ce_X8_count cv_X8_count tw_597 ⟨(Nat.le_of_ble_eq_true rfl), (Nat.le_of_ble_eq_true rfl)⟩ hP hD hS hA (bfl_p1 [_, _] 1 rfl) (fun u => (bfl_p1 [_, _] 1 rfl)) rfl rfl rfl hl.1 rfl (Nat.le_of_ble_eq_true rfl) ⟨(Nat.le_of_ble_eq_true rfl), (Nat.le_of_ble_eq_true rfl)⟩ dL_again_208 (fun r17 u H locs hw hP hD hS => ?_)
          obtain ⟨h18, x19⟩ := u
          try dsimp only at hw
          replace hP : va_P D vwCl (bfl [cwX kI kB a h15 x16, cwX kI kB b9 h18 x19]) H := hP
          replace hD : va_D A (bfl [cwX kI kB a h15 x16, cwX kI kB b9 h18 x19]) := hD
          refine lv_aload_n hx hb dL_again_211 rfl (lv_at hl 0 rfl) ?_
          refine lv_bipush (v := (nI 8)) hx hb dL_again_212 (by decide) ?_
          refine kMBi (As := [.int (nI 8)]) (rest := [.int r17]) (q0 := 0) (ws' := fun u : (Nat → AdT) × XS => (bfl [cwX kI kB a u.1 u.2, cwX kI kB b9 h18 x19])) C (cx_count l D kI kC kB a h15 x16 H.size (nI 8) _ hw) ⟨rfl, rfl⟩ ce_X8_count cv_X8_count tw_597 ⟨(Nat.le_of_ble_eq_true rfl), (Nat.le_of_ble_eq_true rfl)⟩ hP hD hS hA (bfl_p1 [_, _] 0 rfl) (fun u => (bfl_p1 [_, _] 0 rfl)) rfl rfl rfl hl.1 rfl (Nat.le_of_ble_eq_true rfl) ⟨(Nat.le_of_ble_eq_true rfl), (Nat.le_of_ble_eq_true rfl)⟩ dL_again_214 (fun r20 u H locs hw hP hD hS => ?_)
          obtain ⟨h21, x22⟩ := u
          try dsimp only at hw
          replace hP : va_P D vwCl (bfl [cwX kI kB a h21 x22, cwX kI kB b9 h18 x19]) H := hP
          replace hD : va_D A (bfl [cwX kI kB a h21 x22, cwX kI kB b9 h18 x19]) := hD
          refine lv_icmp_ne (tgt := 237) hx hb dL_again_217 (by decide) (fun hc => ?_) (fun hc => ?_)
          · replace hw := hw.2 hc
            refine lv_iconst (v := (nI 0)) hx hb dL_again_237 (by decide) ?_
            refine lv_istore_n (lv' := [(3, .int (nI 0)), (0, .ref (a 0)), (2, .ref (b9 0)), (4, .int v4), (5, .int v5)]) hx hb dL_again_238 rfl hl (by decide) rfl (fun ls hl => ?_)
            refine lv_iconst (v := (nI 0)) hx hb dL_again_239 (by decide) ?_
            refine lv_istore (lv' := [(5, .int (nI 0)), (3, .int (nI 0)), (0, .ref (a 0)), (2, .ref (b9 0)), (4, .int v4)]) hx hb dL_again_240 hl (by decide) rfl (fun ls hl => ?_)
            obtain ⟨n9, hw⟩ := hw
            exact cl_L_again_242 l D kI kC kB a b9 h18 x19 Post hA C n9 h21 x22 (nI 0) (nI 0) hw H locs hP hD hS ls (lv_sub hl [2, 3, 1, 0] rfl)
          · replace hw := hw.1 hc
            refine lv_aload_n hx hb dL_again_220 rfl (lv_at hl 1 rfl) ?_
            refine lv_iconst (v := (nI 1)) hx hb dL_again_221 (by decide) ?_
            refine kMBi (As := [.int (nI 1)]) (rest := []) (q0 := 0) (ws' := fun u : (Nat → AdT) × XS => (bfl [cwX kI kB a h21 x22, cwX kI kB b9 u.1 u.2])) C (cx_count l D kI kC kB b9 h18 x19 H.size (nI 1) _ hw) ⟨rfl, rfl⟩ ce_X8_count cv_X8_count tw_597 ⟨(Nat.le_of_ble_eq_true rfl), (Nat.le_of_ble_eq_true rfl)⟩ hP hD hS hA (bfl_p1 [_, _] 1 rfl) (fun u => (bfl_p1 [_, _] 1 rfl)) rfl rfl rfl hl.1 rfl (Nat.le_of_ble_eq_true rfl) ⟨(Nat.le_of_ble_eq_true rfl), (Nat.le_of_ble_eq_true rfl)⟩ dL_again_222 (fun r23 u H locs hw hP hD hS => ?_)
            obtain ⟨h24, x25⟩ := u
            try dsimp only at hw
            replace hP : va_P D vwCl (bfl [cwX kI kB a h21 x22, cwX kI kB b9 h24 x25]) H := hP
            replace hD : va_D A (bfl [cwX kI kB a h21 x22, cwX kI kB b9 h24 x25]) := hD
            refine lv_aload_n hx hb dL_again_225 rfl (lv_at hl 0 rfl) ?_
            refine lv_iconst (v := (nI 1)) hx hb dL_again_226 (by decide) ?_
            refine kMBi (As := [.int (nI 1)]) (rest := [.int r23]) (q0 := 0) (ws' := fun u : (Nat → AdT) × XS => (bfl [cwX kI kB a u.1 u.2, cwX kI kB b9 h24 x25])) C (cx_count l D kI kC kB a h21 x22 H.size (nI 1) _ hw) ⟨rfl, rfl⟩ ce_X8_count cv_X8_count tw_597 ⟨(Nat.le_of_ble_eq_true rfl), (Nat.le_of_ble_eq_true rfl)⟩ hP hD hS hA (bfl_p1 [_, _] 0 rfl) (fun u => (bfl_p1 [_, _] 0 rfl)) rfl rfl rfl hl.1 rfl (Nat.le_of_ble_eq_true rfl) ⟨(Nat.le_of_ble_eq_true rfl), (Nat.le_of_ble_eq_true rfl)⟩ dL_again_227 (fun r26 u H locs hw hP hD hS => ?_)
            obtain ⟨h27, x28⟩ := u
            try dsimp only at hw
            replace hP : va_P D vwCl (bfl [cwX kI kB a h27 x28, cwX kI kB b9 h24 x25]) H := hP
            replace hD : va_D A (bfl [cwX kI kB a h27 x28, cwX kI kB b9 h24 x25]) := hD
            refine lv_icmp_ne (tgt := 237) hx hb dL_again_230 (by decide) (fun hc => ?_) (fun hc => ?_)
            · replace hw := hw.2 hc
              refine lv_iconst (v := (nI 0)) hx hb dL_again_237 (by decide) ?_
              refine lv_istore_n (lv' := [(3, .int (nI 0)), (0, .ref (a 0)), (2, .ref (b9 0)), (4, .int v4), (5, .int v5)]) hx hb dL_again_238 rfl hl (by decide) rfl (fun ls hl => ?_)
              refine lv_iconst (v := (nI 0)) hx hb dL_again_239 (by decide) ?_
              refine lv_istore (lv' := [(5, .int (nI 0)), (3, .int (nI 0)), (0, .ref (a 0)), (2, .ref (b9 0)), (4, .int v4)]) hx hb dL_again_240 hl (by decide) rfl (fun ls hl => ?_)
              obtain ⟨n9, hw⟩ := hw
              exact cl_L_again_242 l D kI kC kB a b9 h24 x25 Post hA C n9 h27 x28 (nI 0) (nI 0) hw H locs hP hD hS ls (lv_sub hl [2, 3, 1, 0] rfl)
            · replace hw := hw.1 hc
              refine lv_iconst (v := (nI 1)) hx hb dL_again_233 (by decide) ?_
              refine lv_goto (tgt := 238) hx hb dL_again_234 (by decide) ?_
              refine lv_istore_n (lv' := [(3, .int (nI 1)), (0, .ref (a 0)), (2, .ref (b9 0)), (4, .int v4), (5, .int v5)]) hx hb dL_again_238 rfl hl (by decide) rfl (fun ls hl => ?_)
              refine lv_iconst (v := (nI 0)) hx hb dL_again_239 (by decide) ?_
              refine lv_istore (lv' := [(5, .int (nI 0)), (3, .int (nI 1)), (0, .ref (a 0)), (2, .ref (b9 0)), (4, .int v4)]) hx hb dL_again_240 hl (by decide) rfl (fun ls hl => ?_)
              obtain ⟨n9, hw⟩ := hw
              exact cl_L_again_242 l D kI kC kB a b9 h24 x25 Post hA C n9 h27 x28 (nI 1) (nI 0) hw H locs hP hD hS ls (lv_sub hl [2, 3, 1, 0] rfl)
    · replace hw := hw.2 hc
      refine lv_aload_n hx hb dL_again_156 rfl (lv_at hl 0 rfl) ?_
      refine lv_iload hx hb dL_again_157 (lv_at hl 4 rfl) ?_
      refine lv_iconst (v := (nI 1)) hx hb dL_again_159 (by decide) ?_
      refine kRB (As := [.int v5, .int (nI 1)]) (rest := []) (q0 := 0) C (c_X8_quire l D kI kC kB a h12 x13.1 x13.2.1 x13.2.2.1 x13.2.2.2.1 x13.2.2.2.2.1 x13.2.2.2.2.2.1 x13.2.2.2.2.2.2.1 x13.2.2.2.2.2.2.2.1 x13.2.2.2.2.2.2.2.2.1 x13.2.2.2.2.2.2.2.2.2.1 x13.2.2.2.2.2.2.2.2.2.2.1 x13.2.2.2.2.2.2.2.2.2.2.2.1 x13.2.2.2.2.2.2.2.2.2.2.2.2.1 x13.2.2.2.2.2.2.2.2.2.2.2.2.2.1 x13.2.2.2.2.2.2.2.2.2.2.2.2.2.2.1 x13.2.2.2.2.2.2.2.2.2.2.2.2.2.2.2.1 x13.2.2.2.2.2.2.2.2.2.2.2.2.2.2.2.2.1 x13.2.2.2.2.2.2.2.2.2.2.2.2.2.2.2.2.2.1 x13.2.2.2.2.2.2.2.2.2.2.2.2.2.2.2.2.2.2.1 x13.2.2.2.2.2.2.2.2.2.2.2.2.2.2.2.2.2.2.2.1 x13.2.2.2.2.2.2.2.2.2.2.2.2.2.2.2.2.2.2.2.2.1 x13.2.2.2.2.2.2.2.2.2.2.2.2.2.2.2.2.2.2.2.2.2.1 x13.2.2.2.2.2.2.2.2.2.2.2.2.2.2.2.2.2.2.2.2.2.2 v5 (nI 1) _ hw) ⟨rfl, rfl⟩ ce_X8_quire cv_X8_quire tw_488 ⟨(Nat.le_of_ble_eq_true rfl), (Nat.le_of_ble_eq_true rfl)⟩ hP (bfl_p1 [_, _] 0 rfl) rfl rfl rfl hl.1 rfl (Nat.le_of_ble_eq_true rfl) ⟨(Nat.le_of_ble_eq_true rfl), (Nat.le_of_ble_eq_true rfl)⟩ dL_again_160 (fun r29 hw => ?_)
      refine lv_bipush (v := (-5)) hx hb dL_again_163 (by decide) ?_
      refine lv_icmp_eq (tgt := 185) hx hb dL_again_165 (by decide) (fun hc => ?_) (fun hc => ?_)
      · replace hw := hw.1 hc
        refine lv_iinc (v := (v5 + nI 1)) (lv' := [(5, .int (v5 + nI 1)), (0, .ref (a 0)), (2, .ref (b9 0)), (3, .int v3), (4, .int v4)]) hx hb dL_again_185 hl (k := 4) rfl rfl (by decide) rfl (fun ls hl => ?_)
        refine lv_goto (tgt := 146) hx hb dL_again_188 (by decide) ?_
        exact ih h12 x13 (v5 + nI 1) hw H locs hP hD hS ls (lv_sub hl [1, 2, 3, 4, 0] rfl)
      · replace hw := hw.2 hc
        refine lv_aload_n hx hb dL_again_168 rfl (lv_at hl 0 rfl) ?_
        refine lv_aload_n hx hb dL_again_169 rfl (lv_at hl 0 rfl) ?_
        refine lv_iload hx hb dL_again_170 (lv_at hl 4 rfl) ?_
        refine lv_iconst (v := (nI 1)) hx hb dL_again_172 (by decide) ?_
        refine kRB (As := [.int v5, .int (nI 1)]) (rest := [.ref (a 0)]) (q0 := 0) C (c_X8_quire l D kI kC kB a h12 x13.1 x13.2.1 x13.2.2.1 x13.2.2.2.1 x13.2.2.2.2.1 x13.2.2.2.2.2.1 x13.2.2.2.2.2.2.1 x13.2.2.2.2.2.2.2.1 x13.2.2.2.2.2.2.2.2.1 x13.2.2.2.2.2.2.2.2.2.1 x13.2.2.2.2.2.2.2.2.2.2.1 x13.2.2.2.2.2.2.2.2.2.2.2.1 x13.2.2.2.2.2.2.2.2.2.2.2.2.1 x13.2.2.2.2.2.2.2.2.2.2.2.2.2.1 x13.2.2.2.2.2.2.2.2.2.2.2.2.2.2.1 x13.2.2.2.2.2.2.2.2.2.2.2.2.2.2.2.1 x13.2.2.2.2.2.2.2.2.2.2.2.2.2.2.2.2.1 x13.2.2.2.2.2.2.2.2.2.2.2.2.2.2.2.2.2.1 x13.2.2.2.2.2.2.2.2.2.2.2.2.2.2.2.2.2.2.1 x13.2.2.2.2.2.2.2.2.2.2.2.2.2.2.2.2.2.2.2.1 x13.2.2.2.2.2.2.2.2.2.2.2.2.2.2.2.2.2.2.2.2.1 x13.2.2.2.2.2.2.2.2.2.2.2.2.2.2.2.2.2.2.2.2.2.1 x13.2.2.2.2.2.2.2.2.2.2.2.2.2.2.2.2.2.2.2.2.2.2 v5 (nI 1) _ hw) ⟨rfl, rfl⟩ ce_X8_quire cv_X8_quire tw_488 ⟨(Nat.le_of_ble_eq_true rfl), (Nat.le_of_ble_eq_true rfl)⟩ hP (bfl_p1 [_, _] 0 rfl) rfl rfl rfl hl.1 rfl (Nat.le_of_ble_eq_true rfl) ⟨(Nat.le_of_ble_eq_true rfl), (Nat.le_of_ble_eq_true rfl)⟩ dL_again_173 (fun r30 hw => ?_)
        refine lv_i2c (v := cI r30) hx hb dL_again_176 rfl ?_
        refine kMBgS (As := [.ref (a 0), .int (cI r30)]) (rest := []) (ws' := fun u : (Nat → AdT) × XS => (bfl [cwX kI kB a u.1 u.2, cwX kI kB b9 g_ z])) C (c_L_isOut l D kI kC kB a h12 x13 H.size (cI r30) _ hw) ⟨rfl, rfl⟩ ce_L_isOut cv_L_isOut tw_623 ⟨(Nat.le_of_ble_eq_true rfl), (Nat.le_of_ble_eq_true rfl)⟩ hP hD hS hA (bfl_p1 [_, _] 0 rfl) (fun u => (bfl_p1 [_, _] 0 rfl))  hl.1 rfl (Nat.le_of_ble_eq_true rfl) ⟨(Nat.le_of_ble_eq_true rfl), (Nat.le_of_ble_eq_true rfl)⟩ dL_again_177 (fun r31 u H locs hw hP hD hS => ?_)
        obtain ⟨h32, x33⟩ := u
        try dsimp only at hw
        replace hP : va_P D vwCl (bfl [cwX kI kB a h32 x33, cwX kI kB b9 g_ z]) H := hP
        replace hD : va_D A (bfl [cwX kI kB a h32 x33, cwX kI kB b9 g_ z]) := hD
        refine lv_if_eq (tgt := 185) hx hb dL_again_180 (by decide) (fun hc => ?_) (fun hc => ?_)
        · replace hw := hw.1 hc
          refine lv_iinc (v := (v5 + nI 1)) (lv' := [(5, .int (v5 + nI 1)), (0, .ref (a 0)), (2, .ref (b9 0)), (3, .int v3), (4, .int v4)]) hx hb dL_again_185 hl (k := 4) rfl rfl (by decide) rfl (fun ls hl => ?_)
          refine lv_goto (tgt := 146) hx hb dL_again_188 (by decide) ?_
          exact ih h32 x33 (v5 + nI 1) hw H locs hP hD hS ls (lv_sub hl [1, 2, 3, 4, 0] rfl)
        · replace hw := hw.2 hc
          refine lv_iload_n hx hb dL_again_183 rfl (lv_at hl 2 rfl) ?_
          have hz := hw.1
          replace hw := hw.2
          replace hP := va_P_cut (bfl_p1 [_, _] 0 rfl) hP
          replace hD := va_D_cutA (bfl_p1 [_, _] 0 rfl) hD
          exact retMgz C (S := (Nat → AdT) × XS) (h32, x33) hz hw hP hD hS (Nat.le_of_ble_eq_true rfl) (Nat.le_of_ble_eq_true rfl) dL_again_184
set_option maxHeartbeats 4000000 in
set_option maxRecDepth 100000 in
theorem cj_L_again_129 (l : Launch) (D : va_G) (kI kC kB : ClassId) (a : AdT) (b9 : AdT) (h_ : Nat → AdT) (x : XS) (g_ : Nat → AdT) (z : XS) (v3 : Int32) (Post : Int32 → XS → Prop) {p : Program} {e : Env} {s : State} {m : MethodId} {args : Array Value} {below : List Frame} {meth : Method} {c : Code} {A : Nat → Prop} (hA : ∀ q : Nat, s.heap.size ≤ q → A q) (C : CtxT p s m args meth c cL_again 6 (some .boolean) yL_again.cls D kI kC kB) : wj_L_again_129 x z v3 Post → ∀ (H : Heap) (locs : List Loc), va_P D vwCl (bfl [cwX kI kB a h_ x, cwX kI kB b9 g_ z]) H → va_D A (bfl [cwX kI kB a h_ x, cwX kI kB b9 g_ z]) → va_S A s.heap H locs → ∀ (ls : Array Slot), lv_has ls 6 [(0, .ref (a 0)), (2, .ref (b9 0)), (3, .int v3)] → W p l e ({ frames := 7, cells := 78, slots := 1376, locals := 158 } : Room) s m args below meth c H locs 78 1376 (MQ below (va_Qi (fun (r : Int32) (u : (Nat → AdT) × XS) => Post r u.2) (BB D A (fun u : (Nat → AdT) × XS => cwX kI kB a u.1 u.2)) A) args s 78 1376 A) (F0 m 129 ls []) := by
  obtain ⟨hx, hb, hr, hml, hown, hts, hlocks, hK⟩ := id C
  intro hw H locs hP hD hS ls hl
  unfold wj_L_again_129 at hw
  refine lv_iload_n hx hb dL_again_129 rfl (lv_at hl 2 rfl) ?_
  refine lv_if_eq (tgt := 140) hx hb dL_again_130 (by decide) (fun hc => ?_) (fun hc => ?_)
  · replace hw := hw.1 hc
    refine lv_iconst (v := (nI 0)) hx hb dL_again_140 (by decide) ?_
    refine lv_istore (lv' := [(4, .int (nI 0)), (0, .ref (a 0)), (2, .ref (b9 0)), (3, .int v3)]) hx hb dL_again_141 hl (by decide) rfl (fun ls hl => ?_)
    refine lv_iconst (v := (nI 0)) hx hb dL_again_143 (by decide) ?_
    refine lv_istore (lv' := [(5, .int (nI 0)), (4, .int (nI 0)), (0, .ref (a 0)), (2, .ref (b9 0)), (3, .int v3)]) hx hb dL_again_144 hl (by decide) rfl (fun ls hl => ?_)
    obtain ⟨n9, hw⟩ := hw
    exact cl_L_again_146 l D kI kC kB a b9 g_ z v3 (nI 0) Post hA C n9 h_ x (nI 0) hw H locs hP hD hS ls (lv_sub hl [2, 3, 4, 1, 0] rfl)
  · replace hw := hw.2 hc
    refine lv_aload_n hx hb dL_again_133 rfl (lv_at hl 1 rfl) ?_
    refine kMBi (As := []) (rest := []) (q0 := 0) (ws' := fun u : (Nat → AdT) × XS => (bfl [cwX kI kB a h_ x, cwX kI kB b9 u.1 u.2])) C (cx_readFormula l D kI kC kB b9 g_ z H.size  _ hw) ⟨rfl, rfl⟩ ce_X8_readFormula cv_X8_readFormula tw_262 ⟨(Nat.le_of_ble_eq_true rfl), (Nat.le_of_ble_eq_true rfl)⟩ hP hD hS hA (bfl_p1 [_, _] 1 rfl) (fun u => (bfl_p1 [_, _] 1 rfl)) rfl rfl rfl hl.1 rfl (Nat.le_of_ble_eq_true rfl) ⟨(Nat.le_of_ble_eq_true rfl), (Nat.le_of_ble_eq_true rfl)⟩ dL_again_134 (fun r34 u H locs hw hP hD hS => ?_)
    obtain ⟨h35, x36⟩ := u
    try dsimp only at hw
    replace hP : va_P D vwCl (bfl [cwX kI kB a h_ x, cwX kI kB b9 h35 x36]) H := hP
    replace hD : va_D A (bfl [cwX kI kB a h_ x, cwX kI kB b9 h35 x36]) := hD
    refine lv_goto (tgt := 141) hx hb dL_again_137 (by decide) ?_
    refine lv_istore (lv' := [(4, .int r34), (0, .ref (a 0)), (2, .ref (b9 0)), (3, .int v3)]) hx hb dL_again_141 hl (by decide) rfl (fun ls hl => ?_)
    refine lv_iconst (v := (nI 0)) hx hb dL_again_143 (by decide) ?_
    refine lv_istore (lv' := [(5, .int (nI 0)), (4, .int r34), (0, .ref (a 0)), (2, .ref (b9 0)), (3, .int v3)]) hx hb dL_again_144 hl (by decide) rfl (fun ls hl => ?_)
    obtain ⟨n9, hw⟩ := hw
    exact cl_L_again_146 l D kI kC kB a b9 h35 x36 v3 r34 Post hA C n9 h_ x (nI 0) hw H locs hP hD hS ls (lv_sub hl [2, 3, 4, 1, 0] rfl)
set_option maxHeartbeats 4000000 in
set_option maxRecDepth 100000 in
theorem cl_L_again_89 (l : Launch) (D : va_G) (kI kC kB : ClassId) (a : AdT) (b9 : AdT) (v1 : Int32) (Post : Int32 → XS → Prop) {p : Program} {e : Env} {s : State} {m : MethodId} {args : Array Value} {below : List Frame} {meth : Method} {c : Code} {A : Nat → Prop} (hA : ∀ q : Nat, s.heap.size ≤ q → A q) (C : CtxT p s m args meth c cL_again 6 (some .boolean) yL_again.cls D kI kC kB) : ∀ (n : Nat), ∀ (h_ : Nat → AdT) (x : XS) (g_ : Nat → AdT) (z : XS) (v3 : Int32) (v4 : Int32), wl_L_again_89 v1 Post n x z v3 v4 → ∀ (H : Heap) (locs : List Loc), va_P D vwCl (bfl [cwX kI kB a h_ x, cwX kI kB b9 g_ z]) H → va_D A (bfl [cwX kI kB a h_ x, cwX kI kB b9 g_ z]) → va_S A s.heap H locs → ∀ (ls : Array Slot), lv_has ls 6 [(0, .ref (a 0)), (1, .int v1), (2, .ref (b9 0)), (3, .int v3), (4, .int v4)] → W p l e ({ frames := 7, cells := 78, slots := 1376, locals := 158 } : Room) s m args below meth c H locs 78 1376 (MQ below (va_Qi (fun (r : Int32) (u : (Nat → AdT) × XS) => Post r u.2) (BB D A (fun u : (Nat → AdT) × XS => cwX kI kB a u.1 u.2)) A) args s 78 1376 A) (F0 m 89 ls []) := by
  obtain ⟨hx, hb, hr, hml, hown, hts, hlocks, hK⟩ := id C
  intro n
  induction n with
  | zero => intro h_ x g_ z v3 v4 hw; exact hw.elim
  | succ n ih =>
    intro h_ x g_ z v3 v4 hw H locs hP hD hS ls hl
    unfold wl_L_again_89 at hw
    refine lv_iload hx hb dL_again_89 (lv_at hl 4 rfl) ?_
    refine lv_iload_n hx hb dL_again_91 rfl (lv_at hl 1 rfl) ?_
    refine lv_icmp_ge (tgt := 129) hx hb dL_again_92 (by decide) (fun hc => ?_) (fun hc => ?_)
    · replace hw := hw.1 hc
      exact cj_L_again_129 l D kI kC kB a b9 h_ x g_ z v3 Post hA C hw H locs hP hD hS ls (lv_sub hl [0, 2, 3] rfl)
    · replace hw := hw.2 hc
      refine lv_iload_n hx hb dL_again_95 rfl (lv_at hl 3 rfl) ?_
      refine lv_if_eq (tgt := 129) hx hb dL_again_96 (by decide) (fun hc => ?_) (fun hc => ?_)
      · replace hw := hw.1 hc
        exact cj_L_again_129 l D kI kC kB a b9 h_ x g_ z v3 Post hA C hw H locs hP hD hS ls (lv_sub hl [0, 2, 3] rfl)
      · replace hw := hw.2 hc
        refine lv_aload_n hx hb dL_again_99 rfl (lv_at hl 2 rfl) ?_
        refine lv_aload_n hx hb dL_again_100 rfl (lv_at hl 0 rfl) ?_
        refine lv_iload hx hb dL_again_101 (lv_at hl 4 rfl) ?_
        refine kMBi (As := [.int v4]) (rest := [.ref (b9 0)]) (q0 := 0) (ws' := fun u : (Nat → AdT) × XS => (bfl [cwX kI kB a u.1 u.2, cwX kI kB b9 g_ z])) C (cx_formula l D kI kC kB a h_ x H.size v4 _ hw) ⟨rfl, rfl⟩ ce_X8_formula cv_X8_formula tw_557 ⟨(Nat.le_of_ble_eq_true rfl), (Nat.le_of_ble_eq_true rfl)⟩ hP hD hS hA (bfl_p1 [_, _] 0 rfl) (fun u => (bfl_p1 [_, _] 0 rfl)) rfl rfl rfl hl.1 rfl (Nat.le_of_ble_eq_true rfl) ⟨(Nat.le_of_ble_eq_true rfl), (Nat.le_of_ble_eq_true rfl)⟩ dL_again_103 (fun r37 u H locs hw hP hD hS => ?_)
        obtain ⟨h38, x39⟩ := u
        try dsimp only at hw
        replace hP : va_P D vwCl (bfl [cwX kI kB a h38 x39, cwX kI kB b9 g_ z]) H := hP
        replace hD : va_D A (bfl [cwX kI kB a h38 x39, cwX kI kB b9 g_ z]) := hD
        refine lv_i2c (v := cI r37) hx hb dL_again_106 rfl ?_
        refine kMBi (As := [.int (cI r37)]) (rest := []) (q0 := 0) (ws' := fun u : (Nat → AdT) × XS => (bfl [cwX kI kB a h38 x39, cwX kI kB b9 u.1 u.2])) C (cx_type l D kI kC kB b9 g_ z H.size (cI r37) _ hw) ⟨rfl, rfl⟩ ce_X8_type cv_X8_type tw_451 ⟨(Nat.le_of_ble_eq_true rfl), (Nat.le_of_ble_eq_true rfl)⟩ hP hD hS hA (bfl_p1 [_, _] 1 rfl) (fun u => (bfl_p1 [_, _] 1 rfl)) rfl rfl rfl hl.1 rfl (Nat.le_of_ble_eq_true rfl) ⟨(Nat.le_of_ble_eq_true rfl), (Nat.le_of_ble_eq_true rfl)⟩ dL_again_107 (fun r40 u H locs hw hP hD hS => ?_)
        obtain ⟨h41, x42⟩ := u
        try dsimp only at hw
        replace hP : va_P D vwCl (bfl [cwX kI kB a h38 x39, cwX kI kB b9 h41 x42]) H := hP
        replace hD : va_D A (bfl [cwX kI kB a h38 x39, cwX kI kB b9 h41 x42]) := hD
        refine lv_iload hx hb dL_again_110 (lv_at hl 4 rfl) ?_
        refine lv_iconst (v := (nI 1)) hx hb dL_again_112 (by decide) ?_
        refine lv_iadd hx hb dL_again_113 ?_
        refine lv_icmp_ne (tgt := 121) hx hb dL_again_114 (by decide) (fun hc => ?_) (fun hc => ?_)
        · replace hw := hw.2 hc
          refine lv_iconst (v := (nI 0)) hx hb dL_again_121 (by decide) ?_
          refine lv_istore_n (lv' := [(3, .int (nI 0)), (0, .ref (a 0)), (1, .int v1), (2, .ref (b9 0)), (4, .int v4)]) hx hb dL_again_122 rfl hl (by decide) rfl (fun ls hl => ?_)
          refine lv_iinc (v := (v4 + nI 1)) (lv' := [(4, .int (v4 + nI 1)), (3, .int (nI 0)), (0, .ref (a 0)), (1, .int v1), (2, .ref (b9 0))]) hx hb dL_again_123 hl (k := 4) rfl rfl (by decide) rfl (fun ls hl => ?_)
          refine lv_goto (tgt := 89) hx hb dL_again_126 (by decide) ?_
          exact ih h38 x39 h41 x42 (nI 0) (v4 + nI 1) hw H locs hP hD hS ls (lv_sub hl [2, 3, 4, 1, 0] rfl)
        · replace hw := hw.1 hc
          refine lv_iconst (v := (nI 1)) hx hb dL_again_117 (by decide) ?_
          refine lv_goto (tgt := 122) hx hb dL_again_118 (by decide) ?_
          refine lv_istore_n (lv' := [(3, .int (nI 1)), (0, .ref (a 0)), (1, .int v1), (2, .ref (b9 0)), (4, .int v4)]) hx hb dL_again_122 rfl hl (by decide) rfl (fun ls hl => ?_)
          refine lv_iinc (v := (v4 + nI 1)) (lv' := [(4, .int (v4 + nI 1)), (3, .int (nI 1)), (0, .ref (a 0)), (1, .int v1), (2, .ref (b9 0))]) hx hb dL_again_123 hl (k := 4) rfl rfl (by decide) rfl (fun ls hl => ?_)
          refine lv_goto (tgt := 89) hx hb dL_again_126 (by decide) ?_
          exact ih h38 x39 h41 x42 (nI 1) (v4 + nI 1) hw H locs hP hD hS ls (lv_sub hl [2, 3, 4, 1, 0] rfl)
set_option maxHeartbeats 4000000 in
set_option maxRecDepth 100000 in
theorem cl_L_again_33 (l : Launch) (D : va_G) (kI kC kB : ClassId) (a : AdT) (b9 : AdT) (v1 : Int32) (Post : Int32 → XS → Prop) {p : Program} {e : Env} {s : State} {m : MethodId} {args : Array Value} {below : List Frame} {meth : Method} {c : Code} {A : Nat → Prop} (hA : ∀ q : Nat, s.heap.size ≤ q → A q) (C : CtxT p s m args meth c cL_again 6 (some .boolean) yL_again.cls D kI kC kB) : ∀ (n : Nat), ∀ (h_ : Nat → AdT) (x : XS) (g_ : Nat → AdT) (z : XS) (v3 : Int32) (v4 : Int32), wl_L_again_33 v1 Post n x z v3 v4 → ∀ (H : Heap) (locs : List Loc), va_P D vwCl (bfl [cwX kI kB a h_ x, cwX kI kB b9 g_ z]) H → va_D A (bfl [cwX kI kB a h_ x, cwX kI kB b9 g_ z]) → va_S A s.heap H locs → ∀ (ls : Array Slot), lv_has ls 6 [(0, .ref (a 0)), (1, .int v1), (2, .ref (b9 0)), (3, .int v3), (4, .int v4)] → W p l e ({ frames := 7, cells := 78, slots := 1376, locals := 158 } : Room) s m args below meth c H locs 78 1376 (MQ below (va_Qi (fun (r : Int32) (u : (Nat → AdT) × XS) => Post r u.2) (BB D A (fun u : (Nat → AdT) × XS => cwX kI kB a u.1 u.2)) A) args s 78 1376 A) (F0 m 33 ls []) := by
  obtain ⟨hx, hb, hr, hml, hown, hts, hlocks, hK⟩ := id C
  intro n
  induction n with
  | zero => intro h_ x g_ z v3 v4 hw; exact hw.elim
  | succ n ih =>
    intro h_ x g_ z v3 v4 hw H locs hP hD hS ls hl
    unfold wl_L_again_33 at hw
    refine lv_iload hx hb dL_again_33 (lv_at hl 4 rfl) ?_
    refine lv_bipush (v := (nI 90)) hx hb dL_again_35 (by decide) ?_
    refine lv_icmp_gt (tgt := 86) hx hb dL_again_37 (by decide) (fun hc => ?_) (fun hc => ?_)
    · replace hw := hw.1 hc
      refine lv_iconst (v := (nI 0)) hx hb dL_again_86 (by decide) ?_
      refine lv_istore (lv' := [(4, .int (nI 0)), (0, .ref (a 0)), (1, .int v1), (2, .ref (b9 0)), (3, .int v3)]) hx hb dL_again_87 hl (by decide) rfl (fun ls hl => ?_)
      obtain ⟨n9, hw⟩ := hw
      exact cl_L_again_89 l D kI kC kB a b9 v1 Post hA C n9 h_ x g_ z v3 (nI 0) hw H locs hP hD hS ls (lv_sub hl [1, 2, 3, 4, 0] rfl)
    · replace hw := hw.2 hc
      refine lv_iload_n hx hb dL_again_40 rfl (lv_at hl 3 rfl) ?_
      refine lv_if_eq (tgt := 86) hx hb dL_again_41 (by decide) (fun hc => ?_) (fun hc => ?_)
      · replace hw := hw.1 hc
        refine lv_iconst (v := (nI 0)) hx hb dL_again_86 (by decide) ?_
        refine lv_istore (lv' := [(4, .int (nI 0)), (0, .ref (a 0)), (1, .int v1), (2, .ref (b9 0)), (3, .int v3)]) hx hb dL_again_87 hl (by decide) rfl (fun ls hl => ?_)
        obtain ⟨n9, hw⟩ := hw
        exact cl_L_again_89 l D kI kC kB a b9 v1 Post hA C n9 h_ x g_ z v3 (nI 0) hw H locs hP hD hS ls (lv_sub hl [1, 2, 3, 4, 0] rfl)
      · replace hw := hw.2 hc
        refine lv_aload_n hx hb dL_again_44 rfl (lv_at hl 2 rfl) ?_
        refine lv_iload hx hb dL_again_45 (lv_at hl 4 rfl) ?_
        refine lv_aload_n hx hb dL_again_47 rfl (lv_at hl 0 rfl) ?_
        refine lv_iload hx hb dL_again_48 (lv_at hl 4 rfl) ?_
        refine kMBgS (As := [.ref (a 0), .int v4]) (rest := [.int v4, .ref (b9 0)]) (ws' := fun u : (Nat → AdT) × XS => (bfl [cwX kI kB a u.1 u.2, cwX kI kB b9 g_ z])) C (c_L_isOut l D kI kC kB a h_ x H.size v4 _ hw) ⟨rfl, rfl⟩ ce_L_isOut cv_L_isOut tw_623 ⟨(Nat.le_of_ble_eq_true rfl), (Nat.le_of_ble_eq_true rfl)⟩ hP hD hS hA (bfl_p1 [_, _] 0 rfl) (fun u => (bfl_p1 [_, _] 0 rfl))  hl.1 rfl (Nat.le_of_ble_eq_true rfl) ⟨(Nat.le_of_ble_eq_true rfl), (Nat.le_of_ble_eq_true rfl)⟩ dL_again_50 (fun r43 u H locs hw hP hD hS => ?_)
        obtain ⟨h44, x45⟩ := u
        try dsimp only at hw
        replace hP : va_P D vwCl (bfl [cwX kI kB a h44 x45, cwX kI kB b9 g_ z]) H := hP
        replace hD : va_D A (bfl [cwX kI kB a h44 x45, cwX kI kB b9 g_ z]) := hD
        refine kMBi (As := [.int v4, .int r43]) (rest := []) (q0 := 0) (ws' := fun u : (Nat → AdT) × XS => (bfl [cwX kI kB a h44 x45, cwX kI kB b9 u.1 u.2])) C (cx_leaveOut l D kI kC kB b9 g_ z H.size v4 r43 _ hw) ⟨rfl, rfl⟩ ce_X8_leaveOut cv_X8_leaveOut tw_183 ⟨(Nat.le_of_ble_eq_true rfl), (Nat.le_of_ble_eq_true rfl)⟩ hP hD hS hA (bfl_p1 [_, _] 1 rfl) (fun u => (bfl_p1 [_, _] 1 rfl)) rfl rfl rfl hl.1 rfl (Nat.le_of_ble_eq_true rfl) ⟨(Nat.le_of_ble_eq_true rfl), (Nat.le_of_ble_eq_true rfl)⟩ dL_again_53 (fun r46 u H locs hw hP hD hS => ?_)
        obtain ⟨h47, x48⟩ := u
        try dsimp only at hw
        replace hP : va_P D vwCl (bfl [cwX kI kB a h44 x45, cwX kI kB b9 h47 x48]) H := hP
        replace hD : va_D A (bfl [cwX kI kB a h44 x45, cwX kI kB b9 h47 x48]) := hD
        refine lv_istore (lv' := [(5, .int r46), (0, .ref (a 0)), (1, .int v1), (2, .ref (b9 0)), (3, .int v3), (4, .int v4)]) hx hb dL_again_56 hl (by decide) rfl (fun ls hl => ?_)
        refine lv_iload hx hb dL_again_58 (lv_at hl 0 rfl) ?_
        refine lv_bipush (v := (-5)) hx hb dL_again_60 (by decide) ?_
        refine lv_icmp_eq (tgt := 70) hx hb dL_again_62 (by decide) (fun hc => ?_) (fun hc => ?_)
        · replace hw := hw.1 hc
          exact cj_L_again_70 l D kI kC kB a b9 h44 x45 h47 x48 v1 v4 Post hA C _ ih hw H locs hP hD hS ls (lv_sub hl [1, 2, 3, 5] rfl)
        · replace hw := hw.2 hc
          refine lv_iload hx hb dL_again_65 (lv_at hl 0 rfl) ?_
          refine lv_if_le (tgt := 74) hx hb dL_again_67 (by decide) (fun hc => ?_) (fun hc => ?_)
          · replace hw := hw.1 hc
            refine lv_iconst (v := (nI 0)) hx hb dL_again_74 (by decide) ?_
            exact cj_L_again_75 l D kI kC kB a b9 h44 x45 h47 x48 v1 v4 Post hA C _ ih (nI 0) hw H locs hP hD hS ls (lv_sub hl [1, 2, 3, 5] rfl)
          · replace hw := hw.2 hc
            exact cj_L_again_70 l D kI kC kB a b9 h44 x45 h47 x48 v1 v4 Post hA C _ ih hw H locs hP hD hS ls (lv_sub hl [1, 2, 3, 5] rfl)
set_option maxHeartbeats 4000000 in
set_option maxRecDepth 100000 in
theorem c_L_again (l : Launch) (D : va_G) (kI kC kB : ClassId) (a : AdT) (h_ : Nat → AdT) (x : XS) (sz : Nat) (Post : Int32 → XS → Prop) (hw : wp_L_again x Post) : CMg l D kI kC kB yL_again cL_again 6 (some .boolean) ({ frames := 7, cells := 78, slots := 1376, locals := 158 } : Room) [.ref (a 0)] (cwX kI kB a h_ x) sz 78 1376 (fun (r : Int32) (u : (Nat → AdT) × XS) => Post r u.2) (fun u : (Nat → AdT) × XS => cwX kI kB a u.1 u.2) := by
  refine entMg (by decide) (Nat.le_of_ble_eq_true rfl) ?_
  intro p e s m args below meth c ls A C hA hP hD hS hl
  obtain ⟨H, hHe⟩ : ∃ H, H = s.heap := ⟨_, rfl⟩
  obtain ⟨locs, hlo⟩ : ∃ lo : List Loc, lo = [] := ⟨_, rfl⟩
  have hS : va_S A s.heap H locs := by rw [hHe, hlo]; exact hS
  rw [← hHe] at hP
  suffices hg : W p l e ({ frames := 7, cells := 78, slots := 1376, locals := 158 } : Room) s m args below meth c H locs 0 0 (MQ below (va_Qi (fun (r : Int32) (u : (Nat → AdT) × XS) => Post r u.2) (BB D A (fun u : (Nat → AdT) × XS => cwX kI kB a u.1 u.2)) A) args s 78 1376 A) (F0 m 0 ls []) by rw [hHe, hlo] at hg; exact hg
  replace hl : lv_has ls 6 [(0, .ref (a 0))] := hl
  replace hP : va_P D vwCl (bfl [cwX kI kB a h_ x]) H := hP
  replace hD : va_D A (bfl [cwX kI kB a h_ x]) := hD
  unfold wp_L_again at hw
  obtain ⟨hx, hb, hr, hml, hown, hts, hlocks, hK⟩ := id C
  refine lv_aload_n hx hb dL_again_0 rfl (lv_at hl 0 rfl) ?_
  refine lv_bipush (v := (nI 7)) hx hb dL_again_1 (by decide) ?_
  refine kMBi (As := [.int (nI 7)]) (rest := []) (q0 := 0) (ws' := fun u : (Nat → AdT) × XS => (bfl [cwX kI kB a u.1 u.2])) C (cx_count l D kI kC kB a h_ x H.size (nI 7) _ hw) ⟨rfl, rfl⟩ ce_X8_count cv_X8_count tw_597 ⟨(Nat.le_of_ble_eq_true rfl), (Nat.le_of_ble_eq_true rfl)⟩ hP hD hS hA (bfl_p1 [_] 0 rfl) (fun u => (bfl_p1 [_] 0 rfl)) rfl rfl rfl hl.1 rfl (Nat.le_of_ble_eq_true rfl) ⟨(Nat.le_of_ble_eq_true rfl), (Nat.le_of_ble_eq_true rfl)⟩ dL_again_3 (fun r49 u H locs hw hP hD hS => ?_)
  obtain ⟨h50, x51⟩ := u
  try dsimp only at hw
  replace hP : va_P D vwCl (bfl [cwX kI kB a h50 x51]) H := hP
  replace hD : va_D A (bfl [cwX kI kB a h50 x51]) := hD
  refine lv_istore_n (lv' := [(1, .int r49), (0, .ref (a 0))]) hx hb dL_again_6 rfl hl (by decide) rfl (fun ls hl => ?_)
  refine lv_iload_n hx hb dL_again_7 rfl (lv_at hl 0 rfl) ?_
  refine lv_if_eq (tgt := 17) hx hb dL_again_8 (by decide) (fun hc => ?_) (fun hc => ?_)
  · replace hw := hw.1 hc
    refine lv_iconst (v := (nI 1)) hx hb dL_again_17 (by decide) ?_
    exact retMgz C (S := (Nat → AdT) × XS) (h50, x51) (by decide) hw hP hD hS (Nat.le_of_ble_eq_true rfl) (Nat.le_of_ble_eq_true rfl) dL_again_18
  · replace hw := hw.2 hc
    refine lv_iload_n hx hb dL_again_11 rfl (lv_at hl 0 rfl) ?_
    refine lv_bipush (v := (nI 60)) hx hb dL_again_12 (by decide) ?_
    refine lv_icmp_le (tgt := 19) hx hb dL_again_14 (by decide) (fun hc => ?_) (fun hc => ?_)
    · replace hw := hw.1 hc
      replace hP : va_P D vwCl (cwX kI kB a h50 x51) H := hP
      replace hD : va_D A (cwX kI kB a h50 x51) := hD
      refine va_new (ci := 6) (fs := [.null, .null, .int 0, .null, .null, .null, .null]) (C := RX8) (T := TX8) (N := 7) hx hb hts inX8 tyX8 tyX8_ok hown (hts _ tw_28) (hts _ tw_29) (hts _ tw_17) hK.1 hP hD hS hA rfl (fun j hj => by rcases (show j = 0 ∨ j = 1 ∨ j = 2 ∨ j = 3 ∨ j = 4 ∨ j = 5 ∨ j = 6 by omega) with rfl | rfl | rfl | rfl | rfl | rfl | rfl <;> rfl) (Nat.le_of_ble_eq_true rfl) (Nat.le_of_ble_eq_true rfl) dL_again_19 (fun q1 H hP hD hS => ?_)
      refine lv_dup hx hb dL_again_22 rfl ?_
      refine kMI (wr := cwX kI kB a h50 x51) (As := []) (rest := [.ref q1]) C (c_X8_init l D kI kC kB q1 H.size) ⟨rfl, rfl⟩ ce_X8_init tw_31 rfl tw_30 ⟨(Nat.le_of_ble_eq_true rfl), (Nat.le_of_ble_eq_true rfl)⟩ hP hD hS hA hl.1 rfl (Nat.le_of_ble_eq_true rfl) ⟨(Nat.le_of_ble_eq_true rfl), (Nat.le_of_ble_eq_true rfl)⟩ dL_again_23 (fun a1 H locs h1 hP2 hD2 hS2 => ?_)
      subst h1
      have hP := hP2
      have hD := hD2
      have hS := hS2
      clear hP2 hD2 hS2
      obtain ⟨b9, g_⟩ := a1
      replace hP : va_P D vwCl (bfl [cwX kI kB a h50 x51, cwX kI kB b9 g_ x00]) H := hP
      replace hD : va_D A (bfl [cwX kI kB a h50 x51, cwX kI kB b9 g_ x00]) := hD
      refine W.widen (k := 78) (n := 1376) (Nat.le_of_ble_eq_true rfl) (Nat.le_of_ble_eq_true rfl) ?_
      refine lv_astore_n (lv' := [(2, .ref (b9 0)), (1, .int r49), (0, .ref (a 0))]) hx hb dL_again_26 rfl hl (by decide) rfl (fun ls hl => ?_)
      refine lv_iconst (v := (nI 1)) hx hb dL_again_27 (by decide) ?_
      refine lv_istore_n (lv' := [(3, .int (nI 1)), (2, .ref (b9 0)), (1, .int r49), (0, .ref (a 0))]) hx hb dL_again_28 rfl hl (by decide) rfl (fun ls hl => ?_)
      refine lv_bipush (v := (nI 65)) hx hb dL_again_29 (by decide) ?_
      refine lv_istore (lv' := [(4, .int (nI 65)), (3, .int (nI 1)), (2, .ref (b9 0)), (1, .int r49), (0, .ref (a 0))]) hx hb dL_again_31 hl (by decide) rfl (fun ls hl => ?_)
      obtain ⟨n9, hw⟩ := hw
      exact cl_L_again_33 l D kI kC kB a b9 r49 Post hA C n9 h50 x51 g_ x00 (nI 1) (nI 65) hw H locs hP hD hS ls (lv_sub hl [4, 3, 2, 1, 0] rfl)
    · replace hw := hw.2 hc
      refine lv_iconst (v := (nI 1)) hx hb dL_again_17 (by decide) ?_
      exact retMgz C (S := (Nat → AdT) × XS) (h50, x51) (by decide) hw hP hD hS (Nat.le_of_ble_eq_true rfl) (Nat.le_of_ble_eq_true rfl) dL_again_18
